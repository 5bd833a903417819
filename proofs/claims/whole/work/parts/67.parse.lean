set_option maxHeartbeats 1000000 in
set_option maxRecDepth 100000 in
theorem ctX5_isNow {E : jE} {h : Nat → va_E} {n : Nat} (x : Nat) (sz : Nat) (tk : Nat) (cu : Nat) (SO : Nat → Nat) (H0 : h 24 = .inr (4, [.ref (E.1 + 25), .ref (E.1 + 26), .ref (E.1 + 27), .ref (E.1 + 28), .ref (E.1 + 29), .int (nI sz), .int (nI tk), .int (nI cu)])) (H1 : h 26 = cI E 151 (nF SO)) (hn : 38 ≤ n) (hcu : cu ≤ 150) (hx : x ≤ 7) (hb : SO cu ≤ 7) : jC E mX5_isNow (1, 0, 0) [.ref (E.1 + 24), .int (nI x)] h n (jR (some (.int (jb (SO cu = x)))) h n) := by
  refine J.of (L := [(0, .ref (E.1 + 24)), (1, .int (nI x))]) rfl (by decide +kernel) (Nat.le_of_ble_eq_true rfl) ?_
  obtain ⟨PP, hPP⟩ : ∃ PP : jPost, PP = (jR (some (.int (jb (SO cu = x)))) h n) := ⟨_, rfl⟩
  rw [← hPP]
  refine J_aload_n dX5_isNow_0 rfl ?_
  refine J_get 1 dX5_isNow_1 jk5 (Nat.le_of_ble_eq_true rfl) jfRX5_15 H0 (by omega) rfl ?_
  refine J_aload_n dX5_isNow_4 rfl ?_
  refine J_get 7 dX5_isNow_5 jk5 (Nat.le_of_ble_eq_true rfl) jfRX5_83 H0 (by omega) rfl ?_
  refine J_ialdN (i := cu) dX5_isNow_8 H1 (by omega) (by omega) (by omega) ?_
  refine J_iload_n dX5_isNow_9 rfl ?_
  refine J_icmp_neN (tgt := 17) dX5_isNow_10 (by decide) (by omega) (by omega) (fun c1 => ?_) (fun c1 => ?_)
  · skip
    refine J_iconst (v := nI 0) dX5_isNow_17 (by decide +kernel) ?_
    exact J_zret dX5_isNow_18 rfl rfl ⟨Nat.le_refl _, Nat.le_refl _⟩ (by rw [hPP]; exact ⟨(congrArg some (Option.some.inj (jret_B0 (by omega)))), rfl, rfl⟩)
  · skip
    refine J_iconst (v := nI 1) dX5_isNow_13 (by decide +kernel) ?_
    refine J_goto (tgt := 18) dX5_isNow_14 (by decide) ?_
    exact J_zret dX5_isNow_18 rfl rfl ⟨Nat.le_refl _, Nat.le_refl _⟩ (by rw [hPP]; exact ⟨(congrArg some (Option.some.inj (jret_B1 (by omega)))), rfl, rfl⟩)

set_option maxHeartbeats 1000000 in
set_option maxRecDepth 100000 in
theorem ctX5_advance {E : jE} {h : Nat → va_E} {n : Nat} (sz : Nat) (tk : Nat) (cu : Nat) (H0 : h 24 = .inr (4, [.ref (E.1 + 25), .ref (E.1 + 26), .ref (E.1 + 27), .ref (E.1 + 28), .ref (E.1 + 29), .int (nI sz), .int (nI tk), .int (nI cu)])) (hn : 38 ≤ n) (hcu : cu + 1 < tk) (htk : tk ≤ 151) : jC E mX5_advance (1, 0, 0) [.ref (E.1 + 24)] h n (jR none (hset h 24 (.inr (4, [.ref (E.1 + 25), .ref (E.1 + 26), .ref (E.1 + 27), .ref (E.1 + 28), .ref (E.1 + 29), .int (nI sz), .int (nI tk), .int (nI (cu + 1))]))) n) := by
  refine J.of (L := [(0, .ref (E.1 + 24))]) rfl (by decide +kernel) (Nat.le_of_ble_eq_true rfl) ?_
  obtain ⟨PP, hPP⟩ : ∃ PP : jPost, PP = (jR none (hset h 24 (.inr (4, [.ref (E.1 + 25), .ref (E.1 + 26), .ref (E.1 + 27), .ref (E.1 + 28), .ref (E.1 + 29), .int (nI sz), .int (nI tk), .int (nI (cu + 1))]))) n) := ⟨_, rfl⟩
  rw [← hPP]
  refine J_aload_n dX5_advance_0 rfl ?_
  refine J_get 7 dX5_advance_1 jk5 (Nat.le_of_ble_eq_true rfl) jfRX5_83 H0 (by omega) rfl ?_
  refine J_aload_n dX5_advance_4 rfl ?_
  refine J_get 6 dX5_advance_5 jk5 (Nat.le_of_ble_eq_true rfl) jfRX5_32 H0 (by omega) rfl ?_
  refine J_iconst (v := nI 1) dX5_advance_8 (by decide +kernel) ?_
  refine J_isubN dX5_advance_9 (by omega) ?_
  refine J_icmp_geN (tgt := 23) dX5_advance_10 (by decide) (by omega) (by omega) (fun c1 => (by exfalso; omega)) (fun c1 => ?_)
  refine J_aload_n dX5_advance_13 rfl ?_
  refine J_dup dX5_advance_14 rfl ?_
  refine J_get 7 dX5_advance_15 jk5 (Nat.le_of_ble_eq_true rfl) jfRX5_83 H0 (by omega) rfl ?_
  refine J_iconst (v := nI 1) dX5_advance_18 (by decide +kernel) ?_
  refine J_iaddN dX5_advance_19 ?_
  refine J_put 7 dX5_advance_20 jk5 (Nat.le_of_ble_eq_true rfl) jfRX5_83 H0 (by omega) rfl rfl rfl (Nat.le_of_ble_eq_true rfl) ?_
  refine J.cast (h' := (hset h 24 (.inr (4, [.ref (E.1 + 25), .ref (E.1 + 26), .ref (E.1 + 27), .ref (E.1 + 28), .ref (E.1 + 29), .int (nI sz), .int (nI tk), .int (nI (cu + 1))])))) rfl ?_
  exact J_vret dX5_advance_23 rfl ⟨Nat.le_refl _, Nat.le_refl _⟩ (by rw [hPP]; exact ⟨rfl, rfl, rfl⟩)

set_option maxHeartbeats 1000000 in
set_option maxRecDepth 100000 in
theorem ctX5_fault {E : jE} {h : Nat → va_E} {n : Nat} (sz : Nat) (tk : Nat) (cu : Nat) (ST : Nat → Nat) (H0 : h 24 = .inr (4, [.ref (E.1 + 25), .ref (E.1 + 26), .ref (E.1 + 27), .ref (E.1 + 28), .ref (E.1 + 29), .int (nI sz), .int (nI tk), .int (nI cu)])) (H1 : h 27 = cI E 151 (nF ST)) (hn : 38 ≤ n) (hcu : cu ≤ 150) : jC E mX5_fault (1, 0, 0) [.ref (E.1 + 24)] h n (jR (some (.int ((-10) - (nI (ST cu))))) h n) := by
  refine J.of (L := [(0, .ref (E.1 + 24))]) rfl (by decide +kernel) (Nat.le_of_ble_eq_true rfl) ?_
  obtain ⟨PP, hPP⟩ : ∃ PP : jPost, PP = (jR (some (.int ((-10) - (nI (ST cu))))) h n) := ⟨_, rfl⟩
  rw [← hPP]
  refine J_bipush (v := (-10)) dX5_fault_0 (by decide +kernel) ?_
  refine J_aload_n dX5_fault_2 rfl ?_
  refine J_get 2 dX5_fault_3 jk5 (Nat.le_of_ble_eq_true rfl) jfRX5_19 H0 (by omega) rfl ?_
  refine J_aload_n dX5_fault_6 rfl ?_
  refine J_get 7 dX5_fault_7 jk5 (Nat.le_of_ble_eq_true rfl) jfRX5_83 H0 (by omega) rfl ?_
  refine J_ialdN (i := cu) dX5_fault_10 H1 (by omega) (by omega) (by omega) ?_
  refine J_isub dX5_fault_11 ?_
  exact J_iret dX5_fault_12 rfl ⟨Nat.le_refl _, Nat.le_refl _⟩ (by rw [hPP]; exact ⟨rfl, rfl, rfl⟩)

set_option maxHeartbeats 1000000 in
set_option maxRecDepth 100000 in
theorem ctX5_takesStop {E : jE} {h : Nat → va_E} {n : Nat} (sz : Nat) (tk : Nat) (cu : Nat) (SO : Nat → Nat) (ST : Nat → Nat) (t : Nat) (KX : Nat → Nat) (SX : Nat → Nat) (VX : Nat → Nat) (VL : Nat → Int32) (H0 : h 24 = .inr (4, [.ref (E.1 + 25), .ref (E.1 + 26), .ref (E.1 + 27), .ref (E.1 + 28), .ref (E.1 + 29), .int (nI sz), .int (nI tk), .int (nI cu)])) (H1 : h 26 = cI E 151 (nF SO)) (H2 : h 27 = cI E 151 (nF ST)) (H3 : h 28 = cI E 151 VL) (hn : 38 ≤ n) (hS : strm KX SX VX t SO ST VL) (htk : tk = t + 1) (ht150 : t ≤ 150) (hcu : cu < t) : jC E mX5_takesStop (2, 0, 0) [.ref (E.1 + 24)] h n (jR (some (.int (jb (KX (cu + 1) = 6)))) (hset h 24 (.inr (4, [.ref (E.1 + 25), .ref (E.1 + 26), .ref (E.1 + 27), .ref (E.1 + 28), .ref (E.1 + 29), .int (nI sz), .int (nI tk), .int (nI (cu + 1))]))) n) := by
  refine J.of (L := [(0, .ref (E.1 + 24))]) rfl (by decide +kernel) (Nat.le_of_ble_eq_true rfl) ?_
  obtain ⟨PP, hPP⟩ : ∃ PP : jPost, PP = (jR (some (.int (jb (KX (cu + 1) = 6)))) (hset h 24 (.inr (4, [.ref (E.1 + 25), .ref (E.1 + 26), .ref (E.1 + 27), .ref (E.1 + 28), .ref (E.1 + 29), .int (nI sz), .int (nI tk), .int (nI (cu + 1))]))) n) := ⟨_, rfl⟩
  rw [← hPP]
  have h1 := hS.1 (cu + 1) (by omega)
  refine J_aload_n dX5_takesStop_0 rfl ?_
  refine J_callVn (M' := mX5_advance) (d' := (1, 0, 0)) (rest := []) dX5_takesStop_1 jmX5_advance jlRX5_107 (ctX5_advance sz tk cu H0 (by omega) (by first | assumption | omega) (by first | assumption | omega)) H0 (by omega) jk5.1 rfl rfl (Nat.le_of_ble_eq_true rfl) (Nat.le_of_ble_eq_true rfl) ⟨Nat.le_refl _, Nat.le_refl _⟩ ?_
  refine J_aload_n dX5_takesStop_4 rfl ?_
  refine J_bipush (v := nI 6) dX5_takesStop_5 (by decide +kernel) ?_
  refine J_callVr (M' := mX5_isNow) (d' := (1, 0, 0)) (rest := []) dX5_takesStop_7 jmX5_isNow jlRX5_86 (ctX5_isNow 6 sz tk (cu + 1) SO hset_eq ((hset_ne (by omega)).trans H1) (by omega) (by first | assumption | omega) (by first | assumption | omega) (by first | assumption | omega)) hset_eq (by omega) jk5.1 rfl rfl (Nat.le_of_ble_eq_true rfl) (Nat.le_of_ble_eq_true rfl) ⟨Nat.le_refl _, Nat.le_refl _⟩ ?_
  exact J_zret dX5_takesStop_10 rfl jb_nar ⟨Nat.le_refl _, Nat.le_refl _⟩ (by rw [hPP]; exact ⟨(congrArg some (jv_I (jb_cg (by omega)))), rfl, rfl⟩)

set_option maxHeartbeats 1000000 in
set_option maxRecDepth 100000 in
theorem ctX5_takesNumber {E : jE} {h : Nat → va_E} {n : Nat} (lo : Nat) (hi : Nat) (sz : Nat) (tk : Nat) (cu : Nat) (SO : Nat → Nat) (ST : Nat → Nat) (t : Nat) (KX : Nat → Nat) (SX : Nat → Nat) (VX : Nat → Nat) (VL : Nat → Int32) (H0 : h 24 = .inr (4, [.ref (E.1 + 25), .ref (E.1 + 26), .ref (E.1 + 27), .ref (E.1 + 28), .ref (E.1 + 29), .int (nI sz), .int (nI tk), .int (nI cu)])) (H1 : h 26 = cI E 151 (nF SO)) (H2 : h 27 = cI E 151 (nF ST)) (H3 : h 28 = cI E 151 VL) (hn : 38 ≤ n) (hS : strm KX SX VX t SO ST VL) (htk : tk = t + 1) (ht150 : t ≤ 150) (hcu : cu < t) (hlo : lo ≤ 99) (hhi : hi ≤ 99) : jC E mX5_takesNumber (2, 0, 0) [.ref (E.1 + 24), .int (nI lo), .int (nI hi)] h n (jR (some (.int (jb (KX (cu + 1) = 5 ∧ lo ≤ VX (cu + 1) ∧ VX (cu + 1) ≤ hi)))) (hset h 24 (.inr (4, [.ref (E.1 + 25), .ref (E.1 + 26), .ref (E.1 + 27), .ref (E.1 + 28), .ref (E.1 + 29), .int (nI sz), .int (nI tk), .int (nI (cu + 1))]))) n) := by
  refine J.of (L := [(0, .ref (E.1 + 24)), (1, .int (nI lo)), (2, .int (nI hi))]) rfl (by decide +kernel) (Nat.le_of_ble_eq_true rfl) ?_
  obtain ⟨PP, hPP⟩ : ∃ PP : jPost, PP = (jR (some (.int (jb (KX (cu + 1) = 5 ∧ lo ≤ VX (cu + 1) ∧ VX (cu + 1) ≤ hi)))) (hset h 24 (.inr (4, [.ref (E.1 + 25), .ref (E.1 + 26), .ref (E.1 + 27), .ref (E.1 + 28), .ref (E.1 + 29), .int (nI sz), .int (nI tk), .int (nI (cu + 1))]))) n) := ⟨_, rfl⟩
  rw [← hPP]
  have h1 := hS.1 (cu + 1) (by omega)
  refine J_aload_n dX5_takesNumber_0 rfl ?_
  refine J_callVn (M' := mX5_advance) (d' := (1, 0, 0)) (rest := []) dX5_takesNumber_1 jmX5_advance jlRX5_107 (ctX5_advance sz tk cu H0 (by omega) (by first | assumption | omega) (by first | assumption | omega)) H0 (by omega) jk5.1 rfl rfl (Nat.le_of_ble_eq_true rfl) (Nat.le_of_ble_eq_true rfl) ⟨Nat.le_refl _, Nat.le_refl _⟩ ?_
  refine J_aload_n dX5_takesNumber_4 rfl ?_
  refine J_iconst (v := nI 5) dX5_takesNumber_5 (by decide +kernel) ?_
  refine J_callVr (M' := mX5_isNow) (d' := (1, 0, 0)) (rest := []) dX5_takesNumber_6 jmX5_isNow jlRX5_86 (ctX5_isNow 5 sz tk (cu + 1) SO hset_eq ((hset_ne (by omega)).trans H1) (by omega) (by first | assumption | omega) (by first | assumption | omega) (by first | assumption | omega)) hset_eq (by omega) jk5.1 rfl rfl (Nat.le_of_ble_eq_true rfl) (Nat.le_of_ble_eq_true rfl) ⟨Nat.le_refl _, Nat.le_refl _⟩ ?_
  refine J_if_eqB (tgt := 33) dX5_takesNumber_9 (by decide) (fun c1 => ?_) (fun c1 => ?_)
  · skip
    refine J_iconst (v := nI 0) dX5_takesNumber_33 (by decide +kernel) ?_
    exact J_zret dX5_takesNumber_34 rfl rfl ⟨Nat.le_refl _, Nat.le_refl _⟩ (by rw [hPP]; exact ⟨(congrArg some (Option.some.inj (jret_B0 (by omega)))), rfl, rfl⟩)
  · skip
    refine J_aload_n dX5_takesNumber_12 rfl ?_
    have hv9 := h1.2.2.1 (by omega)
    refine J_get 3 dX5_takesNumber_13 jk5 (Nat.le_of_ble_eq_true rfl) jfRX5_22 hset_eq (by omega) rfl ?_
    refine J_aload_n dX5_takesNumber_16 rfl ?_
    refine J_get 7 dX5_takesNumber_17 jk5 (Nat.le_of_ble_eq_true rfl) jfRX5_83 hset_eq (by omega) rfl ?_
    refine J_ialdF (i := cu + 1) dX5_takesNumber_20 ((hset_ne (by omega)).trans H3) (by omega) (by omega) (by omega) ?_
    refine J.stk (st' := [.int (nI (VX (cu + 1)))]) (congrArg (fun z => Value.int z :: []) (by exact hv9.1)) ?_
    refine J_iload_n dX5_takesNumber_21 rfl ?_
    refine J_iload_n dX5_takesNumber_22 rfl ?_
    refine J_callSNr (host := "AnvilStreet") (M' := mX7_isWithin) (d' := (1, 0, 0)) (rest := []) dX5_takesNumber_23 jmX7_isWithin (by decide +kernel) (ctX7_isWithin (VX (cu + 1)) lo hi   (by first | assumption | omega) (by first | assumption | omega) (by first | assumption | omega)) rfl rfl (Nat.le_of_ble_eq_true rfl) (Nat.le_of_ble_eq_true rfl) ⟨Nat.le_refl _, Nat.le_refl _⟩ ?_
    refine J_if_eqB (tgt := 33) dX5_takesNumber_26 (by decide) (fun c2 => ?_) (fun c2 => ?_)
    · skip
      refine J_iconst (v := nI 0) dX5_takesNumber_33 (by decide +kernel) ?_
      exact J_zret dX5_takesNumber_34 rfl rfl ⟨Nat.le_refl _, Nat.le_refl _⟩ (by rw [hPP]; exact ⟨(congrArg some (Option.some.inj (jret_B0 (by omega)))), rfl, rfl⟩)
    · skip
      refine J_iconst (v := nI 1) dX5_takesNumber_29 (by decide +kernel) ?_
      refine J_goto (tgt := 34) dX5_takesNumber_30 (by decide) ?_
      exact J_zret dX5_takesNumber_34 rfl rfl ⟨Nat.le_refl _, Nat.le_refl _⟩ (by rw [hPP]; exact ⟨(congrArg some (Option.some.inj (jret_B1 (by omega)))), rfl, rfl⟩)

set_option maxHeartbeats 1000000 in
set_option maxRecDepth 100000 in
theorem ctX5_takesNumber_neg {E : jE} {h : Nat → va_E} {n : Nat} (e : Int32) (sz : Nat) (tk : Nat) (cu : Nat) (SO : Nat → Nat) (ST : Nat → Nat) (t : Nat) (KX : Nat → Nat) (SX : Nat → Nat) (VX : Nat → Nat) (VL : Nat → Int32) (H0 : h 24 = .inr (4, [.ref (E.1 + 25), .ref (E.1 + 26), .ref (E.1 + 27), .ref (E.1 + 28), .ref (E.1 + 29), .int (nI sz), .int (nI tk), .int (nI cu)])) (H1 : h 26 = cI E 151 (nF SO)) (H2 : h 27 = cI E 151 (nF ST)) (H3 : h 28 = cI E 151 VL) (hn : 38 ≤ n) (hS : strm KX SX VX t SO ST VL) (htk : tk = t + 1) (ht150 : t ≤ 150) (hcu : cu < t) (he : e = -1) : jC E mX5_takesNumber (2, 0, 0) [.ref (E.1 + 24), .int (nI 0), .int e] h n (jR (some (.int (nI 0))) (hset h 24 (.inr (4, [.ref (E.1 + 25), .ref (E.1 + 26), .ref (E.1 + 27), .ref (E.1 + 28), .ref (E.1 + 29), .int (nI sz), .int (nI tk), .int (nI (cu + 1))]))) n) := by
  refine J.of (L := [(0, .ref (E.1 + 24)), (1, .int (nI 0)), (2, .int e)]) rfl (by decide +kernel) (Nat.le_of_ble_eq_true rfl) ?_
  obtain ⟨PP, hPP⟩ : ∃ PP : jPost, PP = (jR (some (.int (nI 0))) (hset h 24 (.inr (4, [.ref (E.1 + 25), .ref (E.1 + 26), .ref (E.1 + 27), .ref (E.1 + 28), .ref (E.1 + 29), .int (nI sz), .int (nI tk), .int (nI (cu + 1))]))) n) := ⟨_, rfl⟩
  rw [← hPP]
  have h1 := hS.1 (cu + 1) (by omega)
  refine J_aload_n dX5_takesNumber_0 rfl ?_
  refine J_callVn (M' := mX5_advance) (d' := (1, 0, 0)) (rest := []) dX5_takesNumber_1 jmX5_advance jlRX5_107 (ctX5_advance sz tk cu H0 (by omega) (by first | assumption | omega) (by first | assumption | omega)) H0 (by omega) jk5.1 rfl rfl (Nat.le_of_ble_eq_true rfl) (Nat.le_of_ble_eq_true rfl) ⟨Nat.le_refl _, Nat.le_refl _⟩ ?_
  refine J_aload_n dX5_takesNumber_4 rfl ?_
  refine J_iconst (v := nI 5) dX5_takesNumber_5 (by decide +kernel) ?_
  refine J_callVr (M' := mX5_isNow) (d' := (1, 0, 0)) (rest := []) dX5_takesNumber_6 jmX5_isNow jlRX5_86 (ctX5_isNow 5 sz tk (cu + 1) SO hset_eq ((hset_ne (by omega)).trans H1) (by omega) (by first | assumption | omega) (by first | assumption | omega) (by first | assumption | omega)) hset_eq (by omega) jk5.1 rfl rfl (Nat.le_of_ble_eq_true rfl) (Nat.le_of_ble_eq_true rfl) ⟨Nat.le_refl _, Nat.le_refl _⟩ ?_
  refine J_if_eqB (tgt := 33) dX5_takesNumber_9 (by decide) (fun c1 => ?_) (fun c1 => ?_)
  · skip
    refine J_iconst (v := nI 0) dX5_takesNumber_33 (by decide +kernel) ?_
    exact J_zret dX5_takesNumber_34 rfl rfl ⟨Nat.le_refl _, Nat.le_refl _⟩ (by rw [hPP]; exact ⟨rfl, rfl, rfl⟩)
  · skip
    refine J_aload_n dX5_takesNumber_12 rfl ?_
    have hv9 := h1.2.2.1 (by omega)
    refine J_get 3 dX5_takesNumber_13 jk5 (Nat.le_of_ble_eq_true rfl) jfRX5_22 hset_eq (by omega) rfl ?_
    refine J_aload_n dX5_takesNumber_16 rfl ?_
    refine J_get 7 dX5_takesNumber_17 jk5 (Nat.le_of_ble_eq_true rfl) jfRX5_83 hset_eq (by omega) rfl ?_
    refine J_ialdF (i := cu + 1) dX5_takesNumber_20 ((hset_ne (by omega)).trans H3) (by omega) (by omega) (by omega) ?_
    refine J.stk (st' := [.int (nI (VX (cu + 1)))]) (congrArg (fun z => Value.int z :: []) (by exact hv9.1)) ?_
    refine J_iload_n dX5_takesNumber_21 rfl ?_
    refine J_iload_n dX5_takesNumber_22 rfl ?_
    refine J_callSNr (host := "AnvilStreet") (M' := mX7_isWithin) (d' := (1, 0, 0)) (rest := []) dX5_takesNumber_23 jmX7_isWithin (by decide +kernel) (ctX7_isWithin_neg (VX (cu + 1)) e   (by first | assumption | omega) (by first | assumption | omega)) rfl rfl (Nat.le_of_ble_eq_true rfl) (Nat.le_of_ble_eq_true rfl) ⟨Nat.le_refl _, Nat.le_refl _⟩ ?_
    refine J_if_eqN (tgt := 33) dX5_takesNumber_26 (by decide) (by omega) (fun _ => ?_) (fun z => absurd z (by decide))
    refine J_iconst (v := nI 0) dX5_takesNumber_33 (by decide +kernel) ?_
    exact J_zret dX5_takesNumber_34 rfl rfl ⟨Nat.le_refl _, Nat.le_refl _⟩ (by rw [hPP]; exact ⟨rfl, rfl, rfl⟩)

set_option maxHeartbeats 1000000 in
set_option maxRecDepth 100000 in
theorem ctX5_takesAnvil_full {E : jE} {h : Nat → va_E} {n : Nat} (sz : Nat) (tk : Nat) (cu : Nat) (SO : Nat → Nat) (ST : Nat → Nat) (t : Nat) (KX : Nat → Nat) (SX : Nat → Nat) (VX : Nat → Nat) (VL : Nat → Int32) (NU : Nat → Nat) (an : Nat) (td : Nat) (gr : Nat) (H0 : h 24 = .inr (4, [.ref (E.1 + 25), .ref (E.1 + 26), .ref (E.1 + 27), .ref (E.1 + 28), .ref (E.1 + 29), .int (nI sz), .int (nI tk), .int (nI cu)])) (H1 : h 26 = cI E 151 (nF SO)) (H2 : h 27 = cI E 151 (nF ST)) (H3 : h 28 = cI E 151 VL) (H4 : h 29 = cI E 5 (nF NU)) (H5 : h 12 = .inr (5, [.ref (E.1 + 13), .ref (E.1 + 14), .ref (E.1 + 15), .ref (E.1 + 17), .ref (E.1 + 19), .int (nI an), .int (nI td), .int (nI gr)])) (hn : 38 ≤ n) (hS : strm KX SX VX t SO ST VL) (htk : tk = t + 1) (ht150 : t ≤ 150) (han : an = 4) : jC E mX5_takesAnvil (3, 0, 0) [.ref (E.1 + 24), .ref (E.1 + 12)] h n (jR (some (.int (nI 0))) h n) := by
  refine J.of (L := [(0, .ref (E.1 + 24)), (1, .ref (E.1 + 12))]) rfl (by decide +kernel) (Nat.le_of_ble_eq_true rfl) ?_
  obtain ⟨PP, hPP⟩ : ∃ PP : jPost, PP = (jR (some (.int (nI 0))) h n) := ⟨_, rfl⟩
  rw [← hPP]
  refine J_aload_n dX5_takesAnvil_0 rfl ?_
  refine J_get 5 dX5_takesAnvil_1 jk6 (Nat.le_of_ble_eq_true rfl) jfRX5_127 H5 (by omega) rfl ?_
  refine J_iconst (v := nI 4) dX5_takesAnvil_4 (by decide +kernel) ?_
  refine J_icmp_ltN (tgt := 10) dX5_takesAnvil_5 (by decide) (by omega) (by omega) (fun c1 => (by exfalso; omega)) (fun c1 => ?_)
  refine J_iconst (v := nI 0) dX5_takesAnvil_8 (by decide +kernel) ?_
  exact J_zret dX5_takesAnvil_9 rfl rfl ⟨Nat.le_refl _, Nat.le_refl _⟩ (by rw [hPP]; exact ⟨rfl, rfl, rfl⟩)

set_option maxHeartbeats 1000000 in
set_option maxRecDepth 100000 in
theorem ctX5_takesAnvil_no {E : jE} {h : Nat → va_E} {n : Nat} (sz : Nat) (tk : Nat) (cu : Nat) (SO : Nat → Nat) (ST : Nat → Nat) (t : Nat) (KX : Nat → Nat) (SX : Nat → Nat) (VX : Nat → Nat) (VL : Nat → Int32) (NU : Nat → Nat) (an : Nat) (td : Nat) (gr : Nat) (H0 : h 24 = .inr (4, [.ref (E.1 + 25), .ref (E.1 + 26), .ref (E.1 + 27), .ref (E.1 + 28), .ref (E.1 + 29), .int (nI sz), .int (nI tk), .int (nI cu)])) (H1 : h 26 = cI E 151 (nF SO)) (H2 : h 27 = cI E 151 (nF ST)) (H3 : h 28 = cI E 151 VL) (H4 : h 29 = cI E 5 (nF NU)) (H5 : h 12 = .inr (5, [.ref (E.1 + 13), .ref (E.1 + 14), .ref (E.1 + 15), .ref (E.1 + 17), .ref (E.1 + 19), .int (nI an), .int (nI td), .int (nI gr)])) (hn : 38 ≤ n) (hS : strm KX SX VX t SO ST VL) (htk : tk = t + 1) (ht150 : t ≤ 150) (hcu : cu < t) (han : an < 4) (hno : ¬ anvOK KX VX cu) : jC E mX5_takesAnvil (3, 0, 0) [.ref (E.1 + 24), .ref (E.1 + 12)] h n (fun v h' n' => v = some (.int (nI 0)) ∧ n' = n ∧ ∃ (NU1 : Nat → Nat), h' = (hset (hset h 24 (.inr (4, [.ref (E.1 + 25), .ref (E.1 + 26), .ref (E.1 + 27), .ref (E.1 + 28), .ref (E.1 + 29), .int (nI sz), .int (nI tk), .int (nI (anvJ KX VX cu))]))) 29 (cI E 5 (nF NU1)))) := by
  refine J.of (L := [(0, .ref (E.1 + 24)), (1, .ref (E.1 + 12))]) rfl (by decide +kernel) (Nat.le_of_ble_eq_true rfl) ?_
  obtain ⟨PP, hPP⟩ : ∃ PP : jPost, PP = (fun v h' n' => v = some (.int (nI 0)) ∧ n' = n ∧ ∃ (NU1 : Nat → Nat), h' = (hset (hset h 24 (.inr (4, [.ref (E.1 + 25), .ref (E.1 + 26), .ref (E.1 + 27), .ref (E.1 + 28), .ref (E.1 + 29), .int (nI sz), .int (nI tk), .int (nI (anvJ KX VX cu))]))) 29 (cI E 5 (nF NU1)))) := ⟨_, rfl⟩
  rw [← hPP]
  refine J_aload_n dX5_takesAnvil_0 rfl ?_
  refine J_get 5 dX5_takesAnvil_1 jk6 (Nat.le_of_ble_eq_true rfl) jfRX5_127 H5 (by omega) rfl ?_
  refine J_iconst (v := nI 4) dX5_takesAnvil_4 (by decide +kernel) ?_
  refine J_icmp_ltN (tgt := 10) dX5_takesAnvil_5 (by decide) (by omega) (by omega) (fun c1 => ?_) (fun c1 => (by exfalso; omega))
  refine J_iconst (v := nI 0) dX5_takesAnvil_10 (by decide +kernel) ?_
  refine J_istore_n dX5_takesAnvil_11 (Nat.le_of_ble_eq_true rfl) (L' := [(2, .int (nI 0)), (0, .ref (E.1 + 24)), (1, .ref (E.1 + 12))]) rfl ?_
  refine J_iload_n dX5_takesAnvil_12 rfl ?_
  refine J_aload_n dX5_takesAnvil_13 rfl ?_
  refine J_get 4 dX5_takesAnvil_14 jk5 (Nat.le_of_ble_eq_true rfl) jfRX5_25 H0 (by omega) rfl ?_
  refine J_alenN dX5_takesAnvil_17 H4 (by omega) ?_
  refine J_icmp_geN (tgt := 62) dX5_takesAnvil_18 (by decide) (by omega) (by omega) (fun z => absurd z (by decide)) (fun _ => ?_)
  refine J_aload_n dX5_takesAnvil_21 rfl ?_
  refine J_iconst (v := nI 0) dX5_takesAnvil_22 (by decide +kernel) ?_
  refine J_iload_n dX5_takesAnvil_23 rfl ?_
  refine J_if_neN (tgt := 31) dX5_takesAnvil_24 (by decide) (by omega) (fun z => absurd z (by decide)) (fun _ => ?_)
  refine J_iconst (v := nI 5) dX5_takesAnvil_27 (by decide +kernel) ?_
  refine J_goto (tgt := 33) dX5_takesAnvil_28 (by decide) ?_
  refine J_callVr (M' := mX5_takesNumber) (d' := (2, 0, 0)) (rest := []) dX5_takesAnvil_33 jmX5_takesNumber jlRX5_90 (ctX5_takesNumber 0 5 sz tk cu SO ST t KX SX VX VL H0 H1 H2 H3 (by omega) (by first | assumption | omega) (by first | assumption | omega) (by first | assumption | omega) (by first | omega | exact strm_lt hS (by omega) (by omega)) (by first | assumption | omega) (by first | assumption | omega)) H0 (by omega) jk5.1 rfl rfl (Nat.le_of_ble_eq_true rfl) (Nat.le_of_ble_eq_true rfl) ⟨Nat.le_refl _, Nat.le_refl _⟩ ?_
  refine J_if_neB (tgt := 41) dX5_takesAnvil_36 (by decide) (fun c4 => ?_) (fun c4 => ?_)
  · skip
    have hl := strm_lt hS (z := cu + 1) (by omega) (by omega)
    refine J_aload_n dX5_takesAnvil_41 rfl ?_
    refine J_get 4 dX5_takesAnvil_42 jk5 (Nat.le_of_ble_eq_true rfl) jfRX5_25 hset_eq (by omega) rfl ?_
    refine J_iload_n dX5_takesAnvil_45 rfl ?_
    refine J_aload_n dX5_takesAnvil_46 rfl ?_
    refine J_get 3 dX5_takesAnvil_47 jk5 (Nat.le_of_ble_eq_true rfl) jfRX5_22 hset_eq (by omega) rfl ?_
    refine J_aload_n dX5_takesAnvil_50 rfl ?_
    refine J_get 7 dX5_takesAnvil_51 jk5 (Nat.le_of_ble_eq_true rfl) jfRX5_83 hset_eq (by omega) rfl ?_
    refine J_ialdF (i := cu + 1) dX5_takesAnvil_54 ((hset_ne (by omega)).trans H3) (by omega) (by omega) (by omega) ?_
    refine J.stk (st' := [.int (nI (VX (cu + 1))), .int (nI 0), .ref (E.1 + 29)]) (congrArg (fun z => Value.int z :: [.int (nI 0), .ref (E.1 + 29)]) (by exact ((hS.1 (cu + 1) (by omega)).2.2.1 (by omega)).1)) ?_
    refine J_iastN (i := 0) (v := VX (cu + 1)) dX5_takesAnvil_55 ((hset_ne (by omega)).trans H4) (by omega) (by omega) (by omega) ?_
    refine J_iincN (q := 0) (a := 0) (m := 1) dX5_takesAnvil_56 rfl (by decide +kernel) (Nat.le_of_ble_eq_true rfl) (L' := [(2, .int (nI 1)), (0, .ref (E.1 + 24)), (1, .ref (E.1 + 12))]) rfl ?_
    refine J_goto (tgt := 12) dX5_takesAnvil_59 (by decide) ?_
    refine J_iload_n dX5_takesAnvil_12 rfl ?_
    refine J_aload_n dX5_takesAnvil_13 rfl ?_
    refine J_get 4 dX5_takesAnvil_14 jk5 (Nat.le_of_ble_eq_true rfl) jfRX5_25 ((hset_ne (by omega)).trans hset_eq) (by omega) rfl ?_
    refine J_alenN dX5_takesAnvil_17 hset_eq (by omega) ?_
    refine J_icmp_geN (tgt := 62) dX5_takesAnvil_18 (by decide) (by omega) (by omega) (fun z => absurd z (by decide)) (fun _ => ?_)
    refine J_aload_n dX5_takesAnvil_21 rfl ?_
    refine J_iconst (v := nI 0) dX5_takesAnvil_22 (by decide +kernel) ?_
    refine J_iload_n dX5_takesAnvil_23 rfl ?_
    refine J_if_neN (tgt := 31) dX5_takesAnvil_24 (by decide) (by omega) (fun _ => ?_) (fun z => absurd z (by decide))
    refine J_bipush (v := nI 20) dX5_takesAnvil_31 (by decide +kernel) ?_
    refine J_callVr (M' := mX5_takesNumber) (d' := (2, 0, 0)) (rest := []) dX5_takesAnvil_33 jmX5_takesNumber jlRX5_90 (ctX5_takesNumber 0 20 sz tk (cu + 1) SO ST t KX SX VX VL ((hset_ne (by omega)).trans hset_eq) ((hset_ne (by omega)).trans ((hset_ne (by omega)).trans H1)) ((hset_ne (by omega)).trans ((hset_ne (by omega)).trans H2)) ((hset_ne (by omega)).trans ((hset_ne (by omega)).trans H3)) (by omega) (by first | assumption | omega) (by first | assumption | omega) (by first | assumption | omega) (by first | omega | exact strm_lt hS (by omega) (by omega)) (by first | assumption | omega) (by first | assumption | omega)) ((hset_ne (by omega)).trans hset_eq) (by omega) jk5.1 rfl rfl (Nat.le_of_ble_eq_true rfl) (Nat.le_of_ble_eq_true rfl) ⟨Nat.le_refl _, Nat.le_refl _⟩ ?_
    refine J.cast ((hset_comm (by omega)).trans (hset_cg hset_hset rfl)) ?_
    refine J_if_neB (tgt := 41) dX5_takesAnvil_36 (by decide) (fun c7 => ?_) (fun c7 => ?_)
    · skip
      have hl := strm_lt hS (z := (cu + 1) + 1) (by omega) (by omega)
      refine J_aload_n dX5_takesAnvil_41 rfl ?_
      refine J_get 4 dX5_takesAnvil_42 jk5 (Nat.le_of_ble_eq_true rfl) jfRX5_25 ((hset_ne (by omega)).trans hset_eq) (by omega) rfl ?_
      refine J_iload_n dX5_takesAnvil_45 rfl ?_
      refine J_aload_n dX5_takesAnvil_46 rfl ?_
      refine J_get 3 dX5_takesAnvil_47 jk5 (Nat.le_of_ble_eq_true rfl) jfRX5_22 ((hset_ne (by omega)).trans hset_eq) (by omega) rfl ?_
      refine J_aload_n dX5_takesAnvil_50 rfl ?_
      refine J_get 7 dX5_takesAnvil_51 jk5 (Nat.le_of_ble_eq_true rfl) jfRX5_83 ((hset_ne (by omega)).trans hset_eq) (by omega) rfl ?_
      refine J_ialdF (i := (cu + 1) + 1) dX5_takesAnvil_54 ((hset_ne (by omega)).trans ((hset_ne (by omega)).trans H3)) (by omega) (by omega) (by omega) ?_
      refine J.stk (st' := [.int (nI (VX ((cu + 1) + 1))), .int (nI 1), .ref (E.1 + 29)]) (congrArg (fun z => Value.int z :: [.int (nI 1), .ref (E.1 + 29)]) (by exact ((hS.1 ((cu + 1) + 1) (by omega)).2.2.1 (by omega)).1)) ?_
      refine J_iastN (i := 1) (v := VX ((cu + 1) + 1)) dX5_takesAnvil_55 hset_eq (by omega) (by omega) (by omega) ?_
      refine J.cast hset_hset ?_
      refine J_iincN (q := 0) (a := 1) (m := 1) dX5_takesAnvil_56 rfl (by decide +kernel) (Nat.le_of_ble_eq_true rfl) (L' := [(2, .int (nI 2)), (0, .ref (E.1 + 24)), (1, .ref (E.1 + 12))]) rfl ?_
      refine J_goto (tgt := 12) dX5_takesAnvil_59 (by decide) ?_
      refine J_iload_n dX5_takesAnvil_12 rfl ?_
      refine J_aload_n dX5_takesAnvil_13 rfl ?_
      refine J_get 4 dX5_takesAnvil_14 jk5 (Nat.le_of_ble_eq_true rfl) jfRX5_25 ((hset_ne (by omega)).trans hset_eq) (by omega) rfl ?_
      refine J_alenN dX5_takesAnvil_17 hset_eq (by omega) ?_
      refine J_icmp_geN (tgt := 62) dX5_takesAnvil_18 (by decide) (by omega) (by omega) (fun z => absurd z (by decide)) (fun _ => ?_)
      refine J_aload_n dX5_takesAnvil_21 rfl ?_
      refine J_iconst (v := nI 0) dX5_takesAnvil_22 (by decide +kernel) ?_
      refine J_iload_n dX5_takesAnvil_23 rfl ?_
      refine J_if_neN (tgt := 31) dX5_takesAnvil_24 (by decide) (by omega) (fun _ => ?_) (fun z => absurd z (by decide))
      refine J_bipush (v := nI 20) dX5_takesAnvil_31 (by decide +kernel) ?_
      refine J_callVr (M' := mX5_takesNumber) (d' := (2, 0, 0)) (rest := []) dX5_takesAnvil_33 jmX5_takesNumber jlRX5_90 (ctX5_takesNumber 0 20 sz tk ((cu + 1) + 1) SO ST t KX SX VX VL ((hset_ne (by omega)).trans hset_eq) ((hset_ne (by omega)).trans ((hset_ne (by omega)).trans H1)) ((hset_ne (by omega)).trans ((hset_ne (by omega)).trans H2)) ((hset_ne (by omega)).trans ((hset_ne (by omega)).trans H3)) (by omega) (by first | assumption | omega) (by first | assumption | omega) (by first | assumption | omega) (by first | omega | exact strm_lt hS (by omega) (by omega)) (by first | assumption | omega) (by first | assumption | omega)) ((hset_ne (by omega)).trans hset_eq) (by omega) jk5.1 rfl rfl (Nat.le_of_ble_eq_true rfl) (Nat.le_of_ble_eq_true rfl) ⟨Nat.le_refl _, Nat.le_refl _⟩ ?_
      refine J.cast ((hset_comm (by omega)).trans (hset_cg hset_hset rfl)) ?_
      refine J_if_neB (tgt := 41) dX5_takesAnvil_36 (by decide) (fun c10 => ?_) (fun c10 => ?_)
      · skip
        have hl := strm_lt hS (z := ((cu + 1) + 1) + 1) (by omega) (by omega)
        refine J_aload_n dX5_takesAnvil_41 rfl ?_
        refine J_get 4 dX5_takesAnvil_42 jk5 (Nat.le_of_ble_eq_true rfl) jfRX5_25 ((hset_ne (by omega)).trans hset_eq) (by omega) rfl ?_
        refine J_iload_n dX5_takesAnvil_45 rfl ?_
        refine J_aload_n dX5_takesAnvil_46 rfl ?_
        refine J_get 3 dX5_takesAnvil_47 jk5 (Nat.le_of_ble_eq_true rfl) jfRX5_22 ((hset_ne (by omega)).trans hset_eq) (by omega) rfl ?_
        refine J_aload_n dX5_takesAnvil_50 rfl ?_
        refine J_get 7 dX5_takesAnvil_51 jk5 (Nat.le_of_ble_eq_true rfl) jfRX5_83 ((hset_ne (by omega)).trans hset_eq) (by omega) rfl ?_
        refine J_ialdF (i := ((cu + 1) + 1) + 1) dX5_takesAnvil_54 ((hset_ne (by omega)).trans ((hset_ne (by omega)).trans H3)) (by omega) (by omega) (by omega) ?_
        refine J.stk (st' := [.int (nI (VX (((cu + 1) + 1) + 1))), .int (nI 2), .ref (E.1 + 29)]) (congrArg (fun z => Value.int z :: [.int (nI 2), .ref (E.1 + 29)]) (by exact ((hS.1 (((cu + 1) + 1) + 1) (by omega)).2.2.1 (by omega)).1)) ?_
        refine J_iastN (i := 2) (v := VX (((cu + 1) + 1) + 1)) dX5_takesAnvil_55 hset_eq (by omega) (by omega) (by omega) ?_
        refine J.cast hset_hset ?_
        refine J_iincN (q := 0) (a := 2) (m := 1) dX5_takesAnvil_56 rfl (by decide +kernel) (Nat.le_of_ble_eq_true rfl) (L' := [(2, .int (nI 3)), (0, .ref (E.1 + 24)), (1, .ref (E.1 + 12))]) rfl ?_
        refine J_goto (tgt := 12) dX5_takesAnvil_59 (by decide) ?_
        refine J_iload_n dX5_takesAnvil_12 rfl ?_
        refine J_aload_n dX5_takesAnvil_13 rfl ?_
        refine J_get 4 dX5_takesAnvil_14 jk5 (Nat.le_of_ble_eq_true rfl) jfRX5_25 ((hset_ne (by omega)).trans hset_eq) (by omega) rfl ?_
        refine J_alenN dX5_takesAnvil_17 hset_eq (by omega) ?_
        refine J_icmp_geN (tgt := 62) dX5_takesAnvil_18 (by decide) (by omega) (by omega) (fun z => absurd z (by decide)) (fun _ => ?_)
        refine J_aload_n dX5_takesAnvil_21 rfl ?_
        refine J_iconst (v := nI 0) dX5_takesAnvil_22 (by decide +kernel) ?_
        refine J_iload_n dX5_takesAnvil_23 rfl ?_
        refine J_if_neN (tgt := 31) dX5_takesAnvil_24 (by decide) (by omega) (fun _ => ?_) (fun z => absurd z (by decide))
        refine J_bipush (v := nI 20) dX5_takesAnvil_31 (by decide +kernel) ?_
        refine J_callVr (M' := mX5_takesNumber) (d' := (2, 0, 0)) (rest := []) dX5_takesAnvil_33 jmX5_takesNumber jlRX5_90 (ctX5_takesNumber 0 20 sz tk (((cu + 1) + 1) + 1) SO ST t KX SX VX VL ((hset_ne (by omega)).trans hset_eq) ((hset_ne (by omega)).trans ((hset_ne (by omega)).trans H1)) ((hset_ne (by omega)).trans ((hset_ne (by omega)).trans H2)) ((hset_ne (by omega)).trans ((hset_ne (by omega)).trans H3)) (by omega) (by first | assumption | omega) (by first | assumption | omega) (by first | assumption | omega) (by first | omega | exact strm_lt hS (by omega) (by omega)) (by first | assumption | omega) (by first | assumption | omega)) ((hset_ne (by omega)).trans hset_eq) (by omega) jk5.1 rfl rfl (Nat.le_of_ble_eq_true rfl) (Nat.le_of_ble_eq_true rfl) ⟨Nat.le_refl _, Nat.le_refl _⟩ ?_
        refine J.cast ((hset_comm (by omega)).trans (hset_cg hset_hset rfl)) ?_
        refine J_if_neB (tgt := 41) dX5_takesAnvil_36 (by decide) (fun c13 => ?_) (fun c13 => ?_)
        · skip
          have hl := strm_lt hS (z := (((cu + 1) + 1) + 1) + 1) (by omega) (by omega)
          refine J_aload_n dX5_takesAnvil_41 rfl ?_
          refine J_get 4 dX5_takesAnvil_42 jk5 (Nat.le_of_ble_eq_true rfl) jfRX5_25 ((hset_ne (by omega)).trans hset_eq) (by omega) rfl ?_
          refine J_iload_n dX5_takesAnvil_45 rfl ?_
          refine J_aload_n dX5_takesAnvil_46 rfl ?_
          refine J_get 3 dX5_takesAnvil_47 jk5 (Nat.le_of_ble_eq_true rfl) jfRX5_22 ((hset_ne (by omega)).trans hset_eq) (by omega) rfl ?_
          refine J_aload_n dX5_takesAnvil_50 rfl ?_
          refine J_get 7 dX5_takesAnvil_51 jk5 (Nat.le_of_ble_eq_true rfl) jfRX5_83 ((hset_ne (by omega)).trans hset_eq) (by omega) rfl ?_
          refine J_ialdF (i := (((cu + 1) + 1) + 1) + 1) dX5_takesAnvil_54 ((hset_ne (by omega)).trans ((hset_ne (by omega)).trans H3)) (by omega) (by omega) (by omega) ?_
          refine J.stk (st' := [.int (nI (VX ((((cu + 1) + 1) + 1) + 1))), .int (nI 3), .ref (E.1 + 29)]) (congrArg (fun z => Value.int z :: [.int (nI 3), .ref (E.1 + 29)]) (by exact ((hS.1 ((((cu + 1) + 1) + 1) + 1) (by omega)).2.2.1 (by omega)).1)) ?_
          refine J_iastN (i := 3) (v := VX ((((cu + 1) + 1) + 1) + 1)) dX5_takesAnvil_55 hset_eq (by omega) (by omega) (by omega) ?_
          refine J.cast hset_hset ?_
          refine J_iincN (q := 0) (a := 3) (m := 1) dX5_takesAnvil_56 rfl (by decide +kernel) (Nat.le_of_ble_eq_true rfl) (L' := [(2, .int (nI 4)), (0, .ref (E.1 + 24)), (1, .ref (E.1 + 12))]) rfl ?_
          refine J_goto (tgt := 12) dX5_takesAnvil_59 (by decide) ?_
          refine J_iload_n dX5_takesAnvil_12 rfl ?_
          refine J_aload_n dX5_takesAnvil_13 rfl ?_
          refine J_get 4 dX5_takesAnvil_14 jk5 (Nat.le_of_ble_eq_true rfl) jfRX5_25 ((hset_ne (by omega)).trans hset_eq) (by omega) rfl ?_
          refine J_alenN dX5_takesAnvil_17 hset_eq (by omega) ?_
          refine J_icmp_geN (tgt := 62) dX5_takesAnvil_18 (by decide) (by omega) (by omega) (fun z => absurd z (by decide)) (fun _ => ?_)
          refine J_aload_n dX5_takesAnvil_21 rfl ?_
          refine J_iconst (v := nI 0) dX5_takesAnvil_22 (by decide +kernel) ?_
          refine J_iload_n dX5_takesAnvil_23 rfl ?_
          refine J_if_neN (tgt := 31) dX5_takesAnvil_24 (by decide) (by omega) (fun _ => ?_) (fun z => absurd z (by decide))
          refine J_bipush (v := nI 20) dX5_takesAnvil_31 (by decide +kernel) ?_
          refine J_callVr (M' := mX5_takesNumber) (d' := (2, 0, 0)) (rest := []) dX5_takesAnvil_33 jmX5_takesNumber jlRX5_90 (ctX5_takesNumber 0 20 sz tk ((((cu + 1) + 1) + 1) + 1) SO ST t KX SX VX VL ((hset_ne (by omega)).trans hset_eq) ((hset_ne (by omega)).trans ((hset_ne (by omega)).trans H1)) ((hset_ne (by omega)).trans ((hset_ne (by omega)).trans H2)) ((hset_ne (by omega)).trans ((hset_ne (by omega)).trans H3)) (by omega) (by first | assumption | omega) (by first | assumption | omega) (by first | assumption | omega) (by first | omega | exact strm_lt hS (by omega) (by omega)) (by first | assumption | omega) (by first | assumption | omega)) ((hset_ne (by omega)).trans hset_eq) (by omega) jk5.1 rfl rfl (Nat.le_of_ble_eq_true rfl) (Nat.le_of_ble_eq_true rfl) ⟨Nat.le_refl _, Nat.le_refl _⟩ ?_
          refine J.cast ((hset_comm (by omega)).trans (hset_cg hset_hset rfl)) ?_
          refine J_if_neB (tgt := 41) dX5_takesAnvil_36 (by decide) (fun c16 => ?_) (fun c16 => ?_)
          · skip
            have hl := strm_lt hS (z := ((((cu + 1) + 1) + 1) + 1) + 1) (by omega) (by omega)
            refine J_aload_n dX5_takesAnvil_41 rfl ?_
            refine J_get 4 dX5_takesAnvil_42 jk5 (Nat.le_of_ble_eq_true rfl) jfRX5_25 ((hset_ne (by omega)).trans hset_eq) (by omega) rfl ?_
            refine J_iload_n dX5_takesAnvil_45 rfl ?_
            refine J_aload_n dX5_takesAnvil_46 rfl ?_
            refine J_get 3 dX5_takesAnvil_47 jk5 (Nat.le_of_ble_eq_true rfl) jfRX5_22 ((hset_ne (by omega)).trans hset_eq) (by omega) rfl ?_
            refine J_aload_n dX5_takesAnvil_50 rfl ?_
            refine J_get 7 dX5_takesAnvil_51 jk5 (Nat.le_of_ble_eq_true rfl) jfRX5_83 ((hset_ne (by omega)).trans hset_eq) (by omega) rfl ?_
            refine J_ialdF (i := ((((cu + 1) + 1) + 1) + 1) + 1) dX5_takesAnvil_54 ((hset_ne (by omega)).trans ((hset_ne (by omega)).trans H3)) (by omega) (by omega) (by omega) ?_
            refine J.stk (st' := [.int (nI (VX (((((cu + 1) + 1) + 1) + 1) + 1))), .int (nI 4), .ref (E.1 + 29)]) (congrArg (fun z => Value.int z :: [.int (nI 4), .ref (E.1 + 29)]) (by exact ((hS.1 (((((cu + 1) + 1) + 1) + 1) + 1) (by omega)).2.2.1 (by omega)).1)) ?_
            refine J_iastN (i := 4) (v := VX (((((cu + 1) + 1) + 1) + 1) + 1)) dX5_takesAnvil_55 hset_eq (by omega) (by omega) (by omega) ?_
            refine J.cast hset_hset ?_
            refine J_iincN (q := 0) (a := 4) (m := 1) dX5_takesAnvil_56 rfl (by decide +kernel) (Nat.le_of_ble_eq_true rfl) (L' := [(2, .int (nI 5)), (0, .ref (E.1 + 24)), (1, .ref (E.1 + 12))]) rfl ?_
            refine J_goto (tgt := 12) dX5_takesAnvil_59 (by decide) ?_
            refine J_iload_n dX5_takesAnvil_12 rfl ?_
            refine J_aload_n dX5_takesAnvil_13 rfl ?_
            refine J_get 4 dX5_takesAnvil_14 jk5 (Nat.le_of_ble_eq_true rfl) jfRX5_25 ((hset_ne (by omega)).trans hset_eq) (by omega) rfl ?_
            refine J_alenN dX5_takesAnvil_17 hset_eq (by omega) ?_
            refine J_icmp_geN (tgt := 62) dX5_takesAnvil_18 (by decide) (by omega) (by omega) (fun _ => ?_) (fun z => absurd z (by decide))
            exact absurd (show anvOK KX VX cu from ⟨⟨by omega, by omega⟩, ⟨by omega, by omega⟩, ⟨by omega, by omega⟩, ⟨by omega, by omega⟩, ⟨by omega, by omega⟩⟩) hno
          · skip
            refine J_iconst (v := nI 0) dX5_takesAnvil_39 (by decide +kernel) ?_
            exact J_zret dX5_takesAnvil_40 rfl rfl ⟨Nat.le_refl _, Nat.le_refl _⟩ (by rw [hPP]; exact ⟨rfl, rfl, (updN (updN (updN (updN NU 0 (VX (cu + 1))) 1 (VX ((cu + 1) + 1))) 2 (VX (((cu + 1) + 1) + 1))) 3 (VX ((((cu + 1) + 1) + 1) + 1))), (hset_cg (hset_cg rfl (congrArg (fun z => (Sum.inr (4, z) : va_E)) (jS_c rfl (jS_c rfl (jS_c rfl (jS_c rfl (jS_c rfl (jS_c rfl (jS_c rfl (jS_c (jv_N (by first | rfl | exact anvJ_1 (by omega) | exact anvJ_2 (by omega) (by omega) | exact anvJ_3 (by omega) (by omega) (by omega) | exact anvJ_4 (by omega) (by omega) (by omega) (by omega) | exact anvJ_5 (by omega) (by omega) (by omega) (by omega))) rfl)))))))))) rfl)⟩)
        · skip
          refine J_iconst (v := nI 0) dX5_takesAnvil_39 (by decide +kernel) ?_
          exact J_zret dX5_takesAnvil_40 rfl rfl ⟨Nat.le_refl _, Nat.le_refl _⟩ (by rw [hPP]; exact ⟨rfl, rfl, (updN (updN (updN NU 0 (VX (cu + 1))) 1 (VX ((cu + 1) + 1))) 2 (VX (((cu + 1) + 1) + 1))), (hset_cg (hset_cg rfl (congrArg (fun z => (Sum.inr (4, z) : va_E)) (jS_c rfl (jS_c rfl (jS_c rfl (jS_c rfl (jS_c rfl (jS_c rfl (jS_c rfl (jS_c (jv_N (by first | rfl | exact anvJ_1 (by omega) | exact anvJ_2 (by omega) (by omega) | exact anvJ_3 (by omega) (by omega) (by omega) | exact anvJ_4 (by omega) (by omega) (by omega) (by omega) | exact anvJ_5 (by omega) (by omega) (by omega) (by omega))) rfl)))))))))) rfl)⟩)
      · skip
        refine J_iconst (v := nI 0) dX5_takesAnvil_39 (by decide +kernel) ?_
        exact J_zret dX5_takesAnvil_40 rfl rfl ⟨Nat.le_refl _, Nat.le_refl _⟩ (by rw [hPP]; exact ⟨rfl, rfl, (updN (updN NU 0 (VX (cu + 1))) 1 (VX ((cu + 1) + 1))), (hset_cg (hset_cg rfl (congrArg (fun z => (Sum.inr (4, z) : va_E)) (jS_c rfl (jS_c rfl (jS_c rfl (jS_c rfl (jS_c rfl (jS_c rfl (jS_c rfl (jS_c (jv_N (by first | rfl | exact anvJ_1 (by omega) | exact anvJ_2 (by omega) (by omega) | exact anvJ_3 (by omega) (by omega) (by omega) | exact anvJ_4 (by omega) (by omega) (by omega) (by omega) | exact anvJ_5 (by omega) (by omega) (by omega) (by omega))) rfl)))))))))) rfl)⟩)
    · skip
      refine J_iconst (v := nI 0) dX5_takesAnvil_39 (by decide +kernel) ?_
      exact J_zret dX5_takesAnvil_40 rfl rfl ⟨Nat.le_refl _, Nat.le_refl _⟩ (by rw [hPP]; exact ⟨rfl, rfl, (updN NU 0 (VX (cu + 1))), (hset_cg (hset_cg rfl (congrArg (fun z => (Sum.inr (4, z) : va_E)) (jS_c rfl (jS_c rfl (jS_c rfl (jS_c rfl (jS_c rfl (jS_c rfl (jS_c rfl (jS_c (jv_N (by first | rfl | exact anvJ_1 (by omega) | exact anvJ_2 (by omega) (by omega) | exact anvJ_3 (by omega) (by omega) (by omega) | exact anvJ_4 (by omega) (by omega) (by omega) (by omega) | exact anvJ_5 (by omega) (by omega) (by omega) (by omega))) rfl)))))))))) rfl)⟩)
  · skip
    refine J_iconst (v := nI 0) dX5_takesAnvil_39 (by decide +kernel) ?_
    exact J_zret dX5_takesAnvil_40 rfl rfl ⟨Nat.le_refl _, Nat.le_refl _⟩ (by rw [hPP]; exact ⟨rfl, rfl, NU, ((show (hset h 24 (.inr (4, [.ref (E.1 + 25), .ref (E.1 + 26), .ref (E.1 + 27), .ref (E.1 + 28), .ref (E.1 + 29), .int (nI sz), .int (nI tk), .int (nI (cu + 1))]))) = (hset (hset h 24 (.inr (4, [.ref (E.1 + 25), .ref (E.1 + 26), .ref (E.1 + 27), .ref (E.1 + 28), .ref (E.1 + 29), .int (nI sz), .int (nI tk), .int (nI (cu + 1))]))) 29 (cI E 5 (nF NU))) by funext z; simp only [hset]; (repeat' split) <;> first | rfl | (exfalso; omega) | (subst_vars; first | exact H4)).trans (hset_cg (hset_cg rfl (congrArg (fun z => (Sum.inr (4, z) : va_E)) (jS_c rfl (jS_c rfl (jS_c rfl (jS_c rfl (jS_c rfl (jS_c rfl (jS_c rfl (jS_c (jv_N (by first | rfl | exact anvJ_1 (by omega) | exact anvJ_2 (by omega) (by omega) | exact anvJ_3 (by omega) (by omega) (by omega) | exact anvJ_4 (by omega) (by omega) (by omega) (by omega) | exact anvJ_5 (by omega) (by omega) (by omega) (by omega))) rfl)))))))))) rfl))⟩)

set_option maxHeartbeats 1000000 in
set_option maxRecDepth 100000 in
theorem ctX5_takesAnvil {E : jE} {h : Nat → va_E} {n : Nat} (sz : Nat) (tk : Nat) (cu : Nat) (SO : Nat → Nat) (ST : Nat → Nat) (t : Nat) (KX : Nat → Nat) (SX : Nat → Nat) (VX : Nat → Nat) (VL : Nat → Int32) (NU : Nat → Nat) (an : Nat) (td : Nat) (gr : Nat) (K : Nat → Nat) (M : Nat → Nat) (ps : Nat) (H0 : h 24 = .inr (4, [.ref (E.1 + 25), .ref (E.1 + 26), .ref (E.1 + 27), .ref (E.1 + 28), .ref (E.1 + 29), .int (nI sz), .int (nI tk), .int (nI cu)])) (H1 : h 26 = cI E 151 (nF SO)) (H2 : h 27 = cI E 151 (nF ST)) (H3 : h 28 = cI E 151 VL) (H4 : h 29 = cI E 5 (nF NU)) (H5 : h 12 = .inr (5, [.ref (E.1 + 13), .ref (E.1 + 14), .ref (E.1 + 15), .ref (E.1 + 17), .ref (E.1 + 19), .int (nI an), .int (nI td), .int (nI gr)])) (H6 : h 13 = cI E 4 (nF K)) (H7 : h 14 = cI E 16 (nF M)) (H8 : h 19 = .inr (1, [.ref (E.1 + 20), .ref (E.1 + 21), .ref (E.1 + 22), .int (nI ps)])) (hn : 38 ≤ n) (hS : strm KX SX VX t SO ST VL) (htk : tk = t + 1) (ht150 : t ≤ 150) (hcu : cu < t) (han : an < 4) (hok : anvOK KX VX cu) : jC E mX5_takesAnvil (3, 0, 0) [.ref (E.1 + 24), .ref (E.1 + 12)] h n (fun v h' n' => v = some (.int (nI 1)) ∧ n' = n ∧ ∃ (NU1 : Nat → Nat), h' = (hset (hset (hset (hset (hset (hset h 24 (.inr (4, [.ref (E.1 + 25), .ref (E.1 + 26), .ref (E.1 + 27), .ref (E.1 + 28), .ref (E.1 + 29), .int (nI sz), .int (nI tk), .int (nI (cu + 1 + 1 + 1 + 1 + 1))]))) 29 (cI E 5 (nF NU1))) 13 (cI E 4 (nF (updN K an (VX (cu + 1)))))) 14 (cI E 16 (nF (joinM M an (VX (cu + 1 + 1)) (VX (cu + 1 + 1 + 1)) (VX (cu + 1 + 1 + 1 + 1)) (VX (cu + 1 + 1 + 1 + 1 + 1)))))) 12 (.inr (5, [.ref (E.1 + 13), .ref (E.1 + 14), .ref (E.1 + 15), .ref (E.1 + 17), .ref (E.1 + 19), .int (nI (an + 1)), .int (nI td), .int (nI gr)]))) 19 (.inr (1, [.ref (E.1 + 20), .ref (E.1 + 21), .ref (E.1 + 22), .int (nI 0)])))) := by
  refine J.of (L := [(0, .ref (E.1 + 24)), (1, .ref (E.1 + 12))]) rfl (by decide +kernel) (Nat.le_of_ble_eq_true rfl) ?_
  obtain ⟨PP, hPP⟩ : ∃ PP : jPost, PP = (fun v h' n' => v = some (.int (nI 1)) ∧ n' = n ∧ ∃ (NU1 : Nat → Nat), h' = (hset (hset (hset (hset (hset (hset h 24 (.inr (4, [.ref (E.1 + 25), .ref (E.1 + 26), .ref (E.1 + 27), .ref (E.1 + 28), .ref (E.1 + 29), .int (nI sz), .int (nI tk), .int (nI (cu + 1 + 1 + 1 + 1 + 1))]))) 29 (cI E 5 (nF NU1))) 13 (cI E 4 (nF (updN K an (VX (cu + 1)))))) 14 (cI E 16 (nF (joinM M an (VX (cu + 1 + 1)) (VX (cu + 1 + 1 + 1)) (VX (cu + 1 + 1 + 1 + 1)) (VX (cu + 1 + 1 + 1 + 1 + 1)))))) 12 (.inr (5, [.ref (E.1 + 13), .ref (E.1 + 14), .ref (E.1 + 15), .ref (E.1 + 17), .ref (E.1 + 19), .int (nI (an + 1)), .int (nI td), .int (nI gr)]))) 19 (.inr (1, [.ref (E.1 + 20), .ref (E.1 + 21), .ref (E.1 + 22), .int (nI 0)])))) := ⟨_, rfl⟩
  rw [← hPP]
  obtain ⟨⟨a1, b1⟩, ⟨a2, b2⟩, ⟨a3, b3⟩, ⟨a4, b4⟩, ⟨a5, b5⟩⟩ := id hok
  refine J_aload_n dX5_takesAnvil_0 rfl ?_
  refine J_get 5 dX5_takesAnvil_1 jk6 (Nat.le_of_ble_eq_true rfl) jfRX5_127 H5 (by omega) rfl ?_
  refine J_iconst (v := nI 4) dX5_takesAnvil_4 (by decide +kernel) ?_
  refine J_icmp_ltN (tgt := 10) dX5_takesAnvil_5 (by decide) (by omega) (by omega) (fun c1 => ?_) (fun c1 => (by exfalso; omega))
  refine J_iconst (v := nI 0) dX5_takesAnvil_10 (by decide +kernel) ?_
  refine J_istore_n dX5_takesAnvil_11 (Nat.le_of_ble_eq_true rfl) (L' := [(2, .int (nI 0)), (0, .ref (E.1 + 24)), (1, .ref (E.1 + 12))]) rfl ?_
  refine J_iload_n dX5_takesAnvil_12 rfl ?_
  refine J_aload_n dX5_takesAnvil_13 rfl ?_
  refine J_get 4 dX5_takesAnvil_14 jk5 (Nat.le_of_ble_eq_true rfl) jfRX5_25 H0 (by omega) rfl ?_
  refine J_alenN dX5_takesAnvil_17 H4 (by omega) ?_
  refine J_icmp_geN (tgt := 62) dX5_takesAnvil_18 (by decide) (by omega) (by omega) (fun z => absurd z (by decide)) (fun _ => ?_)
  refine J_aload_n dX5_takesAnvil_21 rfl ?_
  refine J_iconst (v := nI 0) dX5_takesAnvil_22 (by decide +kernel) ?_
  refine J_iload_n dX5_takesAnvil_23 rfl ?_
  refine J_if_neN (tgt := 31) dX5_takesAnvil_24 (by decide) (by omega) (fun z => absurd z (by decide)) (fun _ => ?_)
  refine J_iconst (v := nI 5) dX5_takesAnvil_27 (by decide +kernel) ?_
  refine J_goto (tgt := 33) dX5_takesAnvil_28 (by decide) ?_
  refine J_callVr (M' := mX5_takesNumber) (d' := (2, 0, 0)) (rest := []) dX5_takesAnvil_33 jmX5_takesNumber jlRX5_90 (ctX5_takesNumber 0 5 sz tk cu SO ST t KX SX VX VL H0 H1 H2 H3 (by omega) (by first | assumption | omega) (by first | assumption | omega) (by first | assumption | omega) (by first | omega | exact strm_lt hS (by omega) (by omega)) (by first | assumption | omega) (by first | assumption | omega)) H0 (by omega) jk5.1 rfl rfl (Nat.le_of_ble_eq_true rfl) (Nat.le_of_ble_eq_true rfl) ⟨Nat.le_refl _, Nat.le_refl _⟩ ?_
  refine J_if_neB (tgt := 41) dX5_takesAnvil_36 (by decide) (fun c4 => ?_) (fun c4 => (by exfalso; omega))
  have hl := strm_lt hS (z := cu + 1) (by omega) (by omega)
  refine J_aload_n dX5_takesAnvil_41 rfl ?_
  refine J_get 4 dX5_takesAnvil_42 jk5 (Nat.le_of_ble_eq_true rfl) jfRX5_25 hset_eq (by omega) rfl ?_
  refine J_iload_n dX5_takesAnvil_45 rfl ?_
  refine J_aload_n dX5_takesAnvil_46 rfl ?_
  refine J_get 3 dX5_takesAnvil_47 jk5 (Nat.le_of_ble_eq_true rfl) jfRX5_22 hset_eq (by omega) rfl ?_
  refine J_aload_n dX5_takesAnvil_50 rfl ?_
  refine J_get 7 dX5_takesAnvil_51 jk5 (Nat.le_of_ble_eq_true rfl) jfRX5_83 hset_eq (by omega) rfl ?_
  refine J_ialdF (i := cu + 1) dX5_takesAnvil_54 ((hset_ne (by omega)).trans H3) (by omega) (by omega) (by omega) ?_
  refine J.stk (st' := [.int (nI (VX (cu + 1))), .int (nI 0), .ref (E.1 + 29)]) (congrArg (fun z => Value.int z :: [.int (nI 0), .ref (E.1 + 29)]) (by exact ((hS.1 (cu + 1) (by omega)).2.2.1 (by omega)).1)) ?_
  refine J_iastN (i := 0) (v := VX (cu + 1)) dX5_takesAnvil_55 ((hset_ne (by omega)).trans H4) (by omega) (by omega) (by omega) ?_
  refine J_iincN (q := 0) (a := 0) (m := 1) dX5_takesAnvil_56 rfl (by decide +kernel) (Nat.le_of_ble_eq_true rfl) (L' := [(2, .int (nI 1)), (0, .ref (E.1 + 24)), (1, .ref (E.1 + 12))]) rfl ?_
  refine J_goto (tgt := 12) dX5_takesAnvil_59 (by decide) ?_
  refine J_iload_n dX5_takesAnvil_12 rfl ?_
  refine J_aload_n dX5_takesAnvil_13 rfl ?_
  refine J_get 4 dX5_takesAnvil_14 jk5 (Nat.le_of_ble_eq_true rfl) jfRX5_25 ((hset_ne (by omega)).trans hset_eq) (by omega) rfl ?_
  refine J_alenN dX5_takesAnvil_17 hset_eq (by omega) ?_
  refine J_icmp_geN (tgt := 62) dX5_takesAnvil_18 (by decide) (by omega) (by omega) (fun z => absurd z (by decide)) (fun _ => ?_)
  refine J_aload_n dX5_takesAnvil_21 rfl ?_
  refine J_iconst (v := nI 0) dX5_takesAnvil_22 (by decide +kernel) ?_
  refine J_iload_n dX5_takesAnvil_23 rfl ?_
  refine J_if_neN (tgt := 31) dX5_takesAnvil_24 (by decide) (by omega) (fun _ => ?_) (fun z => absurd z (by decide))
  refine J_bipush (v := nI 20) dX5_takesAnvil_31 (by decide +kernel) ?_
  refine J_callVr (M' := mX5_takesNumber) (d' := (2, 0, 0)) (rest := []) dX5_takesAnvil_33 jmX5_takesNumber jlRX5_90 (ctX5_takesNumber 0 20 sz tk (cu + 1) SO ST t KX SX VX VL ((hset_ne (by omega)).trans hset_eq) ((hset_ne (by omega)).trans ((hset_ne (by omega)).trans H1)) ((hset_ne (by omega)).trans ((hset_ne (by omega)).trans H2)) ((hset_ne (by omega)).trans ((hset_ne (by omega)).trans H3)) (by omega) (by first | assumption | omega) (by first | assumption | omega) (by first | assumption | omega) (by first | omega | exact strm_lt hS (by omega) (by omega)) (by first | assumption | omega) (by first | assumption | omega)) ((hset_ne (by omega)).trans hset_eq) (by omega) jk5.1 rfl rfl (Nat.le_of_ble_eq_true rfl) (Nat.le_of_ble_eq_true rfl) ⟨Nat.le_refl _, Nat.le_refl _⟩ ?_
  refine J.cast ((hset_comm (by omega)).trans (hset_cg hset_hset rfl)) ?_
  refine J_if_neB (tgt := 41) dX5_takesAnvil_36 (by decide) (fun c7 => ?_) (fun c7 => (by exfalso; omega))
  have hl := strm_lt hS (z := (cu + 1) + 1) (by omega) (by omega)
  refine J_aload_n dX5_takesAnvil_41 rfl ?_
  refine J_get 4 dX5_takesAnvil_42 jk5 (Nat.le_of_ble_eq_true rfl) jfRX5_25 ((hset_ne (by omega)).trans hset_eq) (by omega) rfl ?_
  refine J_iload_n dX5_takesAnvil_45 rfl ?_
  refine J_aload_n dX5_takesAnvil_46 rfl ?_
  refine J_get 3 dX5_takesAnvil_47 jk5 (Nat.le_of_ble_eq_true rfl) jfRX5_22 ((hset_ne (by omega)).trans hset_eq) (by omega) rfl ?_
  refine J_aload_n dX5_takesAnvil_50 rfl ?_
  refine J_get 7 dX5_takesAnvil_51 jk5 (Nat.le_of_ble_eq_true rfl) jfRX5_83 ((hset_ne (by omega)).trans hset_eq) (by omega) rfl ?_
  refine J_ialdF (i := (cu + 1) + 1) dX5_takesAnvil_54 ((hset_ne (by omega)).trans ((hset_ne (by omega)).trans H3)) (by omega) (by omega) (by omega) ?_
  refine J.stk (st' := [.int (nI (VX ((cu + 1) + 1))), .int (nI 1), .ref (E.1 + 29)]) (congrArg (fun z => Value.int z :: [.int (nI 1), .ref (E.1 + 29)]) (by exact ((hS.1 ((cu + 1) + 1) (by omega)).2.2.1 (by omega)).1)) ?_
  refine J_iastN (i := 1) (v := VX ((cu + 1) + 1)) dX5_takesAnvil_55 hset_eq (by omega) (by omega) (by omega) ?_
  refine J.cast hset_hset ?_
  refine J_iincN (q := 0) (a := 1) (m := 1) dX5_takesAnvil_56 rfl (by decide +kernel) (Nat.le_of_ble_eq_true rfl) (L' := [(2, .int (nI 2)), (0, .ref (E.1 + 24)), (1, .ref (E.1 + 12))]) rfl ?_
  refine J_goto (tgt := 12) dX5_takesAnvil_59 (by decide) ?_
  refine J_iload_n dX5_takesAnvil_12 rfl ?_
  refine J_aload_n dX5_takesAnvil_13 rfl ?_
  refine J_get 4 dX5_takesAnvil_14 jk5 (Nat.le_of_ble_eq_true rfl) jfRX5_25 ((hset_ne (by omega)).trans hset_eq) (by omega) rfl ?_
  refine J_alenN dX5_takesAnvil_17 hset_eq (by omega) ?_
  refine J_icmp_geN (tgt := 62) dX5_takesAnvil_18 (by decide) (by omega) (by omega) (fun z => absurd z (by decide)) (fun _ => ?_)
  refine J_aload_n dX5_takesAnvil_21 rfl ?_
  refine J_iconst (v := nI 0) dX5_takesAnvil_22 (by decide +kernel) ?_
  refine J_iload_n dX5_takesAnvil_23 rfl ?_
  refine J_if_neN (tgt := 31) dX5_takesAnvil_24 (by decide) (by omega) (fun _ => ?_) (fun z => absurd z (by decide))
  refine J_bipush (v := nI 20) dX5_takesAnvil_31 (by decide +kernel) ?_
  refine J_callVr (M' := mX5_takesNumber) (d' := (2, 0, 0)) (rest := []) dX5_takesAnvil_33 jmX5_takesNumber jlRX5_90 (ctX5_takesNumber 0 20 sz tk ((cu + 1) + 1) SO ST t KX SX VX VL ((hset_ne (by omega)).trans hset_eq) ((hset_ne (by omega)).trans ((hset_ne (by omega)).trans H1)) ((hset_ne (by omega)).trans ((hset_ne (by omega)).trans H2)) ((hset_ne (by omega)).trans ((hset_ne (by omega)).trans H3)) (by omega) (by first | assumption | omega) (by first | assumption | omega) (by first | assumption | omega) (by first | omega | exact strm_lt hS (by omega) (by omega)) (by first | assumption | omega) (by first | assumption | omega)) ((hset_ne (by omega)).trans hset_eq) (by omega) jk5.1 rfl rfl (Nat.le_of_ble_eq_true rfl) (Nat.le_of_ble_eq_true rfl) ⟨Nat.le_refl _, Nat.le_refl _⟩ ?_
  refine J.cast ((hset_comm (by omega)).trans (hset_cg hset_hset rfl)) ?_
  refine J_if_neB (tgt := 41) dX5_takesAnvil_36 (by decide) (fun c10 => ?_) (fun c10 => (by exfalso; omega))
  have hl := strm_lt hS (z := ((cu + 1) + 1) + 1) (by omega) (by omega)
  refine J_aload_n dX5_takesAnvil_41 rfl ?_
  refine J_get 4 dX5_takesAnvil_42 jk5 (Nat.le_of_ble_eq_true rfl) jfRX5_25 ((hset_ne (by omega)).trans hset_eq) (by omega) rfl ?_
  refine J_iload_n dX5_takesAnvil_45 rfl ?_
  refine J_aload_n dX5_takesAnvil_46 rfl ?_
  refine J_get 3 dX5_takesAnvil_47 jk5 (Nat.le_of_ble_eq_true rfl) jfRX5_22 ((hset_ne (by omega)).trans hset_eq) (by omega) rfl ?_
  refine J_aload_n dX5_takesAnvil_50 rfl ?_
  refine J_get 7 dX5_takesAnvil_51 jk5 (Nat.le_of_ble_eq_true rfl) jfRX5_83 ((hset_ne (by omega)).trans hset_eq) (by omega) rfl ?_
  refine J_ialdF (i := ((cu + 1) + 1) + 1) dX5_takesAnvil_54 ((hset_ne (by omega)).trans ((hset_ne (by omega)).trans H3)) (by omega) (by omega) (by omega) ?_
  refine J.stk (st' := [.int (nI (VX (((cu + 1) + 1) + 1))), .int (nI 2), .ref (E.1 + 29)]) (congrArg (fun z => Value.int z :: [.int (nI 2), .ref (E.1 + 29)]) (by exact ((hS.1 (((cu + 1) + 1) + 1) (by omega)).2.2.1 (by omega)).1)) ?_
  refine J_iastN (i := 2) (v := VX (((cu + 1) + 1) + 1)) dX5_takesAnvil_55 hset_eq (by omega) (by omega) (by omega) ?_
  refine J.cast hset_hset ?_
  refine J_iincN (q := 0) (a := 2) (m := 1) dX5_takesAnvil_56 rfl (by decide +kernel) (Nat.le_of_ble_eq_true rfl) (L' := [(2, .int (nI 3)), (0, .ref (E.1 + 24)), (1, .ref (E.1 + 12))]) rfl ?_
  refine J_goto (tgt := 12) dX5_takesAnvil_59 (by decide) ?_
  refine J_iload_n dX5_takesAnvil_12 rfl ?_
  refine J_aload_n dX5_takesAnvil_13 rfl ?_
  refine J_get 4 dX5_takesAnvil_14 jk5 (Nat.le_of_ble_eq_true rfl) jfRX5_25 ((hset_ne (by omega)).trans hset_eq) (by omega) rfl ?_
  refine J_alenN dX5_takesAnvil_17 hset_eq (by omega) ?_
  refine J_icmp_geN (tgt := 62) dX5_takesAnvil_18 (by decide) (by omega) (by omega) (fun z => absurd z (by decide)) (fun _ => ?_)
  refine J_aload_n dX5_takesAnvil_21 rfl ?_
  refine J_iconst (v := nI 0) dX5_takesAnvil_22 (by decide +kernel) ?_
  refine J_iload_n dX5_takesAnvil_23 rfl ?_
  refine J_if_neN (tgt := 31) dX5_takesAnvil_24 (by decide) (by omega) (fun _ => ?_) (fun z => absurd z (by decide))
  refine J_bipush (v := nI 20) dX5_takesAnvil_31 (by decide +kernel) ?_
  refine J_callVr (M' := mX5_takesNumber) (d' := (2, 0, 0)) (rest := []) dX5_takesAnvil_33 jmX5_takesNumber jlRX5_90 (ctX5_takesNumber 0 20 sz tk (((cu + 1) + 1) + 1) SO ST t KX SX VX VL ((hset_ne (by omega)).trans hset_eq) ((hset_ne (by omega)).trans ((hset_ne (by omega)).trans H1)) ((hset_ne (by omega)).trans ((hset_ne (by omega)).trans H2)) ((hset_ne (by omega)).trans ((hset_ne (by omega)).trans H3)) (by omega) (by first | assumption | omega) (by first | assumption | omega) (by first | assumption | omega) (by first | omega | exact strm_lt hS (by omega) (by omega)) (by first | assumption | omega) (by first | assumption | omega)) ((hset_ne (by omega)).trans hset_eq) (by omega) jk5.1 rfl rfl (Nat.le_of_ble_eq_true rfl) (Nat.le_of_ble_eq_true rfl) ⟨Nat.le_refl _, Nat.le_refl _⟩ ?_
  refine J.cast ((hset_comm (by omega)).trans (hset_cg hset_hset rfl)) ?_
  refine J_if_neB (tgt := 41) dX5_takesAnvil_36 (by decide) (fun c13 => ?_) (fun c13 => (by exfalso; omega))
  have hl := strm_lt hS (z := (((cu + 1) + 1) + 1) + 1) (by omega) (by omega)
  refine J_aload_n dX5_takesAnvil_41 rfl ?_
  refine J_get 4 dX5_takesAnvil_42 jk5 (Nat.le_of_ble_eq_true rfl) jfRX5_25 ((hset_ne (by omega)).trans hset_eq) (by omega) rfl ?_
  refine J_iload_n dX5_takesAnvil_45 rfl ?_
  refine J_aload_n dX5_takesAnvil_46 rfl ?_
  refine J_get 3 dX5_takesAnvil_47 jk5 (Nat.le_of_ble_eq_true rfl) jfRX5_22 ((hset_ne (by omega)).trans hset_eq) (by omega) rfl ?_
  refine J_aload_n dX5_takesAnvil_50 rfl ?_
  refine J_get 7 dX5_takesAnvil_51 jk5 (Nat.le_of_ble_eq_true rfl) jfRX5_83 ((hset_ne (by omega)).trans hset_eq) (by omega) rfl ?_
  refine J_ialdF (i := (((cu + 1) + 1) + 1) + 1) dX5_takesAnvil_54 ((hset_ne (by omega)).trans ((hset_ne (by omega)).trans H3)) (by omega) (by omega) (by omega) ?_
  refine J.stk (st' := [.int (nI (VX ((((cu + 1) + 1) + 1) + 1))), .int (nI 3), .ref (E.1 + 29)]) (congrArg (fun z => Value.int z :: [.int (nI 3), .ref (E.1 + 29)]) (by exact ((hS.1 ((((cu + 1) + 1) + 1) + 1) (by omega)).2.2.1 (by omega)).1)) ?_
  refine J_iastN (i := 3) (v := VX ((((cu + 1) + 1) + 1) + 1)) dX5_takesAnvil_55 hset_eq (by omega) (by omega) (by omega) ?_
  refine J.cast hset_hset ?_
  refine J_iincN (q := 0) (a := 3) (m := 1) dX5_takesAnvil_56 rfl (by decide +kernel) (Nat.le_of_ble_eq_true rfl) (L' := [(2, .int (nI 4)), (0, .ref (E.1 + 24)), (1, .ref (E.1 + 12))]) rfl ?_
  refine J_goto (tgt := 12) dX5_takesAnvil_59 (by decide) ?_
  refine J_iload_n dX5_takesAnvil_12 rfl ?_
  refine J_aload_n dX5_takesAnvil_13 rfl ?_
  refine J_get 4 dX5_takesAnvil_14 jk5 (Nat.le_of_ble_eq_true rfl) jfRX5_25 ((hset_ne (by omega)).trans hset_eq) (by omega) rfl ?_
  refine J_alenN dX5_takesAnvil_17 hset_eq (by omega) ?_
  refine J_icmp_geN (tgt := 62) dX5_takesAnvil_18 (by decide) (by omega) (by omega) (fun z => absurd z (by decide)) (fun _ => ?_)
  refine J_aload_n dX5_takesAnvil_21 rfl ?_
  refine J_iconst (v := nI 0) dX5_takesAnvil_22 (by decide +kernel) ?_
  refine J_iload_n dX5_takesAnvil_23 rfl ?_
  refine J_if_neN (tgt := 31) dX5_takesAnvil_24 (by decide) (by omega) (fun _ => ?_) (fun z => absurd z (by decide))
  refine J_bipush (v := nI 20) dX5_takesAnvil_31 (by decide +kernel) ?_
  refine J_callVr (M' := mX5_takesNumber) (d' := (2, 0, 0)) (rest := []) dX5_takesAnvil_33 jmX5_takesNumber jlRX5_90 (ctX5_takesNumber 0 20 sz tk ((((cu + 1) + 1) + 1) + 1) SO ST t KX SX VX VL ((hset_ne (by omega)).trans hset_eq) ((hset_ne (by omega)).trans ((hset_ne (by omega)).trans H1)) ((hset_ne (by omega)).trans ((hset_ne (by omega)).trans H2)) ((hset_ne (by omega)).trans ((hset_ne (by omega)).trans H3)) (by omega) (by first | assumption | omega) (by first | assumption | omega) (by first | assumption | omega) (by first | omega | exact strm_lt hS (by omega) (by omega)) (by first | assumption | omega) (by first | assumption | omega)) ((hset_ne (by omega)).trans hset_eq) (by omega) jk5.1 rfl rfl (Nat.le_of_ble_eq_true rfl) (Nat.le_of_ble_eq_true rfl) ⟨Nat.le_refl _, Nat.le_refl _⟩ ?_
  refine J.cast ((hset_comm (by omega)).trans (hset_cg hset_hset rfl)) ?_
  refine J_if_neB (tgt := 41) dX5_takesAnvil_36 (by decide) (fun c16 => ?_) (fun c16 => (by exfalso; omega))
  have hl := strm_lt hS (z := ((((cu + 1) + 1) + 1) + 1) + 1) (by omega) (by omega)
  refine J_aload_n dX5_takesAnvil_41 rfl ?_
  refine J_get 4 dX5_takesAnvil_42 jk5 (Nat.le_of_ble_eq_true rfl) jfRX5_25 ((hset_ne (by omega)).trans hset_eq) (by omega) rfl ?_
  refine J_iload_n dX5_takesAnvil_45 rfl ?_
  refine J_aload_n dX5_takesAnvil_46 rfl ?_
  refine J_get 3 dX5_takesAnvil_47 jk5 (Nat.le_of_ble_eq_true rfl) jfRX5_22 ((hset_ne (by omega)).trans hset_eq) (by omega) rfl ?_
  refine J_aload_n dX5_takesAnvil_50 rfl ?_
  refine J_get 7 dX5_takesAnvil_51 jk5 (Nat.le_of_ble_eq_true rfl) jfRX5_83 ((hset_ne (by omega)).trans hset_eq) (by omega) rfl ?_
  refine J_ialdF (i := ((((cu + 1) + 1) + 1) + 1) + 1) dX5_takesAnvil_54 ((hset_ne (by omega)).trans ((hset_ne (by omega)).trans H3)) (by omega) (by omega) (by omega) ?_
  refine J.stk (st' := [.int (nI (VX (((((cu + 1) + 1) + 1) + 1) + 1))), .int (nI 4), .ref (E.1 + 29)]) (congrArg (fun z => Value.int z :: [.int (nI 4), .ref (E.1 + 29)]) (by exact ((hS.1 (((((cu + 1) + 1) + 1) + 1) + 1) (by omega)).2.2.1 (by omega)).1)) ?_
  refine J_iastN (i := 4) (v := VX (((((cu + 1) + 1) + 1) + 1) + 1)) dX5_takesAnvil_55 hset_eq (by omega) (by omega) (by omega) ?_
  refine J.cast hset_hset ?_
  refine J_iincN (q := 0) (a := 4) (m := 1) dX5_takesAnvil_56 rfl (by decide +kernel) (Nat.le_of_ble_eq_true rfl) (L' := [(2, .int (nI 5)), (0, .ref (E.1 + 24)), (1, .ref (E.1 + 12))]) rfl ?_
  refine J_goto (tgt := 12) dX5_takesAnvil_59 (by decide) ?_
  refine J_iload_n dX5_takesAnvil_12 rfl ?_
  refine J_aload_n dX5_takesAnvil_13 rfl ?_
  refine J_get 4 dX5_takesAnvil_14 jk5 (Nat.le_of_ble_eq_true rfl) jfRX5_25 ((hset_ne (by omega)).trans hset_eq) (by omega) rfl ?_
  refine J_alenN dX5_takesAnvil_17 hset_eq (by omega) ?_
  refine J_icmp_geN (tgt := 62) dX5_takesAnvil_18 (by decide) (by omega) (by omega) (fun _ => ?_) (fun z => absurd z (by decide))
  refine J_aload_n dX5_takesAnvil_62 rfl ?_
  refine J_aload_n dX5_takesAnvil_63 rfl ?_
  refine J_get 4 dX5_takesAnvil_64 jk5 (Nat.le_of_ble_eq_true rfl) jfRX5_25 ((hset_ne (by omega)).trans hset_eq) (by omega) rfl ?_
  refine J_iconst (v := nI 0) dX5_takesAnvil_67 (by decide +kernel) ?_
  refine J_ialdN (i := 0) dX5_takesAnvil_68 hset_eq (by omega) (by omega) (by omega) ?_
  refine J_aload_n dX5_takesAnvil_69 rfl ?_
  refine J_get 4 dX5_takesAnvil_70 jk5 (Nat.le_of_ble_eq_true rfl) jfRX5_25 ((hset_ne (by omega)).trans hset_eq) (by omega) rfl ?_
  refine J_iconst (v := nI 1) dX5_takesAnvil_73 (by decide +kernel) ?_
  refine J_ialdN (i := 1) dX5_takesAnvil_74 hset_eq (by omega) (by omega) (by omega) ?_
  refine J_aload_n dX5_takesAnvil_75 rfl ?_
  refine J_get 4 dX5_takesAnvil_76 jk5 (Nat.le_of_ble_eq_true rfl) jfRX5_25 ((hset_ne (by omega)).trans hset_eq) (by omega) rfl ?_
  refine J_iconst (v := nI 2) dX5_takesAnvil_79 (by decide +kernel) ?_
  refine J_ialdN (i := 2) dX5_takesAnvil_80 hset_eq (by omega) (by omega) (by omega) ?_
  refine J_aload_n dX5_takesAnvil_81 rfl ?_
  refine J_get 4 dX5_takesAnvil_82 jk5 (Nat.le_of_ble_eq_true rfl) jfRX5_25 ((hset_ne (by omega)).trans hset_eq) (by omega) rfl ?_
  refine J_iconst (v := nI 3) dX5_takesAnvil_85 (by decide +kernel) ?_
  refine J_ialdN (i := 3) dX5_takesAnvil_86 hset_eq (by omega) (by omega) (by omega) ?_
  refine J_aload_n dX5_takesAnvil_87 rfl ?_
  refine J_get 4 dX5_takesAnvil_88 jk5 (Nat.le_of_ble_eq_true rfl) jfRX5_25 ((hset_ne (by omega)).trans hset_eq) (by omega) rfl ?_
  refine J_iconst (v := nI 4) dX5_takesAnvil_91 (by decide +kernel) ?_
  refine J_ialdN (i := 4) dX5_takesAnvil_92 hset_eq (by omega) (by omega) (by omega) ?_
  refine J_callVr (M' := mX6_join) (d' := (2, 0, 0)) (rest := []) dX5_takesAnvil_93 jmX6_join jlRX5_130 (ctX6_join 12 ((updN (updN (updN (updN (updN NU 0 (VX (cu + 1))) 1 (VX ((cu + 1) + 1))) 2 (VX (((cu + 1) + 1) + 1))) 3 (VX ((((cu + 1) + 1) + 1) + 1))) 4 (VX (((((cu + 1) + 1) + 1) + 1) + 1))) 0) ((updN (updN (updN (updN (updN NU 0 (VX (cu + 1))) 1 (VX ((cu + 1) + 1))) 2 (VX (((cu + 1) + 1) + 1))) 3 (VX ((((cu + 1) + 1) + 1) + 1))) 4 (VX (((((cu + 1) + 1) + 1) + 1) + 1))) 1) ((updN (updN (updN (updN (updN NU 0 (VX (cu + 1))) 1 (VX ((cu + 1) + 1))) 2 (VX (((cu + 1) + 1) + 1))) 3 (VX ((((cu + 1) + 1) + 1) + 1))) 4 (VX (((((cu + 1) + 1) + 1) + 1) + 1))) 2) ((updN (updN (updN (updN (updN NU 0 (VX (cu + 1))) 1 (VX ((cu + 1) + 1))) 2 (VX (((cu + 1) + 1) + 1))) 3 (VX ((((cu + 1) + 1) + 1) + 1))) 4 (VX (((((cu + 1) + 1) + 1) + 1) + 1))) 3) ((updN (updN (updN (updN (updN NU 0 (VX (cu + 1))) 1 (VX ((cu + 1) + 1))) 2 (VX (((cu + 1) + 1) + 1))) 3 (VX ((((cu + 1) + 1) + 1) + 1))) 4 (VX (((((cu + 1) + 1) + 1) + 1) + 1))) 4) an td gr K M ps ((hset_ne (by omega)).trans ((hset_ne (by omega)).trans H5)) ((hset_ne (by omega)).trans ((hset_ne (by omega)).trans H6)) ((hset_ne (by omega)).trans ((hset_ne (by omega)).trans H7)) ((hset_ne (by omega)).trans ((hset_ne (by omega)).trans H8)) (by omega) (by first | assumption | omega)) ((hset_ne (by omega)).trans ((hset_ne (by omega)).trans H5)) (by omega) jk6.1 rfl rfl (Nat.le_of_ble_eq_true rfl) (Nat.le_of_ble_eq_true rfl) ⟨Nat.le_refl _, Nat.le_refl _⟩ ?_
  refine J_pop dX5_takesAnvil_96 rfl ?_
  refine J_iconst (v := nI 1) dX5_takesAnvil_97 (by decide +kernel) ?_
  exact J_zret dX5_takesAnvil_98 rfl rfl ⟨Nat.le_refl _, Nat.le_refl _⟩ (by rw [hPP]; exact ⟨rfl, rfl, (updN (updN (updN (updN (updN NU 0 (VX (cu + 1))) 1 (VX ((cu + 1) + 1))) 2 (VX (((cu + 1) + 1) + 1))) 3 (VX ((((cu + 1) + 1) + 1) + 1))) 4 (VX (((((cu + 1) + 1) + 1) + 1) + 1))), ((show (hset (hset (hset (hset (hset (hset h 24 (.inr (4, [.ref (E.1 + 25), .ref (E.1 + 26), .ref (E.1 + 27), .ref (E.1 + 28), .ref (E.1 + 29), .int (nI sz), .int (nI tk), .int (nI (((((cu + 1) + 1) + 1) + 1) + 1))]))) 29 (cI E 5 (nF (updN (updN (updN (updN (updN NU 0 (VX (cu + 1))) 1 (VX ((cu + 1) + 1))) 2 (VX (((cu + 1) + 1) + 1))) 3 (VX ((((cu + 1) + 1) + 1) + 1))) 4 (VX (((((cu + 1) + 1) + 1) + 1) + 1)))))) 12 (.inr (5, [.ref (E.1 + 13), .ref (E.1 + 14), .ref (E.1 + 15), .ref (E.1 + 17), .ref (E.1 + 19), .int (nI (an + 1)), .int (nI td), .int (nI gr)]))) 13 (cI E 4 (nF (updN K an ((updN (updN (updN (updN (updN NU 0 (VX (cu + 1))) 1 (VX ((cu + 1) + 1))) 2 (VX (((cu + 1) + 1) + 1))) 3 (VX ((((cu + 1) + 1) + 1) + 1))) 4 (VX (((((cu + 1) + 1) + 1) + 1) + 1))) 0))))) 14 (cI E 16 (nF (joinM M an ((updN (updN (updN (updN (updN NU 0 (VX (cu + 1))) 1 (VX ((cu + 1) + 1))) 2 (VX (((cu + 1) + 1) + 1))) 3 (VX ((((cu + 1) + 1) + 1) + 1))) 4 (VX (((((cu + 1) + 1) + 1) + 1) + 1))) 1) ((updN (updN (updN (updN (updN NU 0 (VX (cu + 1))) 1 (VX ((cu + 1) + 1))) 2 (VX (((cu + 1) + 1) + 1))) 3 (VX ((((cu + 1) + 1) + 1) + 1))) 4 (VX (((((cu + 1) + 1) + 1) + 1) + 1))) 2) ((updN (updN (updN (updN (updN NU 0 (VX (cu + 1))) 1 (VX ((cu + 1) + 1))) 2 (VX (((cu + 1) + 1) + 1))) 3 (VX ((((cu + 1) + 1) + 1) + 1))) 4 (VX (((((cu + 1) + 1) + 1) + 1) + 1))) 3) ((updN (updN (updN (updN (updN NU 0 (VX (cu + 1))) 1 (VX ((cu + 1) + 1))) 2 (VX (((cu + 1) + 1) + 1))) 3 (VX ((((cu + 1) + 1) + 1) + 1))) 4 (VX (((((cu + 1) + 1) + 1) + 1) + 1))) 4))))) 19 (.inr (1, [.ref (E.1 + 20), .ref (E.1 + 21), .ref (E.1 + 22), .int (nI 0)]))) = (hset (hset (hset (hset (hset (hset h 24 (.inr (4, [.ref (E.1 + 25), .ref (E.1 + 26), .ref (E.1 + 27), .ref (E.1 + 28), .ref (E.1 + 29), .int (nI sz), .int (nI tk), .int (nI (((((cu + 1) + 1) + 1) + 1) + 1))]))) 29 (cI E 5 (nF (updN (updN (updN (updN (updN NU 0 (VX (cu + 1))) 1 (VX ((cu + 1) + 1))) 2 (VX (((cu + 1) + 1) + 1))) 3 (VX ((((cu + 1) + 1) + 1) + 1))) 4 (VX (((((cu + 1) + 1) + 1) + 1) + 1)))))) 13 (cI E 4 (nF (updN K an ((updN (updN (updN (updN (updN NU 0 (VX (cu + 1))) 1 (VX ((cu + 1) + 1))) 2 (VX (((cu + 1) + 1) + 1))) 3 (VX ((((cu + 1) + 1) + 1) + 1))) 4 (VX (((((cu + 1) + 1) + 1) + 1) + 1))) 0))))) 14 (cI E 16 (nF (joinM M an ((updN (updN (updN (updN (updN NU 0 (VX (cu + 1))) 1 (VX ((cu + 1) + 1))) 2 (VX (((cu + 1) + 1) + 1))) 3 (VX ((((cu + 1) + 1) + 1) + 1))) 4 (VX (((((cu + 1) + 1) + 1) + 1) + 1))) 1) ((updN (updN (updN (updN (updN NU 0 (VX (cu + 1))) 1 (VX ((cu + 1) + 1))) 2 (VX (((cu + 1) + 1) + 1))) 3 (VX ((((cu + 1) + 1) + 1) + 1))) 4 (VX (((((cu + 1) + 1) + 1) + 1) + 1))) 2) ((updN (updN (updN (updN (updN NU 0 (VX (cu + 1))) 1 (VX ((cu + 1) + 1))) 2 (VX (((cu + 1) + 1) + 1))) 3 (VX ((((cu + 1) + 1) + 1) + 1))) 4 (VX (((((cu + 1) + 1) + 1) + 1) + 1))) 3) ((updN (updN (updN (updN (updN NU 0 (VX (cu + 1))) 1 (VX ((cu + 1) + 1))) 2 (VX (((cu + 1) + 1) + 1))) 3 (VX ((((cu + 1) + 1) + 1) + 1))) 4 (VX (((((cu + 1) + 1) + 1) + 1) + 1))) 4))))) 12 (.inr (5, [.ref (E.1 + 13), .ref (E.1 + 14), .ref (E.1 + 15), .ref (E.1 + 17), .ref (E.1 + 19), .int (nI (an + 1)), .int (nI td), .int (nI gr)]))) 19 (.inr (1, [.ref (E.1 + 20), .ref (E.1 + 21), .ref (E.1 + 22), .int (nI 0)]))) by funext z; simp only [hset]; (repeat' split) <;> first | rfl | (exfalso; omega) | (subst_vars; first | exact rfl)).trans (hset_cg (hset_cg (hset_cg (hset_cg (hset_cg (hset_cg rfl (congrArg (fun z => (Sum.inr (4, z) : va_E)) (jS_c rfl (jS_c rfl (jS_c rfl (jS_c rfl (jS_c rfl (jS_c rfl (jS_c rfl (jS_c (jv_N (by rfl)) rfl)))))))))) rfl) (cI_cg (by intro z; rfl))) (cI_cg (by intro z; rfl))) rfl) rfl))⟩)

set_option maxHeartbeats 1000000 in
set_option maxRecDepth 100000 in
theorem ctX5_takesWork {E : jE} {h : Nat → va_E} {n : Nat} (sz : Nat) (tk : Nat) (cu : Nat) (SO : Nat → Nat) (ST : Nat → Nat) (t : Nat) (KX : Nat → Nat) (SX : Nat → Nat) (VX : Nat → Nat) (VL : Nat → Int32) (an : Nat) (td : Nat) (gr : Nat) (K : Nat → Nat) (M : Nat → Nat) (H0 : h 24 = .inr (4, [.ref (E.1 + 25), .ref (E.1 + 26), .ref (E.1 + 27), .ref (E.1 + 28), .ref (E.1 + 29), .int (nI sz), .int (nI tk), .int (nI cu)])) (H1 : h 26 = cI E 151 (nF SO)) (H2 : h 27 = cI E 151 (nF ST)) (H3 : h 28 = cI E 151 VL) (H4 : h 12 = .inr (5, [.ref (E.1 + 13), .ref (E.1 + 14), .ref (E.1 + 15), .ref (E.1 + 17), .ref (E.1 + 19), .int (nI an), .int (nI td), .int (nI gr)])) (H5 : h 13 = cI E 4 (nF K)) (H6 : h 14 = cI E 16 (nF M)) (hn : 38 ≤ n) (hS : strm KX SX VX t SO ST VL) (htk : tk = t + 1) (ht150 : t ≤ 150) (hcu : cu < t) (hK : ∀ zz, K zz ≤ 5) (hM : ∀ zz, M zz ≤ 20) (hn4 : an ≤ 4) (hok : wrkOK KX VX an cu) : jC E mX5_takesWork (3, 0, 0) [.ref (E.1 + 24), .ref (E.1 + 12)] h n (jR (some (.int (nI 1))) (hset (hset h 24 (.inr (4, [.ref (E.1 + 25), .ref (E.1 + 26), .ref (E.1 + 27), .ref (E.1 + 28), .ref (E.1 + 29), .int (nI sz), .int (nI tk), .int (nI (cu + 1 + 1 + 1))]))) (12 + 2) (cI E 16 (nF (addMN K M (VX (cu + 1)) (VX (cu + 1 + 1)) (VX (cu + 1 + 1 + 1)))))) n) := by
  refine J.of (L := [(0, .ref (E.1 + 24)), (1, .ref (E.1 + 12))]) rfl (by decide +kernel) (Nat.le_of_ble_eq_true rfl) ?_
  obtain ⟨PP, hPP⟩ : ∃ PP : jPost, PP = (jR (some (.int (nI 1))) (hset (hset h 24 (.inr (4, [.ref (E.1 + 25), .ref (E.1 + 26), .ref (E.1 + 27), .ref (E.1 + 28), .ref (E.1 + 29), .int (nI sz), .int (nI tk), .int (nI (cu + 1 + 1 + 1))]))) (12 + 2) (cI E 16 (nF (addMN K M (VX (cu + 1)) (VX (cu + 1 + 1)) (VX (cu + 1 + 1 + 1)))))) n) := ⟨_, rfl⟩
  rw [← hPP]
  obtain ⟨⟨a1, b1⟩, ⟨a2, b2⟩, ⟨a3, b3⟩, b4⟩ := id hok
  refine J_aload_n dX5_takesWork_0 rfl ?_
  refine J_iconst (v := nI 0) dX5_takesWork_1 (by decide +kernel) ?_
  refine J_aload_n dX5_takesWork_2 rfl ?_
  refine J_get 5 dX5_takesWork_3 jk6 (Nat.le_of_ble_eq_true rfl) jfRX5_127 H4 (by omega) rfl ?_
  refine J_iconst (v := nI 1) dX5_takesWork_6 (by decide +kernel) ?_
  refine J_isubN dX5_takesWork_7 (by omega) ?_
  refine J_callVr (M' := mX5_takesNumber) (d' := (2, 0, 0)) (rest := []) dX5_takesWork_8 jmX5_takesNumber jlRX5_90 (ctX5_takesNumber 0 (an - 1) sz tk cu SO ST t KX SX VX VL H0 H1 H2 H3 (by omega) (by first | assumption | omega) (by first | assumption | omega) (by first | assumption | omega) (by first | omega | exact strm_lt hS (by omega) (by omega)) (by first | assumption | omega) (by first | assumption | omega)) H0 (by omega) jk5.1 rfl rfl (Nat.le_of_ble_eq_true rfl) (Nat.le_of_ble_eq_true rfl) ⟨Nat.le_refl _, Nat.le_refl _⟩ ?_
  refine J_if_neB (tgt := 16) dX5_takesWork_11 (by decide) (fun c1 => ?_) (fun c1 => (by exfalso; omega))
  have hl := strm_lt hS (z := cu + 1) (by omega) (by omega)
  refine J_aload_n dX5_takesWork_16 rfl ?_
  refine J_get 3 dX5_takesWork_17 jk5 (Nat.le_of_ble_eq_true rfl) jfRX5_22 hset_eq (by omega) rfl ?_
  refine J_aload_n dX5_takesWork_20 rfl ?_
  refine J_get 7 dX5_takesWork_21 jk5 (Nat.le_of_ble_eq_true rfl) jfRX5_83 hset_eq (by omega) rfl ?_
  refine J_ialdF (i := cu + 1) dX5_takesWork_24 ((hset_ne (by omega)).trans H3) (by omega) (by omega) (by omega) ?_
  refine J.stk (st' := [.int (nI (VX (cu + 1)))]) (congrArg (fun z => Value.int z :: []) (by exact ((hS.1 (cu + 1) (by omega)).2.2.1 (by omega)).1)) ?_
  refine J_istore_n dX5_takesWork_25 (Nat.le_of_ble_eq_true rfl) (L' := [(2, .int (nI (VX (cu + 1)))), (0, .ref (E.1 + 24)), (1, .ref (E.1 + 12))]) rfl ?_
  refine J_aload_n dX5_takesWork_26 rfl ?_
  refine J_iconst (v := nI 0) dX5_takesWork_27 (by decide +kernel) ?_
  refine J_iconst (v := nI 3) dX5_takesWork_28 (by decide +kernel) ?_
  refine J_callVr (M' := mX5_takesNumber) (d' := (2, 0, 0)) (rest := []) dX5_takesWork_29 jmX5_takesNumber jlRX5_90 (ctX5_takesNumber 0 3 sz tk (cu + 1) SO ST t KX SX VX VL hset_eq ((hset_ne (by omega)).trans H1) ((hset_ne (by omega)).trans H2) ((hset_ne (by omega)).trans H3) (by omega) (by first | assumption | omega) (by first | assumption | omega) (by first | assumption | omega) (by first | omega | exact strm_lt hS (by omega) (by omega)) (by first | assumption | omega) (by first | assumption | omega)) hset_eq (by omega) jk5.1 rfl rfl (Nat.le_of_ble_eq_true rfl) (Nat.le_of_ble_eq_true rfl) ⟨Nat.le_refl _, Nat.le_refl _⟩ ?_
  refine J.cast hset_hset ?_
  refine J_if_neB (tgt := 37) dX5_takesWork_32 (by decide) (fun c2 => ?_) (fun c2 => (by exfalso; omega))
  have hl := strm_lt hS (z := (cu + 1) + 1) (by omega) (by omega)
  refine J_aload_n dX5_takesWork_37 rfl ?_
  refine J_get 3 dX5_takesWork_38 jk5 (Nat.le_of_ble_eq_true rfl) jfRX5_22 hset_eq (by omega) rfl ?_
  refine J_aload_n dX5_takesWork_41 rfl ?_
  refine J_get 7 dX5_takesWork_42 jk5 (Nat.le_of_ble_eq_true rfl) jfRX5_83 hset_eq (by omega) rfl ?_
  refine J_ialdF (i := (cu + 1) + 1) dX5_takesWork_45 ((hset_ne (by omega)).trans H3) (by omega) (by omega) (by omega) ?_
  refine J.stk (st' := [.int (nI (VX ((cu + 1) + 1)))]) (congrArg (fun z => Value.int z :: []) (by exact ((hS.1 ((cu + 1) + 1) (by omega)).2.2.1 (by omega)).1)) ?_
  refine J_istore_n dX5_takesWork_46 (Nat.le_of_ble_eq_true rfl) (L' := [(3, .int (nI (VX ((cu + 1) + 1)))), (2, .int (nI (VX (cu + 1)))), (0, .ref (E.1 + 24)), (1, .ref (E.1 + 12))]) rfl ?_
  refine J_aload_n dX5_takesWork_47 rfl ?_
  refine J_iconst (v := nI 1) dX5_takesWork_48 (by decide +kernel) ?_
  refine J_iconst (v := nI 5) dX5_takesWork_49 (by decide +kernel) ?_
  refine J_callVr (M' := mX5_takesNumber) (d' := (2, 0, 0)) (rest := []) dX5_takesWork_50 jmX5_takesNumber jlRX5_90 (ctX5_takesNumber 1 5 sz tk ((cu + 1) + 1) SO ST t KX SX VX VL hset_eq ((hset_ne (by omega)).trans H1) ((hset_ne (by omega)).trans H2) ((hset_ne (by omega)).trans H3) (by omega) (by first | assumption | omega) (by first | assumption | omega) (by first | assumption | omega) (by first | omega | exact strm_lt hS (by omega) (by omega)) (by first | assumption | omega) (by first | assumption | omega)) hset_eq (by omega) jk5.1 rfl rfl (Nat.le_of_ble_eq_true rfl) (Nat.le_of_ble_eq_true rfl) ⟨Nat.le_refl _, Nat.le_refl _⟩ ?_
  refine J.cast hset_hset ?_
  refine J_if_neB (tgt := 58) dX5_takesWork_53 (by decide) (fun c3 => ?_) (fun c3 => (by exfalso; omega))
  have hl := strm_lt hS (z := ((cu + 1) + 1) + 1) (by omega) (by omega)
  refine J_aload_n dX5_takesWork_58 rfl ?_
  refine J_iload_n dX5_takesWork_59 rfl ?_
  refine J_iload_n dX5_takesWork_60 rfl ?_
  refine J_aload_n dX5_takesWork_61 rfl ?_
  refine J_get 3 dX5_takesWork_62 jk5 (Nat.le_of_ble_eq_true rfl) jfRX5_22 hset_eq (by omega) rfl ?_
  refine J_aload_n dX5_takesWork_65 rfl ?_
  refine J_get 7 dX5_takesWork_66 jk5 (Nat.le_of_ble_eq_true rfl) jfRX5_83 hset_eq (by omega) rfl ?_
  refine J_ialdF (i := ((cu + 1) + 1) + 1) dX5_takesWork_69 ((hset_ne (by omega)).trans H3) (by omega) (by omega) (by omega) ?_
  refine J.stk (st' := [.int (nI (VX (((cu + 1) + 1) + 1))), .int (nI (VX ((cu + 1) + 1))), .int (nI (VX (cu + 1))), .ref (E.1 + 12)]) (congrArg (fun z => Value.int z :: [.int (nI (VX ((cu + 1) + 1))), .int (nI (VX (cu + 1))), .ref (E.1 + 12)]) (by exact ((hS.1 (((cu + 1) + 1) + 1) (by omega)).2.2.1 (by omega)).1)) ?_
  refine J_callVn (M' := mX6_addMemory) (d' := (2, 0, 0)) (rest := []) dX5_takesWork_70 jmX6_addMemory jlRX5_134 (ctX6_addMemory 12 (VX (cu + 1)) (VX ((cu + 1) + 1)) (VX (((cu + 1) + 1) + 1)) an td gr K M ((hset_ne (by omega)).trans H4) ((hset_ne (by omega)).trans H5) ((hset_ne (by omega)).trans H6) (by omega) (by first | assumption | omega) (by first | assumption | omega) (by first | assumption | omega) (by first | assumption | omega) (by first | assumption | omega)) ((hset_ne (by omega)).trans H4) (by omega) jk6.1 rfl rfl (Nat.le_of_ble_eq_true rfl) (Nat.le_of_ble_eq_true rfl) ⟨Nat.le_refl _, Nat.le_refl _⟩ ?_
  refine J_iconst (v := nI 1) dX5_takesWork_73 (by decide +kernel) ?_
  exact J_zret dX5_takesWork_74 rfl rfl ⟨Nat.le_refl _, Nat.le_refl _⟩ (by rw [hPP]; exact ⟨rfl, (hset_cg (hset_cg rfl (congrArg (fun z => (Sum.inr (4, z) : va_E)) (jS_c rfl (jS_c rfl (jS_c rfl (jS_c rfl (jS_c rfl (jS_c rfl (jS_c rfl (jS_c (jv_N (by rfl)) rfl)))))))))) (cI_cg (by intro z; rfl))), rfl⟩)

set_option maxHeartbeats 1000000 in
set_option maxRecDepth 100000 in
theorem ctX5_takesWork_no {E : jE} {h : Nat → va_E} {n : Nat} (sz : Nat) (tk : Nat) (cu : Nat) (SO : Nat → Nat) (ST : Nat → Nat) (t : Nat) (KX : Nat → Nat) (SX : Nat → Nat) (VX : Nat → Nat) (VL : Nat → Int32) (an : Nat) (td : Nat) (gr : Nat) (K : Nat → Nat) (M : Nat → Nat) (H0 : h 24 = .inr (4, [.ref (E.1 + 25), .ref (E.1 + 26), .ref (E.1 + 27), .ref (E.1 + 28), .ref (E.1 + 29), .int (nI sz), .int (nI tk), .int (nI cu)])) (H1 : h 26 = cI E 151 (nF SO)) (H2 : h 27 = cI E 151 (nF ST)) (H3 : h 28 = cI E 151 VL) (H4 : h 12 = .inr (5, [.ref (E.1 + 13), .ref (E.1 + 14), .ref (E.1 + 15), .ref (E.1 + 17), .ref (E.1 + 19), .int (nI an), .int (nI td), .int (nI gr)])) (H5 : h 13 = cI E 4 (nF K)) (H6 : h 14 = cI E 16 (nF M)) (hn : 38 ≤ n) (hS : strm KX SX VX t SO ST VL) (htk : tk = t + 1) (ht150 : t ≤ 150) (hcu : cu < t) (hK : ∀ zz, K zz ≤ 5) (hM : ∀ zz, M zz ≤ 20) (hn4 : an ≤ 4) (hno : ¬ wrkOK KX VX an cu) : jC E mX5_takesWork (3, 0, 0) [.ref (E.1 + 24), .ref (E.1 + 12)] h n (jR (some (.int (nI 0))) (hset h 24 (.inr (4, [.ref (E.1 + 25), .ref (E.1 + 26), .ref (E.1 + 27), .ref (E.1 + 28), .ref (E.1 + 29), .int (nI sz), .int (nI tk), .int (nI (wrkJ KX VX an cu))]))) n) := by
  refine J.of (L := [(0, .ref (E.1 + 24)), (1, .ref (E.1 + 12))]) rfl (by decide +kernel) (Nat.le_of_ble_eq_true rfl) ?_
  obtain ⟨PP, hPP⟩ : ∃ PP : jPost, PP = (jR (some (.int (nI 0))) (hset h 24 (.inr (4, [.ref (E.1 + 25), .ref (E.1 + 26), .ref (E.1 + 27), .ref (E.1 + 28), .ref (E.1 + 29), .int (nI sz), .int (nI tk), .int (nI (wrkJ KX VX an cu))]))) n) := ⟨_, rfl⟩
  rw [← hPP]
  have sp1 : (an = 0) ∨ (1 ≤ an) := by omega
  rcases sp1 with sp1 | sp1
  · skip
    refine J_aload_n dX5_takesWork_0 rfl ?_
    refine J_iconst (v := nI 0) dX5_takesWork_1 (by decide +kernel) ?_
    refine J_aload_n dX5_takesWork_2 rfl ?_
    refine J_get 5 dX5_takesWork_3 jk6 (Nat.le_of_ble_eq_true rfl) jfRX5_127 H4 (by omega) rfl ?_
    refine J_iconst (v := nI 1) dX5_takesWork_6 (by decide +kernel) ?_
    refine J_isub dX5_takesWork_7 ?_
    refine J_callVr (M' := mX5_takesNumber) (d' := (2, 0, 0)) (rest := []) dX5_takesWork_8 jmX5_takesNumber jlRX5_90 (ctX5_takesNumber_neg ((nI an) - (nI 1)) sz tk cu SO ST t KX SX VX VL H0 H1 H2 H3 (by omega) (by first | assumption | omega) (by first | assumption | omega) (by first | assumption | omega) (by first | omega | exact strm_lt hS (by omega) (by omega)) (by rw [show an = 0 by omega]; decide +kernel)) H0 (by omega) jk5.1 rfl rfl (Nat.le_of_ble_eq_true rfl) (Nat.le_of_ble_eq_true rfl) ⟨Nat.le_refl _, Nat.le_refl _⟩ ?_
    refine J_if_neN (tgt := 16) dX5_takesWork_11 (by decide) (by omega) (fun z => absurd z (by decide)) (fun _ => ?_)
    refine J_iconst (v := nI 0) dX5_takesWork_14 (by decide +kernel) ?_
    exact J_zret dX5_takesWork_15 rfl rfl ⟨Nat.le_refl _, Nat.le_refl _⟩ (by rw [hPP]; exact ⟨rfl, (hset_cg rfl (congrArg (fun z => (Sum.inr (4, z) : va_E)) (jS_c rfl (jS_c rfl (jS_c rfl (jS_c rfl (jS_c rfl (jS_c rfl (jS_c rfl (jS_c (jv_N (by first | rfl | exact wrkJ_1 (by omega) | exact wrkJ_2 (by omega) (by omega) | exact wrkJ_3 (by omega) (by omega))) rfl)))))))))), rfl⟩)
  · skip
    refine J_aload_n dX5_takesWork_0 rfl ?_
    refine J_iconst (v := nI 0) dX5_takesWork_1 (by decide +kernel) ?_
    refine J_aload_n dX5_takesWork_2 rfl ?_
    refine J_get 5 dX5_takesWork_3 jk6 (Nat.le_of_ble_eq_true rfl) jfRX5_127 H4 (by omega) rfl ?_
    refine J_iconst (v := nI 1) dX5_takesWork_6 (by decide +kernel) ?_
    refine J_isubN dX5_takesWork_7 (by omega) ?_
    refine J_callVr (M' := mX5_takesNumber) (d' := (2, 0, 0)) (rest := []) dX5_takesWork_8 jmX5_takesNumber jlRX5_90 (ctX5_takesNumber 0 (an - 1) sz tk cu SO ST t KX SX VX VL H0 H1 H2 H3 (by omega) (by first | assumption | omega) (by first | assumption | omega) (by first | assumption | omega) (by first | omega | exact strm_lt hS (by omega) (by omega)) (by first | assumption | omega) (by first | assumption | omega)) H0 (by omega) jk5.1 rfl rfl (Nat.le_of_ble_eq_true rfl) (Nat.le_of_ble_eq_true rfl) ⟨Nat.le_refl _, Nat.le_refl _⟩ ?_
    refine J_if_neB (tgt := 16) dX5_takesWork_11 (by decide) (fun c3 => ?_) (fun c3 => ?_)
    · skip
      have hl := strm_lt hS (z := cu + 1) (by omega) (by omega)
      refine J_aload_n dX5_takesWork_16 rfl ?_
      refine J_get 3 dX5_takesWork_17 jk5 (Nat.le_of_ble_eq_true rfl) jfRX5_22 hset_eq (by omega) rfl ?_
      refine J_aload_n dX5_takesWork_20 rfl ?_
      refine J_get 7 dX5_takesWork_21 jk5 (Nat.le_of_ble_eq_true rfl) jfRX5_83 hset_eq (by omega) rfl ?_
      refine J_ialdF (i := cu + 1) dX5_takesWork_24 ((hset_ne (by omega)).trans H3) (by omega) (by omega) (by omega) ?_
      refine J.stk (st' := [.int (nI (VX (cu + 1)))]) (congrArg (fun z => Value.int z :: []) (by exact ((hS.1 (cu + 1) (by omega)).2.2.1 (by omega)).1)) ?_
      refine J_istore_n dX5_takesWork_25 (Nat.le_of_ble_eq_true rfl) (L' := [(2, .int (nI (VX (cu + 1)))), (0, .ref (E.1 + 24)), (1, .ref (E.1 + 12))]) rfl ?_
      refine J_aload_n dX5_takesWork_26 rfl ?_
      refine J_iconst (v := nI 0) dX5_takesWork_27 (by decide +kernel) ?_
      refine J_iconst (v := nI 3) dX5_takesWork_28 (by decide +kernel) ?_
      refine J_callVr (M' := mX5_takesNumber) (d' := (2, 0, 0)) (rest := []) dX5_takesWork_29 jmX5_takesNumber jlRX5_90 (ctX5_takesNumber 0 3 sz tk (cu + 1) SO ST t KX SX VX VL hset_eq ((hset_ne (by omega)).trans H1) ((hset_ne (by omega)).trans H2) ((hset_ne (by omega)).trans H3) (by omega) (by first | assumption | omega) (by first | assumption | omega) (by first | assumption | omega) (by first | omega | exact strm_lt hS (by omega) (by omega)) (by first | assumption | omega) (by first | assumption | omega)) hset_eq (by omega) jk5.1 rfl rfl (Nat.le_of_ble_eq_true rfl) (Nat.le_of_ble_eq_true rfl) ⟨Nat.le_refl _, Nat.le_refl _⟩ ?_
      refine J.cast hset_hset ?_
      refine J_if_neB (tgt := 37) dX5_takesWork_32 (by decide) (fun c4 => ?_) (fun c4 => ?_)
      · skip
        have hl := strm_lt hS (z := (cu + 1) + 1) (by omega) (by omega)
        refine J_aload_n dX5_takesWork_37 rfl ?_
        refine J_get 3 dX5_takesWork_38 jk5 (Nat.le_of_ble_eq_true rfl) jfRX5_22 hset_eq (by omega) rfl ?_
        refine J_aload_n dX5_takesWork_41 rfl ?_
        refine J_get 7 dX5_takesWork_42 jk5 (Nat.le_of_ble_eq_true rfl) jfRX5_83 hset_eq (by omega) rfl ?_
        refine J_ialdF (i := (cu + 1) + 1) dX5_takesWork_45 ((hset_ne (by omega)).trans H3) (by omega) (by omega) (by omega) ?_
        refine J.stk (st' := [.int (nI (VX ((cu + 1) + 1)))]) (congrArg (fun z => Value.int z :: []) (by exact ((hS.1 ((cu + 1) + 1) (by omega)).2.2.1 (by omega)).1)) ?_
        refine J_istore_n dX5_takesWork_46 (Nat.le_of_ble_eq_true rfl) (L' := [(3, .int (nI (VX ((cu + 1) + 1)))), (2, .int (nI (VX (cu + 1)))), (0, .ref (E.1 + 24)), (1, .ref (E.1 + 12))]) rfl ?_
        refine J_aload_n dX5_takesWork_47 rfl ?_
        refine J_iconst (v := nI 1) dX5_takesWork_48 (by decide +kernel) ?_
        refine J_iconst (v := nI 5) dX5_takesWork_49 (by decide +kernel) ?_
        refine J_callVr (M' := mX5_takesNumber) (d' := (2, 0, 0)) (rest := []) dX5_takesWork_50 jmX5_takesNumber jlRX5_90 (ctX5_takesNumber 1 5 sz tk ((cu + 1) + 1) SO ST t KX SX VX VL hset_eq ((hset_ne (by omega)).trans H1) ((hset_ne (by omega)).trans H2) ((hset_ne (by omega)).trans H3) (by omega) (by first | assumption | omega) (by first | assumption | omega) (by first | assumption | omega) (by first | omega | exact strm_lt hS (by omega) (by omega)) (by first | assumption | omega) (by first | assumption | omega)) hset_eq (by omega) jk5.1 rfl rfl (Nat.le_of_ble_eq_true rfl) (Nat.le_of_ble_eq_true rfl) ⟨Nat.le_refl _, Nat.le_refl _⟩ ?_
        refine J.cast hset_hset ?_
        refine J_if_neB (tgt := 58) dX5_takesWork_53 (by decide) (fun c5 => ?_) (fun c5 => ?_)
        · skip
          have hl := strm_lt hS (z := ((cu + 1) + 1) + 1) (by omega) (by omega)
          exact absurd (show wrkOK KX VX an cu from ⟨⟨by omega, by omega⟩, ⟨by omega, by omega⟩, ⟨by omega, by omega⟩, by omega⟩) hno
        · skip
          refine J_iconst (v := nI 0) dX5_takesWork_56 (by decide +kernel) ?_
          exact J_zret dX5_takesWork_57 rfl rfl ⟨Nat.le_refl _, Nat.le_refl _⟩ (by rw [hPP]; exact ⟨rfl, (hset_cg rfl (congrArg (fun z => (Sum.inr (4, z) : va_E)) (jS_c rfl (jS_c rfl (jS_c rfl (jS_c rfl (jS_c rfl (jS_c rfl (jS_c rfl (jS_c (jv_N (by first | rfl | exact wrkJ_1 (by omega) | exact wrkJ_2 (by omega) (by omega) | exact wrkJ_3 (by omega) (by omega))) rfl)))))))))), rfl⟩)
      · skip
        refine J_iconst (v := nI 0) dX5_takesWork_35 (by decide +kernel) ?_
        exact J_zret dX5_takesWork_36 rfl rfl ⟨Nat.le_refl _, Nat.le_refl _⟩ (by rw [hPP]; exact ⟨rfl, (hset_cg rfl (congrArg (fun z => (Sum.inr (4, z) : va_E)) (jS_c rfl (jS_c rfl (jS_c rfl (jS_c rfl (jS_c rfl (jS_c rfl (jS_c rfl (jS_c (jv_N (by first | rfl | exact wrkJ_1 (by omega) | exact wrkJ_2 (by omega) (by omega) | exact wrkJ_3 (by omega) (by omega))) rfl)))))))))), rfl⟩)
    · skip
      refine J_iconst (v := nI 0) dX5_takesWork_14 (by decide +kernel) ?_
      exact J_zret dX5_takesWork_15 rfl rfl ⟨Nat.le_refl _, Nat.le_refl _⟩ (by rw [hPP]; exact ⟨rfl, (hset_cg rfl (congrArg (fun z => (Sum.inr (4, z) : va_E)) (jS_c rfl (jS_c rfl (jS_c rfl (jS_c rfl (jS_c rfl (jS_c rfl (jS_c rfl (jS_c (jv_N (by first | rfl | exact wrkJ_1 (by omega) | exact wrkJ_2 (by omega) (by omega) | exact wrkJ_3 (by omega) (by omega))) rfl)))))))))), rfl⟩)

set_option maxHeartbeats 1000000 in
set_option maxRecDepth 100000 in
theorem ctX5_takesItem_full {E : jE} {h : Nat → va_E} {n : Nat} (sz : Nat) (tk : Nat) (cu : Nat) (SO : Nat → Nat) (ST : Nat → Nat) (t : Nat) (KX : Nat → Nat) (SX : Nat → Nat) (VX : Nat → Nat) (VL : Nat → Int32) (NU : Nat → Nat) (an : Nat) (td : Nat) (gr : Nat) (H0 : h 24 = .inr (4, [.ref (E.1 + 25), .ref (E.1 + 26), .ref (E.1 + 27), .ref (E.1 + 28), .ref (E.1 + 29), .int (nI sz), .int (nI tk), .int (nI cu)])) (H1 : h 26 = cI E 151 (nF SO)) (H2 : h 27 = cI E 151 (nF ST)) (H3 : h 28 = cI E 151 VL) (H4 : h 29 = cI E 5 (nF NU)) (H5 : h 12 = .inr (5, [.ref (E.1 + 13), .ref (E.1 + 14), .ref (E.1 + 15), .ref (E.1 + 17), .ref (E.1 + 19), .int (nI an), .int (nI td), .int (nI gr)])) (hn : 38 ≤ n) (hS : strm KX SX VX t SO ST VL) (htk : tk = t + 1) (ht150 : t ≤ 150) (hcu : cu < t) (hk : KX cu = 2) (han : an = 4) : jC E mX5_takesItem (5, 0, 0) [.ref (E.1 + 24), .ref (E.1 + 12)] h n (jR (some (.int (nI 0))) h n) := by
  refine J.of (L := [(0, .ref (E.1 + 24)), (1, .ref (E.1 + 12))]) rfl (by decide +kernel) (Nat.le_of_ble_eq_true rfl) ?_
  obtain ⟨PP, hPP⟩ : ∃ PP : jPost, PP = (jR (some (.int (nI 0))) h n) := ⟨_, rfl⟩
  rw [← hPP]
  have h0 := hS.1 cu (by omega)
  refine J_aload_n dX5_takesItem_0 rfl ?_
  refine J_get 1 dX5_takesItem_1 jk5 (Nat.le_of_ble_eq_true rfl) jfRX5_15 H0 (by omega) rfl ?_
  refine J_aload_n dX5_takesItem_4 rfl ?_
  refine J_get 7 dX5_takesItem_5 jk5 (Nat.le_of_ble_eq_true rfl) jfRX5_83 H0 (by omega) rfl ?_
  refine J_ialdN (i := cu) dX5_takesItem_8 H1 (by omega) (by omega) (by omega) ?_
  refine J.stk (st' := [.int (nI 2)]) (congrArg (fun z => Value.int (nI z) :: []) (by omega)) ?_
  refine J_tableInN (tgt := 36) (v := 2) rfl dX5_takesItem_9 (by decide +kernel) (by decide +kernel) rfl (by decide) ?_
  refine J_aload_n dX5_takesItem_36 rfl ?_
  refine J_aload_n dX5_takesItem_37 rfl ?_
  refine J_callVr (M' := mX5_takesAnvil) (d' := (3, 0, 0)) (rest := []) dX5_takesItem_38 jmX5_takesAnvil jlRX5_118 (ctX5_takesAnvil_full sz tk cu SO ST t KX SX VX VL NU an td gr H0 H1 H2 H3 H4 H5 (by omega) (by first | assumption | omega) (by first | assumption | omega) (by first | assumption | omega) (by first | assumption | omega)) H0 (by omega) jk5.1 rfl rfl (Nat.le_of_ble_eq_true rfl) (Nat.le_of_ble_eq_true rfl) ⟨Nat.le_refl _, Nat.le_refl _⟩ ?_
  exact J_zret dX5_takesItem_41 rfl rfl ⟨Nat.le_refl _, Nat.le_refl _⟩ (by rw [hPP]; exact ⟨rfl, rfl, rfl⟩)

set_option maxHeartbeats 1000000 in
set_option maxRecDepth 100000 in
theorem ctX5_takesItem_anvN {E : jE} {h : Nat → va_E} {n : Nat} (sz : Nat) (tk : Nat) (cu : Nat) (SO : Nat → Nat) (ST : Nat → Nat) (t : Nat) (KX : Nat → Nat) (SX : Nat → Nat) (VX : Nat → Nat) (VL : Nat → Int32) (NU : Nat → Nat) (an : Nat) (td : Nat) (gr : Nat) (H0 : h 24 = .inr (4, [.ref (E.1 + 25), .ref (E.1 + 26), .ref (E.1 + 27), .ref (E.1 + 28), .ref (E.1 + 29), .int (nI sz), .int (nI tk), .int (nI cu)])) (H1 : h 26 = cI E 151 (nF SO)) (H2 : h 27 = cI E 151 (nF ST)) (H3 : h 28 = cI E 151 VL) (H4 : h 29 = cI E 5 (nF NU)) (H5 : h 12 = .inr (5, [.ref (E.1 + 13), .ref (E.1 + 14), .ref (E.1 + 15), .ref (E.1 + 17), .ref (E.1 + 19), .int (nI an), .int (nI td), .int (nI gr)])) (hn : 38 ≤ n) (hS : strm KX SX VX t SO ST VL) (htk : tk = t + 1) (ht150 : t ≤ 150) (hcu : cu < t) (hk : KX cu = 2) (han : an < 4) (hno : ¬ anvOK KX VX cu) : jC E mX5_takesItem (5, 0, 0) [.ref (E.1 + 24), .ref (E.1 + 12)] h n (fun v h' n' => v = some (.int (nI 0)) ∧ n' = n ∧ ∃ (NU1 : Nat → Nat), h' = (hset (hset h 24 (.inr (4, [.ref (E.1 + 25), .ref (E.1 + 26), .ref (E.1 + 27), .ref (E.1 + 28), .ref (E.1 + 29), .int (nI sz), .int (nI tk), .int (nI (anvJ KX VX cu))]))) 29 (cI E 5 (nF NU1)))) := by
  refine J.of (L := [(0, .ref (E.1 + 24)), (1, .ref (E.1 + 12))]) rfl (by decide +kernel) (Nat.le_of_ble_eq_true rfl) ?_
  obtain ⟨PP, hPP⟩ : ∃ PP : jPost, PP = (fun v h' n' => v = some (.int (nI 0)) ∧ n' = n ∧ ∃ (NU1 : Nat → Nat), h' = (hset (hset h 24 (.inr (4, [.ref (E.1 + 25), .ref (E.1 + 26), .ref (E.1 + 27), .ref (E.1 + 28), .ref (E.1 + 29), .int (nI sz), .int (nI tk), .int (nI (anvJ KX VX cu))]))) 29 (cI E 5 (nF NU1)))) := ⟨_, rfl⟩
  rw [← hPP]
  have h0 := hS.1 cu (by omega)
  refine J_aload_n dX5_takesItem_0 rfl ?_
  refine J_get 1 dX5_takesItem_1 jk5 (Nat.le_of_ble_eq_true rfl) jfRX5_15 H0 (by omega) rfl ?_
  refine J_aload_n dX5_takesItem_4 rfl ?_
  refine J_get 7 dX5_takesItem_5 jk5 (Nat.le_of_ble_eq_true rfl) jfRX5_83 H0 (by omega) rfl ?_
  refine J_ialdN (i := cu) dX5_takesItem_8 H1 (by omega) (by omega) (by omega) ?_
  refine J.stk (st' := [.int (nI 2)]) (congrArg (fun z => Value.int (nI z) :: []) (by omega)) ?_
  refine J_tableInN (tgt := 36) (v := 2) rfl dX5_takesItem_9 (by decide +kernel) (by decide +kernel) rfl (by decide) ?_
  refine J_aload_n dX5_takesItem_36 rfl ?_
  refine J_aload_n dX5_takesItem_37 rfl ?_
  refine J_callV (M' := mX5_takesAnvil) (d' := (3, 0, 0)) (rest := []) dX5_takesItem_38 jmX5_takesAnvil jlRX5_118 (ctX5_takesAnvil_no sz tk cu SO ST t KX SX VX VL NU an td gr H0 H1 H2 H3 H4 H5 (by omega) (by first | assumption | omega) (by first | assumption | omega) (by first | assumption | omega) (by first | assumption | omega) (by first | assumption | omega) (by first | assumption | omega)) H0 (by omega) jk5.1 rfl rfl (Nat.le_of_ble_eq_true rfl) (Nat.le_of_ble_eq_true rfl) (by constructor <;> decide +kernel) (fun v9 h9 n9 q9 => ?_)
  obtain ⟨rfl, hn9, NU1_1, rfl⟩ := q9
  replace hn9 := hn9.symm
  subst hn9
  refine J.stk (st' := [.int (nI 0)]) rfl ?_
  have fc2 : anvJ KX VX cu ≤ t := (anvJ_le (show strm KX SX VX t SO ST VL from by first | assumption | omega) (show cu < t from by first | assumption | omega))
  exact J_zret dX5_takesItem_41 rfl rfl ⟨Nat.le_refl _, Nat.le_refl _⟩ (by rw [hPP]; exact ⟨rfl, rfl, NU1_1, rfl⟩)

set_option maxHeartbeats 1000000 in
set_option maxRecDepth 100000 in
theorem ctX5_takesItem_anv {E : jE} {h : Nat → va_E} {n : Nat} (sz : Nat) (tk : Nat) (cu : Nat) (SO : Nat → Nat) (ST : Nat → Nat) (t : Nat) (KX : Nat → Nat) (SX : Nat → Nat) (VX : Nat → Nat) (VL : Nat → Int32) (NU : Nat → Nat) (an : Nat) (td : Nat) (gr : Nat) (K : Nat → Nat) (M : Nat → Nat) (ps : Nat) (H0 : h 24 = .inr (4, [.ref (E.1 + 25), .ref (E.1 + 26), .ref (E.1 + 27), .ref (E.1 + 28), .ref (E.1 + 29), .int (nI sz), .int (nI tk), .int (nI cu)])) (H1 : h 26 = cI E 151 (nF SO)) (H2 : h 27 = cI E 151 (nF ST)) (H3 : h 28 = cI E 151 VL) (H4 : h 29 = cI E 5 (nF NU)) (H5 : h 12 = .inr (5, [.ref (E.1 + 13), .ref (E.1 + 14), .ref (E.1 + 15), .ref (E.1 + 17), .ref (E.1 + 19), .int (nI an), .int (nI td), .int (nI gr)])) (H6 : h 13 = cI E 4 (nF K)) (H7 : h 14 = cI E 16 (nF M)) (H8 : h 19 = .inr (1, [.ref (E.1 + 20), .ref (E.1 + 21), .ref (E.1 + 22), .int (nI ps)])) (hn : 38 ≤ n) (hS : strm KX SX VX t SO ST VL) (htk : tk = t + 1) (ht150 : t ≤ 150) (hcu : cu < t) (hk : KX cu = 2) (han : an < 4) (hok : anvOK KX VX cu) : jC E mX5_takesItem (5, 0, 0) [.ref (E.1 + 24), .ref (E.1 + 12)] h n (fun v h' n' => v = some (.int (nI 1)) ∧ n' = n ∧ ∃ (NU1 : Nat → Nat), h' = (hset (hset (hset (hset (hset (hset h 24 (.inr (4, [.ref (E.1 + 25), .ref (E.1 + 26), .ref (E.1 + 27), .ref (E.1 + 28), .ref (E.1 + 29), .int (nI sz), .int (nI tk), .int (nI (cu + 1 + 1 + 1 + 1 + 1))]))) 29 (cI E 5 (nF NU1))) 13 (cI E 4 (nF (updN K an (VX (cu + 1)))))) 14 (cI E 16 (nF (joinM M an (VX (cu + 1 + 1)) (VX (cu + 1 + 1 + 1)) (VX (cu + 1 + 1 + 1 + 1)) (VX (cu + 1 + 1 + 1 + 1 + 1)))))) 12 (.inr (5, [.ref (E.1 + 13), .ref (E.1 + 14), .ref (E.1 + 15), .ref (E.1 + 17), .ref (E.1 + 19), .int (nI (an + 1)), .int (nI td), .int (nI gr)]))) 19 (.inr (1, [.ref (E.1 + 20), .ref (E.1 + 21), .ref (E.1 + 22), .int (nI 0)])))) := by
  refine J.of (L := [(0, .ref (E.1 + 24)), (1, .ref (E.1 + 12))]) rfl (by decide +kernel) (Nat.le_of_ble_eq_true rfl) ?_
  obtain ⟨PP, hPP⟩ : ∃ PP : jPost, PP = (fun v h' n' => v = some (.int (nI 1)) ∧ n' = n ∧ ∃ (NU1 : Nat → Nat), h' = (hset (hset (hset (hset (hset (hset h 24 (.inr (4, [.ref (E.1 + 25), .ref (E.1 + 26), .ref (E.1 + 27), .ref (E.1 + 28), .ref (E.1 + 29), .int (nI sz), .int (nI tk), .int (nI (cu + 1 + 1 + 1 + 1 + 1))]))) 29 (cI E 5 (nF NU1))) 13 (cI E 4 (nF (updN K an (VX (cu + 1)))))) 14 (cI E 16 (nF (joinM M an (VX (cu + 1 + 1)) (VX (cu + 1 + 1 + 1)) (VX (cu + 1 + 1 + 1 + 1)) (VX (cu + 1 + 1 + 1 + 1 + 1)))))) 12 (.inr (5, [.ref (E.1 + 13), .ref (E.1 + 14), .ref (E.1 + 15), .ref (E.1 + 17), .ref (E.1 + 19), .int (nI (an + 1)), .int (nI td), .int (nI gr)]))) 19 (.inr (1, [.ref (E.1 + 20), .ref (E.1 + 21), .ref (E.1 + 22), .int (nI 0)])))) := ⟨_, rfl⟩
  rw [← hPP]
  have h0 := hS.1 cu (by omega)
  refine J_aload_n dX5_takesItem_0 rfl ?_
  refine J_get 1 dX5_takesItem_1 jk5 (Nat.le_of_ble_eq_true rfl) jfRX5_15 H0 (by omega) rfl ?_
  refine J_aload_n dX5_takesItem_4 rfl ?_
  refine J_get 7 dX5_takesItem_5 jk5 (Nat.le_of_ble_eq_true rfl) jfRX5_83 H0 (by omega) rfl ?_
  refine J_ialdN (i := cu) dX5_takesItem_8 H1 (by omega) (by omega) (by omega) ?_
  refine J.stk (st' := [.int (nI 2)]) (congrArg (fun z => Value.int (nI z) :: []) (by omega)) ?_
  refine J_tableInN (tgt := 36) (v := 2) rfl dX5_takesItem_9 (by decide +kernel) (by decide +kernel) rfl (by decide) ?_
  refine J_aload_n dX5_takesItem_36 rfl ?_
  refine J_aload_n dX5_takesItem_37 rfl ?_
  refine J_callV (M' := mX5_takesAnvil) (d' := (3, 0, 0)) (rest := []) dX5_takesItem_38 jmX5_takesAnvil jlRX5_118 (ctX5_takesAnvil sz tk cu SO ST t KX SX VX VL NU an td gr K M ps H0 H1 H2 H3 H4 H5 H6 H7 H8 (by omega) (by first | assumption | omega) (by first | assumption | omega) (by first | assumption | omega) (by first | assumption | omega) (by first | assumption | omega) (by first | assumption | omega)) H0 (by omega) jk5.1 rfl rfl (Nat.le_of_ble_eq_true rfl) (Nat.le_of_ble_eq_true rfl) (by constructor <;> decide +kernel) (fun v9 h9 n9 q9 => ?_)
  obtain ⟨rfl, hn9, NU1_1, rfl⟩ := q9
  replace hn9 := hn9.symm
  subst hn9
  refine J.stk (st' := [.int (nI 1)]) rfl ?_
  exact J_zret dX5_takesItem_41 rfl rfl ⟨Nat.le_refl _, Nat.le_refl _⟩ (by rw [hPP]; exact ⟨rfl, rfl, NU1_1, rfl⟩)

set_option maxHeartbeats 1000000 in
set_option maxRecDepth 100000 in
theorem ctX5_takesItem_wrkN {E : jE} {h : Nat → va_E} {n : Nat} (sz : Nat) (tk : Nat) (cu : Nat) (SO : Nat → Nat) (ST : Nat → Nat) (t : Nat) (KX : Nat → Nat) (SX : Nat → Nat) (VX : Nat → Nat) (VL : Nat → Int32) (an : Nat) (td : Nat) (gr : Nat) (K : Nat → Nat) (M : Nat → Nat) (H0 : h 24 = .inr (4, [.ref (E.1 + 25), .ref (E.1 + 26), .ref (E.1 + 27), .ref (E.1 + 28), .ref (E.1 + 29), .int (nI sz), .int (nI tk), .int (nI cu)])) (H1 : h 26 = cI E 151 (nF SO)) (H2 : h 27 = cI E 151 (nF ST)) (H3 : h 28 = cI E 151 VL) (H4 : h 12 = .inr (5, [.ref (E.1 + 13), .ref (E.1 + 14), .ref (E.1 + 15), .ref (E.1 + 17), .ref (E.1 + 19), .int (nI an), .int (nI td), .int (nI gr)])) (H5 : h 13 = cI E 4 (nF K)) (H6 : h 14 = cI E 16 (nF M)) (hn : 38 ≤ n) (hS : strm KX SX VX t SO ST VL) (htk : tk = t + 1) (ht150 : t ≤ 150) (hcu : cu < t) (hK : ∀ zz, K zz ≤ 5) (hM : ∀ zz, M zz ≤ 20) (hn4 : an ≤ 4) (hk : KX cu = 3) (hno : ¬ wrkOK KX VX an cu) : jC E mX5_takesItem (5, 0, 0) [.ref (E.1 + 24), .ref (E.1 + 12)] h n (jR (some (.int (nI 0))) (hset h 24 (.inr (4, [.ref (E.1 + 25), .ref (E.1 + 26), .ref (E.1 + 27), .ref (E.1 + 28), .ref (E.1 + 29), .int (nI sz), .int (nI tk), .int (nI (wrkJ KX VX an cu))]))) n) := by
  refine J.of (L := [(0, .ref (E.1 + 24)), (1, .ref (E.1 + 12))]) rfl (by decide +kernel) (Nat.le_of_ble_eq_true rfl) ?_
  obtain ⟨PP, hPP⟩ : ∃ PP : jPost, PP = (jR (some (.int (nI 0))) (hset h 24 (.inr (4, [.ref (E.1 + 25), .ref (E.1 + 26), .ref (E.1 + 27), .ref (E.1 + 28), .ref (E.1 + 29), .int (nI sz), .int (nI tk), .int (nI (wrkJ KX VX an cu))]))) n) := ⟨_, rfl⟩
  rw [← hPP]
  have h0 := hS.1 cu (by omega)
  refine J_aload_n dX5_takesItem_0 rfl ?_
  refine J_get 1 dX5_takesItem_1 jk5 (Nat.le_of_ble_eq_true rfl) jfRX5_15 H0 (by omega) rfl ?_
  refine J_aload_n dX5_takesItem_4 rfl ?_
  refine J_get 7 dX5_takesItem_5 jk5 (Nat.le_of_ble_eq_true rfl) jfRX5_83 H0 (by omega) rfl ?_
  refine J_ialdN (i := cu) dX5_takesItem_8 H1 (by omega) (by omega) (by omega) ?_
  refine J.stk (st' := [.int (nI 3)]) (congrArg (fun z => Value.int (nI z) :: []) (by omega)) ?_
  refine J_tableInN (tgt := 42) (v := 3) rfl dX5_takesItem_9 (by decide +kernel) (by decide +kernel) rfl (by decide) ?_
  refine J_aload_n dX5_takesItem_42 rfl ?_
  refine J_aload_n dX5_takesItem_43 rfl ?_
  refine J_callVr (M' := mX5_takesWork) (d' := (3, 0, 0)) (rest := []) dX5_takesItem_44 jmX5_takesWork jlRX5_121 (ctX5_takesWork_no sz tk cu SO ST t KX SX VX VL an td gr K M H0 H1 H2 H3 H4 H5 H6 (by omega) (by first | assumption | omega) (by first | assumption | omega) (by first | assumption | omega) (by first | assumption | omega) (by first | assumption | omega) (by first | assumption | omega) (by first | assumption | omega) (by first | assumption | omega)) H0 (by omega) jk5.1 rfl rfl (Nat.le_of_ble_eq_true rfl) (Nat.le_of_ble_eq_true rfl) ⟨Nat.le_refl _, Nat.le_refl _⟩ ?_
  have fc1 : wrkJ KX VX an cu ≤ t := (wrkJ_le (show strm KX SX VX t SO ST VL from by first | assumption | omega) (show cu < t from by first | assumption | omega))
  exact J_zret dX5_takesItem_47 rfl rfl ⟨Nat.le_refl _, Nat.le_refl _⟩ (by rw [hPP]; exact ⟨rfl, (hset_cg rfl (congrArg (fun z => (Sum.inr (4, z) : va_E)) (jS_c rfl (jS_c rfl (jS_c rfl (jS_c rfl (jS_c rfl (jS_c rfl (jS_c rfl (jS_c (jv_N (by omega)) rfl)))))))))), rfl⟩)

set_option maxHeartbeats 1000000 in
set_option maxRecDepth 100000 in
theorem ctX5_takesItem_wrk {E : jE} {h : Nat → va_E} {n : Nat} (sz : Nat) (tk : Nat) (cu : Nat) (SO : Nat → Nat) (ST : Nat → Nat) (t : Nat) (KX : Nat → Nat) (SX : Nat → Nat) (VX : Nat → Nat) (VL : Nat → Int32) (an : Nat) (td : Nat) (gr : Nat) (K : Nat → Nat) (M : Nat → Nat) (H0 : h 24 = .inr (4, [.ref (E.1 + 25), .ref (E.1 + 26), .ref (E.1 + 27), .ref (E.1 + 28), .ref (E.1 + 29), .int (nI sz), .int (nI tk), .int (nI cu)])) (H1 : h 26 = cI E 151 (nF SO)) (H2 : h 27 = cI E 151 (nF ST)) (H3 : h 28 = cI E 151 VL) (H4 : h 12 = .inr (5, [.ref (E.1 + 13), .ref (E.1 + 14), .ref (E.1 + 15), .ref (E.1 + 17), .ref (E.1 + 19), .int (nI an), .int (nI td), .int (nI gr)])) (H5 : h 13 = cI E 4 (nF K)) (H6 : h 14 = cI E 16 (nF M)) (hn : 38 ≤ n) (hS : strm KX SX VX t SO ST VL) (htk : tk = t + 1) (ht150 : t ≤ 150) (hcu : cu < t) (hK : ∀ zz, K zz ≤ 5) (hM : ∀ zz, M zz ≤ 20) (hn4 : an ≤ 4) (hk : KX cu = 3) (hok : wrkOK KX VX an cu) : jC E mX5_takesItem (5, 0, 0) [.ref (E.1 + 24), .ref (E.1 + 12)] h n (jR (some (.int (nI 1))) (hset (hset h 24 (.inr (4, [.ref (E.1 + 25), .ref (E.1 + 26), .ref (E.1 + 27), .ref (E.1 + 28), .ref (E.1 + 29), .int (nI sz), .int (nI tk), .int (nI (cu + 1 + 1 + 1))]))) (12 + 2) (cI E 16 (nF (addMN K M (VX (cu + 1)) (VX (cu + 1 + 1)) (VX (cu + 1 + 1 + 1)))))) n) := by
  refine J.of (L := [(0, .ref (E.1 + 24)), (1, .ref (E.1 + 12))]) rfl (by decide +kernel) (Nat.le_of_ble_eq_true rfl) ?_
  obtain ⟨PP, hPP⟩ : ∃ PP : jPost, PP = (jR (some (.int (nI 1))) (hset (hset h 24 (.inr (4, [.ref (E.1 + 25), .ref (E.1 + 26), .ref (E.1 + 27), .ref (E.1 + 28), .ref (E.1 + 29), .int (nI sz), .int (nI tk), .int (nI (cu + 1 + 1 + 1))]))) (12 + 2) (cI E 16 (nF (addMN K M (VX (cu + 1)) (VX (cu + 1 + 1)) (VX (cu + 1 + 1 + 1)))))) n) := ⟨_, rfl⟩
  rw [← hPP]
  have h0 := hS.1 cu (by omega)
  refine J_aload_n dX5_takesItem_0 rfl ?_
  refine J_get 1 dX5_takesItem_1 jk5 (Nat.le_of_ble_eq_true rfl) jfRX5_15 H0 (by omega) rfl ?_
  refine J_aload_n dX5_takesItem_4 rfl ?_
  refine J_get 7 dX5_takesItem_5 jk5 (Nat.le_of_ble_eq_true rfl) jfRX5_83 H0 (by omega) rfl ?_
  refine J_ialdN (i := cu) dX5_takesItem_8 H1 (by omega) (by omega) (by omega) ?_
  refine J.stk (st' := [.int (nI 3)]) (congrArg (fun z => Value.int (nI z) :: []) (by omega)) ?_
  refine J_tableInN (tgt := 42) (v := 3) rfl dX5_takesItem_9 (by decide +kernel) (by decide +kernel) rfl (by decide) ?_
  refine J_aload_n dX5_takesItem_42 rfl ?_
  refine J_aload_n dX5_takesItem_43 rfl ?_
  refine J_callVr (M' := mX5_takesWork) (d' := (3, 0, 0)) (rest := []) dX5_takesItem_44 jmX5_takesWork jlRX5_121 (ctX5_takesWork sz tk cu SO ST t KX SX VX VL an td gr K M H0 H1 H2 H3 H4 H5 H6 (by omega) (by first | assumption | omega) (by first | assumption | omega) (by first | assumption | omega) (by first | assumption | omega) (by first | assumption | omega) (by first | assumption | omega) (by first | assumption | omega) (by first | assumption | omega)) H0 (by omega) jk5.1 rfl rfl (Nat.le_of_ble_eq_true rfl) (Nat.le_of_ble_eq_true rfl) ⟨Nat.le_refl _, Nat.le_refl _⟩ ?_
  exact J_zret dX5_takesItem_47 rfl rfl ⟨Nat.le_refl _, Nat.le_refl _⟩ (by rw [hPP]; exact ⟨rfl, rfl, rfl⟩)

set_option maxHeartbeats 1000000 in
set_option maxRecDepth 100000 in
theorem ctX5_takesItem_day {E : jE} {h : Nat → va_E} {n : Nat} (sz : Nat) (tk : Nat) (cu : Nat) (SO : Nat → Nat) (ST : Nat → Nat) (t : Nat) (KX : Nat → Nat) (SX : Nat → Nat) (VX : Nat → Nat) (VL : Nat → Int32) (an : Nat) (td : Nat) (gr : Nat) (K : Nat → Nat) (M : Nat → Nat) (H0 : h 24 = .inr (4, [.ref (E.1 + 25), .ref (E.1 + 26), .ref (E.1 + 27), .ref (E.1 + 28), .ref (E.1 + 29), .int (nI sz), .int (nI tk), .int (nI cu)])) (H1 : h 26 = cI E 151 (nF SO)) (H2 : h 27 = cI E 151 (nF ST)) (H3 : h 28 = cI E 151 VL) (H4 : h 12 = .inr (5, [.ref (E.1 + 13), .ref (E.1 + 14), .ref (E.1 + 15), .ref (E.1 + 17), .ref (E.1 + 19), .int (nI an), .int (nI td), .int (nI gr)])) (H5 : h 13 = cI E 4 (nF K)) (H6 : h 14 = cI E 16 (nF M)) (hn : 38 ≤ n) (hS : strm KX SX VX t SO ST VL) (htk : tk = t + 1) (ht150 : t ≤ 150) (hcu : cu < t) (hK : ∀ zz, K zz ≤ 5) (hM : ∀ zz, M zz ≤ 20) (hn4 : an ≤ 4) (hk : KX cu = 4) (htd : td ≤ 998) : jC E mX5_takesItem (5, 0, 0) [.ref (E.1 + 24), .ref (E.1 + 12)] h n (jR (some (.int (nI 1))) (hset (hset h (12 + 2) (cI E 16 (nF (dayN K M an td)))) 12 (.inr (5, [.ref (E.1 + 13), .ref (E.1 + 14), .ref (E.1 + 15), .ref (E.1 + 17), .ref (E.1 + 19), .int (nI an), .int (nI (td + 1)), .int (nI gr)]))) n) := by
  refine J.of (L := [(0, .ref (E.1 + 24)), (1, .ref (E.1 + 12))]) rfl (by decide +kernel) (Nat.le_of_ble_eq_true rfl) ?_
  obtain ⟨PP, hPP⟩ : ∃ PP : jPost, PP = (jR (some (.int (nI 1))) (hset (hset h (12 + 2) (cI E 16 (nF (dayN K M an td)))) 12 (.inr (5, [.ref (E.1 + 13), .ref (E.1 + 14), .ref (E.1 + 15), .ref (E.1 + 17), .ref (E.1 + 19), .int (nI an), .int (nI (td + 1)), .int (nI gr)]))) n) := ⟨_, rfl⟩
  rw [← hPP]
  have h0 := hS.1 cu (by omega)
  refine J_aload_n dX5_takesItem_0 rfl ?_
  refine J_get 1 dX5_takesItem_1 jk5 (Nat.le_of_ble_eq_true rfl) jfRX5_15 H0 (by omega) rfl ?_
  refine J_aload_n dX5_takesItem_4 rfl ?_
  refine J_get 7 dX5_takesItem_5 jk5 (Nat.le_of_ble_eq_true rfl) jfRX5_83 H0 (by omega) rfl ?_
  refine J_ialdN (i := cu) dX5_takesItem_8 H1 (by omega) (by omega) (by omega) ?_
  refine J.stk (st' := [.int (nI 4)]) (congrArg (fun z => Value.int (nI z) :: []) (by omega)) ?_
  refine J_tableInN (tgt := 48) (v := 4) rfl dX5_takesItem_9 (by decide +kernel) (by decide +kernel) rfl (by decide) ?_
  refine J_aload_n dX5_takesItem_48 rfl ?_
  refine J_callVn (M' := mX6_passDay) (d' := (4, 0, 0)) (rest := []) dX5_takesItem_49 jmX6_passDay jlRX5_124 (ctX6_passDay 12 an td gr K M H4 H5 H6 (by omega) (by first | assumption | omega) (by first | assumption | omega) (by first | assumption | omega) (by first | assumption | omega)) H4 (by omega) jk6.1 rfl rfl (Nat.le_of_ble_eq_true rfl) (Nat.le_of_ble_eq_true rfl) ⟨Nat.le_refl _, Nat.le_refl _⟩ ?_
  refine J_iconst (v := nI 1) dX5_takesItem_52 (by decide +kernel) ?_
  exact J_zret dX5_takesItem_53 rfl rfl ⟨Nat.le_refl _, Nat.le_refl _⟩ (by rw [hPP]; exact ⟨rfl, (hset_cg (hset_cg rfl rfl) (congrArg (fun z => (Sum.inr (5, z) : va_E)) (jS_c rfl (jS_c rfl (jS_c rfl (jS_c rfl (jS_c rfl (jS_c rfl (jS_c (jv_N (by omega)) (jS_c rfl rfl)))))))))), rfl⟩)

set_option maxHeartbeats 1000000 in
set_option maxRecDepth 100000 in
theorem ctX5_takesItem_no {E : jE} {h : Nat → va_E} {n : Nat} (sz : Nat) (tk : Nat) (cu : Nat) (SO : Nat → Nat) (ST : Nat → Nat) (t : Nat) (KX : Nat → Nat) (SX : Nat → Nat) (VX : Nat → Nat) (VL : Nat → Int32) (H0 : h 24 = .inr (4, [.ref (E.1 + 25), .ref (E.1 + 26), .ref (E.1 + 27), .ref (E.1 + 28), .ref (E.1 + 29), .int (nI sz), .int (nI tk), .int (nI cu)])) (H1 : h 26 = cI E 151 (nF SO)) (H2 : h 27 = cI E 151 (nF ST)) (H3 : h 28 = cI E 151 VL) (hn : 38 ≤ n) (hS : strm KX SX VX t SO ST VL) (htk : tk = t + 1) (ht150 : t ≤ 150) (hcu : cu < t) (hk0 : ¬ KX cu = 0) (hno : ¬ KX cu = 2 ∧ ¬ KX cu = 3 ∧ ¬ KX cu = 4) : jC E mX5_takesItem (5, 0, 0) [.ref (E.1 + 24), .ref (E.1 + 12)] h n (jR (some (.int (nI 0))) h n) := by
  refine J.of (L := [(0, .ref (E.1 + 24)), (1, .ref (E.1 + 12))]) rfl (by decide +kernel) (Nat.le_of_ble_eq_true rfl) ?_
  obtain ⟨PP, hPP⟩ : ∃ PP : jPost, PP = (jR (some (.int (nI 0))) h n) := ⟨_, rfl⟩
  rw [← hPP]
  have h0 := hS.1 cu (by omega)
  refine J_aload_n dX5_takesItem_0 rfl ?_
  refine J_get 1 dX5_takesItem_1 jk5 (Nat.le_of_ble_eq_true rfl) jfRX5_15 H0 (by omega) rfl ?_
  refine J_aload_n dX5_takesItem_4 rfl ?_
  refine J_get 7 dX5_takesItem_5 jk5 (Nat.le_of_ble_eq_true rfl) jfRX5_83 H0 (by omega) rfl ?_
  refine J_ialdN (i := cu) dX5_takesItem_8 H1 (by omega) (by omega) (by omega) ?_
  have sw1 : (SO cu) = 1 ∨ (SO cu) = 5 ∨ (SO cu) = 6 ∨ (SO cu) = 7 := by omega
  rcases sw1 with sw1 | sw1 | sw1 | sw1
  · skip
    refine J_tableOutN (tgt := 54) (v := 1) sw1 dX5_takesItem_9 (by decide +kernel) (by decide) ?_
    refine J_iconst (v := nI 0) dX5_takesItem_54 (by decide +kernel) ?_
    exact J_zret dX5_takesItem_55 rfl rfl ⟨Nat.le_refl _, Nat.le_refl _⟩ (by rw [hPP]; exact ⟨rfl, rfl, rfl⟩)
  · skip
    refine J_tableOutN (tgt := 54) (v := 5) sw1 dX5_takesItem_9 (by decide +kernel) (by decide) ?_
    refine J_iconst (v := nI 0) dX5_takesItem_54 (by decide +kernel) ?_
    exact J_zret dX5_takesItem_55 rfl rfl ⟨Nat.le_refl _, Nat.le_refl _⟩ (by rw [hPP]; exact ⟨rfl, rfl, rfl⟩)
  · skip
    refine J_tableOutN (tgt := 54) (v := 6) sw1 dX5_takesItem_9 (by decide +kernel) (by decide) ?_
    refine J_iconst (v := nI 0) dX5_takesItem_54 (by decide +kernel) ?_
    exact J_zret dX5_takesItem_55 rfl rfl ⟨Nat.le_refl _, Nat.le_refl _⟩ (by rw [hPP]; exact ⟨rfl, rfl, rfl⟩)
  · skip
    refine J_tableOutN (tgt := 54) (v := 7) sw1 dX5_takesItem_9 (by decide +kernel) (by decide) ?_
    refine J_iconst (v := nI 0) dX5_takesItem_54 (by decide +kernel) ?_
    exact J_zret dX5_takesItem_55 rfl rfl ⟨Nat.le_refl _, Nat.le_refl _⟩ (by rw [hPP]; exact ⟨rfl, rfl, rfl⟩)
