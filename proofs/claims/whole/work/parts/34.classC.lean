set_option maxHeartbeats 1000000 in
set_option maxRecDepth 100000 in
theorem ctX5_append0 {E : jE} {h : Nat → va_E} {n : Nat} (x : Nat) (sz : Nat) (tk : Nat) (cu : Nat) (TX : Nat → Nat) (H0 : h 24 = .inr (4, [.ref (E.1 + 25), .ref (E.1 + 26), .ref (E.1 + 27), .ref (E.1 + 28), .ref (E.1 + 29), .int (nI sz), .int (nI tk), .int (nI cu)])) (H1 : h 25 = cB E 150 (nF TX)) (hn : 38 ≤ n) (hs : sz = 150) : jC E mX5_append (1, 0, 0) [.ref (E.1 + 24), .int (nI x)] h n (jR (some (.int (nI 0))) h n) := by
  refine J.of (L := [(0, .ref (E.1 + 24)), (1, .int (nI x))]) rfl (by decide +kernel) (Nat.le_of_ble_eq_true rfl) ?_
  obtain ⟨PP, hPP⟩ : ∃ PP : jPost, PP = (jR (some (.int (nI 0))) h n) := ⟨_, rfl⟩
  rw [← hPP]
  refine J_aload_n dX5_append_0 rfl ?_
  refine J_get 5 dX5_append_1 jk5 (Nat.le_of_ble_eq_true rfl) jfRX5_28 H0 (by omega) rfl ?_
  refine J_sipush (v := nI 150) dX5_append_4 (by decide +kernel) ?_
  refine J_icmp_ltN (tgt := 12) dX5_append_7 (by decide) (by omega) (by omega) (fun c1 => (by exfalso; omega)) (fun c1 => ?_)
  refine J_iconst (v := nI 0) dX5_append_10 (by decide +kernel) ?_
  exact J_zret dX5_append_11 rfl rfl ⟨Nat.le_refl _, Nat.le_refl _⟩ (by rw [hPP]; exact ⟨rfl, rfl, rfl⟩)

set_option maxHeartbeats 1000000 in
set_option maxRecDepth 100000 in
theorem ctX5_append1 {E : jE} {h : Nat → va_E} {n : Nat} (x : Nat) (sz : Nat) (tk : Nat) (cu : Nat) (TX : Nat → Nat) (H0 : h 24 = .inr (4, [.ref (E.1 + 25), .ref (E.1 + 26), .ref (E.1 + 27), .ref (E.1 + 28), .ref (E.1 + 29), .int (nI sz), .int (nI tk), .int (nI cu)])) (H1 : h 25 = cB E 150 (nF TX)) (hn : 38 ≤ n) (hs : sz < 150) (hx : x ≤ 127) : jC E mX5_append (1, 0, 0) [.ref (E.1 + 24), .int (nI x)] h n (jR (some (.int (nI 1))) (hset (hset h 25 (cB E 150 (nF (updN TX sz x)))) 24 (.inr (4, [.ref (E.1 + 25), .ref (E.1 + 26), .ref (E.1 + 27), .ref (E.1 + 28), .ref (E.1 + 29), .int (nI (sz + 1)), .int (nI tk), .int (nI cu)]))) n) := by
  refine J.of (L := [(0, .ref (E.1 + 24)), (1, .int (nI x))]) rfl (by decide +kernel) (Nat.le_of_ble_eq_true rfl) ?_
  obtain ⟨PP, hPP⟩ : ∃ PP : jPost, PP = (jR (some (.int (nI 1))) (hset (hset h 25 (cB E 150 (nF (updN TX sz x)))) 24 (.inr (4, [.ref (E.1 + 25), .ref (E.1 + 26), .ref (E.1 + 27), .ref (E.1 + 28), .ref (E.1 + 29), .int (nI (sz + 1)), .int (nI tk), .int (nI cu)]))) n) := ⟨_, rfl⟩
  rw [← hPP]
  refine J_aload_n dX5_append_0 rfl ?_
  refine J_get 5 dX5_append_1 jk5 (Nat.le_of_ble_eq_true rfl) jfRX5_28 H0 (by omega) rfl ?_
  refine J_sipush (v := nI 150) dX5_append_4 (by decide +kernel) ?_
  refine J_icmp_ltN (tgt := 12) dX5_append_7 (by decide) (by omega) (by omega) (fun c1 => ?_) (fun c1 => (by exfalso; omega))
  refine J_aload_n dX5_append_12 rfl ?_
  refine J_get 0 dX5_append_13 jk5 (Nat.le_of_ble_eq_true rfl) jfRX5_11 H0 (by omega) rfl ?_
  refine J_aload_n dX5_append_16 rfl ?_
  refine J_get 5 dX5_append_17 jk5 (Nat.le_of_ble_eq_true rfl) jfRX5_28 H0 (by omega) rfl ?_
  refine J_iload_n dX5_append_20 rfl ?_
  refine J_i2b dX5_append_21 (jn_byte (by omega)) ?_
  refine J_bastN (i := sz) (v := x) dX5_append_22 H1 (by omega) (by omega) (by omega) (by omega) ?_
  refine J_aload_n dX5_append_23 rfl ?_
  refine J_dup dX5_append_24 rfl ?_
  refine J_get 5 dX5_append_25 jk5 (Nat.le_of_ble_eq_true rfl) jfRX5_28 ((hset_ne (by omega)).trans H0) (by omega) rfl ?_
  refine J_iconst (v := nI 1) dX5_append_28 (by decide +kernel) ?_
  refine J_iaddN dX5_append_29 ?_
  refine J_put 5 dX5_append_30 jk5 (Nat.le_of_ble_eq_true rfl) jfRX5_28 ((hset_ne (by omega)).trans H0) (by omega) rfl rfl rfl (Nat.le_of_ble_eq_true rfl) ?_
  refine J.cast (h' := (hset (hset h 25 (cB E 150 (nF (updN TX sz x)))) 24 (.inr (4, [.ref (E.1 + 25), .ref (E.1 + 26), .ref (E.1 + 27), .ref (E.1 + 28), .ref (E.1 + 29), .int (nI (sz + 1)), .int (nI tk), .int (nI cu)])))) rfl ?_
  refine J_iconst (v := nI 1) dX5_append_33 (by decide +kernel) ?_
  exact J_zret dX5_append_34 rfl rfl ⟨Nat.le_refl _, Nat.le_refl _⟩ (by rw [hPP]; exact ⟨rfl, rfl, rfl⟩)

set_option maxHeartbeats 1000000 in
set_option maxRecDepth 100000 in
theorem ctX7_type_bad {E : jE} {h : Nat → va_E} {n : Nat} (x : Nat) (ab : Nat) (be : Nat) (bd : Nat) (no : Nat) (fu : Nat) (H0 : h 0 = .inr (6, [.ref (E.1 + 1), .ref (E.1 + 12), .ref (E.1 + 23), .ref (E.1 + 24), .ref (E.1 + 30), .ref (E.1 + 34), .ref (E.1 + 37), .int (nI ab), .int (nI be), .int (nI bd), .int (nI no), .int (nI fu)])) (hn : 38 ≤ n) (h32x : x < 2 ^ 32) (hbad : ¬ x ≤ 127) : jC E mX7_type (2, 0, 0) [.ref (E.1 + 0), .int (nI x)] h n (jR (some (.int (-2))) (hset h 0 (.inr (6, [.ref (E.1 + 1), .ref (E.1 + 12), .ref (E.1 + 23), .ref (E.1 + 24), .ref (E.1 + 30), .ref (E.1 + 34), .ref (E.1 + 37), .int (nI ab), .int (nI be), .int (nI (bd + 1)), .int (nI no), .int (nI fu)]))) n) := by
  refine J.of (L := [(0, .ref (E.1 + 0)), (1, .int (nI x))]) rfl (by decide +kernel) (Nat.le_of_ble_eq_true rfl) ?_
  obtain ⟨PP, hPP⟩ : ∃ PP : jPost, PP = (jR (some (.int (-2))) (hset h 0 (.inr (6, [.ref (E.1 + 1), .ref (E.1 + 12), .ref (E.1 + 23), .ref (E.1 + 24), .ref (E.1 + 30), .ref (E.1 + 34), .ref (E.1 + 37), .int (nI ab), .int (nI be), .int (nI (bd + 1)), .int (nI no), .int (nI fu)]))) n) := ⟨_, rfl⟩
  rw [← hPP]
  refine J_iload_n dX7_type_0 rfl ?_
  refine J_iconst (v := nI 0) dX7_type_1 (by decide +kernel) ?_
  refine J_bipush (v := nI 127) dX7_type_2 (by decide +kernel) ?_
  refine J_callSr (M' := mX7_isWithin) (d' := (1, 0, 0)) (rest := []) dX7_type_4 jmX7_isWithin jlRX7_70 (ctX7_isWithin x 0 127   (by first | assumption | omega) (by first | assumption | omega) (by first | assumption | omega)) rfl rfl (Nat.le_of_ble_eq_true rfl) (Nat.le_of_ble_eq_true rfl) ⟨Nat.le_refl _, Nat.le_refl _⟩ ?_
  refine J_if_neB (tgt := 17) dX7_type_7 (by decide) (fun c1 => (by exfalso; omega)) (fun c1 => ?_)
  refine J_aload_n dX7_type_10 rfl ?_
  refine J_bipush (v := (-2)) dX7_type_11 (by decide +kernel) ?_
  refine J_callVr (M' := mX7_refuse) (d' := (1, 0, 0)) (rest := []) dX7_type_13 jmX7_refuse jlRX7_59 (ctX7_refuse2 ab be bd no fu H0 (by omega) ) H0 (by omega) jk7.1 rfl rfl (Nat.le_of_ble_eq_true rfl) (Nat.le_of_ble_eq_true rfl) ⟨Nat.le_refl _, Nat.le_refl _⟩ ?_
  exact J_iret dX7_type_16 rfl ⟨Nat.le_refl _, Nat.le_refl _⟩ (by rw [hPP]; exact ⟨rfl, rfl, rfl⟩)

set_option maxHeartbeats 1000000 in
set_option maxRecDepth 100000 in
theorem ctX7_type_full {E : jE} {h : Nat → va_E} {n : Nat} (x : Nat) (sz : Nat) (tk : Nat) (cu : Nat) (TX : Nat → Nat) (ab : Nat) (be : Nat) (bd : Nat) (no : Nat) (fu : Nat) (H0 : h 0 = .inr (6, [.ref (E.1 + 1), .ref (E.1 + 12), .ref (E.1 + 23), .ref (E.1 + 24), .ref (E.1 + 30), .ref (E.1 + 34), .ref (E.1 + 37), .int (nI ab), .int (nI be), .int (nI bd), .int (nI no), .int (nI fu)])) (H1 : h 24 = .inr (4, [.ref (E.1 + 25), .ref (E.1 + 26), .ref (E.1 + 27), .ref (E.1 + 28), .ref (E.1 + 29), .int (nI sz), .int (nI tk), .int (nI cu)])) (H2 : h 25 = cB E 150 (nF TX)) (hn : 38 ≤ n) (hs : sz = 150) (hx : x ≤ 127) : jC E mX7_type (2, 0, 0) [.ref (E.1 + 0), .int (nI x)] h n (jR (some (.int (-4))) (hset h 0 (.inr (6, [.ref (E.1 + 1), .ref (E.1 + 12), .ref (E.1 + 23), .ref (E.1 + 24), .ref (E.1 + 30), .ref (E.1 + 34), .ref (E.1 + 37), .int (nI ab), .int (nI be), .int (nI bd), .int (nI no), .int (nI (fu + 1))]))) n) := by
  refine J.of (L := [(0, .ref (E.1 + 0)), (1, .int (nI x))]) rfl (by decide +kernel) (Nat.le_of_ble_eq_true rfl) ?_
  obtain ⟨PP, hPP⟩ : ∃ PP : jPost, PP = (jR (some (.int (-4))) (hset h 0 (.inr (6, [.ref (E.1 + 1), .ref (E.1 + 12), .ref (E.1 + 23), .ref (E.1 + 24), .ref (E.1 + 30), .ref (E.1 + 34), .ref (E.1 + 37), .int (nI ab), .int (nI be), .int (nI bd), .int (nI no), .int (nI (fu + 1))]))) n) := ⟨_, rfl⟩
  rw [← hPP]
  refine J_iload_n dX7_type_0 rfl ?_
  refine J_iconst (v := nI 0) dX7_type_1 (by decide +kernel) ?_
  refine J_bipush (v := nI 127) dX7_type_2 (by decide +kernel) ?_
  refine J_callSr (M' := mX7_isWithin) (d' := (1, 0, 0)) (rest := []) dX7_type_4 jmX7_isWithin jlRX7_70 (ctX7_isWithin x 0 127   (by first | assumption | omega) (by first | assumption | omega) (by first | assumption | omega)) rfl rfl (Nat.le_of_ble_eq_true rfl) (Nat.le_of_ble_eq_true rfl) ⟨Nat.le_refl _, Nat.le_refl _⟩ ?_
  refine J_if_neB (tgt := 17) dX7_type_7 (by decide) (fun c1 => ?_) (fun c1 => (by exfalso; omega))
  refine J_aload_n dX7_type_17 rfl ?_
  refine J_get 3 dX7_type_18 jk7 (Nat.le_of_ble_eq_true rfl) jfRX7_26 H0 (by omega) rfl ?_
  refine J_iload_n dX7_type_21 rfl ?_
  refine J_callVr (M' := mX5_append) (d' := (1, 0, 0)) (rest := []) dX7_type_22 jmX5_append jlRX7_81 (ctX5_append0 x sz tk cu TX H1 H2 (by omega) (by first | assumption | omega)) H1 (by omega) jk5.1 rfl rfl (Nat.le_of_ble_eq_true rfl) (Nat.le_of_ble_eq_true rfl) ⟨Nat.le_refl _, Nat.le_refl _⟩ ?_
  refine J_if_eqN (tgt := 38) dX7_type_25 (by decide) (by omega) (fun _ => ?_) (fun z => absurd z (by decide))
  refine J_aload_n dX7_type_38 rfl ?_
  refine J_bipush (v := (-4)) dX7_type_39 (by decide +kernel) ?_
  refine J_callVr (M' := mX7_refuse) (d' := (1, 0, 0)) (rest := []) dX7_type_41 jmX7_refuse jlRX7_59 (ctX7_refuse4 ab be bd no fu H0 (by omega) ) H0 (by omega) jk7.1 rfl rfl (Nat.le_of_ble_eq_true rfl) (Nat.le_of_ble_eq_true rfl) ⟨Nat.le_refl _, Nat.le_refl _⟩ ?_
  exact J_iret dX7_type_44 rfl ⟨Nat.le_refl _, Nat.le_refl _⟩ (by rw [hPP]; exact ⟨rfl, rfl, rfl⟩)

set_option maxHeartbeats 1000000 in
set_option maxRecDepth 100000 in
theorem ctX7_type {E : jE} {h : Nat → va_E} {n : Nat} (x : Nat) (sz : Nat) (tk : Nat) (cu : Nat) (TX : Nat → Nat) (ab : Nat) (be : Nat) (bd : Nat) (no : Nat) (fu : Nat) (H0 : h 0 = .inr (6, [.ref (E.1 + 1), .ref (E.1 + 12), .ref (E.1 + 23), .ref (E.1 + 24), .ref (E.1 + 30), .ref (E.1 + 34), .ref (E.1 + 37), .int (nI ab), .int (nI be), .int (nI bd), .int (nI no), .int (nI fu)])) (H1 : h 24 = .inr (4, [.ref (E.1 + 25), .ref (E.1 + 26), .ref (E.1 + 27), .ref (E.1 + 28), .ref (E.1 + 29), .int (nI sz), .int (nI tk), .int (nI cu)])) (H2 : h 25 = cB E 150 (nF TX)) (hn : 38 ≤ n) (hs : sz < 150) (hx : x ≤ 127) : jC E mX7_type (2, 0, 0) [.ref (E.1 + 0), .int (nI x)] h n (jR (some (.int (nI (sz + 1)))) (hset (hset h 25 (cB E 150 (nF (updN TX sz x)))) 24 (.inr (4, [.ref (E.1 + 25), .ref (E.1 + 26), .ref (E.1 + 27), .ref (E.1 + 28), .ref (E.1 + 29), .int (nI (sz + 1)), .int (nI tk), .int (nI cu)]))) n) := by
  refine J.of (L := [(0, .ref (E.1 + 0)), (1, .int (nI x))]) rfl (by decide +kernel) (Nat.le_of_ble_eq_true rfl) ?_
  obtain ⟨PP, hPP⟩ : ∃ PP : jPost, PP = (jR (some (.int (nI (sz + 1)))) (hset (hset h 25 (cB E 150 (nF (updN TX sz x)))) 24 (.inr (4, [.ref (E.1 + 25), .ref (E.1 + 26), .ref (E.1 + 27), .ref (E.1 + 28), .ref (E.1 + 29), .int (nI (sz + 1)), .int (nI tk), .int (nI cu)]))) n) := ⟨_, rfl⟩
  rw [← hPP]
  refine J_iload_n dX7_type_0 rfl ?_
  refine J_iconst (v := nI 0) dX7_type_1 (by decide +kernel) ?_
  refine J_bipush (v := nI 127) dX7_type_2 (by decide +kernel) ?_
  refine J_callSr (M' := mX7_isWithin) (d' := (1, 0, 0)) (rest := []) dX7_type_4 jmX7_isWithin jlRX7_70 (ctX7_isWithin x 0 127   (by first | assumption | omega) (by first | assumption | omega) (by first | assumption | omega)) rfl rfl (Nat.le_of_ble_eq_true rfl) (Nat.le_of_ble_eq_true rfl) ⟨Nat.le_refl _, Nat.le_refl _⟩ ?_
  refine J_if_neB (tgt := 17) dX7_type_7 (by decide) (fun c1 => ?_) (fun c1 => (by exfalso; omega))
  refine J_aload_n dX7_type_17 rfl ?_
  refine J_get 3 dX7_type_18 jk7 (Nat.le_of_ble_eq_true rfl) jfRX7_26 H0 (by omega) rfl ?_
  refine J_iload_n dX7_type_21 rfl ?_
  refine J_callVr (M' := mX5_append) (d' := (1, 0, 0)) (rest := []) dX7_type_22 jmX5_append jlRX7_81 (ctX5_append1 x sz tk cu TX H1 H2 (by omega) (by first | assumption | omega) (by first | assumption | omega)) H1 (by omega) jk5.1 rfl rfl (Nat.le_of_ble_eq_true rfl) (Nat.le_of_ble_eq_true rfl) ⟨Nat.le_refl _, Nat.le_refl _⟩ ?_
  refine J_if_eqN (tgt := 38) dX7_type_25 (by decide) (by omega) (fun z => absurd z (by decide)) (fun _ => ?_)
  refine J_aload_n dX7_type_28 rfl ?_
  refine J_get 3 dX7_type_29 jk7 (Nat.le_of_ble_eq_true rfl) jfRX7_26 ((hset_ne (by omega)).trans ((hset_ne (by omega)).trans H0)) (by omega) rfl ?_
  refine J_get 5 dX7_type_32 jk5 (Nat.le_of_ble_eq_true rfl) jfRX7_84 hset_eq (by omega) rfl ?_
  refine J_goto (tgt := 44) dX7_type_35 (by decide) ?_
  exact J_iret dX7_type_44 rfl ⟨Nat.le_refl _, Nat.le_refl _⟩ (by rw [hPP]; exact ⟨rfl, rfl, rfl⟩)

set_option maxHeartbeats 1000000 in
set_option maxRecDepth 100000 in
theorem ctX7_notesFit {E : jE} {h : Nat → va_E} {n : Nat} (a : Nat) (kd : Nat) (an : Nat) (td : Nat) (gr : Nat) (nn : Nat) (NC : Nat → Nat) (ab : Nat) (be : Nat) (bd : Nat) (no : Nat) (fu : Nat) (H0 : h 0 = .inr (6, [.ref (E.1 + 1), .ref (E.1 + 12), .ref (E.1 + 23), .ref (E.1 + 24), .ref (E.1 + 30), .ref (E.1 + 34), .ref (E.1 + 37), .int (nI ab), .int (nI be), .int (nI bd), .int (nI no), .int (nI fu)])) (H1 : h 1 = .inr (5, [.ref (E.1 + 2), .ref (E.1 + 3), .ref (E.1 + 4), .ref (E.1 + 6), .ref (E.1 + 8), .int (nI an), .int (nI td), .int (nI gr)])) (H2 : h 4 = .inr (3, [.ref (E.1 + 5), .int (nI nn)])) (H3 : h 5 = cI E 24 (nF NC)) (hn : 38 ≤ n) (hNC : ∀ zz, NC zz ≤ 99) (hnn : nn ≤ 6) (ha : a < 4) (hkd : kd ≤ 5) : jC E mX7_notesFit (2, 0, 0) [.ref (E.1 + 0), .int (nI a), .int (nI kd)] h n (jR (some (.int (jb (noteP NC nn a kd)))) h n) := by
  refine J.of (L := [(0, .ref (E.1 + 0)), (1, .int (nI a)), (2, .int (nI kd))]) rfl (by decide +kernel) (Nat.le_of_ble_eq_true rfl) ?_
  obtain ⟨PP, hPP⟩ : ∃ PP : jPost, PP = (jR (some (.int (jb (noteP NC nn a kd)))) h n) := ⟨_, rfl⟩
  rw [← hPP]
  refine J_aload_n dX7_notesFit_0 rfl ?_
  refine J_get 0 dX7_notesFit_1 jk7 (Nat.le_of_ble_eq_true rfl) jfRX7_10 H0 (by omega) rfl ?_
  refine J_get 2 dX7_notesFit_4 jk6 (Nat.le_of_ble_eq_true rfl) jfRX7_184 H1 (by omega) rfl ?_
  refine J_astore_n dX7_notesFit_7 (Nat.le_of_ble_eq_true rfl) (L' := [(3, .ref (E.1 + 4)), (0, .ref (E.1 + 0)), (1, .int (nI a)), (2, .int (nI kd))]) rfl ?_
  refine J_iconst (v := nI 0) dX7_notesFit_8 (by decide +kernel) ?_
  refine J_istore dX7_notesFit_9 (Nat.le_of_ble_eq_true rfl) (L' := [(4, .int (nI 0)), (3, .ref (E.1 + 4)), (0, .ref (E.1 + 0)), (1, .int (nI a)), (2, .int (nI kd))]) rfl ?_
  have CUT11 : ∀ (f11 : Nat) (i : Nat) (hm11 : nn - i < f11) (hi : i ≤ nn) (hall : ∀ j, j < i → NC (4 * j + 0) = a → leftN kd (NC (4 * j + 1)) (NC (4 * j + 2)) = NC (4 * j + 3)), J E mX7_notesFit (2, 0, 0) jS0 PP h n (0, 0) 11 [(4, .int (nI i)), (3, .ref (E.1 + 4)), (0, .ref (E.1 + 0)), (1, .int (nI a)), (2, .int (nI kd))] [] := by
    intro f11
    induction f11 with
    | zero => intro i hm11; exact absurd hm11 (Nat.not_lt_zero _)
    | succ f11 ih11 =>
      intro i hm11 hi hall
      have nb0 := hNC (4 * i + 0)
      have nb1 := hNC (4 * i + 1)
      have nb2 := hNC (4 * i + 2)
      have nb3 := hNC (4 * i + 3)
      have nl := leftN_le kd (NC (4 * i + 1)) (NC (4 * i + 2))
      refine J_iload dX7_notesFit_11 rfl ?_
      refine J_aload_n dX7_notesFit_13 rfl ?_
      refine J_get 1 dX7_notesFit_14 jk4 (Nat.le_of_ble_eq_true rfl) jfRX7_193 H2 (by omega) rfl ?_
      refine J_icmp_geN (tgt := 67) dX7_notesFit_17 (by decide) (by omega) (by omega) (fun c1 => ?_) (fun c1 => ?_)
      · skip
        refine J_iconst (v := nI 1) dX7_notesFit_67 (by decide +kernel) ?_
        exact J_zret dX7_notesFit_68 rfl rfl ⟨Nat.le_refl _, Nat.le_refl _⟩ (by rw [hPP]; exact ⟨(congrArg some (Option.some.inj (jret_B1 (by intro j hj; exact hall j (by omega))))), rfl, rfl⟩)
      · skip
        refine J_aload_n dX7_notesFit_20 rfl ?_
        refine J_iload dX7_notesFit_21 rfl ?_
        refine J_iconst (v := nI 0) dX7_notesFit_23 (by decide +kernel) ?_
        refine J_callVr (M' := mX4_at) (d' := (1, 0, 0)) (rest := []) dX7_notesFit_24 jmX4_at jlRX7_279 (ctX4_at 4 i 0 nn NC H2 H3 (by omega) (by first | assumption | omega) (by first | assumption | omega)) H2 (by omega) jk4.1 rfl rfl (Nat.le_of_ble_eq_true rfl) (Nat.le_of_ble_eq_true rfl) ⟨Nat.le_refl _, Nat.le_refl _⟩ ?_
        refine J_iload_n dX7_notesFit_27 rfl ?_
        refine J_icmp_neN (tgt := 61) dX7_notesFit_28 (by decide) (by omega) (by omega) (fun c2 => ?_) (fun c2 => ?_)
        · skip
          refine J_iincN (q := 0) (a := i) (m := 1) dX7_notesFit_61 rfl (by decide +kernel) (Nat.le_of_ble_eq_true rfl) (L' := [(4, .int (nI (i + 1))), (3, .ref (E.1 + 4)), (0, .ref (E.1 + 0)), (1, .int (nI a)), (2, .int (nI kd))]) rfl ?_
          refine J_goto (tgt := 11) dX7_notesFit_64 (by decide) ?_
          exact ih11 (i + 1) (by omega) (by first | assumption | omega) (by first | exact (fun j hj => absurd hj (Nat.not_lt_zero j)) | exact lt_step hall (fun q => by omega))
        · skip
          refine J_iload_n dX7_notesFit_31 rfl ?_
          refine J_aload_n dX7_notesFit_32 rfl ?_
          refine J_iload dX7_notesFit_33 rfl ?_
          refine J_iconst (v := nI 1) dX7_notesFit_35 (by decide +kernel) ?_
          refine J_callVr (M' := mX4_at) (d' := (1, 0, 0)) (rest := [.int (nI kd)]) dX7_notesFit_36 jmX4_at jlRX7_279 (ctX4_at 4 i 1 nn NC H2 H3 (by omega) (by first | assumption | omega) (by first | assumption | omega)) H2 (by omega) jk4.1 rfl rfl (Nat.le_of_ble_eq_true rfl) (Nat.le_of_ble_eq_true rfl) ⟨Nat.le_refl _, Nat.le_refl _⟩ ?_
          refine J_aload_n dX7_notesFit_39 rfl ?_
          refine J_iload dX7_notesFit_40 rfl ?_
          refine J_iconst (v := nI 2) dX7_notesFit_42 (by decide +kernel) ?_
          refine J_callVr (M' := mX4_at) (d' := (1, 0, 0)) (rest := [.int (nI (NC (4 * i + 1))), .int (nI kd)]) dX7_notesFit_43 jmX4_at jlRX7_279 (ctX4_at 4 i 2 nn NC H2 H3 (by omega) (by first | assumption | omega) (by first | assumption | omega)) H2 (by omega) jk4.1 rfl rfl (Nat.le_of_ble_eq_true rfl) (Nat.le_of_ble_eq_true rfl) ⟨Nat.le_refl _, Nat.le_refl _⟩ ?_
          refine J_callSr (M' := mX0_left) (d' := (1, 0, 0)) (rest := []) dX7_notesFit_46 jmX0_left jlRX7_145 (ctX0_left kd (NC (4 * i + 1)) (NC (4 * i + 2))   (by first | assumption | omega) (by first | assumption | omega) (by first | assumption | omega)) rfl rfl (Nat.le_of_ble_eq_true rfl) (Nat.le_of_ble_eq_true rfl) ⟨Nat.le_refl _, Nat.le_refl _⟩ ?_
          refine J_aload_n dX7_notesFit_49 rfl ?_
          refine J_iload dX7_notesFit_50 rfl ?_
          refine J_iconst (v := nI 3) dX7_notesFit_52 (by decide +kernel) ?_
          refine J_callVr (M' := mX4_at) (d' := (1, 0, 0)) (rest := [.int (nI (leftN kd (NC (4 * i + 1)) (NC (4 * i + 2))))]) dX7_notesFit_53 jmX4_at jlRX7_279 (ctX4_at 4 i 3 nn NC H2 H3 (by omega) (by first | assumption | omega) (by first | assumption | omega)) H2 (by omega) jk4.1 rfl rfl (Nat.le_of_ble_eq_true rfl) (Nat.le_of_ble_eq_true rfl) ⟨Nat.le_refl _, Nat.le_refl _⟩ ?_
          refine J_icmp_eqN (tgt := 61) dX7_notesFit_56 (by decide) (by omega) (by omega) (fun c3 => ?_) (fun c3 => ?_)
          · skip
            refine J_iincN (q := 0) (a := i) (m := 1) dX7_notesFit_61 rfl (by decide +kernel) (Nat.le_of_ble_eq_true rfl) (L' := [(4, .int (nI (i + 1))), (3, .ref (E.1 + 4)), (0, .ref (E.1 + 0)), (1, .int (nI a)), (2, .int (nI kd))]) rfl ?_
            refine J_goto (tgt := 11) dX7_notesFit_64 (by decide) ?_
            exact ih11 (i + 1) (by omega) (by first | assumption | omega) (by first | exact (fun j hj => absurd hj (Nat.not_lt_zero j)) | exact lt_step hall (fun q => by omega))
          · skip
            refine J_iconst (v := nI 0) dX7_notesFit_59 (by decide +kernel) ?_
            exact J_zret dX7_notesFit_60 rfl rfl ⟨Nat.le_refl _, Nat.le_refl _⟩ (by rw [hPP]; exact ⟨(congrArg some (Option.some.inj (jret_B0 (by intro hq; exact absurd (hq i (by omega) (by omega)) (by omega))))), rfl, rfl⟩)
  exact CUT11 (nn - 0 + 1) 0 (Nat.lt_succ_self _) (by first | assumption | omega) (by first | exact (fun j hj => absurd hj (Nat.not_lt_zero j)) | exact lt_step hall (fun q => by omega))

set_option maxHeartbeats 1000000 in
set_option maxRecDepth 100000 in
theorem ctX7_kindsThatFit {E : jE} {h : Nat → va_E} {n : Nat} (a : Nat) (an : Nat) (td : Nat) (gr : Nat) (nn : Nat) (NC : Nat → Nat) (ab : Nat) (be : Nat) (bd : Nat) (no : Nat) (fu : Nat) (H0 : h 0 = .inr (6, [.ref (E.1 + 1), .ref (E.1 + 12), .ref (E.1 + 23), .ref (E.1 + 24), .ref (E.1 + 30), .ref (E.1 + 34), .ref (E.1 + 37), .int (nI ab), .int (nI be), .int (nI bd), .int (nI no), .int (nI fu)])) (H1 : h 1 = .inr (5, [.ref (E.1 + 2), .ref (E.1 + 3), .ref (E.1 + 4), .ref (E.1 + 6), .ref (E.1 + 8), .int (nI an), .int (nI td), .int (nI gr)])) (H2 : h 4 = .inr (3, [.ref (E.1 + 5), .int (nI nn)])) (H3 : h 5 = cI E 24 (nF NC)) (hn : 38 ≤ n) (hNC : ∀ zz, NC zz ≤ 99) (hnn : nn ≤ 6) (ha : a < 4) : jC E mX7_kindsThatFit (3, 0, 0) [.ref (E.1 + 0), .int (nI a)] h n (jR (some (.int (nI (kindsN NC nn a)))) h n) := by
  refine J.of (L := [(0, .ref (E.1 + 0)), (1, .int (nI a))]) rfl (by decide +kernel) (Nat.le_of_ble_eq_true rfl) ?_
  obtain ⟨PP, hPP⟩ : ∃ PP : jPost, PP = (jR (some (.int (nI (kindsN NC nn a)))) h n) := ⟨_, rfl⟩
  rw [← hPP]
  refine J_iconst (v := nI 0) dX7_kindsThatFit_0 (by decide +kernel) ?_
  refine J_istore_n dX7_kindsThatFit_1 (Nat.le_of_ble_eq_true rfl) (L' := [(2, .int (nI 0)), (0, .ref (E.1 + 0)), (1, .int (nI a))]) rfl ?_
  refine J_iconst (v := nI 0) dX7_kindsThatFit_2 (by decide +kernel) ?_
  refine J_istore_n dX7_kindsThatFit_3 (Nat.le_of_ble_eq_true rfl) (L' := [(3, .int (nI 0)), (2, .int (nI 0)), (0, .ref (E.1 + 0)), (1, .int (nI a))]) rfl ?_
  have CUT4 : ∀ (f4 : Nat) (i : Nat) (hm4 : 6 - i < f4) (hi : i ≤ 6), J E mX7_kindsThatFit (3, 0, 0) jS0 PP h n (0, 0) 4 [(3, .int (nI i)), (2, .int (nI (bitsN (noteP NC nn a) i))), (0, .ref (E.1 + 0)), (1, .int (nI a))] [] := by
    intro f4
    induction f4 with
    | zero => intro i hm4; exact absurd hm4 (Nat.not_lt_zero _)
    | succ f4 ih4 =>
      intro i hm4 hi
      refine J_iload_n dX7_kindsThatFit_4 rfl ?_
      refine J_bipush (v := nI 6) dX7_kindsThatFit_5 (by decide +kernel) ?_
      refine J_icmp_geN (tgt := 31) dX7_kindsThatFit_7 (by decide) (by omega) (by omega) (fun c1 => ?_) (fun c1 => ?_)
      · skip
        refine J_iload_n dX7_kindsThatFit_31 rfl ?_
        exact J_iret dX7_kindsThatFit_32 rfl ⟨Nat.le_refl _, Nat.le_refl _⟩ (by rw [hPP]; exact ⟨(congrArg some (jv_N (by rw [show i = 6 by omega]; rfl))), rfl, rfl⟩)
      · skip
        refine J_aload_n dX7_kindsThatFit_10 rfl ?_
        refine J_iload_n dX7_kindsThatFit_11 rfl ?_
        refine J_iload_n dX7_kindsThatFit_12 rfl ?_
        refine J_callVr (M' := mX7_notesFit) (d' := (2, 0, 0)) (rest := []) dX7_kindsThatFit_13 jmX7_notesFit jlRX7_276 (ctX7_notesFit a i an td gr nn NC ab be bd no fu H0 H1 H2 H3 (by omega) (by first | assumption | omega) (by first | assumption | omega) (by first | assumption | omega) (by first | assumption | omega)) H0 (by omega) jk7.1 rfl rfl (Nat.le_of_ble_eq_true rfl) (Nat.le_of_ble_eq_true rfl) ⟨Nat.le_refl _, Nat.le_refl _⟩ ?_
        refine J_if_eqB (tgt := 25) dX7_kindsThatFit_16 (by decide) (fun c2 => ?_) (fun c2 => ?_)
        · skip
          refine J_iincN (q := 0) (a := i) (m := 1) dX7_kindsThatFit_25 rfl (by decide +kernel) (Nat.le_of_ble_eq_true rfl) (L' := [(3, .int (nI (i + 1))), (2, .int (nI (bitsN (noteP NC nn a) i))), (0, .ref (E.1 + 0)), (1, .int (nI a))]) rfl ?_
          refine J_goto (tgt := 4) dX7_kindsThatFit_28 (by decide) ?_
          refine J.eqs (h' := h) (L' := [(3, .int (nI (i + 1))), (2, .int (nI (bitsN (noteP NC nn a) (i + 1)))), (0, .ref (E.1 + 0)), (1, .int (nI a))]) (st' := []) rfl (jL_c rfl (jL_c (jv_N (by first | exact bitsN_t (by assumption) | exact bitsN_f (by assumption) | rfl)) (jL_c rfl (jL_c rfl rfl)))) rfl ?_
          exact ih4 (i + 1) (by omega) (by first | assumption | omega)
        · skip
          refine J_iload_n dX7_kindsThatFit_19 rfl ?_
          refine J_iconst (v := nI 1) dX7_kindsThatFit_20 (by decide +kernel) ?_
          refine J_iload_n dX7_kindsThatFit_21 rfl ?_
          refine J_ishlN dX7_kindsThatFit_22 (by omega) (by have q5 : 2 ^ i ≤ 2 ^ 6 := Nat.pow_le_pow_right (by omega) (by omega); omega) ?_
          refine J_iorN dX7_kindsThatFit_23 ?_
          refine J_istore_n dX7_kindsThatFit_24 (Nat.le_of_ble_eq_true rfl) (L' := [(2, .int (nI ((bitsN (noteP NC nn a) i) ||| (1 * 2 ^ i)))), (3, .int (nI i)), (0, .ref (E.1 + 0)), (1, .int (nI a))]) rfl ?_
          refine J_iincN (q := 1) (a := i) (m := 1) dX7_kindsThatFit_25 rfl (by decide +kernel) (Nat.le_of_ble_eq_true rfl) (L' := [(3, .int (nI (i + 1))), (2, .int (nI ((bitsN (noteP NC nn a) i) ||| (1 * 2 ^ i)))), (0, .ref (E.1 + 0)), (1, .int (nI a))]) rfl ?_
          refine J_goto (tgt := 4) dX7_kindsThatFit_28 (by decide) ?_
          refine J.eqs (h' := h) (L' := [(3, .int (nI (i + 1))), (2, .int (nI (bitsN (noteP NC nn a) (i + 1)))), (0, .ref (E.1 + 0)), (1, .int (nI a))]) (st' := []) rfl (jL_c rfl (jL_c (jv_N (by first | exact bitsN_t (by assumption) | exact bitsN_f (by assumption) | rfl)) (jL_c rfl (jL_c rfl rfl)))) rfl ?_
          exact ih4 (i + 1) (by omega) (by first | assumption | omega)
  refine J.eqs (h' := h) (L' := [(3, .int (nI 0)), (2, .int (nI (bitsN (noteP NC nn a) 0))), (0, .ref (E.1 + 0)), (1, .int (nI a))]) (st' := []) rfl (jL_c rfl (jL_c (jv_N (by first | exact bitsN_t (by assumption) | exact bitsN_f (by assumption) | rfl)) (jL_c rfl (jL_c rfl rfl)))) rfl ?_
  exact CUT4 (6 - 0 + 1) 0 (Nat.lt_succ_self _) (by first | assumption | omega)

set_option maxHeartbeats 1000000 in
set_option maxRecDepth 100000 in
theorem ctX7_is_bad {E : jE} {h : Nat → va_E} {n : Nat} (a : Nat) (ab : Nat) (be : Nat) (bd : Nat) (no : Nat) (fu : Nat) (an : Nat) (td : Nat) (gr : Nat) (H0 : h 0 = .inr (6, [.ref (E.1 + 1), .ref (E.1 + 12), .ref (E.1 + 23), .ref (E.1 + 24), .ref (E.1 + 30), .ref (E.1 + 34), .ref (E.1 + 37), .int (nI ab), .int (nI be), .int (nI bd), .int (nI no), .int (nI fu)])) (H1 : h 1 = .inr (5, [.ref (E.1 + 2), .ref (E.1 + 3), .ref (E.1 + 4), .ref (E.1 + 6), .ref (E.1 + 8), .int (nI an), .int (nI td), .int (nI gr)])) (hn : 38 ≤ n) (h32a : a < 2 ^ 32) (hn4 : an ≤ 4) (hbad : ¬ a < an) : jC E mX7_is (4, 0, 0) [.ref (E.1 + 0), .int (nI a)] h n (jR (some (.int (-2))) (hset h 0 (.inr (6, [.ref (E.1 + 1), .ref (E.1 + 12), .ref (E.1 + 23), .ref (E.1 + 24), .ref (E.1 + 30), .ref (E.1 + 34), .ref (E.1 + 37), .int (nI ab), .int (nI be), .int (nI (bd + 1)), .int (nI no), .int (nI fu)]))) n) := by
  refine J.of (L := [(0, .ref (E.1 + 0)), (1, .int (nI a))]) rfl (by decide +kernel) (Nat.le_of_ble_eq_true rfl) ?_
  obtain ⟨PP, hPP⟩ : ∃ PP : jPost, PP = (jR (some (.int (-2))) (hset h 0 (.inr (6, [.ref (E.1 + 1), .ref (E.1 + 12), .ref (E.1 + 23), .ref (E.1 + 24), .ref (E.1 + 30), .ref (E.1 + 34), .ref (E.1 + 37), .int (nI ab), .int (nI be), .int (nI (bd + 1)), .int (nI no), .int (nI fu)]))) n) := ⟨_, rfl⟩
  rw [← hPP]
  refine J_aload_n dX7_is_0 rfl ?_
  refine J_get 0 dX7_is_1 jk7 (Nat.le_of_ble_eq_true rfl) jfRX7_10 H0 (by omega) rfl ?_
  refine J_iload_n dX7_is_4 rfl ?_
  refine J_callVr (M' := mX6_has) (d' := (1, 0, 0)) (rest := []) dX7_is_5 jmX6_has jlRX7_133 (ctX6_has 1 a an td gr H1 (by omega) (by first | assumption | omega) (by first | assumption | omega)) H1 (by omega) jk6.1 rfl rfl (Nat.le_of_ble_eq_true rfl) (Nat.le_of_ble_eq_true rfl) ⟨Nat.le_refl _, Nat.le_refl _⟩ ?_
  refine J_if_eqB (tgt := 19) dX7_is_8 (by decide) (fun c1 => ?_) (fun c1 => (by exfalso; omega))
  refine J_aload_n dX7_is_19 rfl ?_
  refine J_bipush (v := (-2)) dX7_is_20 (by decide +kernel) ?_
  refine J_callVr (M' := mX7_refuse) (d' := (1, 0, 0)) (rest := []) dX7_is_22 jmX7_refuse jlRX7_59 (ctX7_refuse2 ab be bd no fu H0 (by omega) ) H0 (by omega) jk7.1 rfl rfl (Nat.le_of_ble_eq_true rfl) (Nat.le_of_ble_eq_true rfl) ⟨Nat.le_refl _, Nat.le_refl _⟩ ?_
  exact J_iret dX7_is_25 rfl ⟨Nat.le_refl _, Nat.le_refl _⟩ (by rw [hPP]; exact ⟨rfl, rfl, rfl⟩)

set_option maxHeartbeats 1000000 in
set_option maxRecDepth 100000 in
theorem ctX7_is {E : jE} {h : Nat → va_E} {n : Nat} (a : Nat) (an : Nat) (td : Nat) (gr : Nat) (nn : Nat) (NC : Nat → Nat) (ab : Nat) (be : Nat) (bd : Nat) (no : Nat) (fu : Nat) (H0 : h 0 = .inr (6, [.ref (E.1 + 1), .ref (E.1 + 12), .ref (E.1 + 23), .ref (E.1 + 24), .ref (E.1 + 30), .ref (E.1 + 34), .ref (E.1 + 37), .int (nI ab), .int (nI be), .int (nI bd), .int (nI no), .int (nI fu)])) (H1 : h 1 = .inr (5, [.ref (E.1 + 2), .ref (E.1 + 3), .ref (E.1 + 4), .ref (E.1 + 6), .ref (E.1 + 8), .int (nI an), .int (nI td), .int (nI gr)])) (H2 : h 4 = .inr (3, [.ref (E.1 + 5), .int (nI nn)])) (H3 : h 5 = cI E 24 (nF NC)) (hn : 38 ≤ n) (hNC : ∀ zz, NC zz ≤ 99) (hnn : nn ≤ 6) (hn4 : an ≤ 4) (ha : a < an) : jC E mX7_is (4, 0, 0) [.ref (E.1 + 0), .int (nI a)] h n (jR (some (.int (nI (kindsN NC nn a)))) h n) := by
  refine J.of (L := [(0, .ref (E.1 + 0)), (1, .int (nI a))]) rfl (by decide +kernel) (Nat.le_of_ble_eq_true rfl) ?_
  obtain ⟨PP, hPP⟩ : ∃ PP : jPost, PP = (jR (some (.int (nI (kindsN NC nn a)))) h n) := ⟨_, rfl⟩
  rw [← hPP]
  refine J_aload_n dX7_is_0 rfl ?_
  refine J_get 0 dX7_is_1 jk7 (Nat.le_of_ble_eq_true rfl) jfRX7_10 H0 (by omega) rfl ?_
  refine J_iload_n dX7_is_4 rfl ?_
  refine J_callVr (M' := mX6_has) (d' := (1, 0, 0)) (rest := []) dX7_is_5 jmX6_has jlRX7_133 (ctX6_has 1 a an td gr H1 (by omega) (by first | assumption | omega) (by first | assumption | omega)) H1 (by omega) jk6.1 rfl rfl (Nat.le_of_ble_eq_true rfl) (Nat.le_of_ble_eq_true rfl) ⟨Nat.le_refl _, Nat.le_refl _⟩ ?_
  refine J_if_eqB (tgt := 19) dX7_is_8 (by decide) (fun c1 => (by exfalso; omega)) (fun c1 => ?_)
  refine J_aload_n dX7_is_11 rfl ?_
  refine J_iload_n dX7_is_12 rfl ?_
  refine J_callVr (M' := mX7_kindsThatFit) (d' := (3, 0, 0)) (rest := []) dX7_is_13 jmX7_kindsThatFit jlRX7_197 (ctX7_kindsThatFit a an td gr nn NC ab be bd no fu H0 H1 H2 H3 (by omega) (by first | assumption | omega) (by first | assumption | omega) (by first | assumption | omega)) H0 (by omega) jk7.1 rfl rfl (Nat.le_of_ble_eq_true rfl) (Nat.le_of_ble_eq_true rfl) ⟨Nat.le_refl _, Nat.le_refl _⟩ ?_
  have fc2 : kindsN NC nn a < 2 ^ 6 := bitsN_lt 6
  refine J_goto (tgt := 25) dX7_is_16 (by decide) ?_
  exact J_iret dX7_is_25 rfl ⟨Nat.le_refl _, Nat.le_refl _⟩ (by rw [hPP]; exact ⟨rfl, rfl, rfl⟩)

set_option maxHeartbeats 1000000 in
set_option maxRecDepth 100000 in
theorem ctX7_couldRemember {E : jE} {h : Nat → va_E} {n : Nat} (a : Nat) (t : Nat) (m : Nat) (an : Nat) (td : Nat) (gr : Nat) (K : Nat → Nat) (cn : Nat) (CC : Nat → Nat) (ab : Nat) (be : Nat) (bd : Nat) (no : Nat) (fu : Nat) (H0 : h 0 = .inr (6, [.ref (E.1 + 1), .ref (E.1 + 12), .ref (E.1 + 23), .ref (E.1 + 24), .ref (E.1 + 30), .ref (E.1 + 34), .ref (E.1 + 37), .int (nI ab), .int (nI be), .int (nI bd), .int (nI no), .int (nI fu)])) (H1 : h 1 = .inr (5, [.ref (E.1 + 2), .ref (E.1 + 3), .ref (E.1 + 4), .ref (E.1 + 6), .ref (E.1 + 8), .int (nI an), .int (nI td), .int (nI gr)])) (H2 : h 2 = cI E 4 (nF K)) (H3 : h 6 = .inr (3, [.ref (E.1 + 7), .int (nI cn)])) (H4 : h 7 = cI E 24 (nF CC)) (hn : 38 ≤ n) (hCC : ∀ zz, CC zz ≤ 50) (hcn : cn ≤ 6) (hK : ∀ zz, K zz ≤ 5) (ha : a < 4) (ht : t < 4) (hm : m ≤ 20) : jC E mX7_couldRemember (2, 0, 0) [.ref (E.1 + 0), .int (nI a), .int (nI t), .int (nI m)] h n (jR (some (.int (jb (cameP CC cn (K a) a t m)))) h n) := by
  refine J.of (L := [(0, .ref (E.1 + 0)), (1, .int (nI a)), (2, .int (nI t)), (3, .int (nI m))]) rfl (by decide +kernel) (Nat.le_of_ble_eq_true rfl) ?_
  obtain ⟨PP, hPP⟩ : ∃ PP : jPost, PP = (jR (some (.int (jb (cameP CC cn (K a) a t m)))) h n) := ⟨_, rfl⟩
  rw [← hPP]
  refine J_aload_n dX7_couldRemember_0 rfl ?_
  refine J_get 0 dX7_couldRemember_1 jk7 (Nat.le_of_ble_eq_true rfl) jfRX7_10 H0 (by omega) rfl ?_
  refine J_get 3 dX7_couldRemember_4 jk6 (Nat.le_of_ble_eq_true rfl) jfRX7_194 H1 (by omega) rfl ?_
  refine J_astore dX7_couldRemember_7 (Nat.le_of_ble_eq_true rfl) (L' := [(4, .ref (E.1 + 6)), (0, .ref (E.1 + 0)), (1, .int (nI a)), (2, .int (nI t)), (3, .int (nI m))]) rfl ?_
  refine J_iconst (v := nI 0) dX7_couldRemember_9 (by decide +kernel) ?_
  refine J_istore dX7_couldRemember_10 (Nat.le_of_ble_eq_true rfl) (L' := [(5, .int (nI 0)), (4, .ref (E.1 + 6)), (0, .ref (E.1 + 0)), (1, .int (nI a)), (2, .int (nI t)), (3, .int (nI m))]) rfl ?_
  have CUT12 : ∀ (f12 : Nat) (i : Nat) (hm12 : cn - i < f12) (hi : i ≤ cn) (hall : ∀ j, j < i → CC (4 * j + 0) = a ∧ CC (4 * j + 1) = t → upN (K a) m (CC (4 * j + 2)) = CC (4 * j + 3)), J E mX7_couldRemember (2, 0, 0) jS0 PP h n (0, 0) 12 [(5, .int (nI i)), (4, .ref (E.1 + 6)), (0, .ref (E.1 + 0)), (1, .int (nI a)), (2, .int (nI t)), (3, .int (nI m))] [] := by
    intro f12
    induction f12 with
    | zero => intro i hm12; exact absurd hm12 (Nat.not_lt_zero _)
    | succ f12 ih12 =>
      intro i hm12 hi hall
      have nb0 := hCC (4 * i + 0)
      have nb1 := hCC (4 * i + 1)
      have nb2 := hCC (4 * i + 2)
      have nb3 := hCC (4 * i + 3)
      have nl := upN_le (kd := K a) (g := CC (4 * i + 2)) hm
      refine J_iload dX7_couldRemember_12 rfl ?_
      refine J_aload dX7_couldRemember_14 rfl ?_
      refine J_get 1 dX7_couldRemember_16 jk4 (Nat.le_of_ble_eq_true rfl) jfRX7_193 H3 (by omega) rfl ?_
      refine J_icmp_geN (tgt := 98) dX7_couldRemember_19 (by decide) (by omega) (by omega) (fun c1 => ?_) (fun c1 => ?_)
      · skip
        refine J_iconst (v := nI 1) dX7_couldRemember_98 (by decide +kernel) ?_
        exact J_zret dX7_couldRemember_99 rfl rfl ⟨Nat.le_refl _, Nat.le_refl _⟩ (by rw [hPP]; exact ⟨(congrArg some (Option.some.inj (jret_B1 (by intro j hj; exact hall j (by omega))))), rfl, rfl⟩)
      · skip
        refine J_aload dX7_couldRemember_22 rfl ?_
        refine J_iload dX7_couldRemember_24 rfl ?_
        refine J_iconst (v := nI 0) dX7_couldRemember_26 (by decide +kernel) ?_
        refine J_callVr (M' := mX4_at) (d' := (1, 0, 0)) (rest := []) dX7_couldRemember_27 jmX4_at jlRX7_279 (ctX4_at 6 i 0 cn CC H3 H4 (by omega) (by first | assumption | omega) (by first | assumption | omega)) H3 (by omega) jk4.1 rfl rfl (Nat.le_of_ble_eq_true rfl) (Nat.le_of_ble_eq_true rfl) ⟨Nat.le_refl _, Nat.le_refl _⟩ ?_
        refine J_iload_n dX7_couldRemember_30 rfl ?_
        refine J_icmp_neN (tgt := 50) dX7_couldRemember_31 (by decide) (by omega) (by omega) (fun c2 => ?_) (fun c2 => ?_)
        · skip
          refine J_iconst (v := nI 0) dX7_couldRemember_50 (by decide +kernel) ?_
          refine J_istore dX7_couldRemember_51 (Nat.le_of_ble_eq_true rfl) (L' := [(6, .int (nI 0)), (5, .int (nI i)), (4, .ref (E.1 + 6)), (0, .ref (E.1 + 0)), (1, .int (nI a)), (2, .int (nI t)), (3, .int (nI m))]) rfl ?_
          refine J_iload dX7_couldRemember_53 rfl ?_
          refine J_if_eqN (tgt := 92) dX7_couldRemember_55 (by decide) (by omega) (fun _ => ?_) (fun z => absurd z (by decide))
          refine J_iincN (q := 1) (a := i) (m := 1) dX7_couldRemember_92 rfl (by decide +kernel) (Nat.le_of_ble_eq_true rfl) (L' := [(5, .int (nI (i + 1))), (6, .int (nI 0)), (4, .ref (E.1 + 6)), (0, .ref (E.1 + 0)), (1, .int (nI a)), (2, .int (nI t)), (3, .int (nI m))]) rfl ?_
          refine J_goto (tgt := 12) dX7_couldRemember_95 (by decide) ?_
          refine J.sub [0, 2, 3, 4, 5, 6] (L' := [(5, .int (nI (i + 1))), (4, .ref (E.1 + 6)), (0, .ref (E.1 + 0)), (1, .int (nI a)), (2, .int (nI t)), (3, .int (nI m))]) rfl ?_
          exact ih12 (i + 1) (by omega) (by first | assumption | omega) (by first | exact (fun j hj => absurd hj (Nat.not_lt_zero j)) | exact lt_step hall (fun q => by omega))
        · skip
          refine J_aload dX7_couldRemember_34 rfl ?_
          refine J_iload dX7_couldRemember_36 rfl ?_
          refine J_iconst (v := nI 1) dX7_couldRemember_38 (by decide +kernel) ?_
          refine J_callVr (M' := mX4_at) (d' := (1, 0, 0)) (rest := []) dX7_couldRemember_39 jmX4_at jlRX7_279 (ctX4_at 6 i 1 cn CC H3 H4 (by omega) (by first | assumption | omega) (by first | assumption | omega)) H3 (by omega) jk4.1 rfl rfl (Nat.le_of_ble_eq_true rfl) (Nat.le_of_ble_eq_true rfl) ⟨Nat.le_refl _, Nat.le_refl _⟩ ?_
          refine J_iload_n dX7_couldRemember_42 rfl ?_
          refine J_icmp_neN (tgt := 50) dX7_couldRemember_43 (by decide) (by omega) (by omega) (fun c4 => ?_) (fun c4 => ?_)
          · skip
            refine J_iconst (v := nI 0) dX7_couldRemember_50 (by decide +kernel) ?_
            refine J_istore dX7_couldRemember_51 (Nat.le_of_ble_eq_true rfl) (L' := [(6, .int (nI 0)), (5, .int (nI i)), (4, .ref (E.1 + 6)), (0, .ref (E.1 + 0)), (1, .int (nI a)), (2, .int (nI t)), (3, .int (nI m))]) rfl ?_
            refine J_iload dX7_couldRemember_53 rfl ?_
            refine J_if_eqN (tgt := 92) dX7_couldRemember_55 (by decide) (by omega) (fun _ => ?_) (fun z => absurd z (by decide))
            refine J_iincN (q := 1) (a := i) (m := 1) dX7_couldRemember_92 rfl (by decide +kernel) (Nat.le_of_ble_eq_true rfl) (L' := [(5, .int (nI (i + 1))), (6, .int (nI 0)), (4, .ref (E.1 + 6)), (0, .ref (E.1 + 0)), (1, .int (nI a)), (2, .int (nI t)), (3, .int (nI m))]) rfl ?_
            refine J_goto (tgt := 12) dX7_couldRemember_95 (by decide) ?_
            refine J.sub [0, 2, 3, 4, 5, 6] (L' := [(5, .int (nI (i + 1))), (4, .ref (E.1 + 6)), (0, .ref (E.1 + 0)), (1, .int (nI a)), (2, .int (nI t)), (3, .int (nI m))]) rfl ?_
            exact ih12 (i + 1) (by omega) (by first | assumption | omega) (by first | exact (fun j hj => absurd hj (Nat.not_lt_zero j)) | exact lt_step hall (fun q => by omega))
          · skip
            refine J_iconst (v := nI 1) dX7_couldRemember_46 (by decide +kernel) ?_
            refine J_goto (tgt := 51) dX7_couldRemember_47 (by decide) ?_
            refine J_istore dX7_couldRemember_51 (Nat.le_of_ble_eq_true rfl) (L' := [(6, .int (nI 1)), (5, .int (nI i)), (4, .ref (E.1 + 6)), (0, .ref (E.1 + 0)), (1, .int (nI a)), (2, .int (nI t)), (3, .int (nI m))]) rfl ?_
            refine J_iload dX7_couldRemember_53 rfl ?_
            refine J_if_eqN (tgt := 92) dX7_couldRemember_55 (by decide) (by omega) (fun z => absurd z (by decide)) (fun _ => ?_)
            refine J_aload_n dX7_couldRemember_58 rfl ?_
            refine J_get 0 dX7_couldRemember_59 jk7 (Nat.le_of_ble_eq_true rfl) jfRX7_10 H0 (by omega) rfl ?_
            refine J_get 0 dX7_couldRemember_62 jk6 (Nat.le_of_ble_eq_true rfl) jfRX7_136 H1 (by omega) rfl ?_
            refine J_iload_n dX7_couldRemember_65 rfl ?_
            refine J_ialdN (i := a) dX7_couldRemember_66 H2 (by omega) (by omega) (by omega) ?_
            have bd7 := hK a
            refine J_iload_n dX7_couldRemember_67 rfl ?_
            refine J_aload dX7_couldRemember_68 rfl ?_
            refine J_iload dX7_couldRemember_70 rfl ?_
            refine J_iconst (v := nI 2) dX7_couldRemember_72 (by decide +kernel) ?_
            refine J_callVr (M' := mX4_at) (d' := (1, 0, 0)) (rest := [.int (nI m), .int (nI (K a))]) dX7_couldRemember_73 jmX4_at jlRX7_279 (ctX4_at 6 i 2 cn CC H3 H4 (by omega) (by first | assumption | omega) (by first | assumption | omega)) H3 (by omega) jk4.1 rfl rfl (Nat.le_of_ble_eq_true rfl) (Nat.le_of_ble_eq_true rfl) ⟨Nat.le_refl _, Nat.le_refl _⟩ ?_
            refine J_callSr (M' := mX0_risen) (d' := (1, 0, 0)) (rest := []) dX7_couldRemember_76 jmX0_risen jlRX7_290 (ctX0_risen (K a) m (CC (4 * i + 2))   (by first | assumption | omega) (by first | assumption | omega) (by first | assumption | omega)) rfl rfl (Nat.le_of_ble_eq_true rfl) (Nat.le_of_ble_eq_true rfl) ⟨Nat.le_refl _, Nat.le_refl _⟩ ?_
            refine J_aload dX7_couldRemember_79 rfl ?_
            refine J_iload dX7_couldRemember_81 rfl ?_
            refine J_iconst (v := nI 3) dX7_couldRemember_83 (by decide +kernel) ?_
            refine J_callVr (M' := mX4_at) (d' := (1, 0, 0)) (rest := [.int (nI (upN (K a) m (CC (4 * i + 2))))]) dX7_couldRemember_84 jmX4_at jlRX7_279 (ctX4_at 6 i 3 cn CC H3 H4 (by omega) (by first | assumption | omega) (by first | assumption | omega)) H3 (by omega) jk4.1 rfl rfl (Nat.le_of_ble_eq_true rfl) (Nat.le_of_ble_eq_true rfl) ⟨Nat.le_refl _, Nat.le_refl _⟩ ?_
            refine J_icmp_eqN (tgt := 92) dX7_couldRemember_87 (by decide) (by omega) (by omega) (fun c8 => ?_) (fun c8 => ?_)
            · skip
              refine J_iincN (q := 1) (a := i) (m := 1) dX7_couldRemember_92 rfl (by decide +kernel) (Nat.le_of_ble_eq_true rfl) (L' := [(5, .int (nI (i + 1))), (6, .int (nI 1)), (4, .ref (E.1 + 6)), (0, .ref (E.1 + 0)), (1, .int (nI a)), (2, .int (nI t)), (3, .int (nI m))]) rfl ?_
              refine J_goto (tgt := 12) dX7_couldRemember_95 (by decide) ?_
              refine J.sub [0, 2, 3, 4, 5, 6] (L' := [(5, .int (nI (i + 1))), (4, .ref (E.1 + 6)), (0, .ref (E.1 + 0)), (1, .int (nI a)), (2, .int (nI t)), (3, .int (nI m))]) rfl ?_
              exact ih12 (i + 1) (by omega) (by first | assumption | omega) (by first | exact (fun j hj => absurd hj (Nat.not_lt_zero j)) | exact lt_step hall (fun q => by omega))
            · skip
              refine J_iconst (v := nI 0) dX7_couldRemember_90 (by decide +kernel) ?_
              exact J_zret dX7_couldRemember_91 rfl rfl ⟨Nat.le_refl _, Nat.le_refl _⟩ (by rw [hPP]; exact ⟨(congrArg some (Option.some.inj (jret_B0 (by intro hq; exact absurd (hq i (by omega) (by omega)) (by omega))))), rfl, rfl⟩)
  exact CUT12 (cn - 0 + 1) 0 (Nat.lt_succ_self _) (by first | assumption | omega) (by first | exact (fun j hj => absurd hj (Nat.not_lt_zero j)) | exact lt_step hall (fun q => by omega))

set_option maxHeartbeats 1000000 in
set_option maxRecDepth 100000 in
theorem ctX7_memory_bad {E : jE} {h : Nat → va_E} {n : Nat} (a : Nat) (t : Nat) (ab : Nat) (be : Nat) (bd : Nat) (no : Nat) (fu : Nat) (an : Nat) (td : Nat) (gr : Nat) (H0 : h 0 = .inr (6, [.ref (E.1 + 1), .ref (E.1 + 12), .ref (E.1 + 23), .ref (E.1 + 24), .ref (E.1 + 30), .ref (E.1 + 34), .ref (E.1 + 37), .int (nI ab), .int (nI be), .int (nI bd), .int (nI no), .int (nI fu)])) (H1 : h 1 = .inr (5, [.ref (E.1 + 2), .ref (E.1 + 3), .ref (E.1 + 4), .ref (E.1 + 6), .ref (E.1 + 8), .int (nI an), .int (nI td), .int (nI gr)])) (hn : 38 ≤ n) (h32a : a < 2 ^ 32) (h32t : t < 2 ^ 32) (hn4 : an ≤ 4) (hbad : ¬ (a < an ∧ t ≤ 3)) : jC E mX7_memory (4, 0, 0) [.ref (E.1 + 0), .int (nI a), .int (nI t)] h n (jR (some (.int (-2))) (hset h 0 (.inr (6, [.ref (E.1 + 1), .ref (E.1 + 12), .ref (E.1 + 23), .ref (E.1 + 24), .ref (E.1 + 30), .ref (E.1 + 34), .ref (E.1 + 37), .int (nI ab), .int (nI be), .int (nI (bd + 1)), .int (nI no), .int (nI fu)]))) n) := by
  refine J.of (L := [(0, .ref (E.1 + 0)), (1, .int (nI a)), (2, .int (nI t))]) rfl (by decide +kernel) (Nat.le_of_ble_eq_true rfl) ?_
  obtain ⟨PP, hPP⟩ : ∃ PP : jPost, PP = (jR (some (.int (-2))) (hset h 0 (.inr (6, [.ref (E.1 + 1), .ref (E.1 + 12), .ref (E.1 + 23), .ref (E.1 + 24), .ref (E.1 + 30), .ref (E.1 + 34), .ref (E.1 + 37), .int (nI ab), .int (nI be), .int (nI (bd + 1)), .int (nI no), .int (nI fu)]))) n) := ⟨_, rfl⟩
  rw [← hPP]
  refine J_aload_n dX7_memory_0 rfl ?_
  refine J_iload_n dX7_memory_1 rfl ?_
  refine J_iload_n dX7_memory_2 rfl ?_
  refine J_callVr (M' := mX7_isPlace) (d' := (3, 0, 0)) (rest := []) dX7_memory_3 jmX7_isPlace jlRX7_98 (ctX7_isPlace a t an td gr ab be bd no fu H0 H1 (by omega) (by first | assumption | omega) (by first | assumption | omega) (by first | assumption | omega)) H0 (by omega) jk7.1 rfl rfl (Nat.le_of_ble_eq_true rfl) (Nat.le_of_ble_eq_true rfl) ⟨Nat.le_refl _, Nat.le_refl _⟩ ?_
  refine J_if_neB (tgt := 16) dX7_memory_6 (by decide) (fun c1 => (by exfalso; omega)) (fun c1 => ?_)
  refine J_aload_n dX7_memory_9 rfl ?_
  refine J_bipush (v := (-2)) dX7_memory_10 (by decide +kernel) ?_
  refine J_callVr (M' := mX7_refuse) (d' := (1, 0, 0)) (rest := []) dX7_memory_12 jmX7_refuse jlRX7_59 (ctX7_refuse2 ab be bd no fu H0 (by omega) ) H0 (by omega) jk7.1 rfl rfl (Nat.le_of_ble_eq_true rfl) (Nat.le_of_ble_eq_true rfl) ⟨Nat.le_refl _, Nat.le_refl _⟩ ?_
  exact J_iret dX7_memory_15 rfl ⟨Nat.le_refl _, Nat.le_refl _⟩ (by rw [hPP]; exact ⟨rfl, rfl, rfl⟩)

set_option maxHeartbeats 1000000 in
set_option maxRecDepth 100000 in
theorem ctX7_memory {E : jE} {h : Nat → va_E} {n : Nat} (a : Nat) (t : Nat) (an : Nat) (td : Nat) (gr : Nat) (K : Nat → Nat) (cn : Nat) (CC : Nat → Nat) (ab : Nat) (be : Nat) (bd : Nat) (no : Nat) (fu : Nat) (H0 : h 0 = .inr (6, [.ref (E.1 + 1), .ref (E.1 + 12), .ref (E.1 + 23), .ref (E.1 + 24), .ref (E.1 + 30), .ref (E.1 + 34), .ref (E.1 + 37), .int (nI ab), .int (nI be), .int (nI bd), .int (nI no), .int (nI fu)])) (H1 : h 1 = .inr (5, [.ref (E.1 + 2), .ref (E.1 + 3), .ref (E.1 + 4), .ref (E.1 + 6), .ref (E.1 + 8), .int (nI an), .int (nI td), .int (nI gr)])) (H2 : h 2 = cI E 4 (nF K)) (H3 : h 6 = .inr (3, [.ref (E.1 + 7), .int (nI cn)])) (H4 : h 7 = cI E 24 (nF CC)) (hn : 38 ≤ n) (hCC : ∀ zz, CC zz ≤ 50) (hcn : cn ≤ 6) (hK : ∀ zz, K zz ≤ 5) (hn4 : an ≤ 4) (ha : a < an) (ht : t < 4) : jC E mX7_memory (4, 0, 0) [.ref (E.1 + 0), .int (nI a), .int (nI t)] h n (jR (some (.int (nI (memoN CC cn (K a) a t)))) h n) := by
  refine J.of (L := [(0, .ref (E.1 + 0)), (1, .int (nI a)), (2, .int (nI t))]) rfl (by decide +kernel) (Nat.le_of_ble_eq_true rfl) ?_
  obtain ⟨PP, hPP⟩ : ∃ PP : jPost, PP = (jR (some (.int (nI (memoN CC cn (K a) a t)))) h n) := ⟨_, rfl⟩
  rw [← hPP]
  refine J_aload_n dX7_memory_0 rfl ?_
  refine J_iload_n dX7_memory_1 rfl ?_
  refine J_iload_n dX7_memory_2 rfl ?_
  refine J_callVr (M' := mX7_isPlace) (d' := (3, 0, 0)) (rest := []) dX7_memory_3 jmX7_isPlace jlRX7_98 (ctX7_isPlace a t an td gr ab be bd no fu H0 H1 (by omega) (by first | assumption | omega) (by first | assumption | omega) (by first | assumption | omega)) H0 (by omega) jk7.1 rfl rfl (Nat.le_of_ble_eq_true rfl) (Nat.le_of_ble_eq_true rfl) ⟨Nat.le_refl _, Nat.le_refl _⟩ ?_
  refine J_if_neB (tgt := 16) dX7_memory_6 (by decide) (fun c1 => ?_) (fun c1 => (by exfalso; omega))
  refine J_iconst (v := nI 0) dX7_memory_16 (by decide +kernel) ?_
  refine J_istore_n dX7_memory_17 (Nat.le_of_ble_eq_true rfl) (L' := [(3, .int (nI 0)), (0, .ref (E.1 + 0)), (1, .int (nI a)), (2, .int (nI t))]) rfl ?_
  refine J_iconst (v := nI 0) dX7_memory_18 (by decide +kernel) ?_
  refine J_istore dX7_memory_19 (Nat.le_of_ble_eq_true rfl) (L' := [(4, .int (nI 0)), (3, .int (nI 0)), (0, .ref (E.1 + 0)), (1, .int (nI a)), (2, .int (nI t))]) rfl ?_
  have CUT21 : ∀ (f21 : Nat) (i : Nat) (hm21 : 21 - i < f21) (hi : i ≤ 21), J E mX7_memory (4, 0, 0) jS0 PP h n (0, 0) 21 [(4, .int (nI i)), (3, .int (nI (bitsN (cameP CC cn (K a) a t) i))), (0, .ref (E.1 + 0)), (1, .int (nI a)), (2, .int (nI t))] [] := by
    intro f21
    induction f21 with
    | zero => intro i hm21; exact absurd hm21 (Nat.not_lt_zero _)
    | succ f21 ih21 =>
      intro i hm21 hi
      refine J_iload dX7_memory_21 rfl ?_
      refine J_bipush (v := nI 20) dX7_memory_23 (by decide +kernel) ?_
      refine J_icmp_gtN (tgt := 52) dX7_memory_25 (by decide) (by omega) (by omega) (fun c2 => ?_) (fun c2 => ?_)
      · skip
        refine J_iload_n dX7_memory_52 rfl ?_
        exact J_iret dX7_memory_53 rfl ⟨Nat.le_refl _, Nat.le_refl _⟩ (by rw [hPP]; exact ⟨(congrArg some (jv_N (by rw [show i = 21 by omega]; rfl))), rfl, rfl⟩)
      · skip
        refine J_aload_n dX7_memory_28 rfl ?_
        refine J_iload_n dX7_memory_29 rfl ?_
        refine J_iload_n dX7_memory_30 rfl ?_
        refine J_iload dX7_memory_31 rfl ?_
        refine J_callVr (M' := mX7_couldRemember) (d' := (2, 0, 0)) (rest := []) dX7_memory_33 jmX7_couldRemember jlRX7_203 (ctX7_couldRemember a t i an td gr K cn CC ab be bd no fu H0 H1 H2 H3 H4 (by omega) (by first | assumption | omega) (by first | assumption | omega) (by first | assumption | omega) (by first | assumption | omega) (by first | assumption | omega) (by first | assumption | omega)) H0 (by omega) jk7.1 rfl rfl (Nat.le_of_ble_eq_true rfl) (Nat.le_of_ble_eq_true rfl) ⟨Nat.le_refl _, Nat.le_refl _⟩ ?_
        refine J_if_eqB (tgt := 46) dX7_memory_36 (by decide) (fun c3 => ?_) (fun c3 => ?_)
        · skip
          refine J_iincN (q := 0) (a := i) (m := 1) dX7_memory_46 rfl (by decide +kernel) (Nat.le_of_ble_eq_true rfl) (L' := [(4, .int (nI (i + 1))), (3, .int (nI (bitsN (cameP CC cn (K a) a t) i))), (0, .ref (E.1 + 0)), (1, .int (nI a)), (2, .int (nI t))]) rfl ?_
          refine J_goto (tgt := 21) dX7_memory_49 (by decide) ?_
          refine J.eqs (h' := h) (L' := [(4, .int (nI (i + 1))), (3, .int (nI (bitsN (cameP CC cn (K a) a t) (i + 1)))), (0, .ref (E.1 + 0)), (1, .int (nI a)), (2, .int (nI t))]) (st' := []) rfl (jL_c rfl (jL_c (jv_N (by first | exact bitsN_t (by assumption) | exact bitsN_f (by assumption) | rfl)) (jL_c rfl (jL_c rfl (jL_c rfl rfl))))) rfl ?_
          exact ih21 (i + 1) (by omega) (by first | assumption | omega)
        · skip
          refine J_iload_n dX7_memory_39 rfl ?_
          refine J_iconst (v := nI 1) dX7_memory_40 (by decide +kernel) ?_
          refine J_iload dX7_memory_41 rfl ?_
          refine J_ishlN dX7_memory_43 (by omega) (by have q5 : 2 ^ i ≤ 2 ^ 21 := Nat.pow_le_pow_right (by omega) (by omega); omega) ?_
          refine J_iorN dX7_memory_44 ?_
          refine J_istore_n dX7_memory_45 (Nat.le_of_ble_eq_true rfl) (L' := [(3, .int (nI ((bitsN (cameP CC cn (K a) a t) i) ||| (1 * 2 ^ i)))), (4, .int (nI i)), (0, .ref (E.1 + 0)), (1, .int (nI a)), (2, .int (nI t))]) rfl ?_
          refine J_iincN (q := 1) (a := i) (m := 1) dX7_memory_46 rfl (by decide +kernel) (Nat.le_of_ble_eq_true rfl) (L' := [(4, .int (nI (i + 1))), (3, .int (nI ((bitsN (cameP CC cn (K a) a t) i) ||| (1 * 2 ^ i)))), (0, .ref (E.1 + 0)), (1, .int (nI a)), (2, .int (nI t))]) rfl ?_
          refine J_goto (tgt := 21) dX7_memory_49 (by decide) ?_
          refine J.eqs (h' := h) (L' := [(4, .int (nI (i + 1))), (3, .int (nI (bitsN (cameP CC cn (K a) a t) (i + 1)))), (0, .ref (E.1 + 0)), (1, .int (nI a)), (2, .int (nI t))]) (st' := []) rfl (jL_c rfl (jL_c (jv_N (by first | exact bitsN_t (by assumption) | exact bitsN_f (by assumption) | rfl)) (jL_c rfl (jL_c rfl (jL_c rfl rfl))))) rfl ?_
          exact ih21 (i + 1) (by omega) (by first | assumption | omega)
  refine J.eqs (h' := h) (L' := [(4, .int (nI 0)), (3, .int (nI (bitsN (cameP CC cn (K a) a t) 0))), (0, .ref (E.1 + 0)), (1, .int (nI a)), (2, .int (nI t))]) (st' := []) rfl (jL_c rfl (jL_c (jv_N (by first | exact bitsN_t (by assumption) | exact bitsN_f (by assumption) | rfl)) (jL_c rfl (jL_c rfl (jL_c rfl rfl))))) rfl ?_
  exact CUT21 (21 - 0 + 1) 0 (Nat.lt_succ_self _) (by first | assumption | omega)

set_option maxHeartbeats 1000000 in
set_option maxRecDepth 100000 in
theorem ctX7_whose_bad {E : jE} {h : Nat → va_E} {n : Nat} (x0 : Nat) (x1 : Nat) (x2 : Nat) (x3 : Nat) (ab : Nat) (be : Nat) (bd : Nat) (no : Nat) (fu : Nat) (H0 : h 0 = .inr (6, [.ref (E.1 + 1), .ref (E.1 + 12), .ref (E.1 + 23), .ref (E.1 + 24), .ref (E.1 + 30), .ref (E.1 + 34), .ref (E.1 + 37), .int (nI ab), .int (nI be), .int (nI bd), .int (nI no), .int (nI fu)])) (hn : 38 ≤ n) (h32x0 : x0 < 2 ^ 32) (h32x1 : x1 < 2 ^ 32) (h32x2 : x2 < 2 ^ 32) (h32x3 : x3 < 2 ^ 32) (hbad : ¬ (x0 ≤ 50 ∧ x1 ≤ 50 ∧ x2 ≤ 50 ∧ x3 ≤ 50)) : jC E mX7_whose (3, 0, 0) [.ref (E.1 + 0), .int (nI x0), .int (nI x1), .int (nI x2), .int (nI x3)] h n (jR (some (.int (-2))) (hset h 0 (.inr (6, [.ref (E.1 + 1), .ref (E.1 + 12), .ref (E.1 + 23), .ref (E.1 + 24), .ref (E.1 + 30), .ref (E.1 + 34), .ref (E.1 + 37), .int (nI ab), .int (nI be), .int (nI (bd + 1)), .int (nI no), .int (nI fu)]))) n) := by
  refine J.of (L := [(0, .ref (E.1 + 0)), (1, .int (nI x0)), (2, .int (nI x1)), (3, .int (nI x2)), (4, .int (nI x3))]) rfl (by decide +kernel) (Nat.le_of_ble_eq_true rfl) ?_
  obtain ⟨PP, hPP⟩ : ∃ PP : jPost, PP = (jR (some (.int (-2))) (hset h 0 (.inr (6, [.ref (E.1 + 1), .ref (E.1 + 12), .ref (E.1 + 23), .ref (E.1 + 24), .ref (E.1 + 30), .ref (E.1 + 34), .ref (E.1 + 37), .int (nI ab), .int (nI be), .int (nI (bd + 1)), .int (nI no), .int (nI fu)]))) n) := ⟨_, rfl⟩
  rw [← hPP]
  refine J_iload_n dX7_whose_0 rfl ?_
  refine J_callSr (M' := mX7_isUp) (d' := (2, 0, 0)) (rest := []) dX7_whose_1 jmX7_isUp jlRX7_206 (ctX7_isUp x0   (by first | assumption | omega)) rfl rfl (Nat.le_of_ble_eq_true rfl) (Nat.le_of_ble_eq_true rfl) ⟨Nat.le_refl _, Nat.le_refl _⟩ ?_
  refine J_if_eqB (tgt := 29) dX7_whose_4 (by decide) (fun c1 => ?_) (fun c1 => ?_)
  · skip
    refine J_aload_n dX7_whose_29 rfl ?_
    refine J_bipush (v := (-2)) dX7_whose_30 (by decide +kernel) ?_
    refine J_callVr (M' := mX7_refuse) (d' := (1, 0, 0)) (rest := []) dX7_whose_32 jmX7_refuse jlRX7_59 (ctX7_refuse2 ab be bd no fu H0 (by omega) ) H0 (by omega) jk7.1 rfl rfl (Nat.le_of_ble_eq_true rfl) (Nat.le_of_ble_eq_true rfl) ⟨Nat.le_refl _, Nat.le_refl _⟩ ?_
    exact J_iret dX7_whose_35 rfl ⟨Nat.le_refl _, Nat.le_refl _⟩ (by rw [hPP]; exact ⟨rfl, rfl, rfl⟩)
  · skip
    refine J_iload_n dX7_whose_7 rfl ?_
    refine J_callSr (M' := mX7_isUp) (d' := (2, 0, 0)) (rest := []) dX7_whose_8 jmX7_isUp jlRX7_206 (ctX7_isUp x1   (by first | assumption | omega)) rfl rfl (Nat.le_of_ble_eq_true rfl) (Nat.le_of_ble_eq_true rfl) ⟨Nat.le_refl _, Nat.le_refl _⟩ ?_
    refine J_if_eqB (tgt := 29) dX7_whose_11 (by decide) (fun c2 => ?_) (fun c2 => ?_)
    · skip
      refine J_aload_n dX7_whose_29 rfl ?_
      refine J_bipush (v := (-2)) dX7_whose_30 (by decide +kernel) ?_
      refine J_callVr (M' := mX7_refuse) (d' := (1, 0, 0)) (rest := []) dX7_whose_32 jmX7_refuse jlRX7_59 (ctX7_refuse2 ab be bd no fu H0 (by omega) ) H0 (by omega) jk7.1 rfl rfl (Nat.le_of_ble_eq_true rfl) (Nat.le_of_ble_eq_true rfl) ⟨Nat.le_refl _, Nat.le_refl _⟩ ?_
      exact J_iret dX7_whose_35 rfl ⟨Nat.le_refl _, Nat.le_refl _⟩ (by rw [hPP]; exact ⟨rfl, rfl, rfl⟩)
    · skip
      refine J_iload_n dX7_whose_14 rfl ?_
      refine J_callSr (M' := mX7_isUp) (d' := (2, 0, 0)) (rest := []) dX7_whose_15 jmX7_isUp jlRX7_206 (ctX7_isUp x2   (by first | assumption | omega)) rfl rfl (Nat.le_of_ble_eq_true rfl) (Nat.le_of_ble_eq_true rfl) ⟨Nat.le_refl _, Nat.le_refl _⟩ ?_
      refine J_if_eqB (tgt := 29) dX7_whose_18 (by decide) (fun c3 => ?_) (fun c3 => ?_)
      · skip
        refine J_aload_n dX7_whose_29 rfl ?_
        refine J_bipush (v := (-2)) dX7_whose_30 (by decide +kernel) ?_
        refine J_callVr (M' := mX7_refuse) (d' := (1, 0, 0)) (rest := []) dX7_whose_32 jmX7_refuse jlRX7_59 (ctX7_refuse2 ab be bd no fu H0 (by omega) ) H0 (by omega) jk7.1 rfl rfl (Nat.le_of_ble_eq_true rfl) (Nat.le_of_ble_eq_true rfl) ⟨Nat.le_refl _, Nat.le_refl _⟩ ?_
        exact J_iret dX7_whose_35 rfl ⟨Nat.le_refl _, Nat.le_refl _⟩ (by rw [hPP]; exact ⟨rfl, rfl, rfl⟩)
      · skip
        refine J_iload dX7_whose_21 rfl ?_
        refine J_callSr (M' := mX7_isUp) (d' := (2, 0, 0)) (rest := []) dX7_whose_23 jmX7_isUp jlRX7_206 (ctX7_isUp x3   (by first | assumption | omega)) rfl rfl (Nat.le_of_ble_eq_true rfl) (Nat.le_of_ble_eq_true rfl) ⟨Nat.le_refl _, Nat.le_refl _⟩ ?_
        refine J_if_neB (tgt := 36) dX7_whose_26 (by decide) (fun c4 => (by exfalso; omega)) (fun c4 => ?_)
        refine J_aload_n dX7_whose_29 rfl ?_
        refine J_bipush (v := (-2)) dX7_whose_30 (by decide +kernel) ?_
        refine J_callVr (M' := mX7_refuse) (d' := (1, 0, 0)) (rest := []) dX7_whose_32 jmX7_refuse jlRX7_59 (ctX7_refuse2 ab be bd no fu H0 (by omega) ) H0 (by omega) jk7.1 rfl rfl (Nat.le_of_ble_eq_true rfl) (Nat.le_of_ble_eq_true rfl) ⟨Nat.le_refl _, Nat.le_refl _⟩ ?_
        exact J_iret dX7_whose_35 rfl ⟨Nat.le_refl _, Nat.le_refl _⟩ (by rw [hPP]; exact ⟨rfl, rfl, rfl⟩)

set_option maxHeartbeats 1000000 in
set_option maxRecDepth 100000 in
theorem ctX7_whose {E : jE} {h : Nat → va_E} {n : Nat} (x0 : Nat) (x1 : Nat) (x2 : Nat) (x3 : Nat) (an : Nat) (td : Nat) (gr : Nat) (K : Nat → Nat) (M : Nat → Nat) (ab : Nat) (be : Nat) (bd : Nat) (no : Nat) (fu : Nat) (H0 : h 0 = .inr (6, [.ref (E.1 + 1), .ref (E.1 + 12), .ref (E.1 + 23), .ref (E.1 + 24), .ref (E.1 + 30), .ref (E.1 + 34), .ref (E.1 + 37), .int (nI ab), .int (nI be), .int (nI bd), .int (nI no), .int (nI fu)])) (H1 : h 1 = .inr (5, [.ref (E.1 + 2), .ref (E.1 + 3), .ref (E.1 + 4), .ref (E.1 + 6), .ref (E.1 + 8), .int (nI an), .int (nI td), .int (nI gr)])) (H2 : h 2 = cI E 4 (nF K)) (H3 : h 3 = cI E 16 (nF M)) (hn : 38 ≤ n) (hK : ∀ zz, K zz ≤ 5) (hM : ∀ zz, M zz ≤ 20) (hg : gr ≤ 9) (hn4 : an ≤ 4) (hx0 : x0 ≤ 50) (hx1 : x1 ≤ 50) (hx2 : x2 ≤ 50) (hx3 : x3 ≤ 50) : jC E mX7_whose (3, 0, 0) [.ref (E.1 + 0), .int (nI x0), .int (nI x1), .int (nI x2), .int (nI x3)] h n (jR (some (.int (nI (whoseN K M gr an x0 x1 x2 x3)))) h n) := by
  refine J.of (L := [(0, .ref (E.1 + 0)), (1, .int (nI x0)), (2, .int (nI x1)), (3, .int (nI x2)), (4, .int (nI x3))]) rfl (by decide +kernel) (Nat.le_of_ble_eq_true rfl) ?_
  obtain ⟨PP, hPP⟩ : ∃ PP : jPost, PP = (jR (some (.int (nI (whoseN K M gr an x0 x1 x2 x3)))) h n) := ⟨_, rfl⟩
  rw [← hPP]
  refine J_iload_n dX7_whose_0 rfl ?_
  refine J_callSr (M' := mX7_isUp) (d' := (2, 0, 0)) (rest := []) dX7_whose_1 jmX7_isUp jlRX7_206 (ctX7_isUp x0   (by first | assumption | omega)) rfl rfl (Nat.le_of_ble_eq_true rfl) (Nat.le_of_ble_eq_true rfl) ⟨Nat.le_refl _, Nat.le_refl _⟩ ?_
  refine J_if_eqB (tgt := 29) dX7_whose_4 (by decide) (fun c1 => (by exfalso; omega)) (fun c1 => ?_)
  refine J_iload_n dX7_whose_7 rfl ?_
  refine J_callSr (M' := mX7_isUp) (d' := (2, 0, 0)) (rest := []) dX7_whose_8 jmX7_isUp jlRX7_206 (ctX7_isUp x1   (by first | assumption | omega)) rfl rfl (Nat.le_of_ble_eq_true rfl) (Nat.le_of_ble_eq_true rfl) ⟨Nat.le_refl _, Nat.le_refl _⟩ ?_
  refine J_if_eqB (tgt := 29) dX7_whose_11 (by decide) (fun c2 => (by exfalso; omega)) (fun c2 => ?_)
  refine J_iload_n dX7_whose_14 rfl ?_
  refine J_callSr (M' := mX7_isUp) (d' := (2, 0, 0)) (rest := []) dX7_whose_15 jmX7_isUp jlRX7_206 (ctX7_isUp x2   (by first | assumption | omega)) rfl rfl (Nat.le_of_ble_eq_true rfl) (Nat.le_of_ble_eq_true rfl) ⟨Nat.le_refl _, Nat.le_refl _⟩ ?_
  refine J_if_eqB (tgt := 29) dX7_whose_18 (by decide) (fun c3 => (by exfalso; omega)) (fun c3 => ?_)
  refine J_iload dX7_whose_21 rfl ?_
  refine J_callSr (M' := mX7_isUp) (d' := (2, 0, 0)) (rest := []) dX7_whose_23 jmX7_isUp jlRX7_206 (ctX7_isUp x3   (by first | assumption | omega)) rfl rfl (Nat.le_of_ble_eq_true rfl) (Nat.le_of_ble_eq_true rfl) ⟨Nat.le_refl _, Nat.le_refl _⟩ ?_
  refine J_if_neB (tgt := 36) dX7_whose_26 (by decide) (fun c4 => ?_) (fun c4 => (by exfalso; omega))
  refine J_iconst (v := nI 0) dX7_whose_36 (by decide +kernel) ?_
  refine J_istore dX7_whose_37 (Nat.le_of_ble_eq_true rfl) (L' := [(5, .int (nI 0)), (0, .ref (E.1 + 0)), (1, .int (nI x0)), (2, .int (nI x1)), (3, .int (nI x2)), (4, .int (nI x3))]) rfl ?_
  refine J_iconst (v := nI 0) dX7_whose_39 (by decide +kernel) ?_
  refine J_istore dX7_whose_40 (Nat.le_of_ble_eq_true rfl) (L' := [(6, .int (nI 0)), (5, .int (nI 0)), (0, .ref (E.1 + 0)), (1, .int (nI x0)), (2, .int (nI x1)), (3, .int (nI x2)), (4, .int (nI x3))]) rfl ?_
  have CUT42 : ∀ (f42 : Nat) (i : Nat) (hm42 : an - i < f42) (hi : i ≤ an), J E mX7_whose (3, 0, 0) jS0 PP h n (0, 0) 42 [(6, .int (nI i)), (5, .int (nI (bitsN (whoseP K M gr x0 x1 x2 x3) i))), (0, .ref (E.1 + 0)), (1, .int (nI x0)), (2, .int (nI x1)), (3, .int (nI x2)), (4, .int (nI x3))] [] := by
    intro f42
    induction f42 with
    | zero => intro i hm42; exact absurd hm42 (Nat.not_lt_zero _)
    | succ f42 ih42 =>
      intro i hm42 hi
      refine J_iload dX7_whose_42 rfl ?_
      refine J_aload_n dX7_whose_44 rfl ?_
      refine J_get 0 dX7_whose_45 jk7 (Nat.le_of_ble_eq_true rfl) jfRX7_10 H0 (by omega) rfl ?_
      refine J_get 5 dX7_whose_48 jk6 (Nat.le_of_ble_eq_true rfl) jfRX7_63 H1 (by omega) rfl ?_
      refine J_icmp_geN (tgt := 126) dX7_whose_51 (by decide) (by omega) (by omega) (fun c5 => ?_) (fun c5 => ?_)
      · skip
        refine J_iload dX7_whose_126 rfl ?_
        exact J_iret dX7_whose_128 rfl ⟨Nat.le_refl _, Nat.le_refl _⟩ (by rw [hPP]; exact ⟨(congrArg some (jv_N (by rw [show i = an by omega]; rfl))), rfl, rfl⟩)
      · skip
        refine J_aload_n dX7_whose_54 rfl ?_
        refine J_get 0 dX7_whose_55 jk7 (Nat.le_of_ble_eq_true rfl) jfRX7_10 H0 (by omega) rfl ?_
        refine J_iload dX7_whose_58 rfl ?_
        refine J_iconst (v := nI 0) dX7_whose_60 (by decide +kernel) ?_
        refine J_callVr (M' := mX6_risen) (d' := (2, 0, 0)) (rest := []) dX7_whose_61 jmX6_risen jlRX7_139 (ctX6_risen 1 i 0 an td gr K M H1 H2 H3 (by omega) (by first | assumption | omega) (by first | assumption | omega) (by first | assumption | omega) (by first | assumption | omega) (by first | assumption | omega)) H1 (by omega) jk6.1 rfl rfl (Nat.le_of_ble_eq_true rfl) (Nat.le_of_ble_eq_true rfl) ⟨Nat.le_refl _, Nat.le_refl _⟩ ?_
        have fc6 : upN (K i) (M (4 * i + 0)) gr ≤ 42 := upN_le ((show ∀ zz, M zz ≤ 20 from by first | assumption | omega) (4 * i + 0))
        refine J_iload_n dX7_whose_64 rfl ?_
        refine J_icmp_neN (tgt := 120) dX7_whose_65 (by decide) (by omega) (by omega) (fun c7 => ?_) (fun c7 => ?_)
        · skip
          refine J_iincN (q := 0) (a := i) (m := 1) dX7_whose_120 rfl (by decide +kernel) (Nat.le_of_ble_eq_true rfl) (L' := [(6, .int (nI (i + 1))), (5, .int (nI (bitsN (whoseP K M gr x0 x1 x2 x3) i))), (0, .ref (E.1 + 0)), (1, .int (nI x0)), (2, .int (nI x1)), (3, .int (nI x2)), (4, .int (nI x3))]) rfl ?_
          refine J_goto (tgt := 42) dX7_whose_123 (by decide) ?_
          refine J.eqs (h' := h) (L' := [(6, .int (nI (i + 1))), (5, .int (nI (bitsN (whoseP K M gr x0 x1 x2 x3) (i + 1)))), (0, .ref (E.1 + 0)), (1, .int (nI x0)), (2, .int (nI x1)), (3, .int (nI x2)), (4, .int (nI x3))]) (st' := []) rfl (jL_c rfl (jL_c (jv_N (by first | rfl | (refine bitsN_t ?_; refine ⟨?_, ?_, ?_, ?_⟩ <;> omega) | (refine bitsN_f (fun q => ?_); obtain ⟨q0, q1, q2, q3⟩ := q; omega))) (jL_c rfl (jL_c rfl (jL_c rfl (jL_c rfl (jL_c rfl rfl))))))) rfl ?_
          exact ih42 (i + 1) (by omega) (by first | assumption | omega)
        · skip
          refine J_aload_n dX7_whose_68 rfl ?_
          refine J_get 0 dX7_whose_69 jk7 (Nat.le_of_ble_eq_true rfl) jfRX7_10 H0 (by omega) rfl ?_
          refine J_iload dX7_whose_72 rfl ?_
          refine J_iconst (v := nI 1) dX7_whose_74 (by decide +kernel) ?_
          refine J_callVr (M' := mX6_risen) (d' := (2, 0, 0)) (rest := []) dX7_whose_75 jmX6_risen jlRX7_139 (ctX6_risen 1 i 1 an td gr K M H1 H2 H3 (by omega) (by first | assumption | omega) (by first | assumption | omega) (by first | assumption | omega) (by first | assumption | omega) (by first | assumption | omega)) H1 (by omega) jk6.1 rfl rfl (Nat.le_of_ble_eq_true rfl) (Nat.le_of_ble_eq_true rfl) ⟨Nat.le_refl _, Nat.le_refl _⟩ ?_
          have fc8 : upN (K i) (M (4 * i + 1)) gr ≤ 42 := upN_le ((show ∀ zz, M zz ≤ 20 from by first | assumption | omega) (4 * i + 1))
          refine J_iload_n dX7_whose_78 rfl ?_
          refine J_icmp_neN (tgt := 120) dX7_whose_79 (by decide) (by omega) (by omega) (fun c9 => ?_) (fun c9 => ?_)
          · skip
            refine J_iincN (q := 0) (a := i) (m := 1) dX7_whose_120 rfl (by decide +kernel) (Nat.le_of_ble_eq_true rfl) (L' := [(6, .int (nI (i + 1))), (5, .int (nI (bitsN (whoseP K M gr x0 x1 x2 x3) i))), (0, .ref (E.1 + 0)), (1, .int (nI x0)), (2, .int (nI x1)), (3, .int (nI x2)), (4, .int (nI x3))]) rfl ?_
            refine J_goto (tgt := 42) dX7_whose_123 (by decide) ?_
            refine J.eqs (h' := h) (L' := [(6, .int (nI (i + 1))), (5, .int (nI (bitsN (whoseP K M gr x0 x1 x2 x3) (i + 1)))), (0, .ref (E.1 + 0)), (1, .int (nI x0)), (2, .int (nI x1)), (3, .int (nI x2)), (4, .int (nI x3))]) (st' := []) rfl (jL_c rfl (jL_c (jv_N (by first | rfl | (refine bitsN_t ?_; refine ⟨?_, ?_, ?_, ?_⟩ <;> omega) | (refine bitsN_f (fun q => ?_); obtain ⟨q0, q1, q2, q3⟩ := q; omega))) (jL_c rfl (jL_c rfl (jL_c rfl (jL_c rfl (jL_c rfl rfl))))))) rfl ?_
            exact ih42 (i + 1) (by omega) (by first | assumption | omega)
          · skip
            refine J_aload_n dX7_whose_82 rfl ?_
            refine J_get 0 dX7_whose_83 jk7 (Nat.le_of_ble_eq_true rfl) jfRX7_10 H0 (by omega) rfl ?_
            refine J_iload dX7_whose_86 rfl ?_
            refine J_iconst (v := nI 2) dX7_whose_88 (by decide +kernel) ?_
            refine J_callVr (M' := mX6_risen) (d' := (2, 0, 0)) (rest := []) dX7_whose_89 jmX6_risen jlRX7_139 (ctX6_risen 1 i 2 an td gr K M H1 H2 H3 (by omega) (by first | assumption | omega) (by first | assumption | omega) (by first | assumption | omega) (by first | assumption | omega) (by first | assumption | omega)) H1 (by omega) jk6.1 rfl rfl (Nat.le_of_ble_eq_true rfl) (Nat.le_of_ble_eq_true rfl) ⟨Nat.le_refl _, Nat.le_refl _⟩ ?_
            have fc10 : upN (K i) (M (4 * i + 2)) gr ≤ 42 := upN_le ((show ∀ zz, M zz ≤ 20 from by first | assumption | omega) (4 * i + 2))
            refine J_iload_n dX7_whose_92 rfl ?_
            refine J_icmp_neN (tgt := 120) dX7_whose_93 (by decide) (by omega) (by omega) (fun c11 => ?_) (fun c11 => ?_)
            · skip
              refine J_iincN (q := 0) (a := i) (m := 1) dX7_whose_120 rfl (by decide +kernel) (Nat.le_of_ble_eq_true rfl) (L' := [(6, .int (nI (i + 1))), (5, .int (nI (bitsN (whoseP K M gr x0 x1 x2 x3) i))), (0, .ref (E.1 + 0)), (1, .int (nI x0)), (2, .int (nI x1)), (3, .int (nI x2)), (4, .int (nI x3))]) rfl ?_
              refine J_goto (tgt := 42) dX7_whose_123 (by decide) ?_
              refine J.eqs (h' := h) (L' := [(6, .int (nI (i + 1))), (5, .int (nI (bitsN (whoseP K M gr x0 x1 x2 x3) (i + 1)))), (0, .ref (E.1 + 0)), (1, .int (nI x0)), (2, .int (nI x1)), (3, .int (nI x2)), (4, .int (nI x3))]) (st' := []) rfl (jL_c rfl (jL_c (jv_N (by first | rfl | (refine bitsN_t ?_; refine ⟨?_, ?_, ?_, ?_⟩ <;> omega) | (refine bitsN_f (fun q => ?_); obtain ⟨q0, q1, q2, q3⟩ := q; omega))) (jL_c rfl (jL_c rfl (jL_c rfl (jL_c rfl (jL_c rfl rfl))))))) rfl ?_
              exact ih42 (i + 1) (by omega) (by first | assumption | omega)
            · skip
              refine J_aload_n dX7_whose_96 rfl ?_
              refine J_get 0 dX7_whose_97 jk7 (Nat.le_of_ble_eq_true rfl) jfRX7_10 H0 (by omega) rfl ?_
              refine J_iload dX7_whose_100 rfl ?_
              refine J_iconst (v := nI 3) dX7_whose_102 (by decide +kernel) ?_
              refine J_callVr (M' := mX6_risen) (d' := (2, 0, 0)) (rest := []) dX7_whose_103 jmX6_risen jlRX7_139 (ctX6_risen 1 i 3 an td gr K M H1 H2 H3 (by omega) (by first | assumption | omega) (by first | assumption | omega) (by first | assumption | omega) (by first | assumption | omega) (by first | assumption | omega)) H1 (by omega) jk6.1 rfl rfl (Nat.le_of_ble_eq_true rfl) (Nat.le_of_ble_eq_true rfl) ⟨Nat.le_refl _, Nat.le_refl _⟩ ?_
              have fc12 : upN (K i) (M (4 * i + 3)) gr ≤ 42 := upN_le ((show ∀ zz, M zz ≤ 20 from by first | assumption | omega) (4 * i + 3))
              refine J_iload dX7_whose_106 rfl ?_
              refine J_icmp_neN (tgt := 120) dX7_whose_108 (by decide) (by omega) (by omega) (fun c13 => ?_) (fun c13 => ?_)
              · skip
                refine J_iincN (q := 0) (a := i) (m := 1) dX7_whose_120 rfl (by decide +kernel) (Nat.le_of_ble_eq_true rfl) (L' := [(6, .int (nI (i + 1))), (5, .int (nI (bitsN (whoseP K M gr x0 x1 x2 x3) i))), (0, .ref (E.1 + 0)), (1, .int (nI x0)), (2, .int (nI x1)), (3, .int (nI x2)), (4, .int (nI x3))]) rfl ?_
                refine J_goto (tgt := 42) dX7_whose_123 (by decide) ?_
                refine J.eqs (h' := h) (L' := [(6, .int (nI (i + 1))), (5, .int (nI (bitsN (whoseP K M gr x0 x1 x2 x3) (i + 1)))), (0, .ref (E.1 + 0)), (1, .int (nI x0)), (2, .int (nI x1)), (3, .int (nI x2)), (4, .int (nI x3))]) (st' := []) rfl (jL_c rfl (jL_c (jv_N (by first | rfl | (refine bitsN_t ?_; refine ⟨?_, ?_, ?_, ?_⟩ <;> omega) | (refine bitsN_f (fun q => ?_); obtain ⟨q0, q1, q2, q3⟩ := q; omega))) (jL_c rfl (jL_c rfl (jL_c rfl (jL_c rfl (jL_c rfl rfl))))))) rfl ?_
                exact ih42 (i + 1) (by omega) (by first | assumption | omega)
              · skip
                refine J_iload dX7_whose_111 rfl ?_
                refine J_iconst (v := nI 1) dX7_whose_113 (by decide +kernel) ?_
                refine J_iload dX7_whose_114 rfl ?_
                refine J_ishlN dX7_whose_116 (by omega) (by have q5 : 2 ^ i ≤ 2 ^ 4 := Nat.pow_le_pow_right (by omega) (by omega); omega) ?_
                refine J_iorN dX7_whose_117 ?_
                refine J_istore dX7_whose_118 (Nat.le_of_ble_eq_true rfl) (L' := [(5, .int (nI ((bitsN (whoseP K M gr x0 x1 x2 x3) i) ||| (1 * 2 ^ i)))), (6, .int (nI i)), (0, .ref (E.1 + 0)), (1, .int (nI x0)), (2, .int (nI x1)), (3, .int (nI x2)), (4, .int (nI x3))]) rfl ?_
                refine J_iincN (q := 1) (a := i) (m := 1) dX7_whose_120 rfl (by decide +kernel) (Nat.le_of_ble_eq_true rfl) (L' := [(6, .int (nI (i + 1))), (5, .int (nI ((bitsN (whoseP K M gr x0 x1 x2 x3) i) ||| (1 * 2 ^ i)))), (0, .ref (E.1 + 0)), (1, .int (nI x0)), (2, .int (nI x1)), (3, .int (nI x2)), (4, .int (nI x3))]) rfl ?_
                refine J_goto (tgt := 42) dX7_whose_123 (by decide) ?_
                refine J.eqs (h' := h) (L' := [(6, .int (nI (i + 1))), (5, .int (nI (bitsN (whoseP K M gr x0 x1 x2 x3) (i + 1)))), (0, .ref (E.1 + 0)), (1, .int (nI x0)), (2, .int (nI x1)), (3, .int (nI x2)), (4, .int (nI x3))]) (st' := []) rfl (jL_c rfl (jL_c (jv_N (by first | rfl | (refine bitsN_t ?_; refine ⟨?_, ?_, ?_, ?_⟩ <;> omega) | (refine bitsN_f (fun q => ?_); obtain ⟨q0, q1, q2, q3⟩ := q; omega))) (jL_c rfl (jL_c rfl (jL_c rfl (jL_c rfl (jL_c rfl rfl))))))) rfl ?_
                exact ih42 (i + 1) (by omega) (by first | assumption | omega)
  refine J.eqs (h' := h) (L' := [(6, .int (nI 0)), (5, .int (nI (bitsN (whoseP K M gr x0 x1 x2 x3) 0))), (0, .ref (E.1 + 0)), (1, .int (nI x0)), (2, .int (nI x1)), (3, .int (nI x2)), (4, .int (nI x3))]) (st' := []) rfl (jL_c rfl (jL_c (jv_N (by first | rfl | (refine bitsN_t ?_; refine ⟨?_, ?_, ?_, ?_⟩ <;> omega) | (refine bitsN_f (fun q => ?_); obtain ⟨q0, q1, q2, q3⟩ := q; omega))) (jL_c rfl (jL_c rfl (jL_c rfl (jL_c rfl (jL_c rfl rfl))))))) rfl ?_
  exact CUT42 (an - 0 + 1) 0 (Nat.lt_succ_self _) (by first | assumption | omega)

set_option maxHeartbeats 1000000 in
set_option maxRecDepth 100000 in
theorem ctX7_greatestCommon {E : jE} {h : Nat → va_E} {n : Nat} (a : Nat) (b : Nat) (hn : 38 ≤ n) (ha : a < 2 ^ 31) (hb : b ≤ 1000) : jC E mX7_greatestCommon (1, 0, 0) [.int (nI a), .int (nI b)] h n (jR (some (.int (nI (Nat.gcd a b)))) h n) := by
  refine J.of (L := [(0, .int (nI a)), (1, .int (nI b))]) rfl (by decide +kernel) (Nat.le_of_ble_eq_true rfl) ?_
  obtain ⟨PP, hPP⟩ : ∃ PP : jPost, PP = (jR (some (.int (nI (Nat.gcd a b)))) h n) := ⟨_, rfl⟩
  rw [← hPP]
  refine J_iload_n dX7_greatestCommon_0 rfl ?_
  refine J_istore_n dX7_greatestCommon_1 (Nat.le_of_ble_eq_true rfl) (L' := [(2, .int (nI a)), (0, .int (nI a)), (1, .int (nI b))]) rfl ?_
  refine J_iload_n dX7_greatestCommon_2 rfl ?_
  refine J_istore_n dX7_greatestCommon_3 (Nat.le_of_ble_eq_true rfl) (L' := [(3, .int (nI b)), (2, .int (nI a)), (0, .int (nI a)), (1, .int (nI b))]) rfl ?_
  refine J_iconst (v := nI 0) dX7_greatestCommon_4 (by decide +kernel) ?_
  refine J_istore dX7_greatestCommon_5 (Nat.le_of_ble_eq_true rfl) (L' := [(4, .int (nI 0)), (3, .int (nI b)), (2, .int (nI a)), (0, .int (nI a)), (1, .int (nI b))]) rfl ?_
  have CUT7 : ∀ (f7 : Nat) (i : Nat) (x : Nat) (y : Nat) (hm7 : 1000 - i < f7) (hi : y + i ≤ 1000) (hx : x < 2 ^ 31) (hg : Nat.gcd x y = Nat.gcd a b), J E mX7_greatestCommon (1, 0, 0) jS0 PP h n (0, 0) 7 [(4, .int (nI i)), (2, .int (nI x)), (3, .int (nI y)), (0, .int (nI a)), (1, .int (nI b))] [] := by
    intro f7
    induction f7 with
    | zero => intro i x y hm7; exact absurd hm7 (Nat.not_lt_zero _)
    | succ f7 ih7 =>
      intro i x y hm7 hi hx hg
      refine J_iload dX7_greatestCommon_7 rfl ?_
      refine J_sipush (v := nI 1000) dX7_greatestCommon_9 (by decide +kernel) ?_
      refine J_icmp_geN (tgt := 35) dX7_greatestCommon_12 (by decide) (by omega) (by omega) (fun c1 => ?_) (fun c1 => ?_)
      · skip
        refine J_iload_n dX7_greatestCommon_35 rfl ?_
        exact J_iret dX7_greatestCommon_36 rfl ⟨Nat.le_refl _, Nat.le_refl _⟩ (by rw [hPP]; exact ⟨(congrArg some (jv_N (by rw [← hg, show y = 0 by omega, Nat.gcd_zero_right]))), rfl, rfl⟩)
      · skip
        refine J_iload_n dX7_greatestCommon_15 rfl ?_
        refine J_if_eqN (tgt := 35) dX7_greatestCommon_16 (by decide) (by omega) (fun c2 => ?_) (fun c2 => ?_)
        · skip
          refine J_iload_n dX7_greatestCommon_35 rfl ?_
          exact J_iret dX7_greatestCommon_36 rfl ⟨Nat.le_refl _, Nat.le_refl _⟩ (by rw [hPP]; exact ⟨(congrArg some (jv_N (by rw [← hg, show y = 0 by omega, Nat.gcd_zero_right]))), rfl, rfl⟩)
        · skip
          refine J_iload_n dX7_greatestCommon_19 rfl ?_
          refine J_iload_n dX7_greatestCommon_20 rfl ?_
          refine J_iremN dX7_greatestCommon_21 (by omega) (by omega) (by omega) ?_
          refine J_istore dX7_greatestCommon_22 (Nat.le_of_ble_eq_true rfl) (L' := [(5, .int (nI (x % y))), (4, .int (nI i)), (2, .int (nI x)), (3, .int (nI y)), (0, .int (nI a)), (1, .int (nI b))]) rfl ?_
          refine J_iload_n dX7_greatestCommon_24 rfl ?_
          refine J_istore_n dX7_greatestCommon_25 (Nat.le_of_ble_eq_true rfl) (L' := [(2, .int (nI y)), (5, .int (nI (x % y))), (4, .int (nI i)), (3, .int (nI y)), (0, .int (nI a)), (1, .int (nI b))]) rfl ?_
          refine J_iload dX7_greatestCommon_26 rfl ?_
          refine J_istore_n dX7_greatestCommon_28 (Nat.le_of_ble_eq_true rfl) (L' := [(3, .int (nI (x % y))), (2, .int (nI y)), (5, .int (nI (x % y))), (4, .int (nI i)), (0, .int (nI a)), (1, .int (nI b))]) rfl ?_
          refine J_iincN (q := 3) (a := i) (m := 1) dX7_greatestCommon_29 rfl (by decide +kernel) (Nat.le_of_ble_eq_true rfl) (L' := [(4, .int (nI (i + 1))), (3, .int (nI (x % y))), (2, .int (nI y)), (5, .int (nI (x % y))), (0, .int (nI a)), (1, .int (nI b))]) rfl ?_
          refine J_goto (tgt := 7) dX7_greatestCommon_32 (by decide) ?_
          refine J.sub [0, 2, 1, 4, 5] (L' := [(4, .int (nI (i + 1))), (2, .int (nI y)), (3, .int (nI (x % y))), (0, .int (nI a)), (1, .int (nI b))]) rfl ?_
          exact ih7 (i + 1) y (x % y) (by omega) (by first | omega | (have q5 := Nat.mod_lt x (show 0 < y by omega); omega)) (by first | omega | exact Nat.lt_of_le_of_lt (Nat.mod_le _ _) (by omega)) (by first | rfl | exact gcd_st hg)
  refine J.sub [0, 2, 1, 3, 4] (L' := [(4, .int (nI 0)), (2, .int (nI a)), (3, .int (nI b)), (0, .int (nI a)), (1, .int (nI b))]) rfl ?_
  exact CUT7 (1000 - 0 + 1) 0 a b (Nat.lt_succ_self _) (by first | omega | (have q5 := Nat.mod_lt x (show 0 < y by omega); omega)) (by first | omega | exact Nat.lt_of_le_of_lt (Nat.mod_le _ _) (by omega)) (by first | rfl | exact gcd_st hg)

set_option maxHeartbeats 1000000 in
set_option maxRecDepth 100000 in
theorem ctX7_setFraction {E : jE} {h : Nat → va_E} {n : Nat} (a : Nat) (b : Nat) (ab : Nat) (be : Nat) (bd : Nat) (no : Nat) (fu : Nat) (H0 : h 0 = .inr (6, [.ref (E.1 + 1), .ref (E.1 + 12), .ref (E.1 + 23), .ref (E.1 + 24), .ref (E.1 + 30), .ref (E.1 + 34), .ref (E.1 + 37), .int (nI ab), .int (nI be), .int (nI bd), .int (nI no), .int (nI fu)])) (hn : 38 ≤ n) (ha : a < 2 ^ 31) (hb : b ≤ 1000) (hb0 : 0 < b) : jC E mX7_setFraction (2, 0, 0) [.ref (E.1 + 0), .int (nI a), .int (nI b)] h n (jR none (hset h 0 (.inr (6, [.ref (E.1 + 1), .ref (E.1 + 12), .ref (E.1 + 23), .ref (E.1 + 24), .ref (E.1 + 30), .ref (E.1 + 34), .ref (E.1 + 37), .int (nI (a / Nat.gcd a b)), .int (nI (b / Nat.gcd a b)), .int (nI bd), .int (nI no), .int (nI fu)]))) n) := by
  refine J.of (L := [(0, .ref (E.1 + 0)), (1, .int (nI a)), (2, .int (nI b))]) rfl (by decide +kernel) (Nat.le_of_ble_eq_true rfl) ?_
  obtain ⟨PP, hPP⟩ : ∃ PP : jPost, PP = (jR none (hset h 0 (.inr (6, [.ref (E.1 + 1), .ref (E.1 + 12), .ref (E.1 + 23), .ref (E.1 + 24), .ref (E.1 + 30), .ref (E.1 + 34), .ref (E.1 + 37), .int (nI (a / Nat.gcd a b)), .int (nI (b / Nat.gcd a b)), .int (nI bd), .int (nI no), .int (nI fu)]))) n) := ⟨_, rfl⟩
  rw [← hPP]
  refine J_iload_n dX7_setFraction_0 rfl ?_
  refine J_iload_n dX7_setFraction_1 rfl ?_
  refine J_callSr (M' := mX7_greatestCommon) (d' := (1, 0, 0)) (rest := []) dX7_setFraction_2 jmX7_greatestCommon jlRX7_273 (ctX7_greatestCommon a b  (by omega) (by first | assumption | omega) (by first | assumption | omega)) rfl rfl (Nat.le_of_ble_eq_true rfl) (Nat.le_of_ble_eq_true rfl) ⟨Nat.le_refl _, Nat.le_refl _⟩ ?_
  have g0 := Nat.gcd_pos_of_pos_right a hb0
  have g1 := Nat.gcd_le_right a hb0
  refine J_istore_n dX7_setFraction_5 (Nat.le_of_ble_eq_true rfl) (L' := [(3, .int (nI (Nat.gcd a b))), (0, .ref (E.1 + 0)), (1, .int (nI a)), (2, .int (nI b))]) rfl ?_
  refine J_iload_n dX7_setFraction_6 rfl ?_
  refine J_if_leN (tgt := 24) dX7_setFraction_7 (by decide) (by omega) (fun c1 => (by exfalso; omega)) (fun c1 => ?_)
  refine J_aload_n dX7_setFraction_10 rfl ?_
  refine J_iload_n dX7_setFraction_11 rfl ?_
  refine J_iload_n dX7_setFraction_12 rfl ?_
  refine J_idivN dX7_setFraction_13 (by omega) (by omega) (by omega) ?_
  refine J_put 7 dX7_setFraction_14 jk7 (Nat.le_of_ble_eq_true rfl) jfRX7_48 H0 (by omega) rfl rfl rfl (Nat.le_of_ble_eq_true rfl) ?_
  refine J.cast (h' := (hset h 0 (.inr (6, [.ref (E.1 + 1), .ref (E.1 + 12), .ref (E.1 + 23), .ref (E.1 + 24), .ref (E.1 + 30), .ref (E.1 + 34), .ref (E.1 + 37), .int (nI (a / (Nat.gcd a b))), .int (nI be), .int (nI bd), .int (nI no), .int (nI fu)])))) rfl ?_
  refine J_aload_n dX7_setFraction_17 rfl ?_
  refine J_iload_n dX7_setFraction_18 rfl ?_
  refine J_iload_n dX7_setFraction_19 rfl ?_
  refine J_idivN dX7_setFraction_20 (by omega) (by omega) (by omega) ?_
  refine J_put 8 dX7_setFraction_21 jk7 (Nat.le_of_ble_eq_true rfl) jfRX7_52 hset_eq (by omega) rfl rfl rfl (Nat.le_of_ble_eq_true rfl) ?_
  refine J.cast (h' := (hset (hset h 0 (.inr (6, [.ref (E.1 + 1), .ref (E.1 + 12), .ref (E.1 + 23), .ref (E.1 + 24), .ref (E.1 + 30), .ref (E.1 + 34), .ref (E.1 + 37), .int (nI (a / (Nat.gcd a b))), .int (nI be), .int (nI bd), .int (nI no), .int (nI fu)]))) 0 (.inr (6, [.ref (E.1 + 1), .ref (E.1 + 12), .ref (E.1 + 23), .ref (E.1 + 24), .ref (E.1 + 30), .ref (E.1 + 34), .ref (E.1 + 37), .int (nI (a / (Nat.gcd a b))), .int (nI (b / (Nat.gcd a b))), .int (nI bd), .int (nI no), .int (nI fu)])))) rfl ?_
  refine J.cast hset_hset ?_
  exact J_vret dX7_setFraction_24 rfl ⟨Nat.le_refl _, Nat.le_refl _⟩ (by rw [hPP]; exact ⟨rfl, (hset_cg rfl (congrArg (fun z => (Sum.inr (6, z) : va_E)) (jS_c rfl (jS_c rfl (jS_c rfl (jS_c rfl (jS_c rfl (jS_c rfl (jS_c rfl (jS_c (jv_N (by omega)) (jS_c (jv_N (by omega)) (jS_c rfl (jS_c rfl (jS_c rfl rfl)))))))))))))), rfl⟩)

set_option maxHeartbeats 1000000 in
set_option maxRecDepth 100000 in
theorem ctX7_frost_bad {E : jE} {h : Nat → va_E} {n : Nat} (a : Nat) (x : Nat) (ab : Nat) (be : Nat) (bd : Nat) (no : Nat) (fu : Nat) (an : Nat) (td : Nat) (gr : Nat) (H0 : h 0 = .inr (6, [.ref (E.1 + 1), .ref (E.1 + 12), .ref (E.1 + 23), .ref (E.1 + 24), .ref (E.1 + 30), .ref (E.1 + 34), .ref (E.1 + 37), .int (nI ab), .int (nI be), .int (nI bd), .int (nI no), .int (nI fu)])) (H1 : h 1 = .inr (5, [.ref (E.1 + 2), .ref (E.1 + 3), .ref (E.1 + 4), .ref (E.1 + 6), .ref (E.1 + 8), .int (nI an), .int (nI td), .int (nI gr)])) (hn : 38 ≤ n) (h32a : a < 2 ^ 32) (h32x : x < 2 ^ 32) (hn4 : an ≤ 4) (hbad : ¬ (a < an ∧ x ≤ 10)) : jC E mX7_frost (3, 0, 0) [.ref (E.1 + 0), .int (nI a), .int (nI x)] h n (jR (some (.int (-2))) (hset h 0 (.inr (6, [.ref (E.1 + 1), .ref (E.1 + 12), .ref (E.1 + 23), .ref (E.1 + 24), .ref (E.1 + 30), .ref (E.1 + 34), .ref (E.1 + 37), .int (nI ab), .int (nI be), .int (nI (bd + 1)), .int (nI no), .int (nI fu)]))) n) := by
  refine J.of (L := [(0, .ref (E.1 + 0)), (1, .int (nI a)), (2, .int (nI x))]) rfl (by decide +kernel) (Nat.le_of_ble_eq_true rfl) ?_
  obtain ⟨PP, hPP⟩ : ∃ PP : jPost, PP = (jR (some (.int (-2))) (hset h 0 (.inr (6, [.ref (E.1 + 1), .ref (E.1 + 12), .ref (E.1 + 23), .ref (E.1 + 24), .ref (E.1 + 30), .ref (E.1 + 34), .ref (E.1 + 37), .int (nI ab), .int (nI be), .int (nI (bd + 1)), .int (nI no), .int (nI fu)]))) n) := ⟨_, rfl⟩
  rw [← hPP]
  refine J_aload_n dX7_frost_0 rfl ?_
  refine J_get 0 dX7_frost_1 jk7 (Nat.le_of_ble_eq_true rfl) jfRX7_10 H0 (by omega) rfl ?_
  refine J_iload_n dX7_frost_4 rfl ?_
  refine J_callVr (M' := mX6_has) (d' := (1, 0, 0)) (rest := []) dX7_frost_5 jmX6_has jlRX7_133 (ctX6_has 1 a an td gr H1 (by omega) (by first | assumption | omega) (by first | assumption | omega)) H1 (by omega) jk6.1 rfl rfl (Nat.le_of_ble_eq_true rfl) (Nat.le_of_ble_eq_true rfl) ⟨Nat.le_refl _, Nat.le_refl _⟩ ?_
  refine J_if_eqB (tgt := 21) dX7_frost_8 (by decide) (fun c1 => ?_) (fun c1 => ?_)
  · skip
    refine J_aload_n dX7_frost_21 rfl ?_
    refine J_bipush (v := (-2)) dX7_frost_22 (by decide +kernel) ?_
    refine J_callVr (M' := mX7_refuse) (d' := (1, 0, 0)) (rest := []) dX7_frost_24 jmX7_refuse jlRX7_59 (ctX7_refuse2 ab be bd no fu H0 (by omega) ) H0 (by omega) jk7.1 rfl rfl (Nat.le_of_ble_eq_true rfl) (Nat.le_of_ble_eq_true rfl) ⟨Nat.le_refl _, Nat.le_refl _⟩ ?_
    exact J_iret dX7_frost_27 rfl ⟨Nat.le_refl _, Nat.le_refl _⟩ (by rw [hPP]; exact ⟨rfl, rfl, rfl⟩)
  · skip
    refine J_iload_n dX7_frost_11 rfl ?_
    refine J_iconst (v := nI 0) dX7_frost_12 (by decide +kernel) ?_
    refine J_bipush (v := nI 10) dX7_frost_13 (by decide +kernel) ?_
    refine J_callSr (M' := mX7_isWithin) (d' := (1, 0, 0)) (rest := []) dX7_frost_15 jmX7_isWithin jlRX7_70 (ctX7_isWithin x 0 10   (by first | assumption | omega) (by first | assumption | omega) (by first | assumption | omega)) rfl rfl (Nat.le_of_ble_eq_true rfl) (Nat.le_of_ble_eq_true rfl) ⟨Nat.le_refl _, Nat.le_refl _⟩ ?_
    refine J_if_neB (tgt := 28) dX7_frost_18 (by decide) (fun c2 => (by exfalso; omega)) (fun c2 => ?_)
    refine J_aload_n dX7_frost_21 rfl ?_
    refine J_bipush (v := (-2)) dX7_frost_22 (by decide +kernel) ?_
    refine J_callVr (M' := mX7_refuse) (d' := (1, 0, 0)) (rest := []) dX7_frost_24 jmX7_refuse jlRX7_59 (ctX7_refuse2 ab be bd no fu H0 (by omega) ) H0 (by omega) jk7.1 rfl rfl (Nat.le_of_ble_eq_true rfl) (Nat.le_of_ble_eq_true rfl) ⟨Nat.le_refl _, Nat.le_refl _⟩ ?_
    exact J_iret dX7_frost_27 rfl ⟨Nat.le_refl _, Nat.le_refl _⟩ (by rw [hPP]; exact ⟨rfl, rfl, rfl⟩)

set_option maxHeartbeats 1000000 in
set_option maxRecDepth 100000 in
theorem ctX7_frost {E : jE} {h : Nat → va_E} {n : Nat} (a : Nat) (x : Nat) (an : Nat) (td : Nat) (gr : Nat) (M : Nat → Nat) (ab : Nat) (be : Nat) (bd : Nat) (no : Nat) (fu : Nat) (H0 : h 0 = .inr (6, [.ref (E.1 + 1), .ref (E.1 + 12), .ref (E.1 + 23), .ref (E.1 + 24), .ref (E.1 + 30), .ref (E.1 + 34), .ref (E.1 + 37), .int (nI ab), .int (nI be), .int (nI bd), .int (nI no), .int (nI fu)])) (H1 : h 1 = .inr (5, [.ref (E.1 + 2), .ref (E.1 + 3), .ref (E.1 + 4), .ref (E.1 + 6), .ref (E.1 + 8), .int (nI an), .int (nI td), .int (nI gr)])) (H2 : h 3 = cI E 16 (nF M)) (hn : 38 ≤ n) (hn4 : an ≤ 4) (hM : ∀ zz, M zz ≤ 20) (ha : a < an) (hx : x ≤ 10) : jC E mX7_frost (3, 0, 0) [.ref (E.1 + 0), .int (nI a), .int (nI x)] h n (jR (some (.int (nI 1))) (hset h 0 (.inr (6, [.ref (E.1 + 1), .ref (E.1 + 12), .ref (E.1 + 23), .ref (E.1 + 24), .ref (E.1 + 30), .ref (E.1 + 34), .ref (E.1 + 37), .int (nI (frT M a x / Nat.gcd (frT M a x) 10)), .int (nI (10 / Nat.gcd (frT M a x) 10)), .int (nI bd), .int (nI no), .int (nI fu)]))) n) := by
  refine J.of (L := [(0, .ref (E.1 + 0)), (1, .int (nI a)), (2, .int (nI x))]) rfl (by decide +kernel) (Nat.le_of_ble_eq_true rfl) ?_
  obtain ⟨PP, hPP⟩ : ∃ PP : jPost, PP = (jR (some (.int (nI 1))) (hset h 0 (.inr (6, [.ref (E.1 + 1), .ref (E.1 + 12), .ref (E.1 + 23), .ref (E.1 + 24), .ref (E.1 + 30), .ref (E.1 + 34), .ref (E.1 + 37), .int (nI (frT M a x / Nat.gcd (frT M a x) 10)), .int (nI (10 / Nat.gcd (frT M a x) 10)), .int (nI bd), .int (nI no), .int (nI fu)]))) n) := ⟨_, rfl⟩
  rw [← hPP]
  refine J_aload_n dX7_frost_0 rfl ?_
  refine J_get 0 dX7_frost_1 jk7 (Nat.le_of_ble_eq_true rfl) jfRX7_10 H0 (by omega) rfl ?_
  refine J_iload_n dX7_frost_4 rfl ?_
  refine J_callVr (M' := mX6_has) (d' := (1, 0, 0)) (rest := []) dX7_frost_5 jmX6_has jlRX7_133 (ctX6_has 1 a an td gr H1 (by omega) (by first | assumption | omega) (by first | assumption | omega)) H1 (by omega) jk6.1 rfl rfl (Nat.le_of_ble_eq_true rfl) (Nat.le_of_ble_eq_true rfl) ⟨Nat.le_refl _, Nat.le_refl _⟩ ?_
  refine J_if_eqB (tgt := 21) dX7_frost_8 (by decide) (fun c1 => (by exfalso; omega)) (fun c1 => ?_)
  refine J_iload_n dX7_frost_11 rfl ?_
  refine J_iconst (v := nI 0) dX7_frost_12 (by decide +kernel) ?_
  refine J_bipush (v := nI 10) dX7_frost_13 (by decide +kernel) ?_
  refine J_callSr (M' := mX7_isWithin) (d' := (1, 0, 0)) (rest := []) dX7_frost_15 jmX7_isWithin jlRX7_70 (ctX7_isWithin x 0 10   (by first | assumption | omega) (by first | assumption | omega) (by first | assumption | omega)) rfl rfl (Nat.le_of_ble_eq_true rfl) (Nat.le_of_ble_eq_true rfl) ⟨Nat.le_refl _, Nat.le_refl _⟩ ?_
  refine J_if_neB (tgt := 28) dX7_frost_18 (by decide) (fun c2 => ?_) (fun c2 => (by exfalso; omega))
  refine J_iconst (v := nI 0) dX7_frost_28 (by decide +kernel) ?_
  refine J_istore_n dX7_frost_29 (Nat.le_of_ble_eq_true rfl) (L' := [(3, .int (nI 0)), (0, .ref (E.1 + 0)), (1, .int (nI a)), (2, .int (nI x))]) rfl ?_
  refine J_iconst (v := nI 0) dX7_frost_30 (by decide +kernel) ?_
  refine J_istore dX7_frost_31 (Nat.le_of_ble_eq_true rfl) (L' := [(4, .int (nI 0)), (3, .int (nI 0)), (0, .ref (E.1 + 0)), (1, .int (nI a)), (2, .int (nI x))]) rfl ?_
  refine J_iload dX7_frost_33 rfl ?_
  refine J_iconst (v := nI 4) dX7_frost_35 (by decide +kernel) ?_
  refine J_icmp_geN (tgt := 58) dX7_frost_36 (by decide) (by omega) (by omega) (fun z => absurd z (by decide)) (fun _ => ?_)
  refine J_iload_n dX7_frost_39 rfl ?_
  refine J_aload_n dX7_frost_40 rfl ?_
  refine J_get 0 dX7_frost_41 jk7 (Nat.le_of_ble_eq_true rfl) jfRX7_10 H0 (by omega) rfl ?_
  refine J_iload_n dX7_frost_44 rfl ?_
  refine J_iload dX7_frost_45 rfl ?_
  refine J_callVr (M' := mX6_remembered) (d' := (1, 0, 0)) (rest := [.int (nI 0)]) dX7_frost_47 jmX6_remembered jlRX7_118 (ctX6_remembered 1 a 0 an td gr M H1 H2 (by omega) (by first | assumption | omega) (by first | assumption | omega)) H1 (by omega) jk6.1 rfl rfl (Nat.le_of_ble_eq_true rfl) (Nat.le_of_ble_eq_true rfl) ⟨Nat.le_refl _, Nat.le_refl _⟩ ?_
  refine J_iaddN dX7_frost_50 ?_
  refine J_istore_n dX7_frost_51 (Nat.le_of_ble_eq_true rfl) (L' := [(3, .int (nI (0 + (M (4 * a + 0))))), (4, .int (nI 0)), (0, .ref (E.1 + 0)), (1, .int (nI a)), (2, .int (nI x))]) rfl ?_
  refine J_iincN (q := 1) (a := 0) (m := 1) dX7_frost_52 rfl (by decide +kernel) (Nat.le_of_ble_eq_true rfl) (L' := [(4, .int (nI 1)), (3, .int (nI (0 + (M (4 * a + 0))))), (0, .ref (E.1 + 0)), (1, .int (nI a)), (2, .int (nI x))]) rfl ?_
  refine J_goto (tgt := 33) dX7_frost_55 (by decide) ?_
  refine J_iload dX7_frost_33 rfl ?_
  refine J_iconst (v := nI 4) dX7_frost_35 (by decide +kernel) ?_
  refine J_icmp_geN (tgt := 58) dX7_frost_36 (by decide) (by omega) (by omega) (fun z => absurd z (by decide)) (fun _ => ?_)
  refine J_iload_n dX7_frost_39 rfl ?_
  refine J_aload_n dX7_frost_40 rfl ?_
  refine J_get 0 dX7_frost_41 jk7 (Nat.le_of_ble_eq_true rfl) jfRX7_10 H0 (by omega) rfl ?_
  refine J_iload_n dX7_frost_44 rfl ?_
  refine J_iload dX7_frost_45 rfl ?_
  refine J_callVr (M' := mX6_remembered) (d' := (1, 0, 0)) (rest := [.int (nI (0 + (M (4 * a + 0))))]) dX7_frost_47 jmX6_remembered jlRX7_118 (ctX6_remembered 1 a 1 an td gr M H1 H2 (by omega) (by first | assumption | omega) (by first | assumption | omega)) H1 (by omega) jk6.1 rfl rfl (Nat.le_of_ble_eq_true rfl) (Nat.le_of_ble_eq_true rfl) ⟨Nat.le_refl _, Nat.le_refl _⟩ ?_
  refine J_iaddN dX7_frost_50 ?_
  refine J_istore_n dX7_frost_51 (Nat.le_of_ble_eq_true rfl) (L' := [(3, .int (nI ((0 + (M (4 * a + 0))) + (M (4 * a + 1))))), (4, .int (nI 1)), (0, .ref (E.1 + 0)), (1, .int (nI a)), (2, .int (nI x))]) rfl ?_
  refine J_iincN (q := 1) (a := 1) (m := 1) dX7_frost_52 rfl (by decide +kernel) (Nat.le_of_ble_eq_true rfl) (L' := [(4, .int (nI 2)), (3, .int (nI ((0 + (M (4 * a + 0))) + (M (4 * a + 1))))), (0, .ref (E.1 + 0)), (1, .int (nI a)), (2, .int (nI x))]) rfl ?_
  refine J_goto (tgt := 33) dX7_frost_55 (by decide) ?_
  refine J_iload dX7_frost_33 rfl ?_
  refine J_iconst (v := nI 4) dX7_frost_35 (by decide +kernel) ?_
  refine J_icmp_geN (tgt := 58) dX7_frost_36 (by decide) (by omega) (by omega) (fun z => absurd z (by decide)) (fun _ => ?_)
  refine J_iload_n dX7_frost_39 rfl ?_
  refine J_aload_n dX7_frost_40 rfl ?_
  refine J_get 0 dX7_frost_41 jk7 (Nat.le_of_ble_eq_true rfl) jfRX7_10 H0 (by omega) rfl ?_
  refine J_iload_n dX7_frost_44 rfl ?_
  refine J_iload dX7_frost_45 rfl ?_
  refine J_callVr (M' := mX6_remembered) (d' := (1, 0, 0)) (rest := [.int (nI ((0 + (M (4 * a + 0))) + (M (4 * a + 1))))]) dX7_frost_47 jmX6_remembered jlRX7_118 (ctX6_remembered 1 a 2 an td gr M H1 H2 (by omega) (by first | assumption | omega) (by first | assumption | omega)) H1 (by omega) jk6.1 rfl rfl (Nat.le_of_ble_eq_true rfl) (Nat.le_of_ble_eq_true rfl) ⟨Nat.le_refl _, Nat.le_refl _⟩ ?_
  refine J_iaddN dX7_frost_50 ?_
  refine J_istore_n dX7_frost_51 (Nat.le_of_ble_eq_true rfl) (L' := [(3, .int (nI (((0 + (M (4 * a + 0))) + (M (4 * a + 1))) + (M (4 * a + 2))))), (4, .int (nI 2)), (0, .ref (E.1 + 0)), (1, .int (nI a)), (2, .int (nI x))]) rfl ?_
  refine J_iincN (q := 1) (a := 2) (m := 1) dX7_frost_52 rfl (by decide +kernel) (Nat.le_of_ble_eq_true rfl) (L' := [(4, .int (nI 3)), (3, .int (nI (((0 + (M (4 * a + 0))) + (M (4 * a + 1))) + (M (4 * a + 2))))), (0, .ref (E.1 + 0)), (1, .int (nI a)), (2, .int (nI x))]) rfl ?_
  refine J_goto (tgt := 33) dX7_frost_55 (by decide) ?_
  refine J_iload dX7_frost_33 rfl ?_
  refine J_iconst (v := nI 4) dX7_frost_35 (by decide +kernel) ?_
  refine J_icmp_geN (tgt := 58) dX7_frost_36 (by decide) (by omega) (by omega) (fun z => absurd z (by decide)) (fun _ => ?_)
  refine J_iload_n dX7_frost_39 rfl ?_
  refine J_aload_n dX7_frost_40 rfl ?_
  refine J_get 0 dX7_frost_41 jk7 (Nat.le_of_ble_eq_true rfl) jfRX7_10 H0 (by omega) rfl ?_
  refine J_iload_n dX7_frost_44 rfl ?_
  refine J_iload dX7_frost_45 rfl ?_
  refine J_callVr (M' := mX6_remembered) (d' := (1, 0, 0)) (rest := [.int (nI (((0 + (M (4 * a + 0))) + (M (4 * a + 1))) + (M (4 * a + 2))))]) dX7_frost_47 jmX6_remembered jlRX7_118 (ctX6_remembered 1 a 3 an td gr M H1 H2 (by omega) (by first | assumption | omega) (by first | assumption | omega)) H1 (by omega) jk6.1 rfl rfl (Nat.le_of_ble_eq_true rfl) (Nat.le_of_ble_eq_true rfl) ⟨Nat.le_refl _, Nat.le_refl _⟩ ?_
  refine J_iaddN dX7_frost_50 ?_
  refine J_istore_n dX7_frost_51 (Nat.le_of_ble_eq_true rfl) (L' := [(3, .int (nI ((((0 + (M (4 * a + 0))) + (M (4 * a + 1))) + (M (4 * a + 2))) + (M (4 * a + 3))))), (4, .int (nI 3)), (0, .ref (E.1 + 0)), (1, .int (nI a)), (2, .int (nI x))]) rfl ?_
  refine J_iincN (q := 1) (a := 3) (m := 1) dX7_frost_52 rfl (by decide +kernel) (Nat.le_of_ble_eq_true rfl) (L' := [(4, .int (nI 4)), (3, .int (nI ((((0 + (M (4 * a + 0))) + (M (4 * a + 1))) + (M (4 * a + 2))) + (M (4 * a + 3))))), (0, .ref (E.1 + 0)), (1, .int (nI a)), (2, .int (nI x))]) rfl ?_
  refine J_goto (tgt := 33) dX7_frost_55 (by decide) ?_
  refine J_iload dX7_frost_33 rfl ?_
  refine J_iconst (v := nI 4) dX7_frost_35 (by decide +kernel) ?_
  refine J_icmp_geN (tgt := 58) dX7_frost_36 (by decide) (by omega) (by omega) (fun _ => ?_) (fun z => absurd z (by decide))
  refine J_aload_n dX7_frost_58 rfl ?_
  refine J_iload_n dX7_frost_59 rfl ?_
  refine J_bipush (v := nI 10) dX7_frost_60 (by decide +kernel) ?_
  refine J_iload_n dX7_frost_62 rfl ?_
  refine J_isubN dX7_frost_63 (by omega) ?_
  refine J_imulN dX7_frost_64 ?_
  refine J_bipush (v := nI 10) dX7_frost_65 (by decide +kernel) ?_
  refine J_callVn (M' := mX7_setFraction) (d' := (2, 0, 0)) (rest := []) dX7_frost_67 jmX7_setFraction jlRX7_216 (ctX7_setFraction (((((0 + (M (4 * a + 0))) + (M (4 * a + 1))) + (M (4 * a + 2))) + (M (4 * a + 3))) * (10 - x)) 10 ab be bd no fu H0 (by omega) (by have q5 := frT_le (a := a) (c := x) hM; simp only [frT] at q5; simp only [Nat.zero_add]; exact Nat.lt_of_le_of_lt q5 (by decide)) (by first | assumption | omega) (by first | assumption | omega)) H0 (by omega) jk7.1 rfl rfl (Nat.le_of_ble_eq_true rfl) (Nat.le_of_ble_eq_true rfl) ⟨Nat.le_refl _, Nat.le_refl _⟩ ?_
  refine J_iconst (v := nI 1) dX7_frost_70 (by decide +kernel) ?_
  exact J_iret dX7_frost_71 rfl ⟨Nat.le_refl _, Nat.le_refl _⟩ (by rw [hPP]; exact ⟨rfl, (hset_cg rfl (congrArg (fun z => (Sum.inr (6, z) : va_E)) (jS_c rfl (jS_c rfl (jS_c rfl (jS_c rfl (jS_c rfl (jS_c rfl (jS_c rfl (jS_c (jv_N (by simp only [frT, Nat.zero_add])) (jS_c (jv_N (by simp only [frT, Nat.zero_add])) (jS_c rfl (jS_c rfl (jS_c rfl rfl)))))))))))))), rfl⟩)

set_option maxHeartbeats 1000000 in
set_option maxRecDepth 100000 in
theorem ctX7_streets_bad {E : jE} {h : Nat → va_E} {n : Nat} (x : Nat) (y : Nat) (ab : Nat) (be : Nat) (bd : Nat) (no : Nat) (fu : Nat) (H0 : h 0 = .inr (6, [.ref (E.1 + 1), .ref (E.1 + 12), .ref (E.1 + 23), .ref (E.1 + 24), .ref (E.1 + 30), .ref (E.1 + 34), .ref (E.1 + 37), .int (nI ab), .int (nI be), .int (nI bd), .int (nI no), .int (nI fu)])) (hn : 38 ≤ n) (h32x : x < 2 ^ 32) (h32y : y < 2 ^ 32) (hbad : ¬ (x ≤ 999999 ∧ y ≤ 60)) : jC E mX7_streets (5, 0, 0) [.ref (E.1 + 0), .int (nI x), .int (nI y)] h n (jR (some (.int (-2))) (hset h 0 (.inr (6, [.ref (E.1 + 1), .ref (E.1 + 12), .ref (E.1 + 23), .ref (E.1 + 24), .ref (E.1 + 30), .ref (E.1 + 34), .ref (E.1 + 37), .int (nI ab), .int (nI be), .int (nI (bd + 1)), .int (nI no), .int (nI fu)]))) n) := by
  refine J.of (L := [(0, .ref (E.1 + 0)), (1, .int (nI x)), (2, .int (nI y))]) rfl (by decide +kernel) (Nat.le_of_ble_eq_true rfl) ?_
  obtain ⟨PP, hPP⟩ : ∃ PP : jPost, PP = (jR (some (.int (-2))) (hset h 0 (.inr (6, [.ref (E.1 + 1), .ref (E.1 + 12), .ref (E.1 + 23), .ref (E.1 + 24), .ref (E.1 + 30), .ref (E.1 + 34), .ref (E.1 + 37), .int (nI ab), .int (nI be), .int (nI (bd + 1)), .int (nI no), .int (nI fu)]))) n) := ⟨_, rfl⟩
  rw [← hPP]
  refine J_iload_n dX7_streets_0 rfl ?_
  refine J_iconst (v := nI 0) dX7_streets_1 (by decide +kernel) ?_
  refine J_ldc dX7_streets_2 jqRX7_219 ?_
  refine J.stk (st' := .int (nI 999999) :: [.int (nI 0), .int (nI x)]) rfl ?_
  refine J_callSr (M' := mX7_isWithin) (d' := (1, 0, 0)) (rest := []) dX7_streets_4 jmX7_isWithin jlRX7_70 (ctX7_isWithin x 0 999999   (by first | assumption | omega) (by first | assumption | omega) (by first | assumption | omega)) rfl rfl (Nat.le_of_ble_eq_true rfl) (Nat.le_of_ble_eq_true rfl) ⟨Nat.le_refl _, Nat.le_refl _⟩ ?_
  refine J_if_eqB (tgt := 20) dX7_streets_7 (by decide) (fun c1 => ?_) (fun c1 => ?_)
  · skip
    refine J_aload_n dX7_streets_20 rfl ?_
    refine J_bipush (v := (-2)) dX7_streets_21 (by decide +kernel) ?_
    refine J_callVr (M' := mX7_refuse) (d' := (1, 0, 0)) (rest := []) dX7_streets_23 jmX7_refuse jlRX7_59 (ctX7_refuse2 ab be bd no fu H0 (by omega) ) H0 (by omega) jk7.1 rfl rfl (Nat.le_of_ble_eq_true rfl) (Nat.le_of_ble_eq_true rfl) ⟨Nat.le_refl _, Nat.le_refl _⟩ ?_
    exact J_iret dX7_streets_26 rfl ⟨Nat.le_refl _, Nat.le_refl _⟩ (by rw [hPP]; exact ⟨rfl, rfl, rfl⟩)
  · skip
    refine J_iload_n dX7_streets_10 rfl ?_
    refine J_iconst (v := nI 0) dX7_streets_11 (by decide +kernel) ?_
    refine J_bipush (v := nI 60) dX7_streets_12 (by decide +kernel) ?_
    refine J_callSr (M' := mX7_isWithin) (d' := (1, 0, 0)) (rest := []) dX7_streets_14 jmX7_isWithin jlRX7_70 (ctX7_isWithin y 0 60   (by first | assumption | omega) (by first | assumption | omega) (by first | assumption | omega)) rfl rfl (Nat.le_of_ble_eq_true rfl) (Nat.le_of_ble_eq_true rfl) ⟨Nat.le_refl _, Nat.le_refl _⟩ ?_
    refine J_if_neB (tgt := 27) dX7_streets_17 (by decide) (fun c2 => (by exfalso; omega)) (fun c2 => ?_)
    refine J_aload_n dX7_streets_20 rfl ?_
    refine J_bipush (v := (-2)) dX7_streets_21 (by decide +kernel) ?_
    refine J_callVr (M' := mX7_refuse) (d' := (1, 0, 0)) (rest := []) dX7_streets_23 jmX7_refuse jlRX7_59 (ctX7_refuse2 ab be bd no fu H0 (by omega) ) H0 (by omega) jk7.1 rfl rfl (Nat.le_of_ble_eq_true rfl) (Nat.le_of_ble_eq_true rfl) ⟨Nat.le_refl _, Nat.le_refl _⟩ ?_
    exact J_iret dX7_streets_26 rfl ⟨Nat.le_refl _, Nat.le_refl _⟩ (by rw [hPP]; exact ⟨rfl, rfl, rfl⟩)

set_option maxHeartbeats 1000000 in
set_option maxRecDepth 100000 in
theorem ctX7_streets {E : jE} {h : Nat → va_E} {n : Nat} (x : Nat) (y : Nat) (an : Nat) (td : Nat) (gr : Nat) (K : Nat → Nat) (M : Nat → Nat) (an2 : Nat) (td2 : Nat) (gr2 : Nat) (K2 : Nat → Nat) (M2 : Nat → Nat) (ab : Nat) (be : Nat) (bd : Nat) (no : Nat) (fu : Nat) (H0 : h 0 = .inr (6, [.ref (E.1 + 1), .ref (E.1 + 12), .ref (E.1 + 23), .ref (E.1 + 24), .ref (E.1 + 30), .ref (E.1 + 34), .ref (E.1 + 37), .int (nI ab), .int (nI be), .int (nI bd), .int (nI no), .int (nI fu)])) (H1 : h 1 = .inr (5, [.ref (E.1 + 2), .ref (E.1 + 3), .ref (E.1 + 4), .ref (E.1 + 6), .ref (E.1 + 8), .int (nI an), .int (nI td), .int (nI gr)])) (H2 : h 2 = cI E 4 (nF K)) (H3 : h 3 = cI E 16 (nF M)) (H4 : h 12 = .inr (5, [.ref (E.1 + 13), .ref (E.1 + 14), .ref (E.1 + 15), .ref (E.1 + 17), .ref (E.1 + 19), .int (nI an2), .int (nI td2), .int (nI gr2)])) (H5 : h 13 = cI E 4 (nF K2)) (H6 : h 14 = cI E 16 (nF M2)) (hn : 38 ≤ n) (hK : ∀ zz, K zz ≤ 5) (hM : ∀ zz, M zz ≤ 20) (hg : gr ≤ 9) (hn4 : an ≤ 4) (hK2 : ∀ zz, K2 zz ≤ 5) (hM2 : ∀ zz, M2 zz ≤ 20) (htd : td ≤ 999) (hx : x ≤ 999999) (hy : y ≤ 60) : jC E mX7_streets (5, 0, 0) [.ref (E.1 + 0), .int (nI x), .int (nI y)] h n (fun v h' n' => v = some (.int (nI (strS K M gr an td x y))) ∧ n' = n ∧ ∃ M3 : Nat → Nat, (∀ zz, M3 zz ≤ 20) ∧ h' = (hset (hset (hset h 13 (cI E 4 (nF (va_cpy K K2 0 0 4)))) 14 (cI E 16 (nF M3))) 12 (.inr (5, [.ref (E.1 + 13), .ref (E.1 + 14), .ref (E.1 + 15), .ref (E.1 + 17), .ref (E.1 + 19), .int (nI an), .int (nI td), .int (nI gr)])))) := by
  refine J.of (L := [(0, .ref (E.1 + 0)), (1, .int (nI x)), (2, .int (nI y))]) rfl (by decide +kernel) (Nat.le_of_ble_eq_true rfl) ?_
  obtain ⟨PP, hPP⟩ : ∃ PP : jPost, PP = (fun v h' n' => v = some (.int (nI (strS K M gr an td x y))) ∧ n' = n ∧ ∃ M3 : Nat → Nat, (∀ zz, M3 zz ≤ 20) ∧ h' = (hset (hset (hset h 13 (cI E 4 (nF (va_cpy K K2 0 0 4)))) 14 (cI E 16 (nF M3))) 12 (.inr (5, [.ref (E.1 + 13), .ref (E.1 + 14), .ref (E.1 + 15), .ref (E.1 + 17), .ref (E.1 + 19), .int (nI an), .int (nI td), .int (nI gr)])))) := ⟨_, rfl⟩
  rw [← hPP]
  refine J_iload_n dX7_streets_0 rfl ?_
  refine J_iconst (v := nI 0) dX7_streets_1 (by decide +kernel) ?_
  refine J_ldc dX7_streets_2 jqRX7_219 ?_
  refine J.stk (st' := .int (nI 999999) :: [.int (nI 0), .int (nI x)]) rfl ?_
  refine J_callSr (M' := mX7_isWithin) (d' := (1, 0, 0)) (rest := []) dX7_streets_4 jmX7_isWithin jlRX7_70 (ctX7_isWithin x 0 999999   (by first | assumption | omega) (by first | assumption | omega) (by first | assumption | omega)) rfl rfl (Nat.le_of_ble_eq_true rfl) (Nat.le_of_ble_eq_true rfl) ⟨Nat.le_refl _, Nat.le_refl _⟩ ?_
  refine J_if_eqB (tgt := 20) dX7_streets_7 (by decide) (fun c1 => (by exfalso; omega)) (fun c1 => ?_)
  refine J_iload_n dX7_streets_10 rfl ?_
  refine J_iconst (v := nI 0) dX7_streets_11 (by decide +kernel) ?_
  refine J_bipush (v := nI 60) dX7_streets_12 (by decide +kernel) ?_
  refine J_callSr (M' := mX7_isWithin) (d' := (1, 0, 0)) (rest := []) dX7_streets_14 jmX7_isWithin jlRX7_70 (ctX7_isWithin y 0 60   (by first | assumption | omega) (by first | assumption | omega) (by first | assumption | omega)) rfl rfl (Nat.le_of_ble_eq_true rfl) (Nat.le_of_ble_eq_true rfl) ⟨Nat.le_refl _, Nat.le_refl _⟩ ?_
  refine J_if_neB (tgt := 27) dX7_streets_17 (by decide) (fun c2 => ?_) (fun c2 => (by exfalso; omega))
  refine J_aload_n dX7_streets_27 rfl ?_
  refine J_get 1 dX7_streets_28 jk7 (Nat.le_of_ble_eq_true rfl) jfRX7_16 H0 (by omega) rfl ?_
  refine J_aload_n dX7_streets_31 rfl ?_
  refine J_get 0 dX7_streets_32 jk7 (Nat.le_of_ble_eq_true rfl) jfRX7_10 H0 (by omega) rfl ?_
  refine J_callVn (M' := mX6_takeAnvils) (d' := (1, 0, 0)) (rest := []) dX7_streets_35 jmX6_takeAnvils jlRX7_150 (ctX6_takeAnvils 12 1 an2 td2 gr2 K2 M2 an td gr K M H4 H5 H6 H1 H2 H3 (by omega) (by first | assumption | omega)) H4 (by omega) jk6.1 rfl rfl (Nat.le_of_ble_eq_true rfl) (Nat.le_of_ble_eq_true rfl) ⟨Nat.le_refl _, Nat.le_refl _⟩ ?_
  have hK3 : ∀ i, va_cpy K K2 0 0 4 i ≤ 5 := va_cpy_le hK hK2
  have hM3 : ∀ i, va_cpy M M2 0 0 16 i ≤ 20 := va_cpy_le hM hM2
  refine J_iload_n dX7_streets_38 rfl ?_
  refine J_i2lN dX7_streets_39 (by omega) ?_
  refine J_lstore_n dX7_streets_40 (Nat.le_of_ble_eq_true rfl) (L' := [(3, .long (lN x)), (0, .ref (E.1 + 0)), (1, .int (nI x)), (2, .int (nI y))]) rfl ?_
  refine J_iconst (v := nI 0) dX7_streets_41 (by decide +kernel) ?_
  refine J_istore dX7_streets_42 (Nat.le_of_ble_eq_true rfl) (L' := [(5, .int (nI 0)), (3, .long (lN x)), (0, .ref (E.1 + 0)), (1, .int (nI x)), (2, .int (nI y))]) rfl ?_
  refine J_iconst (v := nI 0) dX7_streets_44 (by decide +kernel) ?_
  refine J_istore dX7_streets_45 (Nat.le_of_ble_eq_true rfl) (L' := [(6, .int (nI 0)), (5, .int (nI 0)), (3, .long (lN x)), (0, .ref (E.1 + 0)), (1, .int (nI x)), (2, .int (nI y))]) rfl ?_
  have CUT47 : ∀ (f47 : Nat) (i : Nat) (hm47 : y - i < f47) (hi : i ≤ y), J E mX7_streets (5, 0, 0) jS0 PP (hset (hset (hset h 13 (cI E 4 (nF (va_cpy K K2 0 0 4)))) 14 (cI E 16 (nF (strM (va_cpy K K2 0 0 4) (va_cpy M M2 0 0 16) an td x i)))) 12 (.inr (5, [.ref (E.1 + 13), .ref (E.1 + 14), .ref (E.1 + 15), .ref (E.1 + 17), .ref (E.1 + 19), .int (nI an), .int (nI td), .int (nI gr)]))) n (0, 0) 47 [(6, .int (nI i)), (5, .int (nI (strS (va_cpy K K2 0 0 4) (va_cpy M M2 0 0 16) gr an td x i))), (3, .long (lN (strX x i))), (0, .ref (E.1 + 0)), (1, .int (nI x)), (2, .int (nI y))] [] := by
    intro f47
    induction f47 with
    | zero => intro i hm47; exact absurd hm47 (Nat.not_lt_zero _)
    | succ f47 ih47 =>
      intro i hm47 hi
      have sx := strX_lt (seed := x) (by omega) i
      have ss := strS_le (K := va_cpy K K2 0 0 4) (g := gr) (an := an) (d := td) (seed := x) hM3 i
      refine J_iload dX7_streets_47 rfl ?_
      refine J_iload_n dX7_streets_49 rfl ?_
      refine J_icmp_geN (tgt := 158) dX7_streets_50 (by decide) (by omega) (by omega) (fun c3 => ?_) (fun c3 => ?_)
      · skip
        refine J_iload dX7_streets_158 rfl ?_
        exact J_iret dX7_streets_160 rfl ⟨Nat.le_refl _, Nat.le_refl _⟩ (by rw [hPP]; exact ⟨congrArg (fun z => some (Value.int (nI z))) (by rw [show i = y by omega]; exact (strS_cg (fun a ha => cpy_at (by omega)) (fun j hj => cpy_at (by omega)) y).2), rfl, (strM (va_cpy K K2 0 0 4) (va_cpy M M2 0 0 16) an td x i), (by intro j; exact strM_le hM3 _ j), rfl⟩)
      · skip
        refine J_lload_n dX7_streets_53 rfl ?_
        refine J_ldc2 dX7_streets_54 jqRX7_220 ?_
        refine J.stk (st' := .long (lN 1103515245) :: [.long (lN (strX x i))]) rfl ?_
        refine J_lmulN dX7_streets_57 ?_
        refine J_ldc2 dX7_streets_58 jqRX7_222 ?_
        refine J.stk (st' := .long (lN 12345) :: [.long (lN ((strX x i) * 1103515245))]) rfl ?_
        refine J_laddN dX7_streets_61 ?_
        refine J_ldc2 dX7_streets_62 jqRX7_224 ?_
        refine J.stk (st' := .long (lN 2147483648) :: [.long (lN (((strX x i) * 1103515245) + 12345))]) rfl ?_
        refine J_lremN dX7_streets_65 (by omega) (by omega) (by omega) ?_
        refine J_lstore_n dX7_streets_66 (Nat.le_of_ble_eq_true rfl) (L' := [(3, .long (lN ((((strX x i) * 1103515245) + 12345) % 2147483648))), (6, .int (nI i)), (5, .int (nI (strS (va_cpy K K2 0 0 4) (va_cpy M M2 0 0 16) gr an td x i))), (0, .ref (E.1 + 0)), (1, .int (nI x)), (2, .int (nI y))]) rfl ?_
        refine J_lload_n dX7_streets_67 rfl ?_
        refine J_ldc2 dX7_streets_68 jqRX7_226 ?_
        refine J.stk (st' := .long (lN 65536) :: [.long (lN ((((strX x i) * 1103515245) + 12345) % 2147483648))]) rfl ?_
        refine J_ldivN dX7_streets_71 (by omega) (by omega) (by omega) ?_
        refine J_ldc2 dX7_streets_72 jqRX7_228 ?_
        refine J.stk (st' := .long (lN 4) :: [.long (lN (((((strX x i) * 1103515245) + 12345) % 2147483648) / 65536))]) rfl ?_
        refine J_lremN dX7_streets_75 (by omega) (by omega) (by omega) ?_
        refine J_l2iN dX7_streets_76 ?_
        refine J_istore dX7_streets_77 (Nat.le_of_ble_eq_true rfl) (L' := [(7, .int (nI ((((((strX x i) * 1103515245) + 12345) % 2147483648) / 65536) % 4))), (3, .long (lN ((((strX x i) * 1103515245) + 12345) % 2147483648))), (6, .int (nI i)), (5, .int (nI (strS (va_cpy K K2 0 0 4) (va_cpy M M2 0 0 16) gr an td x i))), (0, .ref (E.1 + 0)), (1, .int (nI x)), (2, .int (nI y))]) rfl ?_
        refine J_lload_n dX7_streets_79 rfl ?_
        refine J_ldc2 dX7_streets_80 jqRX7_230 ?_
        refine J.stk (st' := .long (lN 1048576) :: [.long (lN ((((strX x i) * 1103515245) + 12345) % 2147483648))]) rfl ?_
        refine J_ldivN dX7_streets_83 (by omega) (by omega) (by omega) ?_
        refine J_ldc2 dX7_streets_84 jqRX7_228 ?_
        refine J.stk (st' := .long (lN 4) :: [.long (lN (((((strX x i) * 1103515245) + 12345) % 2147483648) / 1048576))]) rfl ?_
        refine J_lremN dX7_streets_87 (by omega) (by omega) (by omega) ?_
        refine J_l2iN dX7_streets_88 ?_
        refine J_istore dX7_streets_89 (Nat.le_of_ble_eq_true rfl) (L' := [(8, .int (nI ((((((strX x i) * 1103515245) + 12345) % 2147483648) / 1048576) % 4))), (7, .int (nI ((((((strX x i) * 1103515245) + 12345) % 2147483648) / 65536) % 4))), (3, .long (lN ((((strX x i) * 1103515245) + 12345) % 2147483648))), (6, .int (nI i)), (5, .int (nI (strS (va_cpy K K2 0 0 4) (va_cpy M M2 0 0 16) gr an td x i))), (0, .ref (E.1 + 0)), (1, .int (nI x)), (2, .int (nI y))]) rfl ?_
        refine J_lload_n dX7_streets_91 rfl ?_
        refine J_ldc2 dX7_streets_92 jqRX7_232 ?_
        refine J.stk (st' := .long (lN 16777216) :: [.long (lN ((((strX x i) * 1103515245) + 12345) % 2147483648))]) rfl ?_
        refine J_ldivN dX7_streets_95 (by omega) (by omega) (by omega) ?_
        refine J_ldc2 dX7_streets_96 jqRX7_234 ?_
        refine J.stk (st' := .long (lN 5) :: [.long (lN (((((strX x i) * 1103515245) + 12345) % 2147483648) / 16777216))]) rfl ?_
        refine J_lremN dX7_streets_99 (by omega) (by omega) (by omega) ?_
        refine J_l2iN dX7_streets_100 ?_
        refine J_iconst (v := nI 1) dX7_streets_101 (by decide +kernel) ?_
        refine J_iaddN dX7_streets_102 ?_
        refine J_istore dX7_streets_103 (Nat.le_of_ble_eq_true rfl) (L' := [(9, .int (nI (((((((strX x i) * 1103515245) + 12345) % 2147483648) / 16777216) % 5) + 1))), (8, .int (nI ((((((strX x i) * 1103515245) + 12345) % 2147483648) / 1048576) % 4))), (7, .int (nI ((((((strX x i) * 1103515245) + 12345) % 2147483648) / 65536) % 4))), (3, .long (lN ((((strX x i) * 1103515245) + 12345) % 2147483648))), (6, .int (nI i)), (5, .int (nI (strS (va_cpy K K2 0 0 4) (va_cpy M M2 0 0 16) gr an td x i))), (0, .ref (E.1 + 0)), (1, .int (nI x)), (2, .int (nI y))]) rfl ?_
        refine J_aload_n dX7_streets_105 rfl ?_
        refine J_get 1 dX7_streets_106 jk7 (Nat.le_of_ble_eq_true rfl) jfRX7_16 ((hset_ne (by omega)).trans ((hset_ne (by omega)).trans ((hset_ne (by omega)).trans H0))) (by omega) rfl ?_
        refine J_iload dX7_streets_109 rfl ?_
        refine J_callVr (M' := mX6_has) (d' := (1, 0, 0)) (rest := []) dX7_streets_111 jmX6_has jlRX7_133 (ctX6_has 12 ((((((strX x i) * 1103515245) + 12345) % 2147483648) / 65536) % 4) an td gr hset_eq (by omega) (by first | assumption | omega) (by first | assumption | omega)) hset_eq (by omega) jk6.1 rfl rfl (Nat.le_of_ble_eq_true rfl) (Nat.le_of_ble_eq_true rfl) ⟨Nat.le_refl _, Nat.le_refl _⟩ ?_
        refine J_if_eqB (tgt := 135) dX7_streets_114 (by decide) (fun c4 => ?_) (fun c4 => ?_)
        · skip
          refine J_aload_n dX7_streets_135 rfl ?_
          refine J_get 1 dX7_streets_136 jk7 (Nat.le_of_ble_eq_true rfl) jfRX7_16 ((hset_ne (by omega)).trans ((hset_ne (by omega)).trans ((hset_ne (by omega)).trans H0))) (by omega) rfl ?_
          refine J_aload_n dX7_streets_139 rfl ?_
          refine J_get 0 dX7_streets_140 jk7 (Nat.le_of_ble_eq_true rfl) jfRX7_10 ((hset_ne (by omega)).trans ((hset_ne (by omega)).trans ((hset_ne (by omega)).trans H0))) (by omega) rfl ?_
          refine J_get 6 dX7_streets_143 jk6 (Nat.le_of_ble_eq_true rfl) jfRX7_115 ((hset_ne (by omega)).trans ((hset_ne (by omega)).trans ((hset_ne (by omega)).trans H1))) (by omega) rfl ?_
          refine J_iload dX7_streets_146 rfl ?_
          refine J_iaddN dX7_streets_148 ?_
          refine J_callVn (M' := mX6_fadeAll) (d' := (3, 0, 0)) (rest := []) dX7_streets_149 jmX6_fadeAll jlRX7_236 (ctX6_fadeAll 12 (td + i) an td gr (va_cpy K K2 0 0 4) (strM (va_cpy K K2 0 0 4) (va_cpy M M2 0 0 16) an td x i) hset_eq ((hset_ne (by omega)).trans ((hset_ne (by omega)).trans hset_eq)) ((hset_ne (by omega)).trans hset_eq) (by omega) (by first | assumption | omega) (by first | assumption | omega) (by exact hK3) (by first | exact addMN_le (strM_le hM3 i) | exact strM_le hM3 i)) hset_eq (by omega) jk6.1 rfl rfl (Nat.le_of_ble_eq_true rfl) (Nat.le_of_ble_eq_true rfl) ⟨Nat.le_refl _, Nat.le_refl _⟩ ?_
          refine J.cast ((hset_comm (by omega)).trans (hset_cg hset_hset rfl)) ?_
          refine J_iincN (q := 4) (a := i) (m := 1) dX7_streets_152 rfl (by decide +kernel) (Nat.le_of_ble_eq_true rfl) (L' := [(6, .int (nI (i + 1))), (9, .int (nI (((((((strX x i) * 1103515245) + 12345) % 2147483648) / 16777216) % 5) + 1))), (8, .int (nI ((((((strX x i) * 1103515245) + 12345) % 2147483648) / 1048576) % 4))), (7, .int (nI ((((((strX x i) * 1103515245) + 12345) % 2147483648) / 65536) % 4))), (3, .long (lN ((((strX x i) * 1103515245) + 12345) % 2147483648))), (5, .int (nI (strS (va_cpy K K2 0 0 4) (va_cpy M M2 0 0 16) gr an td x i))), (0, .ref (E.1 + 0)), (1, .int (nI x)), (2, .int (nI y))]) rfl ?_
          refine J_goto (tgt := 47) dX7_streets_155 (by decide) ?_
          refine J.sub [0, 5, 4, 6, 7, 8] (L' := [(6, .int (nI (i + 1))), (5, .int (nI (strS (va_cpy K K2 0 0 4) (va_cpy M M2 0 0 16) gr an td x i))), (3, .long (lN ((((strX x i) * 1103515245) + 12345) % 2147483648))), (0, .ref (E.1 + 0)), (1, .int (nI x)), (2, .int (nI y))]) rfl ?_
          refine J.eqs (h' := (hset (hset (hset h 13 (cI E 4 (nF (va_cpy K K2 0 0 4)))) 14 (cI E 16 (nF (strM (va_cpy K K2 0 0 4) (va_cpy M M2 0 0 16) an td x (i + 1))))) 12 (.inr (5, [.ref (E.1 + 13), .ref (E.1 + 14), .ref (E.1 + 15), .ref (E.1 + 17), .ref (E.1 + 19), .int (nI an), .int (nI td), .int (nI gr)])))) (L' := [(6, .int (nI (i + 1))), (5, .int (nI (strS (va_cpy K K2 0 0 4) (va_cpy M M2 0 0 16) gr an td x (i + 1)))), (3, .long (lN (strX x (i + 1)))), (0, .ref (E.1 + 0)), (1, .int (nI x)), (2, .int (nI y))]) (st' := []) (hset_cg (hset_cg (hset_cg rfl rfl) (cI_cg (by intro z; first | rfl | exact (congrFun (strM_t (by assumption)) z).symm | exact (congrFun (strM_f (by assumption)) z).symm | exact (strS_t (by assumption)).symm | exact (strS_f (by assumption)).symm))) rfl) (jL_c rfl (jL_c (jv_N (by first | rfl | exact (congrFun (strM_t (by assumption)) z).symm | exact (congrFun (strM_f (by assumption)) z).symm | exact (strS_t (by assumption)).symm | exact (strS_f (by assumption)).symm)) (jL_c (jv_M (by first | rfl | exact (congrFun (strM_t (by assumption)) z).symm | exact (congrFun (strM_f (by assumption)) z).symm | exact (strS_t (by assumption)).symm | exact (strS_f (by assumption)).symm)) (jL_c rfl (jL_c rfl (jL_c rfl rfl)))))) rfl ?_
          exact ih47 (i + 1) (by omega) (by first | assumption | omega)
        · skip
          refine J_iload dX7_streets_117 rfl ?_
          refine J_aload_n dX7_streets_119 rfl ?_
          refine J_get 1 dX7_streets_120 jk7 (Nat.le_of_ble_eq_true rfl) jfRX7_16 ((hset_ne (by omega)).trans ((hset_ne (by omega)).trans ((hset_ne (by omega)).trans H0))) (by omega) rfl ?_
          refine J_iload dX7_streets_123 rfl ?_
          refine J_iload dX7_streets_125 rfl ?_
          refine J_iload dX7_streets_127 rfl ?_
          refine J_callVr (M' := mX6_beat) (d' := (4, 0, 0)) (rest := [.int (nI (strS (va_cpy K K2 0 0 4) (va_cpy M M2 0 0 16) gr an td x i))]) dX7_streets_129 jmX6_beat jlRX7_108 (ctX6_beat 12 ((((((strX x i) * 1103515245) + 12345) % 2147483648) / 65536) % 4) ((((((strX x i) * 1103515245) + 12345) % 2147483648) / 1048576) % 4) (((((((strX x i) * 1103515245) + 12345) % 2147483648) / 16777216) % 5) + 1) an td gr (va_cpy K K2 0 0 4) (strM (va_cpy K K2 0 0 4) (va_cpy M M2 0 0 16) an td x i) hset_eq ((hset_ne (by omega)).trans ((hset_ne (by omega)).trans hset_eq)) ((hset_ne (by omega)).trans hset_eq) (by omega) (by first | assumption | omega) (by first | assumption | omega) (by exact hK3) (by exact strM_le hM3 i) (by first | assumption | omega) (by first | assumption | omega)) hset_eq (by omega) jk6.1 rfl rfl (Nat.le_of_ble_eq_true rfl) (Nat.le_of_ble_eq_true rfl) ⟨Nat.le_refl _, Nat.le_refl _⟩ ?_
          refine J.cast ((hset_comm (by omega)).trans (hset_cg hset_hset rfl)) ?_
          have fc5 : fgnN (va_cpy K K2 0 0 4) (strM (va_cpy K K2 0 0 4) (va_cpy M M2 0 0 16) an td x i) gr ((((((strX x i) * 1103515245) + 12345) % 2147483648) / 65536) % 4) ((((((strX x i) * 1103515245) + 12345) % 2147483648) / 1048576) % 4) 4 ≤ 42 * 4 := fgnN_le (show ∀ zz, (strM (va_cpy K K2 0 0 4) (va_cpy M M2 0 0 16) an td x i) zz ≤ 20 from by exact strM_le hM3 i) 4
          refine J_iaddN dX7_streets_132 ?_
          refine J_istore dX7_streets_133 (Nat.le_of_ble_eq_true rfl) (L' := [(5, .int (nI ((strS (va_cpy K K2 0 0 4) (va_cpy M M2 0 0 16) gr an td x i) + (fgnN (va_cpy K K2 0 0 4) (strM (va_cpy K K2 0 0 4) (va_cpy M M2 0 0 16) an td x i) gr ((((((strX x i) * 1103515245) + 12345) % 2147483648) / 65536) % 4) ((((((strX x i) * 1103515245) + 12345) % 2147483648) / 1048576) % 4) 4)))), (9, .int (nI (((((((strX x i) * 1103515245) + 12345) % 2147483648) / 16777216) % 5) + 1))), (8, .int (nI ((((((strX x i) * 1103515245) + 12345) % 2147483648) / 1048576) % 4))), (7, .int (nI ((((((strX x i) * 1103515245) + 12345) % 2147483648) / 65536) % 4))), (3, .long (lN ((((strX x i) * 1103515245) + 12345) % 2147483648))), (6, .int (nI i)), (0, .ref (E.1 + 0)), (1, .int (nI x)), (2, .int (nI y))]) rfl ?_
          refine J_aload_n dX7_streets_135 rfl ?_
          refine J_get 1 dX7_streets_136 jk7 (Nat.le_of_ble_eq_true rfl) jfRX7_16 ((hset_ne (by omega)).trans ((hset_ne (by omega)).trans ((hset_ne (by omega)).trans H0))) (by omega) rfl ?_
          refine J_aload_n dX7_streets_139 rfl ?_
          refine J_get 0 dX7_streets_140 jk7 (Nat.le_of_ble_eq_true rfl) jfRX7_10 ((hset_ne (by omega)).trans ((hset_ne (by omega)).trans ((hset_ne (by omega)).trans H0))) (by omega) rfl ?_
          refine J_get 6 dX7_streets_143 jk6 (Nat.le_of_ble_eq_true rfl) jfRX7_115 ((hset_ne (by omega)).trans ((hset_ne (by omega)).trans ((hset_ne (by omega)).trans H1))) (by omega) rfl ?_
          refine J_iload dX7_streets_146 rfl ?_
          refine J_iaddN dX7_streets_148 ?_
          refine J_callVn (M' := mX6_fadeAll) (d' := (3, 0, 0)) (rest := []) dX7_streets_149 jmX6_fadeAll jlRX7_236 (ctX6_fadeAll 12 (td + i) an td gr (va_cpy K K2 0 0 4) (addMN (va_cpy K K2 0 0 4) (strM (va_cpy K K2 0 0 4) (va_cpy M M2 0 0 16) an td x i) ((((((strX x i) * 1103515245) + 12345) % 2147483648) / 65536) % 4) ((((((strX x i) * 1103515245) + 12345) % 2147483648) / 1048576) % 4) (((((((strX x i) * 1103515245) + 12345) % 2147483648) / 16777216) % 5) + 1)) hset_eq ((hset_ne (by omega)).trans ((hset_ne (by omega)).trans hset_eq)) ((hset_ne (by omega)).trans hset_eq) (by omega) (by first | assumption | omega) (by first | assumption | omega) (by exact hK3) (by first | exact addMN_le (strM_le hM3 i) | exact strM_le hM3 i)) hset_eq (by omega) jk6.1 rfl rfl (Nat.le_of_ble_eq_true rfl) (Nat.le_of_ble_eq_true rfl) ⟨Nat.le_refl _, Nat.le_refl _⟩ ?_
          refine J.cast ((hset_comm (by omega)).trans (hset_cg hset_hset rfl)) ?_
          refine J_iincN (q := 5) (a := i) (m := 1) dX7_streets_152 rfl (by decide +kernel) (Nat.le_of_ble_eq_true rfl) (L' := [(6, .int (nI (i + 1))), (5, .int (nI ((strS (va_cpy K K2 0 0 4) (va_cpy M M2 0 0 16) gr an td x i) + (fgnN (va_cpy K K2 0 0 4) (strM (va_cpy K K2 0 0 4) (va_cpy M M2 0 0 16) an td x i) gr ((((((strX x i) * 1103515245) + 12345) % 2147483648) / 65536) % 4) ((((((strX x i) * 1103515245) + 12345) % 2147483648) / 1048576) % 4) 4)))), (9, .int (nI (((((((strX x i) * 1103515245) + 12345) % 2147483648) / 16777216) % 5) + 1))), (8, .int (nI ((((((strX x i) * 1103515245) + 12345) % 2147483648) / 1048576) % 4))), (7, .int (nI ((((((strX x i) * 1103515245) + 12345) % 2147483648) / 65536) % 4))), (3, .long (lN ((((strX x i) * 1103515245) + 12345) % 2147483648))), (0, .ref (E.1 + 0)), (1, .int (nI x)), (2, .int (nI y))]) rfl ?_
          refine J_goto (tgt := 47) dX7_streets_155 (by decide) ?_
          refine J.sub [0, 1, 5, 6, 7, 8] (L' := [(6, .int (nI (i + 1))), (5, .int (nI ((strS (va_cpy K K2 0 0 4) (va_cpy M M2 0 0 16) gr an td x i) + (fgnN (va_cpy K K2 0 0 4) (strM (va_cpy K K2 0 0 4) (va_cpy M M2 0 0 16) an td x i) gr ((((((strX x i) * 1103515245) + 12345) % 2147483648) / 65536) % 4) ((((((strX x i) * 1103515245) + 12345) % 2147483648) / 1048576) % 4) 4)))), (3, .long (lN ((((strX x i) * 1103515245) + 12345) % 2147483648))), (0, .ref (E.1 + 0)), (1, .int (nI x)), (2, .int (nI y))]) rfl ?_
          refine J.eqs (h' := (hset (hset (hset h 13 (cI E 4 (nF (va_cpy K K2 0 0 4)))) 14 (cI E 16 (nF (strM (va_cpy K K2 0 0 4) (va_cpy M M2 0 0 16) an td x (i + 1))))) 12 (.inr (5, [.ref (E.1 + 13), .ref (E.1 + 14), .ref (E.1 + 15), .ref (E.1 + 17), .ref (E.1 + 19), .int (nI an), .int (nI td), .int (nI gr)])))) (L' := [(6, .int (nI (i + 1))), (5, .int (nI (strS (va_cpy K K2 0 0 4) (va_cpy M M2 0 0 16) gr an td x (i + 1)))), (3, .long (lN (strX x (i + 1)))), (0, .ref (E.1 + 0)), (1, .int (nI x)), (2, .int (nI y))]) (st' := []) (hset_cg (hset_cg (hset_cg rfl rfl) (cI_cg (by intro z; first | rfl | exact (congrFun (strM_t (by assumption)) z).symm | exact (congrFun (strM_f (by assumption)) z).symm | exact (strS_t (by assumption)).symm | exact (strS_f (by assumption)).symm))) rfl) (jL_c rfl (jL_c (jv_N (by first | rfl | exact (congrFun (strM_t (by assumption)) z).symm | exact (congrFun (strM_f (by assumption)) z).symm | exact (strS_t (by assumption)).symm | exact (strS_f (by assumption)).symm)) (jL_c (jv_M (by first | rfl | exact (congrFun (strM_t (by assumption)) z).symm | exact (congrFun (strM_f (by assumption)) z).symm | exact (strS_t (by assumption)).symm | exact (strS_f (by assumption)).symm)) (jL_c rfl (jL_c rfl (jL_c rfl rfl)))))) rfl ?_
          exact ih47 (i + 1) (by omega) (by first | assumption | omega)
  refine J.eqs (h' := (hset (hset (hset h 13 (cI E 4 (nF (va_cpy K K2 0 0 4)))) 14 (cI E 16 (nF (strM (va_cpy K K2 0 0 4) (va_cpy M M2 0 0 16) an td x 0)))) 12 (.inr (5, [.ref (E.1 + 13), .ref (E.1 + 14), .ref (E.1 + 15), .ref (E.1 + 17), .ref (E.1 + 19), .int (nI an), .int (nI td), .int (nI gr)])))) (L' := [(6, .int (nI 0)), (5, .int (nI (strS (va_cpy K K2 0 0 4) (va_cpy M M2 0 0 16) gr an td x 0))), (3, .long (lN (strX x 0))), (0, .ref (E.1 + 0)), (1, .int (nI x)), (2, .int (nI y))]) (st' := []) (hset_cg (hset_cg (hset_cg rfl rfl) (cI_cg (by intro z; first | rfl | exact (congrFun (strM_t (by assumption)) z).symm | exact (congrFun (strM_f (by assumption)) z).symm | exact (strS_t (by assumption)).symm | exact (strS_f (by assumption)).symm))) rfl) (jL_c rfl (jL_c (jv_N (by first | rfl | exact (congrFun (strM_t (by assumption)) z).symm | exact (congrFun (strM_f (by assumption)) z).symm | exact (strS_t (by assumption)).symm | exact (strS_f (by assumption)).symm)) (jL_c (jv_M (by first | rfl | exact (congrFun (strM_t (by assumption)) z).symm | exact (congrFun (strM_f (by assumption)) z).symm | exact (strS_t (by assumption)).symm | exact (strS_f (by assumption)).symm)) (jL_c rfl (jL_c rfl (jL_c rfl rfl)))))) rfl ?_
  exact CUT47 (y - 0 + 1) 0 (Nat.lt_succ_self _) (by first | assumption | omega)

set_option maxHeartbeats 1000000 in
set_option maxRecDepth 100000 in
theorem ctX7_part_bad {E : jE} {h : Nat → va_E} {n : Nat} (x : Nat) (ab : Nat) (be : Nat) (bd : Nat) (no : Nat) (fu : Nat) (H0 : h 0 = .inr (6, [.ref (E.1 + 1), .ref (E.1 + 12), .ref (E.1 + 23), .ref (E.1 + 24), .ref (E.1 + 30), .ref (E.1 + 34), .ref (E.1 + 37), .int (nI ab), .int (nI be), .int (nI bd), .int (nI no), .int (nI fu)])) (hn : 38 ≤ n) (h32x : x < 2 ^ 32) (hbad : ¬ x ≤ 1) : jC E mX7_part (2, 0, 0) [.ref (E.1 + 0), .int (nI x)] h n (jR (some (.long (Int32.toInt64 (-2)))) (hset h 0 (.inr (6, [.ref (E.1 + 1), .ref (E.1 + 12), .ref (E.1 + 23), .ref (E.1 + 24), .ref (E.1 + 30), .ref (E.1 + 34), .ref (E.1 + 37), .int (nI ab), .int (nI be), .int (nI (bd + 1)), .int (nI no), .int (nI fu)]))) n) := by
  refine J.of (L := [(0, .ref (E.1 + 0)), (1, .int (nI x))]) rfl (by decide +kernel) (Nat.le_of_ble_eq_true rfl) ?_
  obtain ⟨PP, hPP⟩ : ∃ PP : jPost, PP = (jR (some (.long (Int32.toInt64 (-2)))) (hset h 0 (.inr (6, [.ref (E.1 + 1), .ref (E.1 + 12), .ref (E.1 + 23), .ref (E.1 + 24), .ref (E.1 + 30), .ref (E.1 + 34), .ref (E.1 + 37), .int (nI ab), .int (nI be), .int (nI (bd + 1)), .int (nI no), .int (nI fu)]))) n) := ⟨_, rfl⟩
  rw [← hPP]
  refine J_iload_n dX7_part_0 rfl ?_
  refine J_iconst (v := nI 0) dX7_part_1 (by decide +kernel) ?_
  refine J_iconst (v := nI 1) dX7_part_2 (by decide +kernel) ?_
  refine J_callSr (M' := mX7_isWithin) (d' := (1, 0, 0)) (rest := []) dX7_part_3 jmX7_isWithin jlRX7_70 (ctX7_isWithin x 0 1   (by first | assumption | omega) (by first | assumption | omega) (by first | assumption | omega)) rfl rfl (Nat.le_of_ble_eq_true rfl) (Nat.le_of_ble_eq_true rfl) ⟨Nat.le_refl _, Nat.le_refl _⟩ ?_
  refine J_if_neB (tgt := 17) dX7_part_6 (by decide) (fun c1 => (by exfalso; omega)) (fun c1 => ?_)
  refine J_aload_n dX7_part_9 rfl ?_
  refine J_bipush (v := (-2)) dX7_part_10 (by decide +kernel) ?_
  refine J_callVr (M' := mX7_refuse) (d' := (1, 0, 0)) (rest := []) dX7_part_12 jmX7_refuse jlRX7_59 (ctX7_refuse2 ab be bd no fu H0 (by omega) ) H0 (by omega) jk7.1 rfl rfl (Nat.le_of_ble_eq_true rfl) (Nat.le_of_ble_eq_true rfl) ⟨Nat.le_refl _, Nat.le_refl _⟩ ?_
  refine J_i2l (v := Int32.toInt64 (-2)) dX7_part_15 rfl ?_
  exact J_lret dX7_part_16 rfl ⟨Nat.le_refl _, Nat.le_refl _⟩ (by rw [hPP]; exact ⟨rfl, rfl, rfl⟩)

set_option maxHeartbeats 1000000 in
set_option maxRecDepth 100000 in
theorem ctX7_part_0 {E : jE} {h : Nat → va_E} {n : Nat} (ab : Nat) (be : Nat) (bd : Nat) (no : Nat) (fu : Nat) (H0 : h 0 = .inr (6, [.ref (E.1 + 1), .ref (E.1 + 12), .ref (E.1 + 23), .ref (E.1 + 24), .ref (E.1 + 30), .ref (E.1 + 34), .ref (E.1 + 37), .int (nI ab), .int (nI be), .int (nI bd), .int (nI no), .int (nI fu)])) (hn : 38 ≤ n) (hab : ab < 2 ^ 31) (hbe : be < 2 ^ 31) : jC E mX7_part (2, 0, 0) [.ref (E.1 + 0), .int (nI 0)] h n (jR (some (.long (lN ab))) h n) := by
  refine J.of (L := [(0, .ref (E.1 + 0)), (1, .int (nI 0))]) rfl (by decide +kernel) (Nat.le_of_ble_eq_true rfl) ?_
  obtain ⟨PP, hPP⟩ : ∃ PP : jPost, PP = (jR (some (.long (lN ab))) h n) := ⟨_, rfl⟩
  rw [← hPP]
  refine J_iload_n dX7_part_0 rfl ?_
  refine J_iconst (v := nI 0) dX7_part_1 (by decide +kernel) ?_
  refine J_iconst (v := nI 1) dX7_part_2 (by decide +kernel) ?_
  refine J_callSr (M' := mX7_isWithin) (d' := (1, 0, 0)) (rest := []) dX7_part_3 jmX7_isWithin jlRX7_70 (ctX7_isWithin 0 0 1   (by first | assumption | omega) (by first | assumption | omega) (by first | assumption | omega)) rfl rfl (Nat.le_of_ble_eq_true rfl) (Nat.le_of_ble_eq_true rfl) ⟨Nat.le_refl _, Nat.le_refl _⟩ ?_
  refine J_if_neB (tgt := 17) dX7_part_6 (by decide) (fun c1 => ?_) (fun c1 => (by exfalso; omega))
  refine J_iload_n dX7_part_17 rfl ?_
  refine J_if_neN (tgt := 29) dX7_part_18 (by decide) (by omega) (fun z => absurd z (by decide)) (fun _ => ?_)
  refine J_aload_n dX7_part_21 rfl ?_
  refine J_get 7 dX7_part_22 jk7 (Nat.le_of_ble_eq_true rfl) jfRX7_48 H0 (by omega) rfl ?_
  refine J_i2lN dX7_part_25 (by omega) ?_
  refine J_goto (tgt := 34) dX7_part_26 (by decide) ?_
  exact J_lret dX7_part_34 rfl ⟨Nat.le_refl _, Nat.le_refl _⟩ (by rw [hPP]; exact ⟨rfl, rfl, rfl⟩)

set_option maxHeartbeats 1000000 in
set_option maxRecDepth 100000 in
theorem ctX7_part_1 {E : jE} {h : Nat → va_E} {n : Nat} (ab : Nat) (be : Nat) (bd : Nat) (no : Nat) (fu : Nat) (H0 : h 0 = .inr (6, [.ref (E.1 + 1), .ref (E.1 + 12), .ref (E.1 + 23), .ref (E.1 + 24), .ref (E.1 + 30), .ref (E.1 + 34), .ref (E.1 + 37), .int (nI ab), .int (nI be), .int (nI bd), .int (nI no), .int (nI fu)])) (hn : 38 ≤ n) (hab : ab < 2 ^ 31) (hbe : be < 2 ^ 31) : jC E mX7_part (2, 0, 0) [.ref (E.1 + 0), .int (nI 1)] h n (jR (some (.long (lN be))) h n) := by
  refine J.of (L := [(0, .ref (E.1 + 0)), (1, .int (nI 1))]) rfl (by decide +kernel) (Nat.le_of_ble_eq_true rfl) ?_
  obtain ⟨PP, hPP⟩ : ∃ PP : jPost, PP = (jR (some (.long (lN be))) h n) := ⟨_, rfl⟩
  rw [← hPP]
  refine J_iload_n dX7_part_0 rfl ?_
  refine J_iconst (v := nI 0) dX7_part_1 (by decide +kernel) ?_
  refine J_iconst (v := nI 1) dX7_part_2 (by decide +kernel) ?_
  refine J_callSr (M' := mX7_isWithin) (d' := (1, 0, 0)) (rest := []) dX7_part_3 jmX7_isWithin jlRX7_70 (ctX7_isWithin 1 0 1   (by first | assumption | omega) (by first | assumption | omega) (by first | assumption | omega)) rfl rfl (Nat.le_of_ble_eq_true rfl) (Nat.le_of_ble_eq_true rfl) ⟨Nat.le_refl _, Nat.le_refl _⟩ ?_
  refine J_if_neB (tgt := 17) dX7_part_6 (by decide) (fun c1 => ?_) (fun c1 => (by exfalso; omega))
  refine J_iload_n dX7_part_17 rfl ?_
  refine J_if_neN (tgt := 29) dX7_part_18 (by decide) (by omega) (fun _ => ?_) (fun z => absurd z (by decide))
  refine J_aload_n dX7_part_29 rfl ?_
  refine J_get 8 dX7_part_30 jk7 (Nat.le_of_ble_eq_true rfl) jfRX7_52 H0 (by omega) rfl ?_
  refine J_i2lN dX7_part_33 (by omega) ?_
  exact J_lret dX7_part_34 rfl ⟨Nat.le_refl _, Nat.le_refl _⟩ (by rw [hPP]; exact ⟨rfl, rfl, rfl⟩)

set_option maxHeartbeats 1000000 in
set_option maxRecDepth 100000 in
theorem ctX7_status_0 {E : jE} {h : Nat → va_E} {n : Nat} (ab : Nat) (be : Nat) (bd : Nat) (no : Nat) (fu : Nat) (H0 : h 0 = .inr (6, [.ref (E.1 + 1), .ref (E.1 + 12), .ref (E.1 + 23), .ref (E.1 + 24), .ref (E.1 + 30), .ref (E.1 + 34), .ref (E.1 + 37), .int (nI ab), .int (nI be), .int (nI bd), .int (nI no), .int (nI fu)])) (hn : 38 ≤ n) : jC E mX7_status (2, 0, 0) [.ref (E.1 + 0), .int (nI 0)] h n (jR (some (.int (nI bd))) h n) := by
  refine J.of (L := [(0, .ref (E.1 + 0)), (1, .int (nI 0))]) rfl (by decide +kernel) (Nat.le_of_ble_eq_true rfl) ?_
  obtain ⟨PP, hPP⟩ : ∃ PP : jPost, PP = (jR (some (.int (nI bd))) h n) := ⟨_, rfl⟩
  rw [← hPP]
  refine J_iload_n dX7_status_0 rfl ?_
  refine J_tableInN (tgt := 28) (v := 0) rfl dX7_status_1 (by decide +kernel) (by decide +kernel) rfl (by decide) ?_
  refine J_aload_n dX7_status_28 rfl ?_
  refine J_get 9 dX7_status_29 jk7 (Nat.le_of_ble_eq_true rfl) jfRX7_239 H0 (by omega) rfl ?_
  exact J_iret dX7_status_32 rfl ⟨Nat.le_refl _, Nat.le_refl _⟩ (by rw [hPP]; exact ⟨rfl, rfl, rfl⟩)

set_option maxHeartbeats 1000000 in
set_option maxRecDepth 100000 in
theorem ctX7_status_1 {E : jE} {h : Nat → va_E} {n : Nat} (ab : Nat) (be : Nat) (bd : Nat) (no : Nat) (fu : Nat) (H0 : h 0 = .inr (6, [.ref (E.1 + 1), .ref (E.1 + 12), .ref (E.1 + 23), .ref (E.1 + 24), .ref (E.1 + 30), .ref (E.1 + 34), .ref (E.1 + 37), .int (nI ab), .int (nI be), .int (nI bd), .int (nI no), .int (nI fu)])) (hn : 38 ≤ n) : jC E mX7_status (2, 0, 0) [.ref (E.1 + 0), .int (nI 1)] h n (jR (some (.int (nI no))) h n) := by
  refine J.of (L := [(0, .ref (E.1 + 0)), (1, .int (nI 1))]) rfl (by decide +kernel) (Nat.le_of_ble_eq_true rfl) ?_
  obtain ⟨PP, hPP⟩ : ∃ PP : jPost, PP = (jR (some (.int (nI no))) h n) := ⟨_, rfl⟩
  rw [← hPP]
  refine J_iload_n dX7_status_0 rfl ?_
  refine J_tableInN (tgt := 33) (v := 1) rfl dX7_status_1 (by decide +kernel) (by decide +kernel) rfl (by decide) ?_
  refine J_aload_n dX7_status_33 rfl ?_
  refine J_get 10 dX7_status_34 jk7 (Nat.le_of_ble_eq_true rfl) jfRX7_242 H0 (by omega) rfl ?_
  exact J_iret dX7_status_37 rfl ⟨Nat.le_refl _, Nat.le_refl _⟩ (by rw [hPP]; exact ⟨rfl, rfl, rfl⟩)

set_option maxHeartbeats 1000000 in
set_option maxRecDepth 100000 in
theorem ctX7_status_2 {E : jE} {h : Nat → va_E} {n : Nat} (ab : Nat) (be : Nat) (bd : Nat) (no : Nat) (fu : Nat) (H0 : h 0 = .inr (6, [.ref (E.1 + 1), .ref (E.1 + 12), .ref (E.1 + 23), .ref (E.1 + 24), .ref (E.1 + 30), .ref (E.1 + 34), .ref (E.1 + 37), .int (nI ab), .int (nI be), .int (nI bd), .int (nI no), .int (nI fu)])) (hn : 38 ≤ n) : jC E mX7_status (2, 0, 0) [.ref (E.1 + 0), .int (nI 2)] h n (jR (some (.int (nI fu))) h n) := by
  refine J.of (L := [(0, .ref (E.1 + 0)), (1, .int (nI 2))]) rfl (by decide +kernel) (Nat.le_of_ble_eq_true rfl) ?_
  obtain ⟨PP, hPP⟩ : ∃ PP : jPost, PP = (jR (some (.int (nI fu))) h n) := ⟨_, rfl⟩
  rw [← hPP]
  refine J_iload_n dX7_status_0 rfl ?_
  refine J_tableInN (tgt := 38) (v := 2) rfl dX7_status_1 (by decide +kernel) (by decide +kernel) rfl (by decide) ?_
  refine J_aload_n dX7_status_38 rfl ?_
  refine J_get 11 dX7_status_39 jk7 (Nat.le_of_ble_eq_true rfl) jfRX7_245 H0 (by omega) rfl ?_
  exact J_iret dX7_status_42 rfl ⟨Nat.le_refl _, Nat.le_refl _⟩ (by rw [hPP]; exact ⟨rfl, rfl, rfl⟩)

set_option maxHeartbeats 1000000 in
set_option maxRecDepth 100000 in
theorem ctX7_status_bad {E : jE} {h : Nat → va_E} {n : Nat} (x : Nat) (ab : Nat) (be : Nat) (bd : Nat) (no : Nat) (fu : Nat) (H0 : h 0 = .inr (6, [.ref (E.1 + 1), .ref (E.1 + 12), .ref (E.1 + 23), .ref (E.1 + 24), .ref (E.1 + 30), .ref (E.1 + 34), .ref (E.1 + 37), .int (nI ab), .int (nI be), .int (nI bd), .int (nI no), .int (nI fu)])) (hn : 38 ≤ n) (h32x : x < 2 ^ 32) (hbad : 3 ≤ x) : jC E mX7_status (2, 0, 0) [.ref (E.1 + 0), .int (nI x)] h n (jR (some (.int (-1))) (hset h 0 (.inr (6, [.ref (E.1 + 1), .ref (E.1 + 12), .ref (E.1 + 23), .ref (E.1 + 24), .ref (E.1 + 30), .ref (E.1 + 34), .ref (E.1 + 37), .int (nI ab), .int (nI be), .int (nI (bd + 1)), .int (nI no), .int (nI fu)]))) n) := by
  refine J.of (L := [(0, .ref (E.1 + 0)), (1, .int (nI x))]) rfl (by decide +kernel) (Nat.le_of_ble_eq_true rfl) ?_
  obtain ⟨PP, hPP⟩ : ∃ PP : jPost, PP = (jR (some (.int (-1))) (hset h 0 (.inr (6, [.ref (E.1 + 1), .ref (E.1 + 12), .ref (E.1 + 23), .ref (E.1 + 24), .ref (E.1 + 30), .ref (E.1 + 34), .ref (E.1 + 37), .int (nI ab), .int (nI be), .int (nI (bd + 1)), .int (nI no), .int (nI fu)]))) n) := ⟨_, rfl⟩
  rw [← hPP]
  refine J_iload_n dX7_status_0 rfl ?_
  have sw1 : 3 ≤ x := by omega
  rcases sw1 with sw1
  · skip
    refine J_tableOutG (tgt := 43) 3 dX7_status_1 sw1 (by omega) rfl rfl (by decide) ?_
    refine J_aload_n dX7_status_43 rfl ?_
    refine J_bipush (v := (-2)) dX7_status_44 (by decide +kernel) ?_
    refine J_callVr (M' := mX7_refuse) (d' := (1, 0, 0)) (rest := []) dX7_status_46 jmX7_refuse jlRX7_59 (ctX7_refuse2 ab be bd no fu H0 (by omega) ) H0 (by omega) jk7.1 rfl rfl (Nat.le_of_ble_eq_true rfl) (Nat.le_of_ble_eq_true rfl) ⟨Nat.le_refl _, Nat.le_refl _⟩ ?_
    refine J_pop dX7_status_49 rfl ?_
    refine J_iconst (v := (-1)) dX7_status_50 (by decide +kernel) ?_
    exact J_iret dX7_status_51 rfl ⟨Nat.le_refl _, Nat.le_refl _⟩ (by rw [hPP]; exact ⟨rfl, rfl, rfl⟩)

set_option maxHeartbeats 1000000 in
set_option maxRecDepth 100000 in
theorem ctX7_tally_0 {E : jE} {h : Nat → va_E} {n : Nat} (an : Nat) (td : Nat) (gr : Nat) (nn : Nat) (cn : Nat) (ps : Nat) (sz : Nat) (tk : Nat) (cu : Nat) (ab : Nat) (be : Nat) (bd : Nat) (no : Nat) (fu : Nat) (H0 : h 0 = .inr (6, [.ref (E.1 + 1), .ref (E.1 + 12), .ref (E.1 + 23), .ref (E.1 + 24), .ref (E.1 + 30), .ref (E.1 + 34), .ref (E.1 + 37), .int (nI ab), .int (nI be), .int (nI bd), .int (nI no), .int (nI fu)])) (H1 : h 1 = .inr (5, [.ref (E.1 + 2), .ref (E.1 + 3), .ref (E.1 + 4), .ref (E.1 + 6), .ref (E.1 + 8), .int (nI an), .int (nI td), .int (nI gr)])) (H2 : h 4 = .inr (3, [.ref (E.1 + 5), .int (nI nn)])) (H3 : h 6 = .inr (3, [.ref (E.1 + 7), .int (nI cn)])) (H4 : h 8 = .inr (1, [.ref (E.1 + 9), .ref (E.1 + 10), .ref (E.1 + 11), .int (nI ps)])) (H5 : h 24 = .inr (4, [.ref (E.1 + 25), .ref (E.1 + 26), .ref (E.1 + 27), .ref (E.1 + 28), .ref (E.1 + 29), .int (nI sz), .int (nI tk), .int (nI cu)])) (hn : 38 ≤ n) : jC E mX7_tally (1, 0, 0) [.ref (E.1 + 0), .int (nI 0)] h n (jR (some (.int (nI an))) h n) := by
  refine J.of (L := [(0, .ref (E.1 + 0)), (1, .int (nI 0))]) rfl (by decide +kernel) (Nat.le_of_ble_eq_true rfl) ?_
  obtain ⟨PP, hPP⟩ : ∃ PP : jPost, PP = (jR (some (.int (nI an))) h n) := ⟨_, rfl⟩
  rw [← hPP]
  refine J_iload_n dX7_tally_0 rfl ?_
  refine J_tableInN (tgt := 40) (v := 0) rfl dX7_tally_1 (by decide +kernel) (by decide +kernel) rfl (by decide) ?_
  refine J_aload_n dX7_tally_40 rfl ?_
  refine J_get 0 dX7_tally_41 jk7 (Nat.le_of_ble_eq_true rfl) jfRX7_10 H0 (by omega) rfl ?_
  refine J_get 5 dX7_tally_44 jk6 (Nat.le_of_ble_eq_true rfl) jfRX7_63 H1 (by omega) rfl ?_
  exact J_iret dX7_tally_47 rfl ⟨Nat.le_refl _, Nat.le_refl _⟩ (by rw [hPP]; exact ⟨rfl, rfl, rfl⟩)

set_option maxHeartbeats 1000000 in
set_option maxRecDepth 100000 in
theorem ctX7_tally_1 {E : jE} {h : Nat → va_E} {n : Nat} (an : Nat) (td : Nat) (gr : Nat) (nn : Nat) (cn : Nat) (ps : Nat) (sz : Nat) (tk : Nat) (cu : Nat) (ab : Nat) (be : Nat) (bd : Nat) (no : Nat) (fu : Nat) (H0 : h 0 = .inr (6, [.ref (E.1 + 1), .ref (E.1 + 12), .ref (E.1 + 23), .ref (E.1 + 24), .ref (E.1 + 30), .ref (E.1 + 34), .ref (E.1 + 37), .int (nI ab), .int (nI be), .int (nI bd), .int (nI no), .int (nI fu)])) (H1 : h 1 = .inr (5, [.ref (E.1 + 2), .ref (E.1 + 3), .ref (E.1 + 4), .ref (E.1 + 6), .ref (E.1 + 8), .int (nI an), .int (nI td), .int (nI gr)])) (H2 : h 4 = .inr (3, [.ref (E.1 + 5), .int (nI nn)])) (H3 : h 6 = .inr (3, [.ref (E.1 + 7), .int (nI cn)])) (H4 : h 8 = .inr (1, [.ref (E.1 + 9), .ref (E.1 + 10), .ref (E.1 + 11), .int (nI ps)])) (H5 : h 24 = .inr (4, [.ref (E.1 + 25), .ref (E.1 + 26), .ref (E.1 + 27), .ref (E.1 + 28), .ref (E.1 + 29), .int (nI sz), .int (nI tk), .int (nI cu)])) (hn : 38 ≤ n) : jC E mX7_tally (1, 0, 0) [.ref (E.1 + 0), .int (nI 1)] h n (jR (some (.int (nI td))) h n) := by
  refine J.of (L := [(0, .ref (E.1 + 0)), (1, .int (nI 1))]) rfl (by decide +kernel) (Nat.le_of_ble_eq_true rfl) ?_
  obtain ⟨PP, hPP⟩ : ∃ PP : jPost, PP = (jR (some (.int (nI td))) h n) := ⟨_, rfl⟩
  rw [← hPP]
  refine J_iload_n dX7_tally_0 rfl ?_
  refine J_tableInN (tgt := 48) (v := 1) rfl dX7_tally_1 (by decide +kernel) (by decide +kernel) rfl (by decide) ?_
  refine J_aload_n dX7_tally_48 rfl ?_
  refine J_get 0 dX7_tally_49 jk7 (Nat.le_of_ble_eq_true rfl) jfRX7_10 H0 (by omega) rfl ?_
  refine J_get 6 dX7_tally_52 jk6 (Nat.le_of_ble_eq_true rfl) jfRX7_115 H1 (by omega) rfl ?_
  exact J_iret dX7_tally_55 rfl ⟨Nat.le_refl _, Nat.le_refl _⟩ (by rw [hPP]; exact ⟨rfl, rfl, rfl⟩)

set_option maxHeartbeats 1000000 in
set_option maxRecDepth 100000 in
theorem ctX7_tally_2 {E : jE} {h : Nat → va_E} {n : Nat} (an : Nat) (td : Nat) (gr : Nat) (nn : Nat) (cn : Nat) (ps : Nat) (sz : Nat) (tk : Nat) (cu : Nat) (ab : Nat) (be : Nat) (bd : Nat) (no : Nat) (fu : Nat) (H0 : h 0 = .inr (6, [.ref (E.1 + 1), .ref (E.1 + 12), .ref (E.1 + 23), .ref (E.1 + 24), .ref (E.1 + 30), .ref (E.1 + 34), .ref (E.1 + 37), .int (nI ab), .int (nI be), .int (nI bd), .int (nI no), .int (nI fu)])) (H1 : h 1 = .inr (5, [.ref (E.1 + 2), .ref (E.1 + 3), .ref (E.1 + 4), .ref (E.1 + 6), .ref (E.1 + 8), .int (nI an), .int (nI td), .int (nI gr)])) (H2 : h 4 = .inr (3, [.ref (E.1 + 5), .int (nI nn)])) (H3 : h 6 = .inr (3, [.ref (E.1 + 7), .int (nI cn)])) (H4 : h 8 = .inr (1, [.ref (E.1 + 9), .ref (E.1 + 10), .ref (E.1 + 11), .int (nI ps)])) (H5 : h 24 = .inr (4, [.ref (E.1 + 25), .ref (E.1 + 26), .ref (E.1 + 27), .ref (E.1 + 28), .ref (E.1 + 29), .int (nI sz), .int (nI tk), .int (nI cu)])) (hn : 38 ≤ n) : jC E mX7_tally (1, 0, 0) [.ref (E.1 + 0), .int (nI 2)] h n (jR (some (.int (nI gr))) h n) := by
  refine J.of (L := [(0, .ref (E.1 + 0)), (1, .int (nI 2))]) rfl (by decide +kernel) (Nat.le_of_ble_eq_true rfl) ?_
  obtain ⟨PP, hPP⟩ : ∃ PP : jPost, PP = (jR (some (.int (nI gr))) h n) := ⟨_, rfl⟩
  rw [← hPP]
  refine J_iload_n dX7_tally_0 rfl ?_
  refine J_tableInN (tgt := 56) (v := 2) rfl dX7_tally_1 (by decide +kernel) (by decide +kernel) rfl (by decide) ?_
  refine J_aload_n dX7_tally_56 rfl ?_
  refine J_get 0 dX7_tally_57 jk7 (Nat.le_of_ble_eq_true rfl) jfRX7_10 H0 (by omega) rfl ?_
  refine J_get 7 dX7_tally_60 jk6 (Nat.le_of_ble_eq_true rfl) jfRX7_126 H1 (by omega) rfl ?_
  exact J_iret dX7_tally_63 rfl ⟨Nat.le_refl _, Nat.le_refl _⟩ (by rw [hPP]; exact ⟨rfl, rfl, rfl⟩)

set_option maxHeartbeats 1000000 in
set_option maxRecDepth 100000 in
theorem ctX7_tally_3 {E : jE} {h : Nat → va_E} {n : Nat} (an : Nat) (td : Nat) (gr : Nat) (nn : Nat) (cn : Nat) (ps : Nat) (sz : Nat) (tk : Nat) (cu : Nat) (ab : Nat) (be : Nat) (bd : Nat) (no : Nat) (fu : Nat) (H0 : h 0 = .inr (6, [.ref (E.1 + 1), .ref (E.1 + 12), .ref (E.1 + 23), .ref (E.1 + 24), .ref (E.1 + 30), .ref (E.1 + 34), .ref (E.1 + 37), .int (nI ab), .int (nI be), .int (nI bd), .int (nI no), .int (nI fu)])) (H1 : h 1 = .inr (5, [.ref (E.1 + 2), .ref (E.1 + 3), .ref (E.1 + 4), .ref (E.1 + 6), .ref (E.1 + 8), .int (nI an), .int (nI td), .int (nI gr)])) (H2 : h 4 = .inr (3, [.ref (E.1 + 5), .int (nI nn)])) (H3 : h 6 = .inr (3, [.ref (E.1 + 7), .int (nI cn)])) (H4 : h 8 = .inr (1, [.ref (E.1 + 9), .ref (E.1 + 10), .ref (E.1 + 11), .int (nI ps)])) (H5 : h 24 = .inr (4, [.ref (E.1 + 25), .ref (E.1 + 26), .ref (E.1 + 27), .ref (E.1 + 28), .ref (E.1 + 29), .int (nI sz), .int (nI tk), .int (nI cu)])) (hn : 38 ≤ n) : jC E mX7_tally (1, 0, 0) [.ref (E.1 + 0), .int (nI 3)] h n (jR (some (.int (nI nn))) h n) := by
  refine J.of (L := [(0, .ref (E.1 + 0)), (1, .int (nI 3))]) rfl (by decide +kernel) (Nat.le_of_ble_eq_true rfl) ?_
  obtain ⟨PP, hPP⟩ : ∃ PP : jPost, PP = (jR (some (.int (nI nn))) h n) := ⟨_, rfl⟩
  rw [← hPP]
  refine J_iload_n dX7_tally_0 rfl ?_
  refine J_tableInN (tgt := 64) (v := 3) rfl dX7_tally_1 (by decide +kernel) (by decide +kernel) rfl (by decide) ?_
  refine J_aload_n dX7_tally_64 rfl ?_
  refine J_get 0 dX7_tally_65 jk7 (Nat.le_of_ble_eq_true rfl) jfRX7_10 H0 (by omega) rfl ?_
  refine J_get 2 dX7_tally_68 jk6 (Nat.le_of_ble_eq_true rfl) jfRX7_184 H1 (by omega) rfl ?_
  refine J_get 1 dX7_tally_71 jk4 (Nat.le_of_ble_eq_true rfl) jfRX7_193 H2 (by omega) rfl ?_
  exact J_iret dX7_tally_74 rfl ⟨Nat.le_refl _, Nat.le_refl _⟩ (by rw [hPP]; exact ⟨rfl, rfl, rfl⟩)

set_option maxHeartbeats 1000000 in
set_option maxRecDepth 100000 in
theorem ctX7_tally_4 {E : jE} {h : Nat → va_E} {n : Nat} (an : Nat) (td : Nat) (gr : Nat) (nn : Nat) (cn : Nat) (ps : Nat) (sz : Nat) (tk : Nat) (cu : Nat) (ab : Nat) (be : Nat) (bd : Nat) (no : Nat) (fu : Nat) (H0 : h 0 = .inr (6, [.ref (E.1 + 1), .ref (E.1 + 12), .ref (E.1 + 23), .ref (E.1 + 24), .ref (E.1 + 30), .ref (E.1 + 34), .ref (E.1 + 37), .int (nI ab), .int (nI be), .int (nI bd), .int (nI no), .int (nI fu)])) (H1 : h 1 = .inr (5, [.ref (E.1 + 2), .ref (E.1 + 3), .ref (E.1 + 4), .ref (E.1 + 6), .ref (E.1 + 8), .int (nI an), .int (nI td), .int (nI gr)])) (H2 : h 4 = .inr (3, [.ref (E.1 + 5), .int (nI nn)])) (H3 : h 6 = .inr (3, [.ref (E.1 + 7), .int (nI cn)])) (H4 : h 8 = .inr (1, [.ref (E.1 + 9), .ref (E.1 + 10), .ref (E.1 + 11), .int (nI ps)])) (H5 : h 24 = .inr (4, [.ref (E.1 + 25), .ref (E.1 + 26), .ref (E.1 + 27), .ref (E.1 + 28), .ref (E.1 + 29), .int (nI sz), .int (nI tk), .int (nI cu)])) (hn : 38 ≤ n) : jC E mX7_tally (1, 0, 0) [.ref (E.1 + 0), .int (nI 4)] h n (jR (some (.int (nI cn))) h n) := by
  refine J.of (L := [(0, .ref (E.1 + 0)), (1, .int (nI 4))]) rfl (by decide +kernel) (Nat.le_of_ble_eq_true rfl) ?_
  obtain ⟨PP, hPP⟩ : ∃ PP : jPost, PP = (jR (some (.int (nI cn))) h n) := ⟨_, rfl⟩
  rw [← hPP]
  refine J_iload_n dX7_tally_0 rfl ?_
  refine J_tableInN (tgt := 75) (v := 4) rfl dX7_tally_1 (by decide +kernel) (by decide +kernel) rfl (by decide) ?_
  refine J_aload_n dX7_tally_75 rfl ?_
  refine J_get 0 dX7_tally_76 jk7 (Nat.le_of_ble_eq_true rfl) jfRX7_10 H0 (by omega) rfl ?_
  refine J_get 3 dX7_tally_79 jk6 (Nat.le_of_ble_eq_true rfl) jfRX7_194 H1 (by omega) rfl ?_
  refine J_get 1 dX7_tally_82 jk4 (Nat.le_of_ble_eq_true rfl) jfRX7_193 H3 (by omega) rfl ?_
  exact J_iret dX7_tally_85 rfl ⟨Nat.le_refl _, Nat.le_refl _⟩ (by rw [hPP]; exact ⟨rfl, rfl, rfl⟩)

set_option maxHeartbeats 1000000 in
set_option maxRecDepth 100000 in
theorem ctX7_tally_5 {E : jE} {h : Nat → va_E} {n : Nat} (an : Nat) (td : Nat) (gr : Nat) (nn : Nat) (cn : Nat) (ps : Nat) (sz : Nat) (tk : Nat) (cu : Nat) (ab : Nat) (be : Nat) (bd : Nat) (no : Nat) (fu : Nat) (H0 : h 0 = .inr (6, [.ref (E.1 + 1), .ref (E.1 + 12), .ref (E.1 + 23), .ref (E.1 + 24), .ref (E.1 + 30), .ref (E.1 + 34), .ref (E.1 + 37), .int (nI ab), .int (nI be), .int (nI bd), .int (nI no), .int (nI fu)])) (H1 : h 1 = .inr (5, [.ref (E.1 + 2), .ref (E.1 + 3), .ref (E.1 + 4), .ref (E.1 + 6), .ref (E.1 + 8), .int (nI an), .int (nI td), .int (nI gr)])) (H2 : h 4 = .inr (3, [.ref (E.1 + 5), .int (nI nn)])) (H3 : h 6 = .inr (3, [.ref (E.1 + 7), .int (nI cn)])) (H4 : h 8 = .inr (1, [.ref (E.1 + 9), .ref (E.1 + 10), .ref (E.1 + 11), .int (nI ps)])) (H5 : h 24 = .inr (4, [.ref (E.1 + 25), .ref (E.1 + 26), .ref (E.1 + 27), .ref (E.1 + 28), .ref (E.1 + 29), .int (nI sz), .int (nI tk), .int (nI cu)])) (hn : 38 ≤ n) : jC E mX7_tally (1, 0, 0) [.ref (E.1 + 0), .int (nI 5)] h n (jR (some (.int (nI ps))) h n) := by
  refine J.of (L := [(0, .ref (E.1 + 0)), (1, .int (nI 5))]) rfl (by decide +kernel) (Nat.le_of_ble_eq_true rfl) ?_
  obtain ⟨PP, hPP⟩ : ∃ PP : jPost, PP = (jR (some (.int (nI ps))) h n) := ⟨_, rfl⟩
  rw [← hPP]
  refine J_iload_n dX7_tally_0 rfl ?_
  refine J_tableInN (tgt := 86) (v := 5) rfl dX7_tally_1 (by decide +kernel) (by decide +kernel) rfl (by decide) ?_
  refine J_aload_n dX7_tally_86 rfl ?_
  refine J_get 0 dX7_tally_87 jk7 (Nat.le_of_ble_eq_true rfl) jfRX7_10 H0 (by omega) rfl ?_
  refine J_get 4 dX7_tally_90 jk6 (Nat.le_of_ble_eq_true rfl) jfRX7_261 H1 (by omega) rfl ?_
  refine J_get 3 dX7_tally_93 jk2 (Nat.le_of_ble_eq_true rfl) jfRX7_265 H4 (by omega) rfl ?_
  exact J_iret dX7_tally_96 rfl ⟨Nat.le_refl _, Nat.le_refl _⟩ (by rw [hPP]; exact ⟨rfl, rfl, rfl⟩)

set_option maxHeartbeats 1000000 in
set_option maxRecDepth 100000 in
theorem ctX7_tally_6 {E : jE} {h : Nat → va_E} {n : Nat} (an : Nat) (td : Nat) (gr : Nat) (nn : Nat) (cn : Nat) (ps : Nat) (sz : Nat) (tk : Nat) (cu : Nat) (ab : Nat) (be : Nat) (bd : Nat) (no : Nat) (fu : Nat) (H0 : h 0 = .inr (6, [.ref (E.1 + 1), .ref (E.1 + 12), .ref (E.1 + 23), .ref (E.1 + 24), .ref (E.1 + 30), .ref (E.1 + 34), .ref (E.1 + 37), .int (nI ab), .int (nI be), .int (nI bd), .int (nI no), .int (nI fu)])) (H1 : h 1 = .inr (5, [.ref (E.1 + 2), .ref (E.1 + 3), .ref (E.1 + 4), .ref (E.1 + 6), .ref (E.1 + 8), .int (nI an), .int (nI td), .int (nI gr)])) (H2 : h 4 = .inr (3, [.ref (E.1 + 5), .int (nI nn)])) (H3 : h 6 = .inr (3, [.ref (E.1 + 7), .int (nI cn)])) (H4 : h 8 = .inr (1, [.ref (E.1 + 9), .ref (E.1 + 10), .ref (E.1 + 11), .int (nI ps)])) (H5 : h 24 = .inr (4, [.ref (E.1 + 25), .ref (E.1 + 26), .ref (E.1 + 27), .ref (E.1 + 28), .ref (E.1 + 29), .int (nI sz), .int (nI tk), .int (nI cu)])) (hn : 38 ≤ n) : jC E mX7_tally (1, 0, 0) [.ref (E.1 + 0), .int (nI 6)] h n (jR (some (.int (nI sz))) h n) := by
  refine J.of (L := [(0, .ref (E.1 + 0)), (1, .int (nI 6))]) rfl (by decide +kernel) (Nat.le_of_ble_eq_true rfl) ?_
  obtain ⟨PP, hPP⟩ : ∃ PP : jPost, PP = (jR (some (.int (nI sz))) h n) := ⟨_, rfl⟩
  rw [← hPP]
  refine J_iload_n dX7_tally_0 rfl ?_
  refine J_tableOutN (tgt := 97) (v := 6) rfl dX7_tally_1 (by decide +kernel) (by decide) ?_
  refine J_aload_n dX7_tally_97 rfl ?_
  refine J_get 3 dX7_tally_98 jk7 (Nat.le_of_ble_eq_true rfl) jfRX7_26 H0 (by omega) rfl ?_
  refine J_get 5 dX7_tally_101 jk5 (Nat.le_of_ble_eq_true rfl) jfRX7_84 H5 (by omega) rfl ?_
  exact J_iret dX7_tally_104 rfl ⟨Nat.le_refl _, Nat.le_refl _⟩ (by rw [hPP]; exact ⟨rfl, rfl, rfl⟩)

set_option maxHeartbeats 1000000 in
set_option maxRecDepth 100000 in
theorem ctX7_count_0 {E : jE} {h : Nat → va_E} {n : Nat} (an : Nat) (td : Nat) (gr : Nat) (nn : Nat) (cn : Nat) (ps : Nat) (sz : Nat) (tk : Nat) (cu : Nat) (ab : Nat) (be : Nat) (bd : Nat) (no : Nat) (fu : Nat) (H0 : h 0 = .inr (6, [.ref (E.1 + 1), .ref (E.1 + 12), .ref (E.1 + 23), .ref (E.1 + 24), .ref (E.1 + 30), .ref (E.1 + 34), .ref (E.1 + 37), .int (nI ab), .int (nI be), .int (nI bd), .int (nI no), .int (nI fu)])) (H1 : h 1 = .inr (5, [.ref (E.1 + 2), .ref (E.1 + 3), .ref (E.1 + 4), .ref (E.1 + 6), .ref (E.1 + 8), .int (nI an), .int (nI td), .int (nI gr)])) (H2 : h 4 = .inr (3, [.ref (E.1 + 5), .int (nI nn)])) (H3 : h 6 = .inr (3, [.ref (E.1 + 7), .int (nI cn)])) (H4 : h 8 = .inr (1, [.ref (E.1 + 9), .ref (E.1 + 10), .ref (E.1 + 11), .int (nI ps)])) (H5 : h 24 = .inr (4, [.ref (E.1 + 25), .ref (E.1 + 26), .ref (E.1 + 27), .ref (E.1 + 28), .ref (E.1 + 29), .int (nI sz), .int (nI tk), .int (nI cu)])) (hn : 38 ≤ n) : jC E mX7_count (2, 0, 0) [.ref (E.1 + 0), .int (nI 0)] h n (jR (some (.int (nI an))) h n) := by
  refine J.of (L := [(0, .ref (E.1 + 0)), (1, .int (nI 0))]) rfl (by decide +kernel) (Nat.le_of_ble_eq_true rfl) ?_
  obtain ⟨PP, hPP⟩ : ∃ PP : jPost, PP = (jR (some (.int (nI an))) h n) := ⟨_, rfl⟩
  rw [← hPP]
  refine J_iload_n dX7_count_0 rfl ?_
  refine J_iconst (v := nI 0) dX7_count_1 (by decide +kernel) ?_
  refine J_bipush (v := nI 6) dX7_count_2 (by decide +kernel) ?_
  refine J_callSr (M' := mX7_isWithin) (d' := (1, 0, 0)) (rest := []) dX7_count_4 jmX7_isWithin jlRX7_70 (ctX7_isWithin 0 0 6   (by first | assumption | omega) (by first | assumption | omega) (by first | assumption | omega)) rfl rfl (Nat.le_of_ble_eq_true rfl) (Nat.le_of_ble_eq_true rfl) ⟨Nat.le_refl _, Nat.le_refl _⟩ ?_
  refine J_if_eqB (tgt := 18) dX7_count_7 (by decide) (fun c1 => (by exfalso; omega)) (fun c1 => ?_)
  refine J_aload_n dX7_count_10 rfl ?_
  refine J_iload_n dX7_count_11 rfl ?_
  refine J_callVr (M' := mX7_tally) (d' := (1, 0, 0)) (rest := []) dX7_count_12 jmX7_tally jlRX7_248 (ctX7_tally_0 an td gr nn cn ps sz tk cu ab be bd no fu H0 H1 H2 H3 H4 H5 (by omega) ) H0 (by omega) jk7.1 rfl rfl (Nat.le_of_ble_eq_true rfl) (Nat.le_of_ble_eq_true rfl) ⟨Nat.le_refl _, Nat.le_refl _⟩ ?_
  refine J_goto (tgt := 24) dX7_count_15 (by decide) ?_
  exact J_iret dX7_count_24 rfl ⟨Nat.le_refl _, Nat.le_refl _⟩ (by rw [hPP]; exact ⟨rfl, rfl, rfl⟩)

set_option maxHeartbeats 1000000 in
set_option maxRecDepth 100000 in
theorem ctX7_count_1 {E : jE} {h : Nat → va_E} {n : Nat} (an : Nat) (td : Nat) (gr : Nat) (nn : Nat) (cn : Nat) (ps : Nat) (sz : Nat) (tk : Nat) (cu : Nat) (ab : Nat) (be : Nat) (bd : Nat) (no : Nat) (fu : Nat) (H0 : h 0 = .inr (6, [.ref (E.1 + 1), .ref (E.1 + 12), .ref (E.1 + 23), .ref (E.1 + 24), .ref (E.1 + 30), .ref (E.1 + 34), .ref (E.1 + 37), .int (nI ab), .int (nI be), .int (nI bd), .int (nI no), .int (nI fu)])) (H1 : h 1 = .inr (5, [.ref (E.1 + 2), .ref (E.1 + 3), .ref (E.1 + 4), .ref (E.1 + 6), .ref (E.1 + 8), .int (nI an), .int (nI td), .int (nI gr)])) (H2 : h 4 = .inr (3, [.ref (E.1 + 5), .int (nI nn)])) (H3 : h 6 = .inr (3, [.ref (E.1 + 7), .int (nI cn)])) (H4 : h 8 = .inr (1, [.ref (E.1 + 9), .ref (E.1 + 10), .ref (E.1 + 11), .int (nI ps)])) (H5 : h 24 = .inr (4, [.ref (E.1 + 25), .ref (E.1 + 26), .ref (E.1 + 27), .ref (E.1 + 28), .ref (E.1 + 29), .int (nI sz), .int (nI tk), .int (nI cu)])) (hn : 38 ≤ n) : jC E mX7_count (2, 0, 0) [.ref (E.1 + 0), .int (nI 1)] h n (jR (some (.int (nI td))) h n) := by
  refine J.of (L := [(0, .ref (E.1 + 0)), (1, .int (nI 1))]) rfl (by decide +kernel) (Nat.le_of_ble_eq_true rfl) ?_
  obtain ⟨PP, hPP⟩ : ∃ PP : jPost, PP = (jR (some (.int (nI td))) h n) := ⟨_, rfl⟩
  rw [← hPP]
  refine J_iload_n dX7_count_0 rfl ?_
  refine J_iconst (v := nI 0) dX7_count_1 (by decide +kernel) ?_
  refine J_bipush (v := nI 6) dX7_count_2 (by decide +kernel) ?_
  refine J_callSr (M' := mX7_isWithin) (d' := (1, 0, 0)) (rest := []) dX7_count_4 jmX7_isWithin jlRX7_70 (ctX7_isWithin 1 0 6   (by first | assumption | omega) (by first | assumption | omega) (by first | assumption | omega)) rfl rfl (Nat.le_of_ble_eq_true rfl) (Nat.le_of_ble_eq_true rfl) ⟨Nat.le_refl _, Nat.le_refl _⟩ ?_
  refine J_if_eqB (tgt := 18) dX7_count_7 (by decide) (fun c1 => (by exfalso; omega)) (fun c1 => ?_)
  refine J_aload_n dX7_count_10 rfl ?_
  refine J_iload_n dX7_count_11 rfl ?_
  refine J_callVr (M' := mX7_tally) (d' := (1, 0, 0)) (rest := []) dX7_count_12 jmX7_tally jlRX7_248 (ctX7_tally_1 an td gr nn cn ps sz tk cu ab be bd no fu H0 H1 H2 H3 H4 H5 (by omega) ) H0 (by omega) jk7.1 rfl rfl (Nat.le_of_ble_eq_true rfl) (Nat.le_of_ble_eq_true rfl) ⟨Nat.le_refl _, Nat.le_refl _⟩ ?_
  refine J_goto (tgt := 24) dX7_count_15 (by decide) ?_
  exact J_iret dX7_count_24 rfl ⟨Nat.le_refl _, Nat.le_refl _⟩ (by rw [hPP]; exact ⟨rfl, rfl, rfl⟩)

set_option maxHeartbeats 1000000 in
set_option maxRecDepth 100000 in
theorem ctX7_count_2 {E : jE} {h : Nat → va_E} {n : Nat} (an : Nat) (td : Nat) (gr : Nat) (nn : Nat) (cn : Nat) (ps : Nat) (sz : Nat) (tk : Nat) (cu : Nat) (ab : Nat) (be : Nat) (bd : Nat) (no : Nat) (fu : Nat) (H0 : h 0 = .inr (6, [.ref (E.1 + 1), .ref (E.1 + 12), .ref (E.1 + 23), .ref (E.1 + 24), .ref (E.1 + 30), .ref (E.1 + 34), .ref (E.1 + 37), .int (nI ab), .int (nI be), .int (nI bd), .int (nI no), .int (nI fu)])) (H1 : h 1 = .inr (5, [.ref (E.1 + 2), .ref (E.1 + 3), .ref (E.1 + 4), .ref (E.1 + 6), .ref (E.1 + 8), .int (nI an), .int (nI td), .int (nI gr)])) (H2 : h 4 = .inr (3, [.ref (E.1 + 5), .int (nI nn)])) (H3 : h 6 = .inr (3, [.ref (E.1 + 7), .int (nI cn)])) (H4 : h 8 = .inr (1, [.ref (E.1 + 9), .ref (E.1 + 10), .ref (E.1 + 11), .int (nI ps)])) (H5 : h 24 = .inr (4, [.ref (E.1 + 25), .ref (E.1 + 26), .ref (E.1 + 27), .ref (E.1 + 28), .ref (E.1 + 29), .int (nI sz), .int (nI tk), .int (nI cu)])) (hn : 38 ≤ n) : jC E mX7_count (2, 0, 0) [.ref (E.1 + 0), .int (nI 2)] h n (jR (some (.int (nI gr))) h n) := by
  refine J.of (L := [(0, .ref (E.1 + 0)), (1, .int (nI 2))]) rfl (by decide +kernel) (Nat.le_of_ble_eq_true rfl) ?_
  obtain ⟨PP, hPP⟩ : ∃ PP : jPost, PP = (jR (some (.int (nI gr))) h n) := ⟨_, rfl⟩
  rw [← hPP]
  refine J_iload_n dX7_count_0 rfl ?_
  refine J_iconst (v := nI 0) dX7_count_1 (by decide +kernel) ?_
  refine J_bipush (v := nI 6) dX7_count_2 (by decide +kernel) ?_
  refine J_callSr (M' := mX7_isWithin) (d' := (1, 0, 0)) (rest := []) dX7_count_4 jmX7_isWithin jlRX7_70 (ctX7_isWithin 2 0 6   (by first | assumption | omega) (by first | assumption | omega) (by first | assumption | omega)) rfl rfl (Nat.le_of_ble_eq_true rfl) (Nat.le_of_ble_eq_true rfl) ⟨Nat.le_refl _, Nat.le_refl _⟩ ?_
  refine J_if_eqB (tgt := 18) dX7_count_7 (by decide) (fun c1 => (by exfalso; omega)) (fun c1 => ?_)
  refine J_aload_n dX7_count_10 rfl ?_
  refine J_iload_n dX7_count_11 rfl ?_
  refine J_callVr (M' := mX7_tally) (d' := (1, 0, 0)) (rest := []) dX7_count_12 jmX7_tally jlRX7_248 (ctX7_tally_2 an td gr nn cn ps sz tk cu ab be bd no fu H0 H1 H2 H3 H4 H5 (by omega) ) H0 (by omega) jk7.1 rfl rfl (Nat.le_of_ble_eq_true rfl) (Nat.le_of_ble_eq_true rfl) ⟨Nat.le_refl _, Nat.le_refl _⟩ ?_
  refine J_goto (tgt := 24) dX7_count_15 (by decide) ?_
  exact J_iret dX7_count_24 rfl ⟨Nat.le_refl _, Nat.le_refl _⟩ (by rw [hPP]; exact ⟨rfl, rfl, rfl⟩)

set_option maxHeartbeats 1000000 in
set_option maxRecDepth 100000 in
theorem ctX7_count_3 {E : jE} {h : Nat → va_E} {n : Nat} (an : Nat) (td : Nat) (gr : Nat) (nn : Nat) (cn : Nat) (ps : Nat) (sz : Nat) (tk : Nat) (cu : Nat) (ab : Nat) (be : Nat) (bd : Nat) (no : Nat) (fu : Nat) (H0 : h 0 = .inr (6, [.ref (E.1 + 1), .ref (E.1 + 12), .ref (E.1 + 23), .ref (E.1 + 24), .ref (E.1 + 30), .ref (E.1 + 34), .ref (E.1 + 37), .int (nI ab), .int (nI be), .int (nI bd), .int (nI no), .int (nI fu)])) (H1 : h 1 = .inr (5, [.ref (E.1 + 2), .ref (E.1 + 3), .ref (E.1 + 4), .ref (E.1 + 6), .ref (E.1 + 8), .int (nI an), .int (nI td), .int (nI gr)])) (H2 : h 4 = .inr (3, [.ref (E.1 + 5), .int (nI nn)])) (H3 : h 6 = .inr (3, [.ref (E.1 + 7), .int (nI cn)])) (H4 : h 8 = .inr (1, [.ref (E.1 + 9), .ref (E.1 + 10), .ref (E.1 + 11), .int (nI ps)])) (H5 : h 24 = .inr (4, [.ref (E.1 + 25), .ref (E.1 + 26), .ref (E.1 + 27), .ref (E.1 + 28), .ref (E.1 + 29), .int (nI sz), .int (nI tk), .int (nI cu)])) (hn : 38 ≤ n) : jC E mX7_count (2, 0, 0) [.ref (E.1 + 0), .int (nI 3)] h n (jR (some (.int (nI nn))) h n) := by
  refine J.of (L := [(0, .ref (E.1 + 0)), (1, .int (nI 3))]) rfl (by decide +kernel) (Nat.le_of_ble_eq_true rfl) ?_
  obtain ⟨PP, hPP⟩ : ∃ PP : jPost, PP = (jR (some (.int (nI nn))) h n) := ⟨_, rfl⟩
  rw [← hPP]
  refine J_iload_n dX7_count_0 rfl ?_
  refine J_iconst (v := nI 0) dX7_count_1 (by decide +kernel) ?_
  refine J_bipush (v := nI 6) dX7_count_2 (by decide +kernel) ?_
  refine J_callSr (M' := mX7_isWithin) (d' := (1, 0, 0)) (rest := []) dX7_count_4 jmX7_isWithin jlRX7_70 (ctX7_isWithin 3 0 6   (by first | assumption | omega) (by first | assumption | omega) (by first | assumption | omega)) rfl rfl (Nat.le_of_ble_eq_true rfl) (Nat.le_of_ble_eq_true rfl) ⟨Nat.le_refl _, Nat.le_refl _⟩ ?_
  refine J_if_eqB (tgt := 18) dX7_count_7 (by decide) (fun c1 => (by exfalso; omega)) (fun c1 => ?_)
  refine J_aload_n dX7_count_10 rfl ?_
  refine J_iload_n dX7_count_11 rfl ?_
  refine J_callVr (M' := mX7_tally) (d' := (1, 0, 0)) (rest := []) dX7_count_12 jmX7_tally jlRX7_248 (ctX7_tally_3 an td gr nn cn ps sz tk cu ab be bd no fu H0 H1 H2 H3 H4 H5 (by omega) ) H0 (by omega) jk7.1 rfl rfl (Nat.le_of_ble_eq_true rfl) (Nat.le_of_ble_eq_true rfl) ⟨Nat.le_refl _, Nat.le_refl _⟩ ?_
  refine J_goto (tgt := 24) dX7_count_15 (by decide) ?_
  exact J_iret dX7_count_24 rfl ⟨Nat.le_refl _, Nat.le_refl _⟩ (by rw [hPP]; exact ⟨rfl, rfl, rfl⟩)

set_option maxHeartbeats 1000000 in
set_option maxRecDepth 100000 in
theorem ctX7_count_4 {E : jE} {h : Nat → va_E} {n : Nat} (an : Nat) (td : Nat) (gr : Nat) (nn : Nat) (cn : Nat) (ps : Nat) (sz : Nat) (tk : Nat) (cu : Nat) (ab : Nat) (be : Nat) (bd : Nat) (no : Nat) (fu : Nat) (H0 : h 0 = .inr (6, [.ref (E.1 + 1), .ref (E.1 + 12), .ref (E.1 + 23), .ref (E.1 + 24), .ref (E.1 + 30), .ref (E.1 + 34), .ref (E.1 + 37), .int (nI ab), .int (nI be), .int (nI bd), .int (nI no), .int (nI fu)])) (H1 : h 1 = .inr (5, [.ref (E.1 + 2), .ref (E.1 + 3), .ref (E.1 + 4), .ref (E.1 + 6), .ref (E.1 + 8), .int (nI an), .int (nI td), .int (nI gr)])) (H2 : h 4 = .inr (3, [.ref (E.1 + 5), .int (nI nn)])) (H3 : h 6 = .inr (3, [.ref (E.1 + 7), .int (nI cn)])) (H4 : h 8 = .inr (1, [.ref (E.1 + 9), .ref (E.1 + 10), .ref (E.1 + 11), .int (nI ps)])) (H5 : h 24 = .inr (4, [.ref (E.1 + 25), .ref (E.1 + 26), .ref (E.1 + 27), .ref (E.1 + 28), .ref (E.1 + 29), .int (nI sz), .int (nI tk), .int (nI cu)])) (hn : 38 ≤ n) : jC E mX7_count (2, 0, 0) [.ref (E.1 + 0), .int (nI 4)] h n (jR (some (.int (nI cn))) h n) := by
  refine J.of (L := [(0, .ref (E.1 + 0)), (1, .int (nI 4))]) rfl (by decide +kernel) (Nat.le_of_ble_eq_true rfl) ?_
  obtain ⟨PP, hPP⟩ : ∃ PP : jPost, PP = (jR (some (.int (nI cn))) h n) := ⟨_, rfl⟩
  rw [← hPP]
  refine J_iload_n dX7_count_0 rfl ?_
  refine J_iconst (v := nI 0) dX7_count_1 (by decide +kernel) ?_
  refine J_bipush (v := nI 6) dX7_count_2 (by decide +kernel) ?_
  refine J_callSr (M' := mX7_isWithin) (d' := (1, 0, 0)) (rest := []) dX7_count_4 jmX7_isWithin jlRX7_70 (ctX7_isWithin 4 0 6   (by first | assumption | omega) (by first | assumption | omega) (by first | assumption | omega)) rfl rfl (Nat.le_of_ble_eq_true rfl) (Nat.le_of_ble_eq_true rfl) ⟨Nat.le_refl _, Nat.le_refl _⟩ ?_
  refine J_if_eqB (tgt := 18) dX7_count_7 (by decide) (fun c1 => (by exfalso; omega)) (fun c1 => ?_)
  refine J_aload_n dX7_count_10 rfl ?_
  refine J_iload_n dX7_count_11 rfl ?_
  refine J_callVr (M' := mX7_tally) (d' := (1, 0, 0)) (rest := []) dX7_count_12 jmX7_tally jlRX7_248 (ctX7_tally_4 an td gr nn cn ps sz tk cu ab be bd no fu H0 H1 H2 H3 H4 H5 (by omega) ) H0 (by omega) jk7.1 rfl rfl (Nat.le_of_ble_eq_true rfl) (Nat.le_of_ble_eq_true rfl) ⟨Nat.le_refl _, Nat.le_refl _⟩ ?_
  refine J_goto (tgt := 24) dX7_count_15 (by decide) ?_
  exact J_iret dX7_count_24 rfl ⟨Nat.le_refl _, Nat.le_refl _⟩ (by rw [hPP]; exact ⟨rfl, rfl, rfl⟩)

set_option maxHeartbeats 1000000 in
set_option maxRecDepth 100000 in
theorem ctX7_count_5 {E : jE} {h : Nat → va_E} {n : Nat} (an : Nat) (td : Nat) (gr : Nat) (nn : Nat) (cn : Nat) (ps : Nat) (sz : Nat) (tk : Nat) (cu : Nat) (ab : Nat) (be : Nat) (bd : Nat) (no : Nat) (fu : Nat) (H0 : h 0 = .inr (6, [.ref (E.1 + 1), .ref (E.1 + 12), .ref (E.1 + 23), .ref (E.1 + 24), .ref (E.1 + 30), .ref (E.1 + 34), .ref (E.1 + 37), .int (nI ab), .int (nI be), .int (nI bd), .int (nI no), .int (nI fu)])) (H1 : h 1 = .inr (5, [.ref (E.1 + 2), .ref (E.1 + 3), .ref (E.1 + 4), .ref (E.1 + 6), .ref (E.1 + 8), .int (nI an), .int (nI td), .int (nI gr)])) (H2 : h 4 = .inr (3, [.ref (E.1 + 5), .int (nI nn)])) (H3 : h 6 = .inr (3, [.ref (E.1 + 7), .int (nI cn)])) (H4 : h 8 = .inr (1, [.ref (E.1 + 9), .ref (E.1 + 10), .ref (E.1 + 11), .int (nI ps)])) (H5 : h 24 = .inr (4, [.ref (E.1 + 25), .ref (E.1 + 26), .ref (E.1 + 27), .ref (E.1 + 28), .ref (E.1 + 29), .int (nI sz), .int (nI tk), .int (nI cu)])) (hn : 38 ≤ n) : jC E mX7_count (2, 0, 0) [.ref (E.1 + 0), .int (nI 5)] h n (jR (some (.int (nI ps))) h n) := by
  refine J.of (L := [(0, .ref (E.1 + 0)), (1, .int (nI 5))]) rfl (by decide +kernel) (Nat.le_of_ble_eq_true rfl) ?_
  obtain ⟨PP, hPP⟩ : ∃ PP : jPost, PP = (jR (some (.int (nI ps))) h n) := ⟨_, rfl⟩
  rw [← hPP]
  refine J_iload_n dX7_count_0 rfl ?_
  refine J_iconst (v := nI 0) dX7_count_1 (by decide +kernel) ?_
  refine J_bipush (v := nI 6) dX7_count_2 (by decide +kernel) ?_
  refine J_callSr (M' := mX7_isWithin) (d' := (1, 0, 0)) (rest := []) dX7_count_4 jmX7_isWithin jlRX7_70 (ctX7_isWithin 5 0 6   (by first | assumption | omega) (by first | assumption | omega) (by first | assumption | omega)) rfl rfl (Nat.le_of_ble_eq_true rfl) (Nat.le_of_ble_eq_true rfl) ⟨Nat.le_refl _, Nat.le_refl _⟩ ?_
  refine J_if_eqB (tgt := 18) dX7_count_7 (by decide) (fun c1 => (by exfalso; omega)) (fun c1 => ?_)
  refine J_aload_n dX7_count_10 rfl ?_
  refine J_iload_n dX7_count_11 rfl ?_
  refine J_callVr (M' := mX7_tally) (d' := (1, 0, 0)) (rest := []) dX7_count_12 jmX7_tally jlRX7_248 (ctX7_tally_5 an td gr nn cn ps sz tk cu ab be bd no fu H0 H1 H2 H3 H4 H5 (by omega) ) H0 (by omega) jk7.1 rfl rfl (Nat.le_of_ble_eq_true rfl) (Nat.le_of_ble_eq_true rfl) ⟨Nat.le_refl _, Nat.le_refl _⟩ ?_
  refine J_goto (tgt := 24) dX7_count_15 (by decide) ?_
  exact J_iret dX7_count_24 rfl ⟨Nat.le_refl _, Nat.le_refl _⟩ (by rw [hPP]; exact ⟨rfl, rfl, rfl⟩)

set_option maxHeartbeats 1000000 in
set_option maxRecDepth 100000 in
theorem ctX7_count_6 {E : jE} {h : Nat → va_E} {n : Nat} (an : Nat) (td : Nat) (gr : Nat) (nn : Nat) (cn : Nat) (ps : Nat) (sz : Nat) (tk : Nat) (cu : Nat) (ab : Nat) (be : Nat) (bd : Nat) (no : Nat) (fu : Nat) (H0 : h 0 = .inr (6, [.ref (E.1 + 1), .ref (E.1 + 12), .ref (E.1 + 23), .ref (E.1 + 24), .ref (E.1 + 30), .ref (E.1 + 34), .ref (E.1 + 37), .int (nI ab), .int (nI be), .int (nI bd), .int (nI no), .int (nI fu)])) (H1 : h 1 = .inr (5, [.ref (E.1 + 2), .ref (E.1 + 3), .ref (E.1 + 4), .ref (E.1 + 6), .ref (E.1 + 8), .int (nI an), .int (nI td), .int (nI gr)])) (H2 : h 4 = .inr (3, [.ref (E.1 + 5), .int (nI nn)])) (H3 : h 6 = .inr (3, [.ref (E.1 + 7), .int (nI cn)])) (H4 : h 8 = .inr (1, [.ref (E.1 + 9), .ref (E.1 + 10), .ref (E.1 + 11), .int (nI ps)])) (H5 : h 24 = .inr (4, [.ref (E.1 + 25), .ref (E.1 + 26), .ref (E.1 + 27), .ref (E.1 + 28), .ref (E.1 + 29), .int (nI sz), .int (nI tk), .int (nI cu)])) (hn : 38 ≤ n) : jC E mX7_count (2, 0, 0) [.ref (E.1 + 0), .int (nI 6)] h n (jR (some (.int (nI sz))) h n) := by
  refine J.of (L := [(0, .ref (E.1 + 0)), (1, .int (nI 6))]) rfl (by decide +kernel) (Nat.le_of_ble_eq_true rfl) ?_
  obtain ⟨PP, hPP⟩ : ∃ PP : jPost, PP = (jR (some (.int (nI sz))) h n) := ⟨_, rfl⟩
  rw [← hPP]
  refine J_iload_n dX7_count_0 rfl ?_
  refine J_iconst (v := nI 0) dX7_count_1 (by decide +kernel) ?_
  refine J_bipush (v := nI 6) dX7_count_2 (by decide +kernel) ?_
  refine J_callSr (M' := mX7_isWithin) (d' := (1, 0, 0)) (rest := []) dX7_count_4 jmX7_isWithin jlRX7_70 (ctX7_isWithin 6 0 6   (by first | assumption | omega) (by first | assumption | omega) (by first | assumption | omega)) rfl rfl (Nat.le_of_ble_eq_true rfl) (Nat.le_of_ble_eq_true rfl) ⟨Nat.le_refl _, Nat.le_refl _⟩ ?_
  refine J_if_eqB (tgt := 18) dX7_count_7 (by decide) (fun c1 => (by exfalso; omega)) (fun c1 => ?_)
  refine J_aload_n dX7_count_10 rfl ?_
  refine J_iload_n dX7_count_11 rfl ?_
  refine J_callVr (M' := mX7_tally) (d' := (1, 0, 0)) (rest := []) dX7_count_12 jmX7_tally jlRX7_248 (ctX7_tally_6 an td gr nn cn ps sz tk cu ab be bd no fu H0 H1 H2 H3 H4 H5 (by omega) ) H0 (by omega) jk7.1 rfl rfl (Nat.le_of_ble_eq_true rfl) (Nat.le_of_ble_eq_true rfl) ⟨Nat.le_refl _, Nat.le_refl _⟩ ?_
  refine J_goto (tgt := 24) dX7_count_15 (by decide) ?_
  exact J_iret dX7_count_24 rfl ⟨Nat.le_refl _, Nat.le_refl _⟩ (by rw [hPP]; exact ⟨rfl, rfl, rfl⟩)

set_option maxHeartbeats 1000000 in
set_option maxRecDepth 100000 in
theorem ctX7_count_bad {E : jE} {h : Nat → va_E} {n : Nat} (x : Nat) (ab : Nat) (be : Nat) (bd : Nat) (no : Nat) (fu : Nat) (H0 : h 0 = .inr (6, [.ref (E.1 + 1), .ref (E.1 + 12), .ref (E.1 + 23), .ref (E.1 + 24), .ref (E.1 + 30), .ref (E.1 + 34), .ref (E.1 + 37), .int (nI ab), .int (nI be), .int (nI bd), .int (nI no), .int (nI fu)])) (hn : 38 ≤ n) (h32x : x < 2 ^ 32) (hbad : ¬ x ≤ 6) : jC E mX7_count (2, 0, 0) [.ref (E.1 + 0), .int (nI x)] h n (jR (some (.int (-2))) (hset h 0 (.inr (6, [.ref (E.1 + 1), .ref (E.1 + 12), .ref (E.1 + 23), .ref (E.1 + 24), .ref (E.1 + 30), .ref (E.1 + 34), .ref (E.1 + 37), .int (nI ab), .int (nI be), .int (nI (bd + 1)), .int (nI no), .int (nI fu)]))) n) := by
  refine J.of (L := [(0, .ref (E.1 + 0)), (1, .int (nI x))]) rfl (by decide +kernel) (Nat.le_of_ble_eq_true rfl) ?_
  obtain ⟨PP, hPP⟩ : ∃ PP : jPost, PP = (jR (some (.int (-2))) (hset h 0 (.inr (6, [.ref (E.1 + 1), .ref (E.1 + 12), .ref (E.1 + 23), .ref (E.1 + 24), .ref (E.1 + 30), .ref (E.1 + 34), .ref (E.1 + 37), .int (nI ab), .int (nI be), .int (nI (bd + 1)), .int (nI no), .int (nI fu)]))) n) := ⟨_, rfl⟩
  rw [← hPP]
  refine J_iload_n dX7_count_0 rfl ?_
  refine J_iconst (v := nI 0) dX7_count_1 (by decide +kernel) ?_
  refine J_bipush (v := nI 6) dX7_count_2 (by decide +kernel) ?_
  refine J_callSr (M' := mX7_isWithin) (d' := (1, 0, 0)) (rest := []) dX7_count_4 jmX7_isWithin jlRX7_70 (ctX7_isWithin x 0 6   (by first | assumption | omega) (by first | assumption | omega) (by first | assumption | omega)) rfl rfl (Nat.le_of_ble_eq_true rfl) (Nat.le_of_ble_eq_true rfl) ⟨Nat.le_refl _, Nat.le_refl _⟩ ?_
  refine J_if_eqB (tgt := 18) dX7_count_7 (by decide) (fun c1 => ?_) (fun c1 => (by exfalso; omega))
  refine J_aload_n dX7_count_18 rfl ?_
  refine J_bipush (v := (-2)) dX7_count_19 (by decide +kernel) ?_
  refine J_callVr (M' := mX7_refuse) (d' := (1, 0, 0)) (rest := []) dX7_count_21 jmX7_refuse jlRX7_59 (ctX7_refuse2 ab be bd no fu H0 (by omega) ) H0 (by omega) jk7.1 rfl rfl (Nat.le_of_ble_eq_true rfl) (Nat.le_of_ble_eq_true rfl) ⟨Nat.le_refl _, Nat.le_refl _⟩ ?_
  exact J_iret dX7_count_24 rfl ⟨Nat.le_refl _, Nat.le_refl _⟩ (by rw [hPP]; exact ⟨rfl, rfl, rfl⟩)

set_option maxHeartbeats 1000000 in
set_option maxRecDepth 100000 in
theorem ctX7_mixed {E : jE} {h : Nat → va_E} {n : Nat} (x : Int64) (v : Nat) (hv : v < 2 ^ 31) : jC E mX7_mixed (1, 0, 0) [.long x, .int (nI v)] h n (jR (some (.long (mixL x v))) h n) := by
  refine J.of (L := [(0, .long x), (2, .int (nI v))]) rfl (by decide +kernel) (Nat.le_of_ble_eq_true rfl) ?_
  obtain ⟨PP, hPP⟩ : ∃ PP : jPost, PP = (jR (some (.long (mixL x v))) h n) := ⟨_, rfl⟩
  rw [← hPP]
  refine J_ldc2 dX7_mixed_0 jqRX7_268 ?_
  refine J.stk (st' := .long (lN 31) :: []) rfl ?_
  refine J_lload_n dX7_mixed_3 rfl ?_
  refine J_lmul dX7_mixed_4 ?_
  refine J_iload_n dX7_mixed_5 rfl ?_
  refine J_i2lN dX7_mixed_6 (by omega) ?_
  refine J_ladd dX7_mixed_7 ?_
  exact J_lret dX7_mixed_8 rfl ⟨Nat.le_refl _, Nat.le_refl _⟩ (by rw [hPP]; exact ⟨(congrArg some (jv_L (by rfl))), rfl, rfl⟩)

set_option maxHeartbeats 1000000 in
set_option maxRecDepth 100000 in
theorem ctX7_mixedRows {E : jE} {h : Nat → va_E} {n : Nat} (x : Int64) (r : Nat) (nn : Nat) (C : Nat → Nat) (H0 : h r = .inr (3, [.ref (E.1 + (r + 1)), .int (nI nn)])) (H1 : h (r + 1) = cI E 24 (nF C)) (hn : r + 2 ≤ n) (hnn : nn ≤ 6) (hC : ∀ zz, C zz ≤ 99) : jC E mX7_mixedRows (2, 0, 0) [.long x, .ref (E.1 + r)] h n (jR (some (.long (rowsL C x (4 * nn)))) h n) := by
  refine J.of (L := [(0, .long x), (2, .ref (E.1 + r))]) rfl (by decide +kernel) (Nat.le_of_ble_eq_true rfl) ?_
  obtain ⟨PP, hPP⟩ : ∃ PP : jPost, PP = (jR (some (.long (rowsL C x (4 * nn)))) h n) := ⟨_, rfl⟩
  rw [← hPP]
  refine J_lload_n dX7_mixedRows_0 rfl ?_
  refine J_lstore_n dX7_mixedRows_1 (Nat.le_of_ble_eq_true rfl) (L' := [(3, .long x), (0, .long x), (2, .ref (E.1 + r))]) rfl ?_
  refine J_iconst (v := nI 0) dX7_mixedRows_2 (by decide +kernel) ?_
  refine J_istore dX7_mixedRows_3 (Nat.le_of_ble_eq_true rfl) (L' := [(5, .int (nI 0)), (3, .long x), (0, .long x), (2, .ref (E.1 + r))]) rfl ?_
  have CUT5 : ∀ (f5 : Nat) (i : Nat) (hm5 : 4 * nn - i < f5) (hi : i ≤ 4 * nn), J E mX7_mixedRows (2, 0, 0) jS0 PP h n (0, 0) 5 [(5, .int (nI i)), (3, .long (rowsL C x i)), (0, .long x), (2, .ref (E.1 + r))] [] := by
    intro f5
    induction f5 with
    | zero => intro i hm5; exact absurd hm5 (Nat.not_lt_zero _)
    | succ f5 ih5 =>
      intro i hm5 hi
      refine J_iload dX7_mixedRows_5 rfl ?_
      refine J_iconst (v := nI 4) dX7_mixedRows_7 (by decide +kernel) ?_
      refine J_aload_n dX7_mixedRows_8 rfl ?_
      refine J_get 1 dX7_mixedRows_9 jk4 (Nat.le_of_ble_eq_true rfl) jfRX7_193 H0 (by omega) rfl ?_
      refine J_imulN dX7_mixedRows_12 ?_
      refine J_icmp_geN (tgt := 34) dX7_mixedRows_13 (by decide) (by omega) (by omega) (fun c1 => ?_) (fun c1 => ?_)
      · skip
        refine J_lload_n dX7_mixedRows_34 rfl ?_
        exact J_lret dX7_mixedRows_35 rfl ⟨Nat.le_refl _, Nat.le_refl _⟩ (by rw [hPP]; exact ⟨(congrArg some (jv_L (by rw [show i = 4 * nn by omega]))), rfl, rfl⟩)
      · skip
        refine J_lload_n dX7_mixedRows_16 rfl ?_
        refine J_aload_n dX7_mixedRows_17 rfl ?_
        refine J_get 0 dX7_mixedRows_18 jk4 (Nat.le_of_ble_eq_true rfl) jfRX7_270 H0 (by omega) rfl ?_
        refine J_iload dX7_mixedRows_21 rfl ?_
        refine J_ialdN (i := i) dX7_mixedRows_23 H1 (by omega) (by omega) (by omega) ?_
        have bd2 := hC i
        refine J_callSr (M' := mX7_mixed) (d' := (1, 0, 0)) (rest := []) dX7_mixedRows_24 jmX7_mixed jlRX7_253 (ctX7_mixed (rowsL C x i) (C i)   (by first | assumption | omega)) rfl rfl (Nat.le_of_ble_eq_true rfl) (Nat.le_of_ble_eq_true rfl) ⟨Nat.le_refl _, Nat.le_refl _⟩ ?_
        refine J_lstore_n dX7_mixedRows_27 (Nat.le_of_ble_eq_true rfl) (L' := [(3, .long (mixL (rowsL C x i) (C i))), (5, .int (nI i)), (0, .long x), (2, .ref (E.1 + r))]) rfl ?_
        refine J_iincN (q := 1) (a := i) (m := 1) dX7_mixedRows_28 rfl (by decide +kernel) (Nat.le_of_ble_eq_true rfl) (L' := [(5, .int (nI (i + 1))), (3, .long (mixL (rowsL C x i) (C i))), (0, .long x), (2, .ref (E.1 + r))]) rfl ?_
        refine J_goto (tgt := 5) dX7_mixedRows_31 (by decide) ?_
        refine J.eqs (h' := h) (L' := [(5, .int (nI (i + 1))), (3, .long (rowsL C x (i + 1))), (0, .long x), (2, .ref (E.1 + r))]) (st' := []) rfl (jL_c rfl (jL_c (jv_L (by rfl)) (jL_c rfl (jL_c rfl rfl)))) rfl ?_
        exact ih5 (i + 1) (by omega) (by first | assumption | omega)
  refine J.eqs (h' := h) (L' := [(5, .int (nI 0)), (3, .long (rowsL C x 0)), (0, .long x), (2, .ref (E.1 + r))]) (st' := []) rfl (jL_c rfl (jL_c (jv_L (by rfl)) (jL_c rfl (jL_c rfl rfl)))) rfl ?_
  exact CUT5 (4 * nn - 0 + 1) 0 (Nat.lt_succ_self _) (by first | assumption | omega)

set_option maxHeartbeats 1000000 in
set_option maxRecDepth 100000 in
theorem ctX7_digest {E : jE} {h : Nat → va_E} {n : Nat} (an : Nat) (td : Nat) (gr : Nat) (K : Nat → Nat) (M : Nat → Nat) (nn : Nat) (NC : Nat → Nat) (cn : Nat) (CC : Nat → Nat) (ps : Nat) (sz : Nat) (tk : Nat) (cu : Nat) (ab : Nat) (be : Nat) (bd : Nat) (no : Nat) (fu : Nat) (H0 : h 0 = .inr (6, [.ref (E.1 + 1), .ref (E.1 + 12), .ref (E.1 + 23), .ref (E.1 + 24), .ref (E.1 + 30), .ref (E.1 + 34), .ref (E.1 + 37), .int (nI ab), .int (nI be), .int (nI bd), .int (nI no), .int (nI fu)])) (H1 : h 1 = .inr (5, [.ref (E.1 + 2), .ref (E.1 + 3), .ref (E.1 + 4), .ref (E.1 + 6), .ref (E.1 + 8), .int (nI an), .int (nI td), .int (nI gr)])) (H2 : h 2 = cI E 4 (nF K)) (H3 : h 3 = cI E 16 (nF M)) (H4 : h 4 = .inr (3, [.ref (E.1 + 5), .int (nI nn)])) (H5 : h 5 = cI E 24 (nF NC)) (H6 : h 6 = .inr (3, [.ref (E.1 + 7), .int (nI cn)])) (H7 : h 7 = cI E 24 (nF CC)) (H8 : h 8 = .inr (1, [.ref (E.1 + 9), .ref (E.1 + 10), .ref (E.1 + 11), .int (nI ps)])) (H9 : h 24 = .inr (4, [.ref (E.1 + 25), .ref (E.1 + 26), .ref (E.1 + 27), .ref (E.1 + 28), .ref (E.1 + 29), .int (nI sz), .int (nI tk), .int (nI cu)])) (hn : 38 ≤ n) (hK : ∀ zz, K zz ≤ 5) (hM : ∀ zz, M zz ≤ 20) (hg : gr ≤ 9) (hn4 : an ≤ 4) (htd : td ≤ 999) (hNC : ∀ zz, NC zz ≤ 99) (hnn : nn ≤ 6) (hcn : cn ≤ 6) (hCC : ∀ zz, CC zz ≤ 99) (hps : ps ≤ 8) (hsz : sz ≤ 150) (hab : ab < 2 ^ 31) (hbe : be < 2 ^ 31) : jC E mX7_digest (3, 0, 0) [.ref (E.1 + 0)] h n (jR (some (.long (digN an td gr nn cn ps sz K M NC CC ab be))) h n) := by
  refine J.of (L := [(0, .ref (E.1 + 0))]) rfl (by decide +kernel) (Nat.le_of_ble_eq_true rfl) ?_
  obtain ⟨PP, hPP⟩ : ∃ PP : jPost, PP = (jR (some (.long (digN an td gr nn cn ps sz K M NC CC ab be))) h n) := ⟨_, rfl⟩
  rw [← hPP]
  refine J_ldc2 dX7_digest_0 jqRX7_251 ?_
  refine J.stk (st' := .long (lN 1321) :: []) rfl ?_
  refine J_lstore_n dX7_digest_3 (Nat.le_of_ble_eq_true rfl) (L' := [(1, .long (lN 1321)), (0, .ref (E.1 + 0))]) rfl ?_
  refine J_iconst (v := nI 0) dX7_digest_4 (by decide +kernel) ?_
  refine J_istore_n dX7_digest_5 (Nat.le_of_ble_eq_true rfl) (L' := [(3, .int (nI 0)), (1, .long (lN 1321)), (0, .ref (E.1 + 0))]) rfl ?_
  refine J_iload_n dX7_digest_6 rfl ?_
  refine J_bipush (v := nI 7) dX7_digest_7 (by decide +kernel) ?_
  refine J_icmp_geN (tgt := 28) dX7_digest_9 (by decide) (by omega) (by omega) (fun z => absurd z (by decide)) (fun _ => ?_)
  refine J_lload_n dX7_digest_12 rfl ?_
  refine J_aload_n dX7_digest_13 rfl ?_
  refine J_iload_n dX7_digest_14 rfl ?_
  refine J_callVr (M' := mX7_tally) (d' := (1, 0, 0)) (rest := [.long (lN 1321)]) dX7_digest_15 jmX7_tally jlRX7_248 (ctX7_tally_0 an td gr nn cn ps sz tk cu ab be bd no fu H0 H1 H4 H6 H8 H9 (by omega) ) H0 (by omega) jk7.1 rfl rfl (Nat.le_of_ble_eq_true rfl) (Nat.le_of_ble_eq_true rfl) ⟨Nat.le_refl _, Nat.le_refl _⟩ ?_
  refine J_callSr (M' := mX7_mixed) (d' := (1, 0, 0)) (rest := []) dX7_digest_18 jmX7_mixed jlRX7_253 (ctX7_mixed (lN 1321) an   (by first | assumption | omega)) rfl rfl (Nat.le_of_ble_eq_true rfl) (Nat.le_of_ble_eq_true rfl) ⟨Nat.le_refl _, Nat.le_refl _⟩ ?_
  refine J_lstore_n dX7_digest_21 (Nat.le_of_ble_eq_true rfl) (L' := [(1, .long (mixL (lN 1321) an)), (3, .int (nI 0)), (0, .ref (E.1 + 0))]) rfl ?_
  refine J_iincN (q := 1) (a := 0) (m := 1) dX7_digest_22 rfl (by decide +kernel) (Nat.le_of_ble_eq_true rfl) (L' := [(3, .int (nI 1)), (1, .long (mixL (lN 1321) an)), (0, .ref (E.1 + 0))]) rfl ?_
  refine J_goto (tgt := 6) dX7_digest_25 (by decide) ?_
  refine J_iload_n dX7_digest_6 rfl ?_
  refine J_bipush (v := nI 7) dX7_digest_7 (by decide +kernel) ?_
  refine J_icmp_geN (tgt := 28) dX7_digest_9 (by decide) (by omega) (by omega) (fun z => absurd z (by decide)) (fun _ => ?_)
  refine J_lload_n dX7_digest_12 rfl ?_
  refine J_aload_n dX7_digest_13 rfl ?_
  refine J_iload_n dX7_digest_14 rfl ?_
  refine J_callVr (M' := mX7_tally) (d' := (1, 0, 0)) (rest := [.long (mixL (lN 1321) an)]) dX7_digest_15 jmX7_tally jlRX7_248 (ctX7_tally_1 an td gr nn cn ps sz tk cu ab be bd no fu H0 H1 H4 H6 H8 H9 (by omega) ) H0 (by omega) jk7.1 rfl rfl (Nat.le_of_ble_eq_true rfl) (Nat.le_of_ble_eq_true rfl) ⟨Nat.le_refl _, Nat.le_refl _⟩ ?_
  refine J_callSr (M' := mX7_mixed) (d' := (1, 0, 0)) (rest := []) dX7_digest_18 jmX7_mixed jlRX7_253 (ctX7_mixed (mixL (lN 1321) an) td   (by first | assumption | omega)) rfl rfl (Nat.le_of_ble_eq_true rfl) (Nat.le_of_ble_eq_true rfl) ⟨Nat.le_refl _, Nat.le_refl _⟩ ?_
  refine J_lstore_n dX7_digest_21 (Nat.le_of_ble_eq_true rfl) (L' := [(1, .long (mixL (mixL (lN 1321) an) td)), (3, .int (nI 1)), (0, .ref (E.1 + 0))]) rfl ?_
  refine J_iincN (q := 1) (a := 1) (m := 1) dX7_digest_22 rfl (by decide +kernel) (Nat.le_of_ble_eq_true rfl) (L' := [(3, .int (nI 2)), (1, .long (mixL (mixL (lN 1321) an) td)), (0, .ref (E.1 + 0))]) rfl ?_
  refine J_goto (tgt := 6) dX7_digest_25 (by decide) ?_
  refine J_iload_n dX7_digest_6 rfl ?_
  refine J_bipush (v := nI 7) dX7_digest_7 (by decide +kernel) ?_
  refine J_icmp_geN (tgt := 28) dX7_digest_9 (by decide) (by omega) (by omega) (fun z => absurd z (by decide)) (fun _ => ?_)
  refine J_lload_n dX7_digest_12 rfl ?_
  refine J_aload_n dX7_digest_13 rfl ?_
  refine J_iload_n dX7_digest_14 rfl ?_
  refine J_callVr (M' := mX7_tally) (d' := (1, 0, 0)) (rest := [.long (mixL (mixL (lN 1321) an) td)]) dX7_digest_15 jmX7_tally jlRX7_248 (ctX7_tally_2 an td gr nn cn ps sz tk cu ab be bd no fu H0 H1 H4 H6 H8 H9 (by omega) ) H0 (by omega) jk7.1 rfl rfl (Nat.le_of_ble_eq_true rfl) (Nat.le_of_ble_eq_true rfl) ⟨Nat.le_refl _, Nat.le_refl _⟩ ?_
  refine J_callSr (M' := mX7_mixed) (d' := (1, 0, 0)) (rest := []) dX7_digest_18 jmX7_mixed jlRX7_253 (ctX7_mixed (mixL (mixL (lN 1321) an) td) gr   (by first | assumption | omega)) rfl rfl (Nat.le_of_ble_eq_true rfl) (Nat.le_of_ble_eq_true rfl) ⟨Nat.le_refl _, Nat.le_refl _⟩ ?_
  refine J_lstore_n dX7_digest_21 (Nat.le_of_ble_eq_true rfl) (L' := [(1, .long (mixL (mixL (mixL (lN 1321) an) td) gr)), (3, .int (nI 2)), (0, .ref (E.1 + 0))]) rfl ?_
  refine J_iincN (q := 1) (a := 2) (m := 1) dX7_digest_22 rfl (by decide +kernel) (Nat.le_of_ble_eq_true rfl) (L' := [(3, .int (nI 3)), (1, .long (mixL (mixL (mixL (lN 1321) an) td) gr)), (0, .ref (E.1 + 0))]) rfl ?_
  refine J_goto (tgt := 6) dX7_digest_25 (by decide) ?_
  refine J_iload_n dX7_digest_6 rfl ?_
  refine J_bipush (v := nI 7) dX7_digest_7 (by decide +kernel) ?_
  refine J_icmp_geN (tgt := 28) dX7_digest_9 (by decide) (by omega) (by omega) (fun z => absurd z (by decide)) (fun _ => ?_)
  refine J_lload_n dX7_digest_12 rfl ?_
  refine J_aload_n dX7_digest_13 rfl ?_
  refine J_iload_n dX7_digest_14 rfl ?_
  refine J_callVr (M' := mX7_tally) (d' := (1, 0, 0)) (rest := [.long (mixL (mixL (mixL (lN 1321) an) td) gr)]) dX7_digest_15 jmX7_tally jlRX7_248 (ctX7_tally_3 an td gr nn cn ps sz tk cu ab be bd no fu H0 H1 H4 H6 H8 H9 (by omega) ) H0 (by omega) jk7.1 rfl rfl (Nat.le_of_ble_eq_true rfl) (Nat.le_of_ble_eq_true rfl) ⟨Nat.le_refl _, Nat.le_refl _⟩ ?_
  refine J_callSr (M' := mX7_mixed) (d' := (1, 0, 0)) (rest := []) dX7_digest_18 jmX7_mixed jlRX7_253 (ctX7_mixed (mixL (mixL (mixL (lN 1321) an) td) gr) nn   (by first | assumption | omega)) rfl rfl (Nat.le_of_ble_eq_true rfl) (Nat.le_of_ble_eq_true rfl) ⟨Nat.le_refl _, Nat.le_refl _⟩ ?_
  refine J_lstore_n dX7_digest_21 (Nat.le_of_ble_eq_true rfl) (L' := [(1, .long (mixL (mixL (mixL (mixL (lN 1321) an) td) gr) nn)), (3, .int (nI 3)), (0, .ref (E.1 + 0))]) rfl ?_
  refine J_iincN (q := 1) (a := 3) (m := 1) dX7_digest_22 rfl (by decide +kernel) (Nat.le_of_ble_eq_true rfl) (L' := [(3, .int (nI 4)), (1, .long (mixL (mixL (mixL (mixL (lN 1321) an) td) gr) nn)), (0, .ref (E.1 + 0))]) rfl ?_
  refine J_goto (tgt := 6) dX7_digest_25 (by decide) ?_
  refine J_iload_n dX7_digest_6 rfl ?_
  refine J_bipush (v := nI 7) dX7_digest_7 (by decide +kernel) ?_
  refine J_icmp_geN (tgt := 28) dX7_digest_9 (by decide) (by omega) (by omega) (fun z => absurd z (by decide)) (fun _ => ?_)
  refine J_lload_n dX7_digest_12 rfl ?_
  refine J_aload_n dX7_digest_13 rfl ?_
  refine J_iload_n dX7_digest_14 rfl ?_
  refine J_callVr (M' := mX7_tally) (d' := (1, 0, 0)) (rest := [.long (mixL (mixL (mixL (mixL (lN 1321) an) td) gr) nn)]) dX7_digest_15 jmX7_tally jlRX7_248 (ctX7_tally_4 an td gr nn cn ps sz tk cu ab be bd no fu H0 H1 H4 H6 H8 H9 (by omega) ) H0 (by omega) jk7.1 rfl rfl (Nat.le_of_ble_eq_true rfl) (Nat.le_of_ble_eq_true rfl) ⟨Nat.le_refl _, Nat.le_refl _⟩ ?_
  refine J_callSr (M' := mX7_mixed) (d' := (1, 0, 0)) (rest := []) dX7_digest_18 jmX7_mixed jlRX7_253 (ctX7_mixed (mixL (mixL (mixL (mixL (lN 1321) an) td) gr) nn) cn   (by first | assumption | omega)) rfl rfl (Nat.le_of_ble_eq_true rfl) (Nat.le_of_ble_eq_true rfl) ⟨Nat.le_refl _, Nat.le_refl _⟩ ?_
  refine J_lstore_n dX7_digest_21 (Nat.le_of_ble_eq_true rfl) (L' := [(1, .long (mixL (mixL (mixL (mixL (mixL (lN 1321) an) td) gr) nn) cn)), (3, .int (nI 4)), (0, .ref (E.1 + 0))]) rfl ?_
  refine J_iincN (q := 1) (a := 4) (m := 1) dX7_digest_22 rfl (by decide +kernel) (Nat.le_of_ble_eq_true rfl) (L' := [(3, .int (nI 5)), (1, .long (mixL (mixL (mixL (mixL (mixL (lN 1321) an) td) gr) nn) cn)), (0, .ref (E.1 + 0))]) rfl ?_
  refine J_goto (tgt := 6) dX7_digest_25 (by decide) ?_
  refine J_iload_n dX7_digest_6 rfl ?_
  refine J_bipush (v := nI 7) dX7_digest_7 (by decide +kernel) ?_
  refine J_icmp_geN (tgt := 28) dX7_digest_9 (by decide) (by omega) (by omega) (fun z => absurd z (by decide)) (fun _ => ?_)
  refine J_lload_n dX7_digest_12 rfl ?_
  refine J_aload_n dX7_digest_13 rfl ?_
  refine J_iload_n dX7_digest_14 rfl ?_
  refine J_callVr (M' := mX7_tally) (d' := (1, 0, 0)) (rest := [.long (mixL (mixL (mixL (mixL (mixL (lN 1321) an) td) gr) nn) cn)]) dX7_digest_15 jmX7_tally jlRX7_248 (ctX7_tally_5 an td gr nn cn ps sz tk cu ab be bd no fu H0 H1 H4 H6 H8 H9 (by omega) ) H0 (by omega) jk7.1 rfl rfl (Nat.le_of_ble_eq_true rfl) (Nat.le_of_ble_eq_true rfl) ⟨Nat.le_refl _, Nat.le_refl _⟩ ?_
  refine J_callSr (M' := mX7_mixed) (d' := (1, 0, 0)) (rest := []) dX7_digest_18 jmX7_mixed jlRX7_253 (ctX7_mixed (mixL (mixL (mixL (mixL (mixL (lN 1321) an) td) gr) nn) cn) ps   (by first | assumption | omega)) rfl rfl (Nat.le_of_ble_eq_true rfl) (Nat.le_of_ble_eq_true rfl) ⟨Nat.le_refl _, Nat.le_refl _⟩ ?_
  refine J_lstore_n dX7_digest_21 (Nat.le_of_ble_eq_true rfl) (L' := [(1, .long (mixL (mixL (mixL (mixL (mixL (mixL (lN 1321) an) td) gr) nn) cn) ps)), (3, .int (nI 5)), (0, .ref (E.1 + 0))]) rfl ?_
  refine J_iincN (q := 1) (a := 5) (m := 1) dX7_digest_22 rfl (by decide +kernel) (Nat.le_of_ble_eq_true rfl) (L' := [(3, .int (nI 6)), (1, .long (mixL (mixL (mixL (mixL (mixL (mixL (lN 1321) an) td) gr) nn) cn) ps)), (0, .ref (E.1 + 0))]) rfl ?_
  refine J_goto (tgt := 6) dX7_digest_25 (by decide) ?_
  refine J_iload_n dX7_digest_6 rfl ?_
  refine J_bipush (v := nI 7) dX7_digest_7 (by decide +kernel) ?_
  refine J_icmp_geN (tgt := 28) dX7_digest_9 (by decide) (by omega) (by omega) (fun z => absurd z (by decide)) (fun _ => ?_)
  refine J_lload_n dX7_digest_12 rfl ?_
  refine J_aload_n dX7_digest_13 rfl ?_
  refine J_iload_n dX7_digest_14 rfl ?_
  refine J_callVr (M' := mX7_tally) (d' := (1, 0, 0)) (rest := [.long (mixL (mixL (mixL (mixL (mixL (mixL (lN 1321) an) td) gr) nn) cn) ps)]) dX7_digest_15 jmX7_tally jlRX7_248 (ctX7_tally_6 an td gr nn cn ps sz tk cu ab be bd no fu H0 H1 H4 H6 H8 H9 (by omega) ) H0 (by omega) jk7.1 rfl rfl (Nat.le_of_ble_eq_true rfl) (Nat.le_of_ble_eq_true rfl) ⟨Nat.le_refl _, Nat.le_refl _⟩ ?_
  refine J_callSr (M' := mX7_mixed) (d' := (1, 0, 0)) (rest := []) dX7_digest_18 jmX7_mixed jlRX7_253 (ctX7_mixed (mixL (mixL (mixL (mixL (mixL (mixL (lN 1321) an) td) gr) nn) cn) ps) sz   (by first | assumption | omega)) rfl rfl (Nat.le_of_ble_eq_true rfl) (Nat.le_of_ble_eq_true rfl) ⟨Nat.le_refl _, Nat.le_refl _⟩ ?_
  refine J_lstore_n dX7_digest_21 (Nat.le_of_ble_eq_true rfl) (L' := [(1, .long (mixL (mixL (mixL (mixL (mixL (mixL (mixL (lN 1321) an) td) gr) nn) cn) ps) sz)), (3, .int (nI 6)), (0, .ref (E.1 + 0))]) rfl ?_
  refine J_iincN (q := 1) (a := 6) (m := 1) dX7_digest_22 rfl (by decide +kernel) (Nat.le_of_ble_eq_true rfl) (L' := [(3, .int (nI 7)), (1, .long (mixL (mixL (mixL (mixL (mixL (mixL (mixL (lN 1321) an) td) gr) nn) cn) ps) sz)), (0, .ref (E.1 + 0))]) rfl ?_
  refine J_goto (tgt := 6) dX7_digest_25 (by decide) ?_
  refine J_iload_n dX7_digest_6 rfl ?_
  refine J_bipush (v := nI 7) dX7_digest_7 (by decide +kernel) ?_
  refine J_icmp_geN (tgt := 28) dX7_digest_9 (by decide) (by omega) (by omega) (fun _ => ?_) (fun z => absurd z (by decide))
  refine J_iconst (v := nI 0) dX7_digest_28 (by decide +kernel) ?_
  refine J_istore_n dX7_digest_29 (Nat.le_of_ble_eq_true rfl) (L' := [(3, .int (nI 0)), (1, .long (mixL (mixL (mixL (mixL (mixL (mixL (mixL (lN 1321) an) td) gr) nn) cn) ps) sz)), (0, .ref (E.1 + 0))]) rfl ?_
  have CUT30 : ∀ (f30 : Nat) (i : Nat) (hm30 : an - i < f30) (hi : i ≤ an), J E mX7_digest (3, 0, 0) jS0 PP h n (0, 0) 30 [(3, .int (nI i)), (1, .long (anvL K M (mixL (mixL (mixL (mixL (mixL (mixL (mixL (lN 1321) an) td) gr) nn) cn) ps) sz) i)), (0, .ref (E.1 + 0))] [] := by
    intro f30
    induction f30 with
    | zero => intro i hm30; exact absurd hm30 (Nat.not_lt_zero _)
    | succ f30 ih30 =>
      intro i hm30 hi
      refine J_iload_n dX7_digest_30 rfl ?_
      refine J_aload_n dX7_digest_31 rfl ?_
      refine J_get 0 dX7_digest_32 jk7 (Nat.le_of_ble_eq_true rfl) jfRX7_10 H0 (by omega) rfl ?_
      refine J_get 5 dX7_digest_35 jk6 (Nat.le_of_ble_eq_true rfl) jfRX7_63 H1 (by omega) rfl ?_
      refine J_icmp_geN (tgt := 91) dX7_digest_38 (by decide) (by omega) (by omega) (fun c9 => ?_) (fun c9 => ?_)
      · skip
        refine J_lload_n dX7_digest_91 rfl ?_
        refine J_aload_n dX7_digest_92 rfl ?_
        refine J_get 0 dX7_digest_93 jk7 (Nat.le_of_ble_eq_true rfl) jfRX7_10 H0 (by omega) rfl ?_
        refine J_get 2 dX7_digest_96 jk6 (Nat.le_of_ble_eq_true rfl) jfRX7_184 H1 (by omega) rfl ?_
        refine J_callSr (M' := mX7_mixedRows) (d' := (2, 0, 0)) (rest := []) dX7_digest_99 jmX7_mixedRows jlRX7_257 (ctX7_mixedRows (anvL K M (mixL (mixL (mixL (mixL (mixL (mixL (mixL (lN 1321) an) td) gr) nn) cn) ps) sz) i) 4 nn NC H4 H5 (by omega) (by first | assumption | omega) (by exact hNC)) rfl rfl (Nat.le_of_ble_eq_true rfl) (Nat.le_of_ble_eq_true rfl) ⟨Nat.le_refl _, Nat.le_refl _⟩ ?_
        refine J_lstore_n dX7_digest_102 (Nat.le_of_ble_eq_true rfl) (L' := [(1, .long (rowsL NC (anvL K M (mixL (mixL (mixL (mixL (mixL (mixL (mixL (lN 1321) an) td) gr) nn) cn) ps) sz) i) (4 * nn))), (3, .int (nI i)), (0, .ref (E.1 + 0))]) rfl ?_
        refine J_lload_n dX7_digest_103 rfl ?_
        refine J_aload_n dX7_digest_104 rfl ?_
        refine J_get 0 dX7_digest_105 jk7 (Nat.le_of_ble_eq_true rfl) jfRX7_10 H0 (by omega) rfl ?_
        refine J_get 3 dX7_digest_108 jk6 (Nat.le_of_ble_eq_true rfl) jfRX7_194 H1 (by omega) rfl ?_
        refine J_callSr (M' := mX7_mixedRows) (d' := (2, 0, 0)) (rest := []) dX7_digest_111 jmX7_mixedRows jlRX7_257 (ctX7_mixedRows (rowsL NC (anvL K M (mixL (mixL (mixL (mixL (mixL (mixL (mixL (lN 1321) an) td) gr) nn) cn) ps) sz) i) (4 * nn)) 6 cn CC H6 H7 (by omega) (by first | assumption | omega) (by first | assumption | omega)) rfl rfl (Nat.le_of_ble_eq_true rfl) (Nat.le_of_ble_eq_true rfl) ⟨Nat.le_refl _, Nat.le_refl _⟩ ?_
        refine J_lstore_n dX7_digest_114 (Nat.le_of_ble_eq_true rfl) (L' := [(1, .long (rowsL CC (rowsL NC (anvL K M (mixL (mixL (mixL (mixL (mixL (mixL (mixL (lN 1321) an) td) gr) nn) cn) ps) sz) i) (4 * nn)) (4 * cn))), (3, .int (nI i)), (0, .ref (E.1 + 0))]) rfl ?_
        refine J_lload_n dX7_digest_115 rfl ?_
        refine J_aload_n dX7_digest_116 rfl ?_
        refine J_get 7 dX7_digest_117 jk7 (Nat.le_of_ble_eq_true rfl) jfRX7_48 H0 (by omega) rfl ?_
        refine J_callSr (M' := mX7_mixed) (d' := (1, 0, 0)) (rest := []) dX7_digest_120 jmX7_mixed jlRX7_253 (ctX7_mixed (rowsL CC (rowsL NC (anvL K M (mixL (mixL (mixL (mixL (mixL (mixL (mixL (lN 1321) an) td) gr) nn) cn) ps) sz) i) (4 * nn)) (4 * cn)) ab   (by first | assumption | omega)) rfl rfl (Nat.le_of_ble_eq_true rfl) (Nat.le_of_ble_eq_true rfl) ⟨Nat.le_refl _, Nat.le_refl _⟩ ?_
        refine J_aload_n dX7_digest_123 rfl ?_
        refine J_get 8 dX7_digest_124 jk7 (Nat.le_of_ble_eq_true rfl) jfRX7_52 H0 (by omega) rfl ?_
        refine J_callSr (M' := mX7_mixed) (d' := (1, 0, 0)) (rest := []) dX7_digest_127 jmX7_mixed jlRX7_253 (ctX7_mixed (mixL (rowsL CC (rowsL NC (anvL K M (mixL (mixL (mixL (mixL (mixL (mixL (mixL (lN 1321) an) td) gr) nn) cn) ps) sz) i) (4 * nn)) (4 * cn)) ab) be   (by first | assumption | omega)) rfl rfl (Nat.le_of_ble_eq_true rfl) (Nat.le_of_ble_eq_true rfl) ⟨Nat.le_refl _, Nat.le_refl _⟩ ?_
        exact J_lret dX7_digest_130 rfl ⟨Nat.le_refl _, Nat.le_refl _⟩ (by rw [hPP]; exact ⟨(congrArg some (jv_L (by rw [show i = an by omega]; rfl))), rfl, rfl⟩)
      · skip
        refine J_lload_n dX7_digest_41 rfl ?_
        refine J_aload_n dX7_digest_42 rfl ?_
        refine J_get 0 dX7_digest_43 jk7 (Nat.le_of_ble_eq_true rfl) jfRX7_10 H0 (by omega) rfl ?_
        refine J_get 0 dX7_digest_46 jk6 (Nat.le_of_ble_eq_true rfl) jfRX7_136 H1 (by omega) rfl ?_
        refine J_iload_n dX7_digest_49 rfl ?_
        refine J_ialdN (i := i) dX7_digest_50 H2 (by omega) (by omega) (by omega) ?_
        have bd10 := hK i
        refine J_callSr (M' := mX7_mixed) (d' := (1, 0, 0)) (rest := []) dX7_digest_51 jmX7_mixed jlRX7_253 (ctX7_mixed (anvL K M (mixL (mixL (mixL (mixL (mixL (mixL (mixL (lN 1321) an) td) gr) nn) cn) ps) sz) i) (K i)   (by first | assumption | omega)) rfl rfl (Nat.le_of_ble_eq_true rfl) (Nat.le_of_ble_eq_true rfl) ⟨Nat.le_refl _, Nat.le_refl _⟩ ?_
        refine J_lstore_n dX7_digest_54 (Nat.le_of_ble_eq_true rfl) (L' := [(1, .long (mixL (anvL K M (mixL (mixL (mixL (mixL (mixL (mixL (mixL (lN 1321) an) td) gr) nn) cn) ps) sz) i) (K i))), (3, .int (nI i)), (0, .ref (E.1 + 0))]) rfl ?_
        refine J_iconst (v := nI 0) dX7_digest_55 (by decide +kernel) ?_
        refine J_istore dX7_digest_56 (Nat.le_of_ble_eq_true rfl) (L' := [(4, .int (nI 0)), (1, .long (mixL (anvL K M (mixL (mixL (mixL (mixL (mixL (mixL (mixL (lN 1321) an) td) gr) nn) cn) ps) sz) i) (K i))), (3, .int (nI i)), (0, .ref (E.1 + 0))]) rfl ?_
        refine J_iload dX7_digest_58 rfl ?_
        refine J_iconst (v := nI 4) dX7_digest_60 (by decide +kernel) ?_
        refine J_icmp_geN (tgt := 85) dX7_digest_61 (by decide) (by omega) (by omega) (fun z => absurd z (by decide)) (fun _ => ?_)
        refine J_lload_n dX7_digest_64 rfl ?_
        refine J_aload_n dX7_digest_65 rfl ?_
        refine J_get 0 dX7_digest_66 jk7 (Nat.le_of_ble_eq_true rfl) jfRX7_10 H0 (by omega) rfl ?_
        refine J_iload_n dX7_digest_69 rfl ?_
        refine J_iload dX7_digest_70 rfl ?_
        refine J_callVr (M' := mX6_remembered) (d' := (1, 0, 0)) (rest := [.long (mixL (anvL K M (mixL (mixL (mixL (mixL (mixL (mixL (mixL (lN 1321) an) td) gr) nn) cn) ps) sz) i) (K i))]) dX7_digest_72 jmX6_remembered jlRX7_118 (ctX6_remembered 1 i 0 an td gr M H1 H3 (by omega) (by first | assumption | omega) (by first | assumption | omega)) H1 (by omega) jk6.1 rfl rfl (Nat.le_of_ble_eq_true rfl) (Nat.le_of_ble_eq_true rfl) ⟨Nat.le_refl _, Nat.le_refl _⟩ ?_
        have mb0 := hM (4 * i + 0)
        have mb1 := hM (4 * i + 1)
        have mb2 := hM (4 * i + 2)
        have mb3 := hM (4 * i + 3)
        refine J_callSr (M' := mX7_mixed) (d' := (1, 0, 0)) (rest := []) dX7_digest_75 jmX7_mixed jlRX7_253 (ctX7_mixed (mixL (anvL K M (mixL (mixL (mixL (mixL (mixL (mixL (mixL (lN 1321) an) td) gr) nn) cn) ps) sz) i) (K i)) (M (4 * i + 0))   (by first | assumption | omega)) rfl rfl (Nat.le_of_ble_eq_true rfl) (Nat.le_of_ble_eq_true rfl) ⟨Nat.le_refl _, Nat.le_refl _⟩ ?_
        refine J_lstore_n dX7_digest_78 (Nat.le_of_ble_eq_true rfl) (L' := [(1, .long (mixL (mixL (anvL K M (mixL (mixL (mixL (mixL (mixL (mixL (mixL (lN 1321) an) td) gr) nn) cn) ps) sz) i) (K i)) (M (4 * i + 0)))), (4, .int (nI 0)), (3, .int (nI i)), (0, .ref (E.1 + 0))]) rfl ?_
        refine J_iincN (q := 1) (a := 0) (m := 1) dX7_digest_79 rfl (by decide +kernel) (Nat.le_of_ble_eq_true rfl) (L' := [(4, .int (nI 1)), (1, .long (mixL (mixL (anvL K M (mixL (mixL (mixL (mixL (mixL (mixL (mixL (lN 1321) an) td) gr) nn) cn) ps) sz) i) (K i)) (M (4 * i + 0)))), (3, .int (nI i)), (0, .ref (E.1 + 0))]) rfl ?_
        refine J_goto (tgt := 58) dX7_digest_82 (by decide) ?_
        refine J_iload dX7_digest_58 rfl ?_
        refine J_iconst (v := nI 4) dX7_digest_60 (by decide +kernel) ?_
        refine J_icmp_geN (tgt := 85) dX7_digest_61 (by decide) (by omega) (by omega) (fun z => absurd z (by decide)) (fun _ => ?_)
        refine J_lload_n dX7_digest_64 rfl ?_
        refine J_aload_n dX7_digest_65 rfl ?_
        refine J_get 0 dX7_digest_66 jk7 (Nat.le_of_ble_eq_true rfl) jfRX7_10 H0 (by omega) rfl ?_
        refine J_iload_n dX7_digest_69 rfl ?_
        refine J_iload dX7_digest_70 rfl ?_
        refine J_callVr (M' := mX6_remembered) (d' := (1, 0, 0)) (rest := [.long (mixL (mixL (anvL K M (mixL (mixL (mixL (mixL (mixL (mixL (mixL (lN 1321) an) td) gr) nn) cn) ps) sz) i) (K i)) (M (4 * i + 0)))]) dX7_digest_72 jmX6_remembered jlRX7_118 (ctX6_remembered 1 i 1 an td gr M H1 H3 (by omega) (by first | assumption | omega) (by first | assumption | omega)) H1 (by omega) jk6.1 rfl rfl (Nat.le_of_ble_eq_true rfl) (Nat.le_of_ble_eq_true rfl) ⟨Nat.le_refl _, Nat.le_refl _⟩ ?_
        have mb0 := hM (4 * i + 0)
        have mb1 := hM (4 * i + 1)
        have mb2 := hM (4 * i + 2)
        have mb3 := hM (4 * i + 3)
        refine J_callSr (M' := mX7_mixed) (d' := (1, 0, 0)) (rest := []) dX7_digest_75 jmX7_mixed jlRX7_253 (ctX7_mixed (mixL (mixL (anvL K M (mixL (mixL (mixL (mixL (mixL (mixL (mixL (lN 1321) an) td) gr) nn) cn) ps) sz) i) (K i)) (M (4 * i + 0))) (M (4 * i + 1))   (by first | assumption | omega)) rfl rfl (Nat.le_of_ble_eq_true rfl) (Nat.le_of_ble_eq_true rfl) ⟨Nat.le_refl _, Nat.le_refl _⟩ ?_
        refine J_lstore_n dX7_digest_78 (Nat.le_of_ble_eq_true rfl) (L' := [(1, .long (mixL (mixL (mixL (anvL K M (mixL (mixL (mixL (mixL (mixL (mixL (mixL (lN 1321) an) td) gr) nn) cn) ps) sz) i) (K i)) (M (4 * i + 0))) (M (4 * i + 1)))), (4, .int (nI 1)), (3, .int (nI i)), (0, .ref (E.1 + 0))]) rfl ?_
        refine J_iincN (q := 1) (a := 1) (m := 1) dX7_digest_79 rfl (by decide +kernel) (Nat.le_of_ble_eq_true rfl) (L' := [(4, .int (nI 2)), (1, .long (mixL (mixL (mixL (anvL K M (mixL (mixL (mixL (mixL (mixL (mixL (mixL (lN 1321) an) td) gr) nn) cn) ps) sz) i) (K i)) (M (4 * i + 0))) (M (4 * i + 1)))), (3, .int (nI i)), (0, .ref (E.1 + 0))]) rfl ?_
        refine J_goto (tgt := 58) dX7_digest_82 (by decide) ?_
        refine J_iload dX7_digest_58 rfl ?_
        refine J_iconst (v := nI 4) dX7_digest_60 (by decide +kernel) ?_
        refine J_icmp_geN (tgt := 85) dX7_digest_61 (by decide) (by omega) (by omega) (fun z => absurd z (by decide)) (fun _ => ?_)
        refine J_lload_n dX7_digest_64 rfl ?_
        refine J_aload_n dX7_digest_65 rfl ?_
        refine J_get 0 dX7_digest_66 jk7 (Nat.le_of_ble_eq_true rfl) jfRX7_10 H0 (by omega) rfl ?_
        refine J_iload_n dX7_digest_69 rfl ?_
        refine J_iload dX7_digest_70 rfl ?_
        refine J_callVr (M' := mX6_remembered) (d' := (1, 0, 0)) (rest := [.long (mixL (mixL (mixL (anvL K M (mixL (mixL (mixL (mixL (mixL (mixL (mixL (lN 1321) an) td) gr) nn) cn) ps) sz) i) (K i)) (M (4 * i + 0))) (M (4 * i + 1)))]) dX7_digest_72 jmX6_remembered jlRX7_118 (ctX6_remembered 1 i 2 an td gr M H1 H3 (by omega) (by first | assumption | omega) (by first | assumption | omega)) H1 (by omega) jk6.1 rfl rfl (Nat.le_of_ble_eq_true rfl) (Nat.le_of_ble_eq_true rfl) ⟨Nat.le_refl _, Nat.le_refl _⟩ ?_
        have mb0 := hM (4 * i + 0)
        have mb1 := hM (4 * i + 1)
        have mb2 := hM (4 * i + 2)
        have mb3 := hM (4 * i + 3)
        refine J_callSr (M' := mX7_mixed) (d' := (1, 0, 0)) (rest := []) dX7_digest_75 jmX7_mixed jlRX7_253 (ctX7_mixed (mixL (mixL (mixL (anvL K M (mixL (mixL (mixL (mixL (mixL (mixL (mixL (lN 1321) an) td) gr) nn) cn) ps) sz) i) (K i)) (M (4 * i + 0))) (M (4 * i + 1))) (M (4 * i + 2))   (by first | assumption | omega)) rfl rfl (Nat.le_of_ble_eq_true rfl) (Nat.le_of_ble_eq_true rfl) ⟨Nat.le_refl _, Nat.le_refl _⟩ ?_
        refine J_lstore_n dX7_digest_78 (Nat.le_of_ble_eq_true rfl) (L' := [(1, .long (mixL (mixL (mixL (mixL (anvL K M (mixL (mixL (mixL (mixL (mixL (mixL (mixL (lN 1321) an) td) gr) nn) cn) ps) sz) i) (K i)) (M (4 * i + 0))) (M (4 * i + 1))) (M (4 * i + 2)))), (4, .int (nI 2)), (3, .int (nI i)), (0, .ref (E.1 + 0))]) rfl ?_
        refine J_iincN (q := 1) (a := 2) (m := 1) dX7_digest_79 rfl (by decide +kernel) (Nat.le_of_ble_eq_true rfl) (L' := [(4, .int (nI 3)), (1, .long (mixL (mixL (mixL (mixL (anvL K M (mixL (mixL (mixL (mixL (mixL (mixL (mixL (lN 1321) an) td) gr) nn) cn) ps) sz) i) (K i)) (M (4 * i + 0))) (M (4 * i + 1))) (M (4 * i + 2)))), (3, .int (nI i)), (0, .ref (E.1 + 0))]) rfl ?_
        refine J_goto (tgt := 58) dX7_digest_82 (by decide) ?_
        refine J_iload dX7_digest_58 rfl ?_
        refine J_iconst (v := nI 4) dX7_digest_60 (by decide +kernel) ?_
        refine J_icmp_geN (tgt := 85) dX7_digest_61 (by decide) (by omega) (by omega) (fun z => absurd z (by decide)) (fun _ => ?_)
        refine J_lload_n dX7_digest_64 rfl ?_
        refine J_aload_n dX7_digest_65 rfl ?_
        refine J_get 0 dX7_digest_66 jk7 (Nat.le_of_ble_eq_true rfl) jfRX7_10 H0 (by omega) rfl ?_
        refine J_iload_n dX7_digest_69 rfl ?_
        refine J_iload dX7_digest_70 rfl ?_
        refine J_callVr (M' := mX6_remembered) (d' := (1, 0, 0)) (rest := [.long (mixL (mixL (mixL (mixL (anvL K M (mixL (mixL (mixL (mixL (mixL (mixL (mixL (lN 1321) an) td) gr) nn) cn) ps) sz) i) (K i)) (M (4 * i + 0))) (M (4 * i + 1))) (M (4 * i + 2)))]) dX7_digest_72 jmX6_remembered jlRX7_118 (ctX6_remembered 1 i 3 an td gr M H1 H3 (by omega) (by first | assumption | omega) (by first | assumption | omega)) H1 (by omega) jk6.1 rfl rfl (Nat.le_of_ble_eq_true rfl) (Nat.le_of_ble_eq_true rfl) ⟨Nat.le_refl _, Nat.le_refl _⟩ ?_
        have mb0 := hM (4 * i + 0)
        have mb1 := hM (4 * i + 1)
        have mb2 := hM (4 * i + 2)
        have mb3 := hM (4 * i + 3)
        refine J_callSr (M' := mX7_mixed) (d' := (1, 0, 0)) (rest := []) dX7_digest_75 jmX7_mixed jlRX7_253 (ctX7_mixed (mixL (mixL (mixL (mixL (anvL K M (mixL (mixL (mixL (mixL (mixL (mixL (mixL (lN 1321) an) td) gr) nn) cn) ps) sz) i) (K i)) (M (4 * i + 0))) (M (4 * i + 1))) (M (4 * i + 2))) (M (4 * i + 3))   (by first | assumption | omega)) rfl rfl (Nat.le_of_ble_eq_true rfl) (Nat.le_of_ble_eq_true rfl) ⟨Nat.le_refl _, Nat.le_refl _⟩ ?_
        refine J_lstore_n dX7_digest_78 (Nat.le_of_ble_eq_true rfl) (L' := [(1, .long (mixL (mixL (mixL (mixL (mixL (anvL K M (mixL (mixL (mixL (mixL (mixL (mixL (mixL (lN 1321) an) td) gr) nn) cn) ps) sz) i) (K i)) (M (4 * i + 0))) (M (4 * i + 1))) (M (4 * i + 2))) (M (4 * i + 3)))), (4, .int (nI 3)), (3, .int (nI i)), (0, .ref (E.1 + 0))]) rfl ?_
        refine J_iincN (q := 1) (a := 3) (m := 1) dX7_digest_79 rfl (by decide +kernel) (Nat.le_of_ble_eq_true rfl) (L' := [(4, .int (nI 4)), (1, .long (mixL (mixL (mixL (mixL (mixL (anvL K M (mixL (mixL (mixL (mixL (mixL (mixL (mixL (lN 1321) an) td) gr) nn) cn) ps) sz) i) (K i)) (M (4 * i + 0))) (M (4 * i + 1))) (M (4 * i + 2))) (M (4 * i + 3)))), (3, .int (nI i)), (0, .ref (E.1 + 0))]) rfl ?_
        refine J_goto (tgt := 58) dX7_digest_82 (by decide) ?_
        refine J_iload dX7_digest_58 rfl ?_
        refine J_iconst (v := nI 4) dX7_digest_60 (by decide +kernel) ?_
        refine J_icmp_geN (tgt := 85) dX7_digest_61 (by decide) (by omega) (by omega) (fun _ => ?_) (fun z => absurd z (by decide))
        refine J_iincN (q := 2) (a := i) (m := 1) dX7_digest_85 rfl (by decide +kernel) (Nat.le_of_ble_eq_true rfl) (L' := [(3, .int (nI (i + 1))), (4, .int (nI 4)), (1, .long (mixL (mixL (mixL (mixL (mixL (anvL K M (mixL (mixL (mixL (mixL (mixL (mixL (mixL (lN 1321) an) td) gr) nn) cn) ps) sz) i) (K i)) (M (4 * i + 0))) (M (4 * i + 1))) (M (4 * i + 2))) (M (4 * i + 3)))), (0, .ref (E.1 + 0))]) rfl ?_
        refine J_goto (tgt := 30) dX7_digest_88 (by decide) ?_
        refine J.sub [0, 2, 3] (L' := [(3, .int (nI (i + 1))), (1, .long (mixL (mixL (mixL (mixL (mixL (anvL K M (mixL (mixL (mixL (mixL (mixL (mixL (mixL (lN 1321) an) td) gr) nn) cn) ps) sz) i) (K i)) (M (4 * i + 0))) (M (4 * i + 1))) (M (4 * i + 2))) (M (4 * i + 3)))), (0, .ref (E.1 + 0))]) rfl ?_
        refine J.eqs (h' := h) (L' := [(3, .int (nI (i + 1))), (1, .long (anvL K M (mixL (mixL (mixL (mixL (mixL (mixL (mixL (lN 1321) an) td) gr) nn) cn) ps) sz) (i + 1))), (0, .ref (E.1 + 0))]) (st' := []) rfl (jL_c rfl (jL_c (jv_L (by rfl)) (jL_c rfl rfl))) rfl ?_
        exact ih30 (i + 1) (by omega) (by first | assumption | omega)
  refine J.eqs (h' := h) (L' := [(3, .int (nI 0)), (1, .long (anvL K M (mixL (mixL (mixL (mixL (mixL (mixL (mixL (lN 1321) an) td) gr) nn) cn) ps) sz) 0)), (0, .ref (E.1 + 0))]) (st' := []) rfl (jL_c rfl (jL_c (jv_L (by rfl)) (jL_c rfl rfl))) rfl ?_
  exact CUT30 (an - 0 + 1) 0 (Nat.lt_succ_self _) (by first | assumption | omega)
