theorem lkG_i1 {fit : Nat} : (-1 : Int32) = oI (lkG 7 fit (10 * 1 + 0 - 10)).1 := rfl
theorem lkG_i2 {fit : Nat} : 7 = (lkG 7 fit (10 * 1 + 0 - 10)).2 := rfl

set_option maxHeartbeats 1000000 in
set_option maxRecDepth 100000 in
theorem ctX7_look_bad {E : jE} {h : Nat → va_E} {n : Nat} (a : Nat) (ab : Nat) (be : Nat) (bd : Nat) (no : Nat) (fu : Nat) (an : Nat) (td : Nat) (gr : Nat) (H0 : h 0 = .inr (6, [.ref (E.1 + 1), .ref (E.1 + 12), .ref (E.1 + 23), .ref (E.1 + 24), .ref (E.1 + 30), .ref (E.1 + 34), .ref (E.1 + 37), .int (nI ab), .int (nI be), .int (nI bd), .int (nI no), .int (nI fu)])) (H1 : h 1 = .inr (5, [.ref (E.1 + 2), .ref (E.1 + 3), .ref (E.1 + 4), .ref (E.1 + 6), .ref (E.1 + 8), .int (nI an), .int (nI td), .int (nI gr)])) (hn : 38 ≤ n) (h32a : a < 2 ^ 32) (hn4 : an ≤ 4) (hbad : ¬ a < an) : jC E mX7_look (4, 0, 0) [.ref (E.1 + 0), .int (nI a)] h n (jR (some (.int (-2))) (hset h 0 (.inr (6, [.ref (E.1 + 1), .ref (E.1 + 12), .ref (E.1 + 23), .ref (E.1 + 24), .ref (E.1 + 30), .ref (E.1 + 34), .ref (E.1 + 37), .int (nI ab), .int (nI be), .int (nI (bd + 1)), .int (nI no), .int (nI fu)]))) n) := by
  refine J.of (L := [(0, .ref (E.1 + 0)), (1, .int (nI a))]) rfl (by decide +kernel) (Nat.le_of_ble_eq_true rfl) ?_
  obtain ⟨PP, hPP⟩ : ∃ PP : jPost, PP = (jR (some (.int (-2))) (hset h 0 (.inr (6, [.ref (E.1 + 1), .ref (E.1 + 12), .ref (E.1 + 23), .ref (E.1 + 24), .ref (E.1 + 30), .ref (E.1 + 34), .ref (E.1 + 37), .int (nI ab), .int (nI be), .int (nI (bd + 1)), .int (nI no), .int (nI fu)]))) n) := ⟨_, rfl⟩
  rw [← hPP]
  refine J_aload_n dX7_look_0 rfl ?_
  refine J_get 0 dX7_look_1 jk7 (Nat.le_of_ble_eq_true rfl) jfRX7_10 H0 (by omega) rfl ?_
  refine J_iload_n dX7_look_4 rfl ?_
  refine J_callVr (M' := mX6_has) (d' := (1, 0, 0)) (rest := []) dX7_look_5 jmX6_has jlRX7_133 (ctX6_has 1 a an td gr H1 (by omega) (by first | assumption | omega) (by first | assumption | omega)) H1 (by omega) jk6.1 rfl rfl (Nat.le_of_ble_eq_true rfl) (Nat.le_of_ble_eq_true rfl) ⟨Nat.le_refl _, Nat.le_refl _⟩ ?_
  refine J_if_neB (tgt := 18) dX7_look_8 (by decide) (fun c1 => (by exfalso; omega)) (fun c1 => ?_)
  refine J_aload_n dX7_look_11 rfl ?_
  refine J_bipush (v := (-2)) dX7_look_12 (by decide +kernel) ?_
  refine J_callVr (M' := mX7_refuse) (d' := (1, 0, 0)) (rest := []) dX7_look_14 jmX7_refuse jlRX7_59 (ctX7_refuse2 ab be bd no fu H0 (by omega) ) H0 (by omega) jk7.1 rfl rfl (Nat.le_of_ble_eq_true rfl) (Nat.le_of_ble_eq_true rfl) ⟨Nat.le_refl _, Nat.le_refl _⟩ ?_
  exact J_iret dX7_look_17 rfl ⟨Nat.le_refl _, Nat.le_refl _⟩ (by rw [hPP]; exact ⟨rfl, rfl, rfl⟩)

set_option maxHeartbeats 1000000 in
set_option maxRecDepth 100000 in
theorem ctX7_look_0 {E : jE} {h : Nat → va_E} {n : Nat} (a : Nat) (an : Nat) (td : Nat) (gr : Nat) (nn : Nat) (NC : Nat → Nat) (ab : Nat) (be : Nat) (bd : Nat) (no : Nat) (fu : Nat) (LV : Nat → Int32) (H0 : h 0 = .inr (6, [.ref (E.1 + 1), .ref (E.1 + 12), .ref (E.1 + 23), .ref (E.1 + 24), .ref (E.1 + 30), .ref (E.1 + 34), .ref (E.1 + 37), .int (nI ab), .int (nI be), .int (nI bd), .int (nI no), .int (nI fu)])) (H1 : h 1 = .inr (5, [.ref (E.1 + 2), .ref (E.1 + 3), .ref (E.1 + 4), .ref (E.1 + 6), .ref (E.1 + 8), .int (nI an), .int (nI td), .int (nI gr)])) (H2 : h 4 = .inr (3, [.ref (E.1 + 5), .int (nI nn)])) (H3 : h 5 = cI E 24 (nF NC)) (H4 : h 37 = cI E 6 LV) (hn : 38 ≤ n) (hNC : ∀ zz, NC zz ≤ 99) (hnn : nn ≤ 6) (hn4 : an ≤ 4) (ha : a < an) (h0 : kindsN NC nn a = 0) : jC E mX7_look (4, 0, 0) [.ref (E.1 + 0), .int (nI a)] h n (jR (some (.int (-1))) h n) := by
  refine J.of (L := [(0, .ref (E.1 + 0)), (1, .int (nI a))]) rfl (by decide +kernel) (Nat.le_of_ble_eq_true rfl) ?_
  obtain ⟨PP, hPP⟩ : ∃ PP : jPost, PP = (jR (some (.int (-1))) h n) := ⟨_, rfl⟩
  rw [← hPP]
  refine J_aload_n dX7_look_0 rfl ?_
  refine J_get 0 dX7_look_1 jk7 (Nat.le_of_ble_eq_true rfl) jfRX7_10 H0 (by omega) rfl ?_
  refine J_iload_n dX7_look_4 rfl ?_
  refine J_callVr (M' := mX6_has) (d' := (1, 0, 0)) (rest := []) dX7_look_5 jmX6_has jlRX7_133 (ctX6_has 1 a an td gr H1 (by omega) (by first | assumption | omega) (by first | assumption | omega)) H1 (by omega) jk6.1 rfl rfl (Nat.le_of_ble_eq_true rfl) (Nat.le_of_ble_eq_true rfl) ⟨Nat.le_refl _, Nat.le_refl _⟩ ?_
  refine J_if_neB (tgt := 18) dX7_look_8 (by decide) (fun c1 => ?_) (fun c1 => (by exfalso; omega))
  refine J_aload_n dX7_look_18 rfl ?_
  refine J_iload_n dX7_look_19 rfl ?_
  refine J_callVr (M' := mX7_kindsThatFit) (d' := (3, 0, 0)) (rest := []) dX7_look_20 jmX7_kindsThatFit jlRX7_197 (ctX7_kindsThatFit a an td gr nn NC ab be bd no fu H0 H1 H2 H3 (by omega) (by first | assumption | omega) (by first | assumption | omega) (by first | assumption | omega)) H0 (by omega) jk7.1 rfl rfl (Nat.le_of_ble_eq_true rfl) (Nat.le_of_ble_eq_true rfl) ⟨Nat.le_refl _, Nat.le_refl _⟩ ?_
  have fc2 : kindsN NC nn a < 2 ^ 6 := bitsN_lt 6
  refine J_istore_n dX7_look_23 (Nat.le_of_ble_eq_true rfl) (L' := [(2, .int (nI (kindsN NC nn a))), (0, .ref (E.1 + 0)), (1, .int (nI a))]) rfl ?_
  refine J_iload_n dX7_look_24 rfl ?_
  refine J_if_neN (tgt := 30) dX7_look_25 (by decide) (by omega) (fun c3 => (by exfalso; omega)) (fun c3 => ?_)
  refine J_iconst (v := (-1)) dX7_look_28 (by decide +kernel) ?_
  exact J_iret dX7_look_29 rfl ⟨Nat.le_refl _, Nat.le_refl _⟩ (by rw [hPP]; exact ⟨rfl, rfl, rfl⟩)

set_option maxHeartbeats 1000000 in
set_option maxRecDepth 100000 in
theorem ctX7_look {E : jE} {h : Nat → va_E} {n : Nat} (a : Nat) (an : Nat) (td : Nat) (gr : Nat) (nn : Nat) (NC : Nat → Nat) (ab : Nat) (be : Nat) (bd : Nat) (no : Nat) (fu : Nat) (LV : Nat → Int32) (H0 : h 0 = .inr (6, [.ref (E.1 + 1), .ref (E.1 + 12), .ref (E.1 + 23), .ref (E.1 + 24), .ref (E.1 + 30), .ref (E.1 + 34), .ref (E.1 + 37), .int (nI ab), .int (nI be), .int (nI bd), .int (nI no), .int (nI fu)])) (H1 : h 1 = .inr (5, [.ref (E.1 + 2), .ref (E.1 + 3), .ref (E.1 + 4), .ref (E.1 + 6), .ref (E.1 + 8), .int (nI an), .int (nI td), .int (nI gr)])) (H2 : h 4 = .inr (3, [.ref (E.1 + 5), .int (nI nn)])) (H3 : h 5 = cI E 24 (nF NC)) (H4 : h 37 = cI E 6 LV) (hn : 38 ≤ n) (hNC : ∀ zz, NC zz ≤ 99) (hnn : nn ≤ 6) (hn4 : an ≤ 4) (ha : a < an) (h0 : 0 < kindsN NC nn a) : jC E mX7_look (4, 0, 0) [.ref (E.1 + 0), .int (nI a)] h n (fun v h' n' => v = some (.int (oI (lkG 7 (kindsN NC nn a) 193).1)) ∧ n' = n ∧ ∃ LV1 : Nat → Int32, h' = hset h 37 (cI E 6 LV1)) := by
  refine J.of (L := [(0, .ref (E.1 + 0)), (1, .int (nI a))]) rfl (by decide +kernel) (Nat.le_of_ble_eq_true rfl) ?_
  obtain ⟨PP, hPP⟩ : ∃ PP : jPost, PP = (fun v h' n' => v = some (.int (oI (lkG 7 (kindsN NC nn a) 193).1)) ∧ n' = n ∧ ∃ LV1 : Nat → Int32, h' = hset h 37 (cI E 6 LV1)) := ⟨_, rfl⟩
  rw [← hPP]
  refine J_aload_n dX7_look_0 rfl ?_
  refine J_get 0 dX7_look_1 jk7 (Nat.le_of_ble_eq_true rfl) jfRX7_10 H0 (by omega) rfl ?_
  refine J_iload_n dX7_look_4 rfl ?_
  refine J_callVr (M' := mX6_has) (d' := (1, 0, 0)) (rest := []) dX7_look_5 jmX6_has jlRX7_133 (ctX6_has 1 a an td gr H1 (by omega) (by first | assumption | omega) (by first | assumption | omega)) H1 (by omega) jk6.1 rfl rfl (Nat.le_of_ble_eq_true rfl) (Nat.le_of_ble_eq_true rfl) ⟨Nat.le_refl _, Nat.le_refl _⟩ ?_
  refine J_if_neB (tgt := 18) dX7_look_8 (by decide) (fun c1 => ?_) (fun c1 => (by exfalso; omega))
  refine J_aload_n dX7_look_18 rfl ?_
  refine J_iload_n dX7_look_19 rfl ?_
  refine J_callVr (M' := mX7_kindsThatFit) (d' := (3, 0, 0)) (rest := []) dX7_look_20 jmX7_kindsThatFit jlRX7_197 (ctX7_kindsThatFit a an td gr nn NC ab be bd no fu H0 H1 H2 H3 (by omega) (by first | assumption | omega) (by first | assumption | omega) (by first | assumption | omega)) H0 (by omega) jk7.1 rfl rfl (Nat.le_of_ble_eq_true rfl) (Nat.le_of_ble_eq_true rfl) ⟨Nat.le_refl _, Nat.le_refl _⟩ ?_
  have fc2 : kindsN NC nn a < 2 ^ 6 := bitsN_lt 6
  refine J_istore_n dX7_look_23 (Nat.le_of_ble_eq_true rfl) (L' := [(2, .int (nI (kindsN NC nn a))), (0, .ref (E.1 + 0)), (1, .int (nI a))]) rfl ?_
  refine J_iload_n dX7_look_24 rfl ?_
  refine J_if_neN (tgt := 30) dX7_look_25 (by decide) (by omega) (fun c3 => ?_) (fun c3 => (by exfalso; omega))
  refine J_iconst (v := (-1)) dX7_look_30 (by decide +kernel) ?_
  refine J_istore_n dX7_look_31 (Nat.le_of_ble_eq_true rfl) (L' := [(3, .int (-1)), (2, .int (nI (kindsN NC nn a))), (0, .ref (E.1 + 0)), (1, .int (nI a))]) rfl ?_
  refine J_bipush (v := nI 7) dX7_look_32 (by decide +kernel) ?_
  refine J_istore dX7_look_34 (Nat.le_of_ble_eq_true rfl) (L' := [(4, .int (nI 7)), (3, .int (-1)), (2, .int (nI (kindsN NC nn a))), (0, .ref (E.1 + 0)), (1, .int (nI a))]) rfl ?_
  refine J_iconst (v := nI 1) dX7_look_36 (by decide +kernel) ?_
  refine J_istore dX7_look_37 (Nat.le_of_ble_eq_true rfl) (L' := [(5, .int (nI 1)), (4, .int (nI 7)), (3, .int (-1)), (2, .int (nI (kindsN NC nn a))), (0, .ref (E.1 + 0)), (1, .int (nI a))]) rfl ?_
  refine J_iload dX7_look_39 rfl ?_
  refine J_bipush (v := nI 20) dX7_look_41 (by decide +kernel) ?_
  refine J_icmp_gtN (tgt := 98) dX7_look_43 (by decide) (by omega) (by omega) (fun z => absurd z (by decide)) (fun _ => ?_)
  refine J_iconst (v := nI 0) dX7_look_46 (by decide +kernel) ?_
  refine J_istore dX7_look_47 (Nat.le_of_ble_eq_true rfl) (L' := [(6, .int (nI 0)), (5, .int (nI 1)), (4, .int (nI 7)), (3, .int (-1)), (2, .int (nI (kindsN NC nn a))), (0, .ref (E.1 + 0)), (1, .int (nI a))]) rfl ?_
  have CUT49 : ∀ (f49 : Nat) (m : Nat) (d : Nat) (LV1 : Nat → Int32) (hm49 : 4 * (21 - m) + (3 - d) < f49) (hm1 : 1 ≤ m) (hm : m ≤ 20) (hd3 : d ≤ 3), J E mX7_look (4, 0, 0) jS0 PP (hset h 37 (cI E 6 LV1)) n (0, 0) 49 [(6, .int (nI d)), (5, .int (nI m)), (4, .int (nI ((lkG 7 (kindsN NC nn a) (10 * m + d - 10)).2))), (3, .int (oI (lkG 7 (kindsN NC nn a) (10 * m + d - 10)).1)), (2, .int (nI (kindsN NC nn a))), (0, .ref (E.1 + 0)), (1, .int (nI a))] [] := by
    intro f49
    induction f49 with
    | zero => intro m d LV1 hm49; exact absurd hm49 (Nat.not_lt_zero _)
    | succ f49 ih49 =>
      intro m d LV1 hm49 hm1 hm hd3
      have gl := lkG_le (f0 := 7) (fit := (kindsN NC nn a)) (by omega) (10 * m + d - 10)
      refine J_iload dX7_look_49 rfl ?_
      refine J_iconst (v := nI 2) dX7_look_51 (by decide +kernel) ?_
      refine J_icmp_gtN (tgt := 92) dX7_look_52 (by decide) (by omega) (by omega) (fun c5 => ?_) (fun c5 => ?_)
      · skip
        refine J_iincN (q := 1) (a := m) (m := 1) dX7_look_92 rfl (by decide +kernel) (Nat.le_of_ble_eq_true rfl) (L' := [(5, .int (nI (m + 1))), (6, .int (nI d)), (4, .int (nI ((lkG 7 (kindsN NC nn a) (10 * m + d - 10)).2))), (3, .int (oI (lkG 7 (kindsN NC nn a) (10 * m + d - 10)).1)), (2, .int (nI (kindsN NC nn a))), (0, .ref (E.1 + 0)), (1, .int (nI a))]) rfl ?_
        refine J_goto (tgt := 39) dX7_look_95 (by decide) ?_
        refine J_iload dX7_look_39 rfl ?_
        refine J_bipush (v := nI 20) dX7_look_41 (by decide +kernel) ?_
        refine J_icmp_gtN (tgt := 98) dX7_look_43 (by decide) (by omega) (by omega) (fun c6 => ?_) (fun c6 => ?_)
        · skip
          refine J_iload_n dX7_look_98 rfl ?_
          exact J_iret dX7_look_99 rfl ⟨Nat.le_refl _, Nat.le_refl _⟩ (by rw [hPP]; first | (exfalso; omega) | exact ⟨congrArg (fun z => some (Value.int z)) (by rw [show 10 * m + d - 10 = 193 by omega]), rfl, LV1, rfl⟩)
        · skip
          refine J_iconst (v := nI 0) dX7_look_46 (by decide +kernel) ?_
          refine J_istore dX7_look_47 (Nat.le_of_ble_eq_true rfl) (L' := [(6, .int (nI 0)), (5, .int (nI (m + 1))), (4, .int (nI ((lkG 7 (kindsN NC nn a) (10 * m + d - 10)).2))), (3, .int (oI (lkG 7 (kindsN NC nn a) (10 * m + d - 10)).1)), (2, .int (nI (kindsN NC nn a))), (0, .ref (E.1 + 0)), (1, .int (nI a))]) rfl ?_
          refine J.eqs (h' := (hset h 37 (cI E 6 LV1))) (L' := [(6, .int (nI 0)), (5, .int (nI (m + 1))), (4, .int (nI ((lkG 7 (kindsN NC nn a) (10 * (m + 1) + 0 - 10)).2))), (3, .int (oI (lkG 7 (kindsN NC nn a) (10 * (m + 1) + 0 - 10)).1)), (2, .int (nI (kindsN NC nn a))), (0, .ref (E.1 + 0)), (1, .int (nI a))]) (st' := []) rfl (jL_c rfl (jL_c rfl (jL_c (jv_N (by first | exact lkG_i1 | exact lkG_i2 | rfl | (rw [lkG_f (f0 := 7) (fit := (kindsN NC nn a)) (m := m) (d := d) hm1 (by omega) (by omega)]) | (rw [lkG_t (f0 := 7) (fit := (kindsN NC nn a)) (m := m) (d := d) hm1 (by omega) (by omega)]; first | done | rfl) | (rw [lkG_s (m := m) hm1, show d = 3 by omega]))) (jL_c (jv_I (by first | exact lkG_i1 | exact lkG_i2 | rfl | (rw [lkG_f (f0 := 7) (fit := (kindsN NC nn a)) (m := m) (d := d) hm1 (by omega) (by omega)]) | (rw [lkG_t (f0 := 7) (fit := (kindsN NC nn a)) (m := m) (d := d) hm1 (by omega) (by omega)]; first | done | rfl) | (rw [lkG_s (m := m) hm1, show d = 3 by omega]))) (jL_c rfl (jL_c rfl (jL_c rfl rfl))))))) rfl ?_
          exact ih49 (m + 1) 0 LV1 (by omega) (by first | assumption | omega) (by first | assumption | omega) (by first | assumption | omega)
      · skip
        refine J_aload_n dX7_look_55 rfl ?_
        refine J_iload_n dX7_look_56 rfl ?_
        refine J_iload dX7_look_57 rfl ?_
        refine J_iload dX7_look_59 rfl ?_
        refine J_callVr (M' := mX7_mostAlike) (d' := (2, 0, 0)) (rest := []) dX7_look_61 jmX7_mostAlike jlRX7_200 (ctX7_mostAlike (kindsN NC nn a) m d ab be bd no fu LV1 ((hset_ne (by omega)).trans H0) hset_eq (by omega) (by first | assumption | omega) (by first | assumption | omega) (by first | assumption | omega)) ((hset_ne (by omega)).trans H0) (by omega) jk7.1 rfl rfl (Nat.le_of_ble_eq_true rfl) (Nat.le_of_ble_eq_true rfl) ⟨Nat.le_refl _, Nat.le_refl _⟩ ?_
        refine J.cast hset_hset ?_
        have fc7 : mostA (kindsN NC nn a) m d 6 ≤ 6 := mostA_le 6
        refine J_istore dX7_look_64 (Nat.le_of_ble_eq_true rfl) (L' := [(7, .int (nI (mostA (kindsN NC nn a) m d 6))), (6, .int (nI d)), (5, .int (nI m)), (4, .int (nI ((lkG 7 (kindsN NC nn a) (10 * m + d - 10)).2))), (3, .int (oI (lkG 7 (kindsN NC nn a) (10 * m + d - 10)).1)), (2, .int (nI (kindsN NC nn a))), (0, .ref (E.1 + 0)), (1, .int (nI a))]) rfl ?_
        refine J_iload dX7_look_66 rfl ?_
        refine J_iload dX7_look_68 rfl ?_
        refine J_icmp_geN (tgt := 86) dX7_look_70 (by decide) (by omega) (by omega) (fun c8 => ?_) (fun c8 => ?_)
        · skip
          refine J_iincN (q := 1) (a := d) (m := 1) dX7_look_86 rfl (by decide +kernel) (Nat.le_of_ble_eq_true rfl) (L' := [(6, .int (nI (d + 1))), (7, .int (nI (mostA (kindsN NC nn a) m d 6))), (5, .int (nI m)), (4, .int (nI ((lkG 7 (kindsN NC nn a) (10 * m + d - 10)).2))), (3, .int (oI (lkG 7 (kindsN NC nn a) (10 * m + d - 10)).1)), (2, .int (nI (kindsN NC nn a))), (0, .ref (E.1 + 0)), (1, .int (nI a))]) rfl ?_
          refine J_goto (tgt := 49) dX7_look_89 (by decide) ?_
          refine J.sub [0, 2, 3, 4, 5, 6, 7] (L' := [(6, .int (nI (d + 1))), (5, .int (nI m)), (4, .int (nI ((lkG 7 (kindsN NC nn a) (10 * m + d - 10)).2))), (3, .int (oI (lkG 7 (kindsN NC nn a) (10 * m + d - 10)).1)), (2, .int (nI (kindsN NC nn a))), (0, .ref (E.1 + 0)), (1, .int (nI a))]) rfl ?_
          refine J.eqs (h' := (hset h 37 (cI E 6 (mlF (kindsN NC nn a) m d LV1 6)))) (L' := [(6, .int (nI (d + 1))), (5, .int (nI m)), (4, .int (nI ((lkG 7 (kindsN NC nn a) (10 * m + (d + 1) - 10)).2))), (3, .int (oI (lkG 7 (kindsN NC nn a) (10 * m + (d + 1) - 10)).1)), (2, .int (nI (kindsN NC nn a))), (0, .ref (E.1 + 0)), (1, .int (nI a))]) (st' := []) rfl (jL_c rfl (jL_c rfl (jL_c (jv_N (by first | exact lkG_i1 | exact lkG_i2 | rfl | (rw [lkG_f (f0 := 7) (fit := (kindsN NC nn a)) (m := m) (d := d) hm1 (by omega) (by omega)]) | (rw [lkG_t (f0 := 7) (fit := (kindsN NC nn a)) (m := m) (d := d) hm1 (by omega) (by omega)]; first | done | rfl) | (rw [lkG_s (m := m) hm1, show d = 3 by omega]))) (jL_c (jv_I (by first | exact lkG_i1 | exact lkG_i2 | rfl | (rw [lkG_f (f0 := 7) (fit := (kindsN NC nn a)) (m := m) (d := d) hm1 (by omega) (by omega)]) | (rw [lkG_t (f0 := 7) (fit := (kindsN NC nn a)) (m := m) (d := d) hm1 (by omega) (by omega)]; first | done | rfl) | (rw [lkG_s (m := m) hm1, show d = 3 by omega]))) (jL_c rfl (jL_c rfl (jL_c rfl rfl))))))) rfl ?_
          exact ih49 m (d + 1) (mlF (kindsN NC nn a) m d LV1 6) (by omega) (by first | assumption | omega) (by first | assumption | omega) (by first | assumption | omega)
        · skip
          refine J_iload dX7_look_73 rfl ?_
          refine J_istore dX7_look_75 (Nat.le_of_ble_eq_true rfl) (L' := [(4, .int (nI (mostA (kindsN NC nn a) m d 6))), (7, .int (nI (mostA (kindsN NC nn a) m d 6))), (6, .int (nI d)), (5, .int (nI m)), (3, .int (oI (lkG 7 (kindsN NC nn a) (10 * m + d - 10)).1)), (2, .int (nI (kindsN NC nn a))), (0, .ref (E.1 + 0)), (1, .int (nI a))]) rfl ?_
          refine J_bipush (v := nI 10) dX7_look_77 (by decide +kernel) ?_
          refine J_iload dX7_look_79 rfl ?_
          refine J_imulN dX7_look_81 ?_
          refine J_iload dX7_look_82 rfl ?_
          refine J_iaddN dX7_look_84 ?_
          refine J_istore_n dX7_look_85 (Nat.le_of_ble_eq_true rfl) (L' := [(3, .int (nI ((10 * m) + d))), (4, .int (nI (mostA (kindsN NC nn a) m d 6))), (7, .int (nI (mostA (kindsN NC nn a) m d 6))), (6, .int (nI d)), (5, .int (nI m)), (2, .int (nI (kindsN NC nn a))), (0, .ref (E.1 + 0)), (1, .int (nI a))]) rfl ?_
          refine J_iincN (q := 3) (a := d) (m := 1) dX7_look_86 rfl (by decide +kernel) (Nat.le_of_ble_eq_true rfl) (L' := [(6, .int (nI (d + 1))), (3, .int (nI ((10 * m) + d))), (4, .int (nI (mostA (kindsN NC nn a) m d 6))), (7, .int (nI (mostA (kindsN NC nn a) m d 6))), (5, .int (nI m)), (2, .int (nI (kindsN NC nn a))), (0, .ref (E.1 + 0)), (1, .int (nI a))]) rfl ?_
          refine J_goto (tgt := 49) dX7_look_89 (by decide) ?_
          refine J.sub [0, 4, 2, 1, 5, 6, 7] (L' := [(6, .int (nI (d + 1))), (5, .int (nI m)), (4, .int (nI (mostA (kindsN NC nn a) m d 6))), (3, .int (nI ((10 * m) + d))), (2, .int (nI (kindsN NC nn a))), (0, .ref (E.1 + 0)), (1, .int (nI a))]) rfl ?_
          refine J.eqs (h' := (hset h 37 (cI E 6 (mlF (kindsN NC nn a) m d LV1 6)))) (L' := [(6, .int (nI (d + 1))), (5, .int (nI m)), (4, .int (nI ((lkG 7 (kindsN NC nn a) (10 * m + (d + 1) - 10)).2))), (3, .int (oI (lkG 7 (kindsN NC nn a) (10 * m + (d + 1) - 10)).1)), (2, .int (nI (kindsN NC nn a))), (0, .ref (E.1 + 0)), (1, .int (nI a))]) (st' := []) rfl (jL_c rfl (jL_c rfl (jL_c (jv_N (by first | exact lkG_i1 | exact lkG_i2 | rfl | (rw [lkG_f (f0 := 7) (fit := (kindsN NC nn a)) (m := m) (d := d) hm1 (by omega) (by omega)]) | (rw [lkG_t (f0 := 7) (fit := (kindsN NC nn a)) (m := m) (d := d) hm1 (by omega) (by omega)]; first | done | rfl) | (rw [lkG_s (m := m) hm1, show d = 3 by omega]))) (jL_c (jv_I (a := nI ((10 * m) + d)) (by first | exact lkG_i1 | exact lkG_i2 | rfl | (rw [lkG_f (f0 := 7) (fit := (kindsN NC nn a)) (m := m) (d := d) hm1 (by omega) (by omega)]) | (rw [lkG_t (f0 := 7) (fit := (kindsN NC nn a)) (m := m) (d := d) hm1 (by omega) (by omega)]; first | done | rfl) | (rw [lkG_s (m := m) hm1, show d = 3 by omega]))) (jL_c rfl (jL_c rfl (jL_c rfl rfl))))))) rfl ?_
          exact ih49 m (d + 1) (mlF (kindsN NC nn a) m d LV1 6) (by omega) (by first | assumption | omega) (by first | assumption | omega) (by first | assumption | omega)
  refine J.eqs (h' := (hset h 37 (cI E 6 LV))) (L' := [(6, .int (nI 0)), (5, .int (nI 1)), (4, .int (nI ((lkG 7 (kindsN NC nn a) (10 * 1 + 0 - 10)).2))), (3, .int (oI (lkG 7 (kindsN NC nn a) (10 * 1 + 0 - 10)).1)), (2, .int (nI (kindsN NC nn a))), (0, .ref (E.1 + 0)), (1, .int (nI a))]) (st' := []) ((show h = (hset h 37 (cI E 6 LV)) by funext z; simp only [hset]; (repeat' split) <;> first | rfl | (exfalso; omega) | (subst_vars; first | exact H4)).trans (hset_cg rfl rfl)) (jL_c rfl (jL_c rfl (jL_c (jv_N (by first | exact lkG_i1 | exact lkG_i2 | rfl | (rw [lkG_f (f0 := 7) (fit := (kindsN NC nn a)) (m := m) (d := d) hm1 (by omega) (by omega)]) | (rw [lkG_t (f0 := 7) (fit := (kindsN NC nn a)) (m := m) (d := d) hm1 (by omega) (by omega)]; first | done | rfl) | (rw [lkG_s (m := m) hm1, show d = 3 by omega]))) (jL_c (jv_I (by first | exact lkG_i1 | exact lkG_i2 | rfl | (rw [lkG_f (f0 := 7) (fit := (kindsN NC nn a)) (m := m) (d := d) hm1 (by omega) (by omega)]) | (rw [lkG_t (f0 := 7) (fit := (kindsN NC nn a)) (m := m) (d := d) hm1 (by omega) (by omega)]; first | done | rfl) | (rw [lkG_s (m := m) hm1, show d = 3 by omega]))) (jL_c rfl (jL_c rfl (jL_c rfl rfl))))))) rfl ?_
  exact CUT49 (4 * (21 - 1) + (3 - 0) + 1) 1 0 LV (Nat.lt_succ_self _) (by first | assumption | omega) (by first | assumption | omega) (by first | assumption | omega)
