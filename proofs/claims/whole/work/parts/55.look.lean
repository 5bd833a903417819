set_option maxHeartbeats 1000000 in
set_option maxRecDepth 100000 in
theorem ctX8_look_bad {E : jE} {h : Nat → va_E} {n : Nat} (a : Nat) (xa : Nat) (xb : Nat) (dt : Nat) (mo : Nat) (bn : Nat) (ta : Nat) (tl : Nat) (tk : Nat) (va : Nat) (RF : Nat → Nat) (Q : Nat → Nat) (H0 : h 38 = .inr (7, [.ref (E.1 + 39), .ref (E.1 + 40), .ref (E.1 + 41), .ref (E.1 + 42), .long (lN xa), .long (lN xb), .ref (E.1 + 43), .int (nI dt), .ref (E.1 + 44), .ref (E.1 + 45), .int (nI mo), .ref (E.1 + 46), .ref (E.1 + 47), .int (nI bn), .int (nI ta), .int (nI tl), .int (nI tk), .int (nI va), .ref (E.1 + 48), .ref (E.1 + 49)])) (H1 : h 42 = cI E 3 (nF RF)) (H2 : h 39 = cI E 218 (nF Q)) (hn : 50 ≤ n) (h32a : a < 2 ^ 32) (hn4 : Q 0 ≤ 4) (hbad : ¬ a < Q 0) : jC E mX8_look (3, 0, 0) [.ref (E.1 + 38), .int (nI a)] h n (jR (some (.int (-2))) (hset h 42 (cI E 3 (nF (updN RF 0 (RF 0 + 1))))) n) := by
  refine J.of (L := [(0, .ref (E.1 + 38)), (1, .int (nI a))]) rfl (by decide +kernel) (Nat.le_of_ble_eq_true rfl) ?_
  obtain ⟨PP, hPP⟩ : ∃ PP : jPost, PP = (jR (some (.int (-2))) (hset h 42 (cI E 3 (nF (updN RF 0 (RF 0 + 1))))) n) := ⟨_, rfl⟩
  rw [← hPP]
  refine J_aload_n dX8_look_0 rfl ?_
  refine J_iload_n dX8_look_1 rfl ?_
  refine J_callVr (M' := mX8_isAnvil) (d' := (2, 0, 0)) (rest := []) dX8_look_2 jmX8_isAnvil jlRX8_107 (ctX8_isAnvil a xa xb dt mo bn ta tl tk va Q H0 H2 (by omega) (by first | assumption | omega) (by first | assumption | omega)) H0 (by omega) jk8.1 rfl rfl (Nat.le_of_ble_eq_true rfl) (Nat.le_of_ble_eq_true rfl) ⟨Nat.le_refl _, Nat.le_refl _⟩ ?_
  refine J_if_neB (tgt := 15) dX8_look_5 (by decide) (fun c1 => (by exfalso; omega)) (fun c1 => ?_)
  refine J_aload_n dX8_look_8 rfl ?_
  refine J_bipush (v := (-2)) dX8_look_9 (by decide +kernel) ?_
  refine J_callVr (M' := mX8_bad) (d' := (1, 0, 0)) (rest := []) dX8_look_11 jmX8_bad jlRX8_66 (ctX8_bad (-2) xa xb dt mo bn ta tl tk va RF H0 H1 (by omega) ) H0 (by omega) jk8.1 rfl rfl (Nat.le_of_ble_eq_true rfl) (Nat.le_of_ble_eq_true rfl) ⟨Nat.le_refl _, Nat.le_refl _⟩ ?_
  exact J_iret dX8_look_14 rfl ⟨Nat.le_refl _, Nat.le_refl _⟩ (by rw [hPP]; exact ⟨rfl, rfl, rfl⟩)

set_option maxHeartbeats 1000000 in
set_option maxRecDepth 100000 in
theorem ctX8_look_0 {E : jE} {h : Nat → va_E} {n : Nat} (a : Nat) (xa : Nat) (xb : Nat) (dt : Nat) (mo : Nat) (bn : Nat) (ta : Nat) (tl : Nat) (tk : Nat) (va : Nat) (Q : Nat → Nat) (MB : Nat → Nat) (H0 : h 38 = .inr (7, [.ref (E.1 + 39), .ref (E.1 + 40), .ref (E.1 + 41), .ref (E.1 + 42), .long (lN xa), .long (lN xb), .ref (E.1 + 43), .int (nI dt), .ref (E.1 + 44), .ref (E.1 + 45), .int (nI mo), .ref (E.1 + 46), .ref (E.1 + 47), .int (nI bn), .int (nI ta), .int (nI tl), .int (nI tk), .int (nI va), .ref (E.1 + 48), .ref (E.1 + 49)])) (H1 : h 39 = cI E 218 (nF Q)) (H2 : h 46 = cI E 21 (nF MB)) (hn : 50 ≤ n) (hn4 : Q 0 ≤ 4) (ha : a < Q 0) (hn1 : Q 1 ≤ 6) (hNQ : ∀ zz, zz < 24 → Q (26 + zz) ≤ 99) (h0 : bitsN (fun kd => noteR Q a kd (Q 1)) 6 = 0) : jC E mX8_look (3, 0, 0) [.ref (E.1 + 38), .int (nI a)] h n (jR (some (.int (-1))) h n) := by
  refine J.of (L := [(0, .ref (E.1 + 38)), (1, .int (nI a))]) rfl (by decide +kernel) (Nat.le_of_ble_eq_true rfl) ?_
  obtain ⟨PP, hPP⟩ : ∃ PP : jPost, PP = (jR (some (.int (-1))) h n) := ⟨_, rfl⟩
  rw [← hPP]
  refine J_aload_n dX8_look_0 rfl ?_
  refine J_iload_n dX8_look_1 rfl ?_
  refine J_callVr (M' := mX8_isAnvil) (d' := (2, 0, 0)) (rest := []) dX8_look_2 jmX8_isAnvil jlRX8_107 (ctX8_isAnvil a xa xb dt mo bn ta tl tk va Q H0 H1 (by omega) (by first | assumption | omega) (by first | assumption | omega)) H0 (by omega) jk8.1 rfl rfl (Nat.le_of_ble_eq_true rfl) (Nat.le_of_ble_eq_true rfl) ⟨Nat.le_refl _, Nat.le_refl _⟩ ?_
  refine J_if_neB (tgt := 15) dX8_look_5 (by decide) (fun c1 => ?_) (fun c1 => (by exfalso; omega))
  refine J_aload_n dX8_look_15 rfl ?_
  refine J_iload_n dX8_look_16 rfl ?_
  refine J_callVr (M' := mX8_kindsOf) (d' := (2, 0, 0)) (rest := []) dX8_look_17 jmX8_kindsOf jlRX8_155 (ctX8_kindsOf a xa xb dt mo bn ta tl tk va Q H0 H1 (by omega) (by first | assumption | omega) (by first | assumption | omega) (by first | assumption | omega)) H0 (by omega) jk8.1 rfl rfl (Nat.le_of_ble_eq_true rfl) (Nat.le_of_ble_eq_true rfl) ⟨Nat.le_refl _, Nat.le_refl _⟩ ?_
  have fc2 : bitsN (fun kd => noteR Q a kd (Q 1)) 6 < 2 ^ 6 := bitsN_lt 6
  refine J_istore_n dX8_look_20 (Nat.le_of_ble_eq_true rfl) (L' := [(2, .int (nI (bitsN (fun kd => noteR Q a kd (Q 1)) 6))), (0, .ref (E.1 + 38)), (1, .int (nI a))]) rfl ?_
  refine J_iconst (v := (-1)) dX8_look_21 (by decide +kernel) ?_
  refine J_istore_n dX8_look_22 (Nat.le_of_ble_eq_true rfl) (L' := [(3, .int (-1)), (2, .int (nI (bitsN (fun kd => noteR Q a kd (Q 1)) 6))), (0, .ref (E.1 + 38)), (1, .int (nI a))]) rfl ?_
  refine J_ldc dX8_look_23 jqRX8_148 ?_
  refine J.stk (st' := .int (nI 1000000) :: []) rfl ?_
  refine J_istore dX8_look_25 (Nat.le_of_ble_eq_true rfl) (L' := [(4, .int (nI 1000000)), (3, .int (-1)), (2, .int (nI (bitsN (fun kd => noteR Q a kd (Q 1)) 6))), (0, .ref (E.1 + 38)), (1, .int (nI a))]) rfl ?_
  refine J_bipush (v := nI 10) dX8_look_27 (by decide +kernel) ?_
  refine J_istore dX8_look_29 (Nat.le_of_ble_eq_true rfl) (L' := [(5, .int (nI 10)), (4, .int (nI 1000000)), (3, .int (-1)), (2, .int (nI (bitsN (fun kd => noteR Q a kd (Q 1)) 6))), (0, .ref (E.1 + 38)), (1, .int (nI a))]) rfl ?_
  refine J_iload dX8_look_31 rfl ?_
  refine J_sipush (v := nI 203) dX8_look_33 (by decide +kernel) ?_
  refine J_icmp_geN (tgt := 206) dX8_look_36 (by decide) (by omega) (by omega) (fun z => absurd z (by decide)) (fun _ => ?_)
  refine J_iload_n dX8_look_39 rfl ?_
  refine J_if_leN (tgt := 206) dX8_look_40 (by decide) (by omega) (fun c4 => ?_) (fun c4 => (by exfalso; omega))
  refine J_iload_n dX8_look_206 rfl ?_
  exact J_iret dX8_look_207 rfl ⟨Nat.le_refl _, Nat.le_refl _⟩ (by rw [hPP]; exact ⟨rfl, rfl, rfl⟩)

set_option maxHeartbeats 1000000 in
set_option maxRecDepth 100000 in
theorem ctX8_look {E : jE} {h : Nat → va_E} {n : Nat} (a : Nat) (xa : Nat) (xb : Nat) (dt : Nat) (mo : Nat) (bn : Nat) (ta : Nat) (tl : Nat) (tk : Nat) (va : Nat) (Q : Nat → Nat) (MB : Nat → Nat) (H0 : h 38 = .inr (7, [.ref (E.1 + 39), .ref (E.1 + 40), .ref (E.1 + 41), .ref (E.1 + 42), .long (lN xa), .long (lN xb), .ref (E.1 + 43), .int (nI dt), .ref (E.1 + 44), .ref (E.1 + 45), .int (nI mo), .ref (E.1 + 46), .ref (E.1 + 47), .int (nI bn), .int (nI ta), .int (nI tl), .int (nI tk), .int (nI va), .ref (E.1 + 48), .ref (E.1 + 49)])) (H1 : h 39 = cI E 218 (nF Q)) (H2 : h 46 = cI E 21 (nF MB)) (hn : 50 ≤ n) (hn4 : Q 0 ≤ 4) (ha : a < Q 0) (hn1 : Q 1 ≤ 6) (hNQ : ∀ zz, zz < 24 → Q (26 + zz) ≤ 99) (h0 : 0 < bitsN (fun kd => noteR Q a kd (Q 1)) 6) : jC E mX8_look (3, 0, 0) [.ref (E.1 + 38), .int (nI a)] h n (fun v h' n' => v = some (.int (oI (lkG 1000000 (bitsN (fun kd => noteR Q a kd (Q 1)) 6) 193).1)) ∧ n' = n ∧ ∃ MB1 : Nat → Nat, h' = hset h 46 (cI E 21 (nF MB1))) := by
  refine J.of (L := [(0, .ref (E.1 + 38)), (1, .int (nI a))]) rfl (by decide +kernel) (Nat.le_of_ble_eq_true rfl) ?_
  obtain ⟨PP, hPP⟩ : ∃ PP : jPost, PP = (fun v h' n' => v = some (.int (oI (lkG 1000000 (bitsN (fun kd => noteR Q a kd (Q 1)) 6) 193).1)) ∧ n' = n ∧ ∃ MB1 : Nat → Nat, h' = hset h 46 (cI E 21 (nF MB1))) := ⟨_, rfl⟩
  rw [← hPP]
  refine J_aload_n dX8_look_0 rfl ?_
  refine J_iload_n dX8_look_1 rfl ?_
  refine J_callVr (M' := mX8_isAnvil) (d' := (2, 0, 0)) (rest := []) dX8_look_2 jmX8_isAnvil jlRX8_107 (ctX8_isAnvil a xa xb dt mo bn ta tl tk va Q H0 H1 (by omega) (by first | assumption | omega) (by first | assumption | omega)) H0 (by omega) jk8.1 rfl rfl (Nat.le_of_ble_eq_true rfl) (Nat.le_of_ble_eq_true rfl) ⟨Nat.le_refl _, Nat.le_refl _⟩ ?_
  refine J_if_neB (tgt := 15) dX8_look_5 (by decide) (fun c1 => ?_) (fun c1 => (by exfalso; omega))
  refine J_aload_n dX8_look_15 rfl ?_
  refine J_iload_n dX8_look_16 rfl ?_
  refine J_callVr (M' := mX8_kindsOf) (d' := (2, 0, 0)) (rest := []) dX8_look_17 jmX8_kindsOf jlRX8_155 (ctX8_kindsOf a xa xb dt mo bn ta tl tk va Q H0 H1 (by omega) (by first | assumption | omega) (by first | assumption | omega) (by first | assumption | omega)) H0 (by omega) jk8.1 rfl rfl (Nat.le_of_ble_eq_true rfl) (Nat.le_of_ble_eq_true rfl) ⟨Nat.le_refl _, Nat.le_refl _⟩ ?_
  have fc2 : bitsN (fun kd => noteR Q a kd (Q 1)) 6 < 2 ^ 6 := bitsN_lt 6
  refine J_istore_n dX8_look_20 (Nat.le_of_ble_eq_true rfl) (L' := [(2, .int (nI (bitsN (fun kd => noteR Q a kd (Q 1)) 6))), (0, .ref (E.1 + 38)), (1, .int (nI a))]) rfl ?_
  refine J_iconst (v := (-1)) dX8_look_21 (by decide +kernel) ?_
  refine J_istore_n dX8_look_22 (Nat.le_of_ble_eq_true rfl) (L' := [(3, .int (-1)), (2, .int (nI (bitsN (fun kd => noteR Q a kd (Q 1)) 6))), (0, .ref (E.1 + 38)), (1, .int (nI a))]) rfl ?_
  refine J_ldc dX8_look_23 jqRX8_148 ?_
  refine J.stk (st' := .int (nI 1000000) :: []) rfl ?_
  refine J_istore dX8_look_25 (Nat.le_of_ble_eq_true rfl) (L' := [(4, .int (nI 1000000)), (3, .int (-1)), (2, .int (nI (bitsN (fun kd => noteR Q a kd (Q 1)) 6))), (0, .ref (E.1 + 38)), (1, .int (nI a))]) rfl ?_
  refine J_bipush (v := nI 10) dX8_look_27 (by decide +kernel) ?_
  refine J_istore dX8_look_29 (Nat.le_of_ble_eq_true rfl) (L' := [(5, .int (nI 10)), (4, .int (nI 1000000)), (3, .int (-1)), (2, .int (nI (bitsN (fun kd => noteR Q a kd (Q 1)) 6))), (0, .ref (E.1 + 38)), (1, .int (nI a))]) rfl ?_
  have CUT31 : ∀ (f31 : Nat) (i : Nat) (MB1 : Nat → Nat) (hm31 : 203 - i < f31) (hi10 : 10 ≤ i) (hi : i ≤ 203), J E mX8_look (3, 0, 0) jS0 PP (hset h 46 (cI E 21 (nF MB1))) n (0, 0) 31 [(5, .int (nI i)), (4, .int (nI ((lkG 1000000 (bitsN (fun kd => noteR Q a kd (Q 1)) 6) (i - 10)).2))), (3, .int (oI (lkG 1000000 (bitsN (fun kd => noteR Q a kd (Q 1)) 6) (i - 10)).1)), (2, .int (nI (bitsN (fun kd => noteR Q a kd (Q 1)) 6))), (0, .ref (E.1 + 38)), (1, .int (nI a))] [] := by
    intro f31
    induction f31 with
    | zero => intro i MB1 hm31; exact absurd hm31 (Nat.not_lt_zero _)
    | succ f31 ih31 =>
      intro i MB1 hm31 hi10 hi
      have gl := lkG_le (f0 := 1000000) (fit := bitsN (fun kd => noteR Q a kd (Q 1)) 6) (by omega) (i - 10)
      refine J_iload dX8_look_31 rfl ?_
      refine J_sipush (v := nI 203) dX8_look_33 (by decide +kernel) ?_
      refine J_icmp_geN (tgt := 206) dX8_look_36 (by decide) (by omega) (by omega) (fun c3 => ?_) (fun c3 => ?_)
      · skip
        refine J_iload_n dX8_look_206 rfl ?_
        exact J_iret dX8_look_207 rfl ⟨Nat.le_refl _, Nat.le_refl _⟩ (by rw [hPP]; first | (exfalso; omega) | exact ⟨congrArg (fun z => some (Value.int z)) (by rw [show i - 10 = 193 by omega]), rfl, MB1, rfl⟩)
      · skip
        refine J_iload_n dX8_look_39 rfl ?_
        refine J_if_leN (tgt := 206) dX8_look_40 (by decide) (by omega) (fun c4 => (by exfalso; omega)) (fun c4 => ?_)
        have CUT58 : ∀ (w : Nat) (hw0 : (i % 10 < 3 ∧ w = 0) ∨ (3 ≤ i % 10 ∧ w = 1000000)), J E mX8_look (3, 0, 0) jS0 PP (hset h 46 (cI E 21 (nF MB1))) n (0, 0) 58 [(5, .int (nI i)), (4, .int (nI ((lkG 1000000 (bitsN (fun kd => noteR Q a kd (Q 1)) 6) (i - 10)).2))), (3, .int (oI (lkG 1000000 (bitsN (fun kd => noteR Q a kd (Q 1)) 6) (i - 10)).1)), (2, .int (nI (bitsN (fun kd => noteR Q a kd (Q 1)) 6))), (0, .ref (E.1 + 38)), (1, .int (nI a))] [.int (nI w)] := by
          intro w hw0
          refine J_istore dX8_look_58 (Nat.le_of_ble_eq_true rfl) (L' := [(6, .int (nI w)), (5, .int (nI i)), (4, .int (nI ((lkG 1000000 (bitsN (fun kd => noteR Q a kd (Q 1)) 6) (i - 10)).2))), (3, .int (oI (lkG 1000000 (bitsN (fun kd => noteR Q a kd (Q 1)) 6) (i - 10)).1)), (2, .int (nI (bitsN (fun kd => noteR Q a kd (Q 1)) 6))), (0, .ref (E.1 + 38)), (1, .int (nI a))]) rfl ?_
          refine J_iconst (v := nI 0) dX8_look_60 (by decide +kernel) ?_
          refine J_istore dX8_look_61 (Nat.le_of_ble_eq_true rfl) (L' := [(7, .int (nI 0)), (6, .int (nI w)), (5, .int (nI i)), (4, .int (nI ((lkG 1000000 (bitsN (fun kd => noteR Q a kd (Q 1)) 6) (i - 10)).2))), (3, .int (oI (lkG 1000000 (bitsN (fun kd => noteR Q a kd (Q 1)) 6) (i - 10)).1)), (2, .int (nI (bitsN (fun kd => noteR Q a kd (Q 1)) 6))), (0, .ref (E.1 + 38)), (1, .int (nI a))]) rfl ?_
          have CUT63 : ∀ (f63 : Nat) (j : Nat) (MB2 : Nat → Nat) (hm63 : 21 - j < f63) (hj : j ≤ 21) (hz : ∀ v, v < j → MB2 v = 0), J E mX8_look (3, 0, 0) jS0 PP (hset h 46 (cI E 21 (nF MB2))) n (0, 0) 63 [(7, .int (nI j)), (6, .int (nI w)), (5, .int (nI i)), (4, .int (nI ((lkG 1000000 (bitsN (fun kd => noteR Q a kd (Q 1)) 6) (i - 10)).2))), (3, .int (oI (lkG 1000000 (bitsN (fun kd => noteR Q a kd (Q 1)) 6) (i - 10)).1)), (2, .int (nI (bitsN (fun kd => noteR Q a kd (Q 1)) 6))), (0, .ref (E.1 + 38)), (1, .int (nI a))] [] := by
            intro f63
            induction f63 with
            | zero => intro j MB2 hm63; exact absurd hm63 (Nat.not_lt_zero _)
            | succ f63 ih63 =>
              intro j MB2 hm63 hj hz
              refine J_iload dX8_look_63 rfl ?_
              refine J_bipush (v := nI 20) dX8_look_65 (by decide +kernel) ?_
              refine J_icmp_gtN (tgt := 84) dX8_look_67 (by decide) (by omega) (by omega) (fun c5 => ?_) (fun c5 => ?_)
              · skip
                refine J_iconst (v := nI 0) dX8_look_84 (by decide +kernel) ?_
                refine J_istore dX8_look_85 (Nat.le_of_ble_eq_true rfl) (L' := [(7, .int (nI 0)), (6, .int (nI w)), (5, .int (nI i)), (4, .int (nI ((lkG 1000000 (bitsN (fun kd => noteR Q a kd (Q 1)) 6) (i - 10)).2))), (3, .int (oI (lkG 1000000 (bitsN (fun kd => noteR Q a kd (Q 1)) 6) (i - 10)).1)), (2, .int (nI (bitsN (fun kd => noteR Q a kd (Q 1)) 6))), (0, .ref (E.1 + 38)), (1, .int (nI a))]) rfl ?_
                have CUT87 : ∀ (f87 : Nat) (j2 : Nat) (w2 : Nat) (MB3 : Nat → Nat) (hm87 : 6 - j2 < f87) (hj2 : j2 ≤ 6) (hw : lkW (bitsN (fun kd => noteR Q a kd (Q 1)) 6) i j2 w2 MB3), J E mX8_look (3, 0, 0) jS0 PP (hset h 46 (cI E 21 (nF MB3))) n (0, 0) 87 [(7, .int (nI j2)), (6, .int (nI w2)), (5, .int (nI i)), (4, .int (nI ((lkG 1000000 (bitsN (fun kd => noteR Q a kd (Q 1)) 6) (i - 10)).2))), (3, .int (oI (lkG 1000000 (bitsN (fun kd => noteR Q a kd (Q 1)) 6) (i - 10)).1)), (2, .int (nI (bitsN (fun kd => noteR Q a kd (Q 1)) 6))), (0, .ref (E.1 + 38)), (1, .int (nI a))] [] := by
                  intro f87
                  induction f87 with
                  | zero => intro j2 w2 MB3 hm87; exact absurd hm87 (Nat.not_lt_zero _)
                  | succ f87 ih87 =>
                    intro j2 w2 MB3 hm87 hj2 hw
                    have sp6 : (i % 10 < 3 ∧ w2 = mostM (bitsN (fun kd => noteR Q a kd (Q 1)) 6) (i / 10) (i % 10) j2 ∧ ∀ v, v < 21 → MB3 v = cntA (bitsN (fun kd => noteR Q a kd (Q 1)) 6) (i / 10) (i % 10) v j2) ∨ (3 ≤ i % 10 ∧ w2 = 1000000) := by exact hw
                    rcases sp6 with sp6 | sp6
                    · skip
                      obtain ⟨c1, c2, c3⟩ := sp6
                      have hM2 := mostM_le (fit := bitsN (fun kd => noteR Q a kd (Q 1)) 6) (m := i / 10) (d := i % 10) j2
                      refine J_iload dX8_look_87 rfl ?_
                      refine J_bipush (v := nI 6) dX8_look_89 (by decide +kernel) ?_
                      refine J_icmp_geN (tgt := 170) dX8_look_91 (by decide) (by omega) (by omega) (fun c7 => ?_) (fun c7 => ?_)
                      · skip
                        refine J_iload dX8_look_170 rfl ?_
                        refine J_iload dX8_look_172 rfl ?_
                        refine J_icmp_geN (tgt := 182) dX8_look_174 (by decide) (by omega) (by omega) (fun c8 => ?_) (fun c8 => ?_)
                        · skip
                          refine J_iload_n dX8_look_182 rfl ?_
                          refine J_istore_n dX8_look_183 (Nat.le_of_ble_eq_true rfl) (L' := [(3, .int (oI (lkG 1000000 (bitsN (fun kd => noteR Q a kd (Q 1)) 6) (i - 10)).1)), (7, .int (nI j2)), (6, .int (nI w2)), (5, .int (nI i)), (4, .int (nI ((lkG 1000000 (bitsN (fun kd => noteR Q a kd (Q 1)) 6) (i - 10)).2))), (2, .int (nI (bitsN (fun kd => noteR Q a kd (Q 1)) 6))), (0, .ref (E.1 + 38)), (1, .int (nI a))]) rfl ?_
                          refine J_iload dX8_look_184 rfl ?_
                          refine J_iload dX8_look_186 rfl ?_
                          refine J_icmp_geN (tgt := 196) dX8_look_188 (by decide) (by omega) (by omega) (fun c9 => ?_) (fun c9 => ?_)
                          · skip
                            refine J_iload dX8_look_196 rfl ?_
                            refine J_istore dX8_look_198 (Nat.le_of_ble_eq_true rfl) (L' := [(4, .int (nI ((lkG 1000000 (bitsN (fun kd => noteR Q a kd (Q 1)) 6) (i - 10)).2))), (3, .int (oI (lkG 1000000 (bitsN (fun kd => noteR Q a kd (Q 1)) 6) (i - 10)).1)), (7, .int (nI j2)), (6, .int (nI w2)), (5, .int (nI i)), (2, .int (nI (bitsN (fun kd => noteR Q a kd (Q 1)) 6))), (0, .ref (E.1 + 38)), (1, .int (nI a))]) rfl ?_
                            refine J_iincN (q := 4) (a := i) (m := 1) dX8_look_200 rfl (by decide +kernel) (Nat.le_of_ble_eq_true rfl) (L' := [(5, .int (nI (i + 1))), (4, .int (nI ((lkG 1000000 (bitsN (fun kd => noteR Q a kd (Q 1)) 6) (i - 10)).2))), (3, .int (oI (lkG 1000000 (bitsN (fun kd => noteR Q a kd (Q 1)) 6) (i - 10)).1)), (7, .int (nI j2)), (6, .int (nI w2)), (2, .int (nI (bitsN (fun kd => noteR Q a kd (Q 1)) 6))), (0, .ref (E.1 + 38)), (1, .int (nI a))]) rfl ?_
                            refine J_goto (tgt := 31) dX8_look_203 (by decide) ?_
                            refine J.sub [0, 1, 2, 5, 6, 7] (L' := [(5, .int (nI (i + 1))), (4, .int (nI ((lkG 1000000 (bitsN (fun kd => noteR Q a kd (Q 1)) 6) (i - 10)).2))), (3, .int (oI (lkG 1000000 (bitsN (fun kd => noteR Q a kd (Q 1)) 6) (i - 10)).1)), (2, .int (nI (bitsN (fun kd => noteR Q a kd (Q 1)) 6))), (0, .ref (E.1 + 38)), (1, .int (nI a))]) rfl ?_
                            refine J.eqs (h' := (hset h 46 (cI E 21 (nF MB3)))) (L' := [(5, .int (nI (i + 1))), (4, .int (nI ((lkG 1000000 (bitsN (fun kd => noteR Q a kd (Q 1)) 6) ((i + 1) - 10)).2))), (3, .int (oI (lkG 1000000 (bitsN (fun kd => noteR Q a kd (Q 1)) 6) ((i + 1) - 10)).1)), (2, .int (nI (bitsN (fun kd => noteR Q a kd (Q 1)) 6))), (0, .ref (E.1 + 38)), (1, .int (nI a))]) (st' := []) rfl (jL_c rfl (jL_c (jv_N (by first | (exfalso; omega) | exact lkG_j1 | exact lkG_j2 | (rw [lkR_t (F := bitsN (fun kd => noteR Q a kd (Q 1)) 6) hi10 c1 c2 (by omega) (by omega)]; first | done | rfl) | (rw [lkR_f (F := bitsN (fun kd => noteR Q a kd (Q 1)) 6) hi10 c2 (by omega) (by omega)]) | (rw [lkR_n (F := bitsN (fun kd => noteR Q a kd (Q 1)) 6) hi10 (by omega)]))) (jL_c (jv_I (by first | (exfalso; omega) | exact lkG_j1 | exact lkG_j2 | (rw [lkR_t (F := bitsN (fun kd => noteR Q a kd (Q 1)) 6) hi10 c1 c2 (by omega) (by omega)]; first | done | rfl) | (rw [lkR_f (F := bitsN (fun kd => noteR Q a kd (Q 1)) 6) hi10 c2 (by omega) (by omega)]) | (rw [lkR_n (F := bitsN (fun kd => noteR Q a kd (Q 1)) 6) hi10 (by omega)]))) (jL_c rfl (jL_c rfl (jL_c rfl rfl)))))) rfl ?_
                            exact ih31 (i + 1) MB3 (by omega) (by first | assumption | omega) (by first | assumption | omega)
                          · skip
                            refine J_iload dX8_look_191 rfl ?_
                            refine J_goto (tgt := 198) dX8_look_193 (by decide) ?_
                            refine J_istore dX8_look_198 (Nat.le_of_ble_eq_true rfl) (L' := [(4, .int (nI w2)), (3, .int (oI (lkG 1000000 (bitsN (fun kd => noteR Q a kd (Q 1)) 6) (i - 10)).1)), (7, .int (nI j2)), (6, .int (nI w2)), (5, .int (nI i)), (2, .int (nI (bitsN (fun kd => noteR Q a kd (Q 1)) 6))), (0, .ref (E.1 + 38)), (1, .int (nI a))]) rfl ?_
                            refine J_iincN (q := 4) (a := i) (m := 1) dX8_look_200 rfl (by decide +kernel) (Nat.le_of_ble_eq_true rfl) (L' := [(5, .int (nI (i + 1))), (4, .int (nI w2)), (3, .int (oI (lkG 1000000 (bitsN (fun kd => noteR Q a kd (Q 1)) 6) (i - 10)).1)), (7, .int (nI j2)), (6, .int (nI w2)), (2, .int (nI (bitsN (fun kd => noteR Q a kd (Q 1)) 6))), (0, .ref (E.1 + 38)), (1, .int (nI a))]) rfl ?_
                            refine J_goto (tgt := 31) dX8_look_203 (by decide) ?_
                            refine J.sub [0, 1, 2, 5, 6, 7] (L' := [(5, .int (nI (i + 1))), (4, .int (nI w2)), (3, .int (oI (lkG 1000000 (bitsN (fun kd => noteR Q a kd (Q 1)) 6) (i - 10)).1)), (2, .int (nI (bitsN (fun kd => noteR Q a kd (Q 1)) 6))), (0, .ref (E.1 + 38)), (1, .int (nI a))]) rfl ?_
                            refine J.eqs (h' := (hset h 46 (cI E 21 (nF MB3)))) (L' := [(5, .int (nI (i + 1))), (4, .int (nI ((lkG 1000000 (bitsN (fun kd => noteR Q a kd (Q 1)) 6) ((i + 1) - 10)).2))), (3, .int (oI (lkG 1000000 (bitsN (fun kd => noteR Q a kd (Q 1)) 6) ((i + 1) - 10)).1)), (2, .int (nI (bitsN (fun kd => noteR Q a kd (Q 1)) 6))), (0, .ref (E.1 + 38)), (1, .int (nI a))]) (st' := []) rfl (jL_c rfl (jL_c (jv_N (by first | (exfalso; omega) | exact lkG_j1 | exact lkG_j2 | (rw [lkR_t (F := bitsN (fun kd => noteR Q a kd (Q 1)) 6) hi10 c1 c2 (by omega) (by omega)]; first | done | rfl) | (rw [lkR_f (F := bitsN (fun kd => noteR Q a kd (Q 1)) 6) hi10 c2 (by omega) (by omega)]) | (rw [lkR_n (F := bitsN (fun kd => noteR Q a kd (Q 1)) 6) hi10 (by omega)]))) (jL_c (jv_I (by first | (exfalso; omega) | exact lkG_j1 | exact lkG_j2 | (rw [lkR_t (F := bitsN (fun kd => noteR Q a kd (Q 1)) 6) hi10 c1 c2 (by omega) (by omega)]; first | done | rfl) | (rw [lkR_f (F := bitsN (fun kd => noteR Q a kd (Q 1)) 6) hi10 c2 (by omega) (by omega)]) | (rw [lkR_n (F := bitsN (fun kd => noteR Q a kd (Q 1)) 6) hi10 (by omega)]))) (jL_c rfl (jL_c rfl (jL_c rfl rfl)))))) rfl ?_
                            exact ih31 (i + 1) MB3 (by omega) (by first | assumption | omega) (by first | assumption | omega)
                        · skip
                          refine J_iload dX8_look_177 rfl ?_
                          refine J_goto (tgt := 183) dX8_look_179 (by decide) ?_
                          refine J_istore_n dX8_look_183 (Nat.le_of_ble_eq_true rfl) (L' := [(3, .int (nI i)), (7, .int (nI j2)), (6, .int (nI w2)), (5, .int (nI i)), (4, .int (nI ((lkG 1000000 (bitsN (fun kd => noteR Q a kd (Q 1)) 6) (i - 10)).2))), (2, .int (nI (bitsN (fun kd => noteR Q a kd (Q 1)) 6))), (0, .ref (E.1 + 38)), (1, .int (nI a))]) rfl ?_
                          refine J_iload dX8_look_184 rfl ?_
                          refine J_iload dX8_look_186 rfl ?_
                          refine J_icmp_geN (tgt := 196) dX8_look_188 (by decide) (by omega) (by omega) (fun c10 => ?_) (fun c10 => ?_)
                          · skip
                            refine J_iload dX8_look_196 rfl ?_
                            refine J_istore dX8_look_198 (Nat.le_of_ble_eq_true rfl) (L' := [(4, .int (nI ((lkG 1000000 (bitsN (fun kd => noteR Q a kd (Q 1)) 6) (i - 10)).2))), (3, .int (nI i)), (7, .int (nI j2)), (6, .int (nI w2)), (5, .int (nI i)), (2, .int (nI (bitsN (fun kd => noteR Q a kd (Q 1)) 6))), (0, .ref (E.1 + 38)), (1, .int (nI a))]) rfl ?_
                            refine J_iincN (q := 4) (a := i) (m := 1) dX8_look_200 rfl (by decide +kernel) (Nat.le_of_ble_eq_true rfl) (L' := [(5, .int (nI (i + 1))), (4, .int (nI ((lkG 1000000 (bitsN (fun kd => noteR Q a kd (Q 1)) 6) (i - 10)).2))), (3, .int (nI i)), (7, .int (nI j2)), (6, .int (nI w2)), (2, .int (nI (bitsN (fun kd => noteR Q a kd (Q 1)) 6))), (0, .ref (E.1 + 38)), (1, .int (nI a))]) rfl ?_
                            refine J_goto (tgt := 31) dX8_look_203 (by decide) ?_
                            refine J.sub [0, 1, 2, 5, 6, 7] (L' := [(5, .int (nI (i + 1))), (4, .int (nI ((lkG 1000000 (bitsN (fun kd => noteR Q a kd (Q 1)) 6) (i - 10)).2))), (3, .int (nI i)), (2, .int (nI (bitsN (fun kd => noteR Q a kd (Q 1)) 6))), (0, .ref (E.1 + 38)), (1, .int (nI a))]) rfl ?_
                            refine J.eqs (h' := (hset h 46 (cI E 21 (nF MB3)))) (L' := [(5, .int (nI (i + 1))), (4, .int (nI ((lkG 1000000 (bitsN (fun kd => noteR Q a kd (Q 1)) 6) ((i + 1) - 10)).2))), (3, .int (oI (lkG 1000000 (bitsN (fun kd => noteR Q a kd (Q 1)) 6) ((i + 1) - 10)).1)), (2, .int (nI (bitsN (fun kd => noteR Q a kd (Q 1)) 6))), (0, .ref (E.1 + 38)), (1, .int (nI a))]) (st' := []) rfl (jL_c rfl (jL_c (jv_N (by first | (exfalso; omega) | exact lkG_j1 | exact lkG_j2 | (rw [lkR_t (F := bitsN (fun kd => noteR Q a kd (Q 1)) 6) hi10 c1 c2 (by omega) (by omega)]; first | done | rfl) | (rw [lkR_f (F := bitsN (fun kd => noteR Q a kd (Q 1)) 6) hi10 c2 (by omega) (by omega)]) | (rw [lkR_n (F := bitsN (fun kd => noteR Q a kd (Q 1)) 6) hi10 (by omega)]))) (jL_c (jv_I (a := nI i) (by first | (exfalso; omega) | exact lkG_j1 | exact lkG_j2 | (rw [lkR_t (F := bitsN (fun kd => noteR Q a kd (Q 1)) 6) hi10 c1 c2 (by omega) (by omega)]; first | done | rfl) | (rw [lkR_f (F := bitsN (fun kd => noteR Q a kd (Q 1)) 6) hi10 c2 (by omega) (by omega)]) | (rw [lkR_n (F := bitsN (fun kd => noteR Q a kd (Q 1)) 6) hi10 (by omega)]))) (jL_c rfl (jL_c rfl (jL_c rfl rfl)))))) rfl ?_
                            exact ih31 (i + 1) MB3 (by omega) (by first | assumption | omega) (by first | assumption | omega)
                          · skip
                            refine J_iload dX8_look_191 rfl ?_
                            refine J_goto (tgt := 198) dX8_look_193 (by decide) ?_
                            refine J_istore dX8_look_198 (Nat.le_of_ble_eq_true rfl) (L' := [(4, .int (nI w2)), (3, .int (nI i)), (7, .int (nI j2)), (6, .int (nI w2)), (5, .int (nI i)), (2, .int (nI (bitsN (fun kd => noteR Q a kd (Q 1)) 6))), (0, .ref (E.1 + 38)), (1, .int (nI a))]) rfl ?_
                            refine J_iincN (q := 4) (a := i) (m := 1) dX8_look_200 rfl (by decide +kernel) (Nat.le_of_ble_eq_true rfl) (L' := [(5, .int (nI (i + 1))), (4, .int (nI w2)), (3, .int (nI i)), (7, .int (nI j2)), (6, .int (nI w2)), (2, .int (nI (bitsN (fun kd => noteR Q a kd (Q 1)) 6))), (0, .ref (E.1 + 38)), (1, .int (nI a))]) rfl ?_
                            refine J_goto (tgt := 31) dX8_look_203 (by decide) ?_
                            refine J.sub [0, 1, 2, 5, 6, 7] (L' := [(5, .int (nI (i + 1))), (4, .int (nI w2)), (3, .int (nI i)), (2, .int (nI (bitsN (fun kd => noteR Q a kd (Q 1)) 6))), (0, .ref (E.1 + 38)), (1, .int (nI a))]) rfl ?_
                            refine J.eqs (h' := (hset h 46 (cI E 21 (nF MB3)))) (L' := [(5, .int (nI (i + 1))), (4, .int (nI ((lkG 1000000 (bitsN (fun kd => noteR Q a kd (Q 1)) 6) ((i + 1) - 10)).2))), (3, .int (oI (lkG 1000000 (bitsN (fun kd => noteR Q a kd (Q 1)) 6) ((i + 1) - 10)).1)), (2, .int (nI (bitsN (fun kd => noteR Q a kd (Q 1)) 6))), (0, .ref (E.1 + 38)), (1, .int (nI a))]) (st' := []) rfl (jL_c rfl (jL_c (jv_N (by first | (exfalso; omega) | exact lkG_j1 | exact lkG_j2 | (rw [lkR_t (F := bitsN (fun kd => noteR Q a kd (Q 1)) 6) hi10 c1 c2 (by omega) (by omega)]; first | done | rfl) | (rw [lkR_f (F := bitsN (fun kd => noteR Q a kd (Q 1)) 6) hi10 c2 (by omega) (by omega)]) | (rw [lkR_n (F := bitsN (fun kd => noteR Q a kd (Q 1)) 6) hi10 (by omega)]))) (jL_c (jv_I (a := nI i) (by first | (exfalso; omega) | exact lkG_j1 | exact lkG_j2 | (rw [lkR_t (F := bitsN (fun kd => noteR Q a kd (Q 1)) 6) hi10 c1 c2 (by omega) (by omega)]; first | done | rfl) | (rw [lkR_f (F := bitsN (fun kd => noteR Q a kd (Q 1)) 6) hi10 c2 (by omega) (by omega)]) | (rw [lkR_n (F := bitsN (fun kd => noteR Q a kd (Q 1)) 6) hi10 (by omega)]))) (jL_c rfl (jL_c rfl (jL_c rfl rfl)))))) rfl ?_
                            exact ih31 (i + 1) MB3 (by omega) (by first | assumption | omega) (by first | assumption | omega)
                      · skip
                        refine J_iload dX8_look_94 rfl ?_
                        refine J_ldc dX8_look_96 jqRX8_148 ?_
                        refine J.stk (st' := .int (nI 1000000) :: [.int (nI w2)]) rfl ?_
                        refine J_icmp_geN (tgt := 170) dX8_look_98 (by decide) (by omega) (by omega) (fun c11 => (by exfalso; omega)) (fun c11 => ?_)
                        refine J_iload_n dX8_look_101 rfl ?_
                        refine J_iload dX8_look_102 rfl ?_
                        refine J_callSr (M' := mX8_has) (d' := (1, 0, 0)) (rest := []) dX8_look_104 jmX8_has jlRX8_158 (ctX8_has (bitsN (fun kd => noteR Q a kd (Q 1)) 6) j2   (by first | assumption | omega) (by first | assumption | omega)) rfl rfl (Nat.le_of_ble_eq_true rfl) (Nat.le_of_ble_eq_true rfl) ⟨Nat.le_refl _, Nat.le_refl _⟩ ?_
                        refine J_if_eqB (tgt := 164) dX8_look_107 (by decide) (fun c12 => ?_) (fun c12 => ?_)
                        · skip
                          refine J_iincN (q := 0) (a := j2) (m := 1) dX8_look_164 rfl (by decide +kernel) (Nat.le_of_ble_eq_true rfl) (L' := [(7, .int (nI (j2 + 1))), (6, .int (nI w2)), (5, .int (nI i)), (4, .int (nI ((lkG 1000000 (bitsN (fun kd => noteR Q a kd (Q 1)) 6) (i - 10)).2))), (3, .int (oI (lkG 1000000 (bitsN (fun kd => noteR Q a kd (Q 1)) 6) (i - 10)).1)), (2, .int (nI (bitsN (fun kd => noteR Q a kd (Q 1)) 6))), (0, .ref (E.1 + 38)), (1, .int (nI a))]) rfl ?_
                          refine J_goto (tgt := 87) dX8_look_167 (by decide) ?_
                          exact ih87 (j2 + 1) w2 MB3 (by omega) (by first | assumption | omega) (by first | exact lkw_0 hw0 (fun v hv => hz v (by omega)) | exact lkw_n c1 c2 c3 (by assumption) | exact lkw_t1 (by omega) c1 c2 c3 (by assumption) (by assumption) | exact lkw_t2 (by omega) c1 c2 c3 (by assumption) (Nat.not_le_of_lt (by omega)))
                        · skip
                          refine J_iload dX8_look_110 rfl ?_
                          refine J_iload dX8_look_112 rfl ?_
                          refine J_bipush (v := nI 10) dX8_look_114 (by decide +kernel) ?_
                          refine J_idivN dX8_look_116 (by omega) (by omega) (by omega) ?_
                          refine J_iload dX8_look_117 rfl ?_
                          refine J_bipush (v := nI 10) dX8_look_119 (by decide +kernel) ?_
                          refine J_iremN dX8_look_121 (by omega) (by omega) (by omega) ?_
                          refine J_callSr (M' := mX8_leftAs) (d' := (1, 0, 0)) (rest := []) dX8_look_122 jmX8_leftAs jlRX8_104 (ctX8_leftAs j2 (i / 10) (i % 10)   (by first | assumption | omega) (by first | assumption | omega) (by first | assumption | omega)) rfl rfl (Nat.le_of_ble_eq_true rfl) (Nat.le_of_ble_eq_true rfl) ⟨Nat.le_refl _, Nat.le_refl _⟩ ?_
                          have hL := leftN_le j2 (i / 10) (i % 10)
                          have hB := c3 (leftN j2 (i / 10) (i % 10)) (by omega)
                          have hC := cntA_le (fit := bitsN (fun kd => noteR Q a kd (Q 1)) 6) (m := i / 10) (d := i % 10) (v := leftN j2 (i / 10) (i % 10)) j2
                          have hU : updN MB3 (leftN j2 (i / 10) (i % 10)) (MB3 (leftN j2 (i / 10) (i % 10)) + 1) (leftN j2 (i / 10) (i % 10)) = MB3 (leftN j2 (i / 10) (i % 10)) + 1 := if_pos rfl
                          refine J_istore dX8_look_125 (Nat.le_of_ble_eq_true rfl) (L' := [(8, .int (nI (leftN j2 (i / 10) (i % 10)))), (7, .int (nI j2)), (6, .int (nI w2)), (5, .int (nI i)), (4, .int (nI ((lkG 1000000 (bitsN (fun kd => noteR Q a kd (Q 1)) 6) (i - 10)).2))), (3, .int (oI (lkG 1000000 (bitsN (fun kd => noteR Q a kd (Q 1)) 6) (i - 10)).1)), (2, .int (nI (bitsN (fun kd => noteR Q a kd (Q 1)) 6))), (0, .ref (E.1 + 38)), (1, .int (nI a))]) rfl ?_
                          refine J_aload_n dX8_look_127 rfl ?_
                          refine J_get 11 dX8_look_128 jk8 (Nat.le_of_ble_eq_true rfl) jfRX8_36 ((hset_ne (by omega)).trans H0) (by omega) rfl ?_
                          refine J_iload dX8_look_131 rfl ?_
                          refine J_dup2 dX8_look_133 rfl rfl ?_
                          refine J_ialdN (i := leftN j2 (i / 10) (i % 10)) dX8_look_134 hset_eq (by omega) (by omega) (by omega) ?_
                          refine J_iconst (v := nI 1) dX8_look_135 (by decide +kernel) ?_
                          refine J_iaddN dX8_look_136 ?_
                          refine J_iastN (i := leftN j2 (i / 10) (i % 10)) (v := (MB3 (leftN j2 (i / 10) (i % 10))) + 1) dX8_look_137 hset_eq (by omega) (by omega) (by omega) ?_
                          refine J.cast hset_hset ?_
                          refine J_aload_n dX8_look_138 rfl ?_
                          refine J_get 11 dX8_look_139 jk8 (Nat.le_of_ble_eq_true rfl) jfRX8_36 ((hset_ne (by omega)).trans H0) (by omega) rfl ?_
                          refine J_iload dX8_look_142 rfl ?_
                          refine J_ialdN (i := leftN j2 (i / 10) (i % 10)) dX8_look_144 hset_eq (by omega) (by omega) (by omega) ?_
                          refine J_iload dX8_look_145 rfl ?_
                          refine J_icmp_leN (tgt := 160) dX8_look_147 (by decide) (by omega) (by omega) (fun c13 => ?_) (fun c13 => ?_)
                          · skip
                            refine J_iload dX8_look_160 rfl ?_
                            refine J_istore dX8_look_162 (Nat.le_of_ble_eq_true rfl) (L' := [(6, .int (nI w2)), (8, .int (nI (leftN j2 (i / 10) (i % 10)))), (7, .int (nI j2)), (5, .int (nI i)), (4, .int (nI ((lkG 1000000 (bitsN (fun kd => noteR Q a kd (Q 1)) 6) (i - 10)).2))), (3, .int (oI (lkG 1000000 (bitsN (fun kd => noteR Q a kd (Q 1)) 6) (i - 10)).1)), (2, .int (nI (bitsN (fun kd => noteR Q a kd (Q 1)) 6))), (0, .ref (E.1 + 38)), (1, .int (nI a))]) rfl ?_
                            refine J_iincN (q := 2) (a := j2) (m := 1) dX8_look_164 rfl (by decide +kernel) (Nat.le_of_ble_eq_true rfl) (L' := [(7, .int (nI (j2 + 1))), (6, .int (nI w2)), (8, .int (nI (leftN j2 (i / 10) (i % 10)))), (5, .int (nI i)), (4, .int (nI ((lkG 1000000 (bitsN (fun kd => noteR Q a kd (Q 1)) 6) (i - 10)).2))), (3, .int (oI (lkG 1000000 (bitsN (fun kd => noteR Q a kd (Q 1)) 6) (i - 10)).1)), (2, .int (nI (bitsN (fun kd => noteR Q a kd (Q 1)) 6))), (0, .ref (E.1 + 38)), (1, .int (nI a))]) rfl ?_
                            refine J_goto (tgt := 87) dX8_look_167 (by decide) ?_
                            refine J.sub [0, 1, 3, 4, 5, 6, 7, 8] (L' := [(7, .int (nI (j2 + 1))), (6, .int (nI w2)), (5, .int (nI i)), (4, .int (nI ((lkG 1000000 (bitsN (fun kd => noteR Q a kd (Q 1)) 6) (i - 10)).2))), (3, .int (oI (lkG 1000000 (bitsN (fun kd => noteR Q a kd (Q 1)) 6) (i - 10)).1)), (2, .int (nI (bitsN (fun kd => noteR Q a kd (Q 1)) 6))), (0, .ref (E.1 + 38)), (1, .int (nI a))]) rfl ?_
                            exact ih87 (j2 + 1) w2 (updN MB3 (leftN j2 (i / 10) (i % 10)) ((MB3 (leftN j2 (i / 10) (i % 10))) + 1)) (by omega) (by first | assumption | omega) (by first | exact lkw_0 hw0 (fun v hv => hz v (by omega)) | exact lkw_n c1 c2 c3 (by assumption) | exact lkw_t1 (by omega) c1 c2 c3 (by assumption) (by assumption) | exact lkw_t2 (by omega) c1 c2 c3 (by assumption) (Nat.not_le_of_lt (by omega)))
                          · skip
                            refine J_aload_n dX8_look_150 rfl ?_
                            refine J_get 11 dX8_look_151 jk8 (Nat.le_of_ble_eq_true rfl) jfRX8_36 ((hset_ne (by omega)).trans H0) (by omega) rfl ?_
                            refine J_iload dX8_look_154 rfl ?_
                            refine J_ialdN (i := leftN j2 (i / 10) (i % 10)) dX8_look_156 hset_eq (by omega) (by omega) (by omega) ?_
                            refine J_goto (tgt := 162) dX8_look_157 (by decide) ?_
                            refine J_istore dX8_look_162 (Nat.le_of_ble_eq_true rfl) (L' := [(6, .int (nI ((updN MB3 (leftN j2 (i / 10) (i % 10)) ((MB3 (leftN j2 (i / 10) (i % 10))) + 1)) (leftN j2 (i / 10) (i % 10))))), (8, .int (nI (leftN j2 (i / 10) (i % 10)))), (7, .int (nI j2)), (5, .int (nI i)), (4, .int (nI ((lkG 1000000 (bitsN (fun kd => noteR Q a kd (Q 1)) 6) (i - 10)).2))), (3, .int (oI (lkG 1000000 (bitsN (fun kd => noteR Q a kd (Q 1)) 6) (i - 10)).1)), (2, .int (nI (bitsN (fun kd => noteR Q a kd (Q 1)) 6))), (0, .ref (E.1 + 38)), (1, .int (nI a))]) rfl ?_
                            refine J_iincN (q := 2) (a := j2) (m := 1) dX8_look_164 rfl (by decide +kernel) (Nat.le_of_ble_eq_true rfl) (L' := [(7, .int (nI (j2 + 1))), (6, .int (nI ((updN MB3 (leftN j2 (i / 10) (i % 10)) ((MB3 (leftN j2 (i / 10) (i % 10))) + 1)) (leftN j2 (i / 10) (i % 10))))), (8, .int (nI (leftN j2 (i / 10) (i % 10)))), (5, .int (nI i)), (4, .int (nI ((lkG 1000000 (bitsN (fun kd => noteR Q a kd (Q 1)) 6) (i - 10)).2))), (3, .int (oI (lkG 1000000 (bitsN (fun kd => noteR Q a kd (Q 1)) 6) (i - 10)).1)), (2, .int (nI (bitsN (fun kd => noteR Q a kd (Q 1)) 6))), (0, .ref (E.1 + 38)), (1, .int (nI a))]) rfl ?_
                            refine J_goto (tgt := 87) dX8_look_167 (by decide) ?_
                            refine J.sub [0, 1, 3, 4, 5, 6, 7, 8] (L' := [(7, .int (nI (j2 + 1))), (6, .int (nI ((updN MB3 (leftN j2 (i / 10) (i % 10)) ((MB3 (leftN j2 (i / 10) (i % 10))) + 1)) (leftN j2 (i / 10) (i % 10))))), (5, .int (nI i)), (4, .int (nI ((lkG 1000000 (bitsN (fun kd => noteR Q a kd (Q 1)) 6) (i - 10)).2))), (3, .int (oI (lkG 1000000 (bitsN (fun kd => noteR Q a kd (Q 1)) 6) (i - 10)).1)), (2, .int (nI (bitsN (fun kd => noteR Q a kd (Q 1)) 6))), (0, .ref (E.1 + 38)), (1, .int (nI a))]) rfl ?_
                            exact ih87 (j2 + 1) ((updN MB3 (leftN j2 (i / 10) (i % 10)) ((MB3 (leftN j2 (i / 10) (i % 10))) + 1)) (leftN j2 (i / 10) (i % 10))) (updN MB3 (leftN j2 (i / 10) (i % 10)) ((MB3 (leftN j2 (i / 10) (i % 10))) + 1)) (by omega) (by first | assumption | omega) (by first | exact lkw_0 hw0 (fun v hv => hz v (by omega)) | exact lkw_n c1 c2 c3 (by assumption) | exact lkw_t1 (by omega) c1 c2 c3 (by assumption) (by assumption) | exact lkw_t2 (by omega) c1 c2 c3 (by assumption) (Nat.not_le_of_lt (by omega)))
                    · skip
                      obtain ⟨c1, c2⟩ := sp6
                      refine J_iload dX8_look_87 rfl ?_
                      refine J_bipush (v := nI 6) dX8_look_89 (by decide +kernel) ?_
                      refine J_icmp_geN (tgt := 170) dX8_look_91 (by decide) (by omega) (by omega) (fun c14 => ?_) (fun c14 => ?_)
                      · skip
                        refine J_iload dX8_look_170 rfl ?_
                        refine J_iload dX8_look_172 rfl ?_
                        refine J_icmp_geN (tgt := 182) dX8_look_174 (by decide) (by omega) (by omega) (fun c15 => ?_) (fun c15 => (by exfalso; omega))
                        refine J_iload_n dX8_look_182 rfl ?_
                        refine J_istore_n dX8_look_183 (Nat.le_of_ble_eq_true rfl) (L' := [(3, .int (oI (lkG 1000000 (bitsN (fun kd => noteR Q a kd (Q 1)) 6) (i - 10)).1)), (7, .int (nI j2)), (6, .int (nI w2)), (5, .int (nI i)), (4, .int (nI ((lkG 1000000 (bitsN (fun kd => noteR Q a kd (Q 1)) 6) (i - 10)).2))), (2, .int (nI (bitsN (fun kd => noteR Q a kd (Q 1)) 6))), (0, .ref (E.1 + 38)), (1, .int (nI a))]) rfl ?_
                        refine J_iload dX8_look_184 rfl ?_
                        refine J_iload dX8_look_186 rfl ?_
                        refine J_icmp_geN (tgt := 196) dX8_look_188 (by decide) (by omega) (by omega) (fun c16 => ?_) (fun c16 => ?_)
                        · skip
                          refine J_iload dX8_look_196 rfl ?_
                          refine J_istore dX8_look_198 (Nat.le_of_ble_eq_true rfl) (L' := [(4, .int (nI ((lkG 1000000 (bitsN (fun kd => noteR Q a kd (Q 1)) 6) (i - 10)).2))), (3, .int (oI (lkG 1000000 (bitsN (fun kd => noteR Q a kd (Q 1)) 6) (i - 10)).1)), (7, .int (nI j2)), (6, .int (nI w2)), (5, .int (nI i)), (2, .int (nI (bitsN (fun kd => noteR Q a kd (Q 1)) 6))), (0, .ref (E.1 + 38)), (1, .int (nI a))]) rfl ?_
                          refine J_iincN (q := 4) (a := i) (m := 1) dX8_look_200 rfl (by decide +kernel) (Nat.le_of_ble_eq_true rfl) (L' := [(5, .int (nI (i + 1))), (4, .int (nI ((lkG 1000000 (bitsN (fun kd => noteR Q a kd (Q 1)) 6) (i - 10)).2))), (3, .int (oI (lkG 1000000 (bitsN (fun kd => noteR Q a kd (Q 1)) 6) (i - 10)).1)), (7, .int (nI j2)), (6, .int (nI w2)), (2, .int (nI (bitsN (fun kd => noteR Q a kd (Q 1)) 6))), (0, .ref (E.1 + 38)), (1, .int (nI a))]) rfl ?_
                          refine J_goto (tgt := 31) dX8_look_203 (by decide) ?_
                          refine J.sub [0, 1, 2, 5, 6, 7] (L' := [(5, .int (nI (i + 1))), (4, .int (nI ((lkG 1000000 (bitsN (fun kd => noteR Q a kd (Q 1)) 6) (i - 10)).2))), (3, .int (oI (lkG 1000000 (bitsN (fun kd => noteR Q a kd (Q 1)) 6) (i - 10)).1)), (2, .int (nI (bitsN (fun kd => noteR Q a kd (Q 1)) 6))), (0, .ref (E.1 + 38)), (1, .int (nI a))]) rfl ?_
                          refine J.eqs (h' := (hset h 46 (cI E 21 (nF MB3)))) (L' := [(5, .int (nI (i + 1))), (4, .int (nI ((lkG 1000000 (bitsN (fun kd => noteR Q a kd (Q 1)) 6) ((i + 1) - 10)).2))), (3, .int (oI (lkG 1000000 (bitsN (fun kd => noteR Q a kd (Q 1)) 6) ((i + 1) - 10)).1)), (2, .int (nI (bitsN (fun kd => noteR Q a kd (Q 1)) 6))), (0, .ref (E.1 + 38)), (1, .int (nI a))]) (st' := []) rfl (jL_c rfl (jL_c (jv_N (by first | (exfalso; omega) | exact lkG_j1 | exact lkG_j2 | (rw [lkR_t (F := bitsN (fun kd => noteR Q a kd (Q 1)) 6) hi10 c1 c2 (by omega) (by omega)]; first | done | rfl) | (rw [lkR_f (F := bitsN (fun kd => noteR Q a kd (Q 1)) 6) hi10 c2 (by omega) (by omega)]) | (rw [lkR_n (F := bitsN (fun kd => noteR Q a kd (Q 1)) 6) hi10 (by omega)]))) (jL_c (jv_I (by first | (exfalso; omega) | exact lkG_j1 | exact lkG_j2 | (rw [lkR_t (F := bitsN (fun kd => noteR Q a kd (Q 1)) 6) hi10 c1 c2 (by omega) (by omega)]; first | done | rfl) | (rw [lkR_f (F := bitsN (fun kd => noteR Q a kd (Q 1)) 6) hi10 c2 (by omega) (by omega)]) | (rw [lkR_n (F := bitsN (fun kd => noteR Q a kd (Q 1)) 6) hi10 (by omega)]))) (jL_c rfl (jL_c rfl (jL_c rfl rfl)))))) rfl ?_
                          exact ih31 (i + 1) MB3 (by omega) (by first | assumption | omega) (by first | assumption | omega)
                        · skip
                          refine J_iload dX8_look_191 rfl ?_
                          refine J_goto (tgt := 198) dX8_look_193 (by decide) ?_
                          refine J_istore dX8_look_198 (Nat.le_of_ble_eq_true rfl) (L' := [(4, .int (nI w2)), (3, .int (oI (lkG 1000000 (bitsN (fun kd => noteR Q a kd (Q 1)) 6) (i - 10)).1)), (7, .int (nI j2)), (6, .int (nI w2)), (5, .int (nI i)), (2, .int (nI (bitsN (fun kd => noteR Q a kd (Q 1)) 6))), (0, .ref (E.1 + 38)), (1, .int (nI a))]) rfl ?_
                          refine J_iincN (q := 4) (a := i) (m := 1) dX8_look_200 rfl (by decide +kernel) (Nat.le_of_ble_eq_true rfl) (L' := [(5, .int (nI (i + 1))), (4, .int (nI w2)), (3, .int (oI (lkG 1000000 (bitsN (fun kd => noteR Q a kd (Q 1)) 6) (i - 10)).1)), (7, .int (nI j2)), (6, .int (nI w2)), (2, .int (nI (bitsN (fun kd => noteR Q a kd (Q 1)) 6))), (0, .ref (E.1 + 38)), (1, .int (nI a))]) rfl ?_
                          refine J_goto (tgt := 31) dX8_look_203 (by decide) ?_
                          refine J.sub [0, 1, 2, 5, 6, 7] (L' := [(5, .int (nI (i + 1))), (4, .int (nI w2)), (3, .int (oI (lkG 1000000 (bitsN (fun kd => noteR Q a kd (Q 1)) 6) (i - 10)).1)), (2, .int (nI (bitsN (fun kd => noteR Q a kd (Q 1)) 6))), (0, .ref (E.1 + 38)), (1, .int (nI a))]) rfl ?_
                          refine J.eqs (h' := (hset h 46 (cI E 21 (nF MB3)))) (L' := [(5, .int (nI (i + 1))), (4, .int (nI ((lkG 1000000 (bitsN (fun kd => noteR Q a kd (Q 1)) 6) ((i + 1) - 10)).2))), (3, .int (oI (lkG 1000000 (bitsN (fun kd => noteR Q a kd (Q 1)) 6) ((i + 1) - 10)).1)), (2, .int (nI (bitsN (fun kd => noteR Q a kd (Q 1)) 6))), (0, .ref (E.1 + 38)), (1, .int (nI a))]) (st' := []) rfl (jL_c rfl (jL_c (jv_N (by first | (exfalso; omega) | exact lkG_j1 | exact lkG_j2 | (rw [lkR_t (F := bitsN (fun kd => noteR Q a kd (Q 1)) 6) hi10 c1 c2 (by omega) (by omega)]; first | done | rfl) | (rw [lkR_f (F := bitsN (fun kd => noteR Q a kd (Q 1)) 6) hi10 c2 (by omega) (by omega)]) | (rw [lkR_n (F := bitsN (fun kd => noteR Q a kd (Q 1)) 6) hi10 (by omega)]))) (jL_c (jv_I (by first | (exfalso; omega) | exact lkG_j1 | exact lkG_j2 | (rw [lkR_t (F := bitsN (fun kd => noteR Q a kd (Q 1)) 6) hi10 c1 c2 (by omega) (by omega)]; first | done | rfl) | (rw [lkR_f (F := bitsN (fun kd => noteR Q a kd (Q 1)) 6) hi10 c2 (by omega) (by omega)]) | (rw [lkR_n (F := bitsN (fun kd => noteR Q a kd (Q 1)) 6) hi10 (by omega)]))) (jL_c rfl (jL_c rfl (jL_c rfl rfl)))))) rfl ?_
                          exact ih31 (i + 1) MB3 (by omega) (by first | assumption | omega) (by first | assumption | omega)
                      · skip
                        refine J_iload dX8_look_94 rfl ?_
                        refine J_ldc dX8_look_96 jqRX8_148 ?_
                        refine J.stk (st' := .int (nI 1000000) :: [.int (nI w2)]) rfl ?_
                        refine J_icmp_geN (tgt := 170) dX8_look_98 (by decide) (by omega) (by omega) (fun c17 => ?_) (fun c17 => (by exfalso; omega))
                        refine J_iload dX8_look_170 rfl ?_
                        refine J_iload dX8_look_172 rfl ?_
                        refine J_icmp_geN (tgt := 182) dX8_look_174 (by decide) (by omega) (by omega) (fun c18 => ?_) (fun c18 => (by exfalso; omega))
                        refine J_iload_n dX8_look_182 rfl ?_
                        refine J_istore_n dX8_look_183 (Nat.le_of_ble_eq_true rfl) (L' := [(3, .int (oI (lkG 1000000 (bitsN (fun kd => noteR Q a kd (Q 1)) 6) (i - 10)).1)), (7, .int (nI j2)), (6, .int (nI w2)), (5, .int (nI i)), (4, .int (nI ((lkG 1000000 (bitsN (fun kd => noteR Q a kd (Q 1)) 6) (i - 10)).2))), (2, .int (nI (bitsN (fun kd => noteR Q a kd (Q 1)) 6))), (0, .ref (E.1 + 38)), (1, .int (nI a))]) rfl ?_
                        refine J_iload dX8_look_184 rfl ?_
                        refine J_iload dX8_look_186 rfl ?_
                        refine J_icmp_geN (tgt := 196) dX8_look_188 (by decide) (by omega) (by omega) (fun c19 => ?_) (fun c19 => ?_)
                        · skip
                          refine J_iload dX8_look_196 rfl ?_
                          refine J_istore dX8_look_198 (Nat.le_of_ble_eq_true rfl) (L' := [(4, .int (nI ((lkG 1000000 (bitsN (fun kd => noteR Q a kd (Q 1)) 6) (i - 10)).2))), (3, .int (oI (lkG 1000000 (bitsN (fun kd => noteR Q a kd (Q 1)) 6) (i - 10)).1)), (7, .int (nI j2)), (6, .int (nI w2)), (5, .int (nI i)), (2, .int (nI (bitsN (fun kd => noteR Q a kd (Q 1)) 6))), (0, .ref (E.1 + 38)), (1, .int (nI a))]) rfl ?_
                          refine J_iincN (q := 4) (a := i) (m := 1) dX8_look_200 rfl (by decide +kernel) (Nat.le_of_ble_eq_true rfl) (L' := [(5, .int (nI (i + 1))), (4, .int (nI ((lkG 1000000 (bitsN (fun kd => noteR Q a kd (Q 1)) 6) (i - 10)).2))), (3, .int (oI (lkG 1000000 (bitsN (fun kd => noteR Q a kd (Q 1)) 6) (i - 10)).1)), (7, .int (nI j2)), (6, .int (nI w2)), (2, .int (nI (bitsN (fun kd => noteR Q a kd (Q 1)) 6))), (0, .ref (E.1 + 38)), (1, .int (nI a))]) rfl ?_
                          refine J_goto (tgt := 31) dX8_look_203 (by decide) ?_
                          refine J.sub [0, 1, 2, 5, 6, 7] (L' := [(5, .int (nI (i + 1))), (4, .int (nI ((lkG 1000000 (bitsN (fun kd => noteR Q a kd (Q 1)) 6) (i - 10)).2))), (3, .int (oI (lkG 1000000 (bitsN (fun kd => noteR Q a kd (Q 1)) 6) (i - 10)).1)), (2, .int (nI (bitsN (fun kd => noteR Q a kd (Q 1)) 6))), (0, .ref (E.1 + 38)), (1, .int (nI a))]) rfl ?_
                          refine J.eqs (h' := (hset h 46 (cI E 21 (nF MB3)))) (L' := [(5, .int (nI (i + 1))), (4, .int (nI ((lkG 1000000 (bitsN (fun kd => noteR Q a kd (Q 1)) 6) ((i + 1) - 10)).2))), (3, .int (oI (lkG 1000000 (bitsN (fun kd => noteR Q a kd (Q 1)) 6) ((i + 1) - 10)).1)), (2, .int (nI (bitsN (fun kd => noteR Q a kd (Q 1)) 6))), (0, .ref (E.1 + 38)), (1, .int (nI a))]) (st' := []) rfl (jL_c rfl (jL_c (jv_N (by first | (exfalso; omega) | exact lkG_j1 | exact lkG_j2 | (rw [lkR_t (F := bitsN (fun kd => noteR Q a kd (Q 1)) 6) hi10 c1 c2 (by omega) (by omega)]; first | done | rfl) | (rw [lkR_f (F := bitsN (fun kd => noteR Q a kd (Q 1)) 6) hi10 c2 (by omega) (by omega)]) | (rw [lkR_n (F := bitsN (fun kd => noteR Q a kd (Q 1)) 6) hi10 (by omega)]))) (jL_c (jv_I (by first | (exfalso; omega) | exact lkG_j1 | exact lkG_j2 | (rw [lkR_t (F := bitsN (fun kd => noteR Q a kd (Q 1)) 6) hi10 c1 c2 (by omega) (by omega)]; first | done | rfl) | (rw [lkR_f (F := bitsN (fun kd => noteR Q a kd (Q 1)) 6) hi10 c2 (by omega) (by omega)]) | (rw [lkR_n (F := bitsN (fun kd => noteR Q a kd (Q 1)) 6) hi10 (by omega)]))) (jL_c rfl (jL_c rfl (jL_c rfl rfl)))))) rfl ?_
                          exact ih31 (i + 1) MB3 (by omega) (by first | assumption | omega) (by first | assumption | omega)
                        · skip
                          refine J_iload dX8_look_191 rfl ?_
                          refine J_goto (tgt := 198) dX8_look_193 (by decide) ?_
                          refine J_istore dX8_look_198 (Nat.le_of_ble_eq_true rfl) (L' := [(4, .int (nI w2)), (3, .int (oI (lkG 1000000 (bitsN (fun kd => noteR Q a kd (Q 1)) 6) (i - 10)).1)), (7, .int (nI j2)), (6, .int (nI w2)), (5, .int (nI i)), (2, .int (nI (bitsN (fun kd => noteR Q a kd (Q 1)) 6))), (0, .ref (E.1 + 38)), (1, .int (nI a))]) rfl ?_
                          refine J_iincN (q := 4) (a := i) (m := 1) dX8_look_200 rfl (by decide +kernel) (Nat.le_of_ble_eq_true rfl) (L' := [(5, .int (nI (i + 1))), (4, .int (nI w2)), (3, .int (oI (lkG 1000000 (bitsN (fun kd => noteR Q a kd (Q 1)) 6) (i - 10)).1)), (7, .int (nI j2)), (6, .int (nI w2)), (2, .int (nI (bitsN (fun kd => noteR Q a kd (Q 1)) 6))), (0, .ref (E.1 + 38)), (1, .int (nI a))]) rfl ?_
                          refine J_goto (tgt := 31) dX8_look_203 (by decide) ?_
                          refine J.sub [0, 1, 2, 5, 6, 7] (L' := [(5, .int (nI (i + 1))), (4, .int (nI w2)), (3, .int (oI (lkG 1000000 (bitsN (fun kd => noteR Q a kd (Q 1)) 6) (i - 10)).1)), (2, .int (nI (bitsN (fun kd => noteR Q a kd (Q 1)) 6))), (0, .ref (E.1 + 38)), (1, .int (nI a))]) rfl ?_
                          refine J.eqs (h' := (hset h 46 (cI E 21 (nF MB3)))) (L' := [(5, .int (nI (i + 1))), (4, .int (nI ((lkG 1000000 (bitsN (fun kd => noteR Q a kd (Q 1)) 6) ((i + 1) - 10)).2))), (3, .int (oI (lkG 1000000 (bitsN (fun kd => noteR Q a kd (Q 1)) 6) ((i + 1) - 10)).1)), (2, .int (nI (bitsN (fun kd => noteR Q a kd (Q 1)) 6))), (0, .ref (E.1 + 38)), (1, .int (nI a))]) (st' := []) rfl (jL_c rfl (jL_c (jv_N (by first | (exfalso; omega) | exact lkG_j1 | exact lkG_j2 | (rw [lkR_t (F := bitsN (fun kd => noteR Q a kd (Q 1)) 6) hi10 c1 c2 (by omega) (by omega)]; first | done | rfl) | (rw [lkR_f (F := bitsN (fun kd => noteR Q a kd (Q 1)) 6) hi10 c2 (by omega) (by omega)]) | (rw [lkR_n (F := bitsN (fun kd => noteR Q a kd (Q 1)) 6) hi10 (by omega)]))) (jL_c (jv_I (by first | (exfalso; omega) | exact lkG_j1 | exact lkG_j2 | (rw [lkR_t (F := bitsN (fun kd => noteR Q a kd (Q 1)) 6) hi10 c1 c2 (by omega) (by omega)]; first | done | rfl) | (rw [lkR_f (F := bitsN (fun kd => noteR Q a kd (Q 1)) 6) hi10 c2 (by omega) (by omega)]) | (rw [lkR_n (F := bitsN (fun kd => noteR Q a kd (Q 1)) 6) hi10 (by omega)]))) (jL_c rfl (jL_c rfl (jL_c rfl rfl)))))) rfl ?_
                          exact ih31 (i + 1) MB3 (by omega) (by first | assumption | omega) (by first | assumption | omega)
                exact CUT87 (6 - 0 + 1) 0 w MB2 (Nat.lt_succ_self _) (by first | assumption | omega) (by first | exact lkw_0 hw0 (fun v hv => hz v (by omega)) | exact lkw_n c1 c2 c3 (by assumption) | exact lkw_t1 (by omega) c1 c2 c3 (by assumption) (by assumption) | exact lkw_t2 (by omega) c1 c2 c3 (by assumption) (Nat.not_le_of_lt (by omega)))
              · skip
                refine J_aload_n dX8_look_70 rfl ?_
                refine J_get 11 dX8_look_71 jk8 (Nat.le_of_ble_eq_true rfl) jfRX8_36 ((hset_ne (by omega)).trans H0) (by omega) rfl ?_
                refine J_iload dX8_look_74 rfl ?_
                refine J_iconst (v := nI 0) dX8_look_76 (by decide +kernel) ?_
                refine J_iastN (i := j) (v := 0) dX8_look_77 hset_eq (by omega) (by omega) (by omega) ?_
                refine J.cast hset_hset ?_
                refine J_iincN (q := 0) (a := j) (m := 1) dX8_look_78 rfl (by decide +kernel) (Nat.le_of_ble_eq_true rfl) (L' := [(7, .int (nI (j + 1))), (6, .int (nI w)), (5, .int (nI i)), (4, .int (nI ((lkG 1000000 (bitsN (fun kd => noteR Q a kd (Q 1)) 6) (i - 10)).2))), (3, .int (oI (lkG 1000000 (bitsN (fun kd => noteR Q a kd (Q 1)) 6) (i - 10)).1)), (2, .int (nI (bitsN (fun kd => noteR Q a kd (Q 1)) 6))), (0, .ref (E.1 + 38)), (1, .int (nI a))]) rfl ?_
                refine J_goto (tgt := 63) dX8_look_81 (by decide) ?_
                exact ih63 (j + 1) (updN MB2 j 0) (by omega) (by first | assumption | omega) (by first | exact (fun v hv => absurd hv (Nat.not_lt_zero v)) | (intro v hv; simp only [updN]; by_cases e : v = j; rw [if_pos e]; rw [if_neg e]; exact hz v (by omega)))
          exact CUT63 (21 - 0 + 1) 0 MB1 (Nat.lt_succ_self _) (by first | assumption | omega) (by first | exact (fun v hv => absurd hv (Nat.not_lt_zero v)) | (intro v hv; simp only [updN]; by_cases e : v = j; rw [if_pos e]; rw [if_neg e]; exact hz v (by omega)))
        refine J_iload dX8_look_43 rfl ?_
        refine J_bipush (v := nI 10) dX8_look_45 (by decide +kernel) ?_
        refine J_iremN dX8_look_47 (by omega) (by omega) (by omega) ?_
        refine J_iconst (v := nI 3) dX8_look_48 (by decide +kernel) ?_
        refine J_icmp_geN (tgt := 56) dX8_look_49 (by decide) (by omega) (by omega) (fun c20 => ?_) (fun c20 => ?_)
        · skip
          refine J_ldc dX8_look_56 jqRX8_148 ?_
          refine J.stk (st' := .int (nI 1000000) :: []) rfl ?_
          exact CUT58 1000000 (by first | assumption | omega)
        · skip
          refine J_iconst (v := nI 0) dX8_look_52 (by decide +kernel) ?_
          refine J_goto (tgt := 58) dX8_look_53 (by decide) ?_
          exact CUT58 0 (by first | assumption | omega)
  refine J.eqs (h' := (hset h 46 (cI E 21 (nF MB)))) (L' := [(5, .int (nI 10)), (4, .int (nI ((lkG 1000000 (bitsN (fun kd => noteR Q a kd (Q 1)) 6) (10 - 10)).2))), (3, .int (oI (lkG 1000000 (bitsN (fun kd => noteR Q a kd (Q 1)) 6) (10 - 10)).1)), (2, .int (nI (bitsN (fun kd => noteR Q a kd (Q 1)) 6))), (0, .ref (E.1 + 38)), (1, .int (nI a))]) (st' := []) ((show h = (hset h 46 (cI E 21 (nF MB))) by funext z; simp only [hset]; (repeat' split) <;> first | rfl | (exfalso; omega) | (subst_vars; first | exact H2)).trans (hset_cg rfl rfl)) (jL_c rfl (jL_c (jv_N (by first | (exfalso; omega) | exact lkG_j1 | exact lkG_j2 | (rw [lkR_t (F := bitsN (fun kd => noteR Q a kd (Q 1)) 6) hi10 c1 c2 (by omega) (by omega)]; first | done | rfl) | (rw [lkR_f (F := bitsN (fun kd => noteR Q a kd (Q 1)) 6) hi10 c2 (by omega) (by omega)]) | (rw [lkR_n (F := bitsN (fun kd => noteR Q a kd (Q 1)) 6) hi10 (by omega)]))) (jL_c (jv_I (by first | (exfalso; omega) | exact lkG_j1 | exact lkG_j2 | (rw [lkR_t (F := bitsN (fun kd => noteR Q a kd (Q 1)) 6) hi10 c1 c2 (by omega) (by omega)]; first | done | rfl) | (rw [lkR_f (F := bitsN (fun kd => noteR Q a kd (Q 1)) 6) hi10 c2 (by omega) (by omega)]) | (rw [lkR_n (F := bitsN (fun kd => noteR Q a kd (Q 1)) 6) hi10 (by omega)]))) (jL_c rfl (jL_c rfl (jL_c rfl rfl)))))) rfl ?_
  exact CUT31 (203 - 10 + 1) 10 MB (Nat.lt_succ_self _) (by first | assumption | omega) (by first | assumption | omega)
