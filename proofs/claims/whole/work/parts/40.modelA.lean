set_option maxHeartbeats 1000000 in
set_option maxRecDepth 100000 in
theorem ctX8_in {E : jE} {h : Nat → va_E} {n : Nat} (x : Nat) (lo : Nat) (hi : Nat) (h32x : x < 2 ^ 32) (hlo : lo < 2 ^ 31) (hhi : hi < 2 ^ 31) : jC E mX8_in (1, 0, 0) [.long (nI x).toInt64, .long (lN lo), .long (lN hi)] h n (jR (some (.int (jb (lo ≤ x ∧ x ≤ hi)))) h n) := by
  refine J.of (L := [(0, .long (nI x).toInt64), (2, .long (lN lo)), (4, .long (lN hi))]) rfl (by decide +kernel) (Nat.le_of_ble_eq_true rfl) ?_
  obtain ⟨PP, hPP⟩ : ∃ PP : jPost, PP = (jR (some (.int (jb (lo ≤ x ∧ x ≤ hi)))) h n) := ⟨_, rfl⟩
  rw [← hPP]
  refine J_lload_n dX8_in_0 rfl ?_
  refine J_lload_n dX8_in_1 rfl ?_
  refine J_lcmp dX8_in_2 ?_
  refine J_if_lt (tgt := 17) dX8_in_3 (by decide) (fun c1 => ?_) (fun c1 => ?_)
  · skip
    rw [jx_Xlt h32x hlo] at c1
    refine J_iconst (v := nI 0) dX8_in_17 (by decide +kernel) ?_
    exact J_zret dX8_in_18 rfl rfl ⟨Nat.le_refl _, Nat.le_refl _⟩ (by rw [hPP]; exact ⟨(congrArg some (Option.some.inj (jret_B0 (by omega)))), rfl, rfl⟩)
  · skip
    rw [jx_Xlt h32x hlo] at c1
    refine J_lload_n dX8_in_6 rfl ?_
    refine J_lload dX8_in_7 rfl ?_
    refine J_lcmp dX8_in_9 ?_
    refine J_if_gt (tgt := 17) dX8_in_10 (by decide) (fun c2 => ?_) (fun c2 => ?_)
    · skip
      rw [jx_Xgt h32x hhi] at c2
      refine J_iconst (v := nI 0) dX8_in_17 (by decide +kernel) ?_
      exact J_zret dX8_in_18 rfl rfl ⟨Nat.le_refl _, Nat.le_refl _⟩ (by rw [hPP]; exact ⟨(congrArg some (Option.some.inj (jret_B0 (by omega)))), rfl, rfl⟩)
    · skip
      rw [jx_Xgt h32x hhi] at c2
      refine J_iconst (v := nI 1) dX8_in_13 (by decide +kernel) ?_
      refine J_goto (tgt := 18) dX8_in_14 (by decide) ?_
      exact J_zret dX8_in_18 rfl rfl ⟨Nat.le_refl _, Nat.le_refl _⟩ (by rw [hPP]; exact ⟨(congrArg some (Option.some.inj (jret_B1 (by omega)))), rfl, rfl⟩)

set_option maxHeartbeats 1000000 in
set_option maxRecDepth 100000 in
theorem ctX8_inM {E : jE} {h : Nat → va_E} {n : Nat} (x : Nat) (lo : Nat) (hi : Nat) (h31x : x < 2 ^ 31) (hlo : lo < 2 ^ 31) (hhi : hi < 2 ^ 31) : jC E mX8_in (1, 0, 0) [.long (lN x), .long (lN lo), .long (lN hi)] h n (jR (some (.int (jb (lo ≤ x ∧ x ≤ hi)))) h n) := by
  refine J.of (L := [(0, .long (lN x)), (2, .long (lN lo)), (4, .long (lN hi))]) rfl (by decide +kernel) (Nat.le_of_ble_eq_true rfl) ?_
  obtain ⟨PP, hPP⟩ : ∃ PP : jPost, PP = (jR (some (.int (jb (lo ≤ x ∧ x ≤ hi)))) h n) := ⟨_, rfl⟩
  rw [← hPP]
  refine J_lload_n dX8_in_0 rfl ?_
  refine J_lload_n dX8_in_1 rfl ?_
  refine J_lcmp dX8_in_2 ?_
  refine J_if_lt (tgt := 17) dX8_in_3 (by decide) (fun c1 => ?_) (fun c1 => ?_)
  · skip
    rw [jx_Mlt h31x hlo] at c1
    refine J_iconst (v := nI 0) dX8_in_17 (by decide +kernel) ?_
    exact J_zret dX8_in_18 rfl rfl ⟨Nat.le_refl _, Nat.le_refl _⟩ (by rw [hPP]; exact ⟨(congrArg some (Option.some.inj (jret_B0 (by omega)))), rfl, rfl⟩)
  · skip
    rw [jx_Mlt h31x hlo] at c1
    refine J_lload_n dX8_in_6 rfl ?_
    refine J_lload dX8_in_7 rfl ?_
    refine J_lcmp dX8_in_9 ?_
    refine J_if_gt (tgt := 17) dX8_in_10 (by decide) (fun c2 => ?_) (fun c2 => ?_)
    · skip
      rw [jx_Mgt h31x hhi] at c2
      refine J_iconst (v := nI 0) dX8_in_17 (by decide +kernel) ?_
      exact J_zret dX8_in_18 rfl rfl ⟨Nat.le_refl _, Nat.le_refl _⟩ (by rw [hPP]; exact ⟨(congrArg some (Option.some.inj (jret_B0 (by omega)))), rfl, rfl⟩)
    · skip
      rw [jx_Mgt h31x hhi] at c2
      refine J_iconst (v := nI 1) dX8_in_13 (by decide +kernel) ?_
      refine J_goto (tgt := 18) dX8_in_14 (by decide) ?_
      exact J_zret dX8_in_18 rfl rfl ⟨Nat.le_refl _, Nat.le_refl _⟩ (by rw [hPP]; exact ⟨(congrArg some (Option.some.inj (jret_B1 (by omega)))), rfl, rfl⟩)

set_option maxHeartbeats 1000000 in
set_option maxRecDepth 100000 in
theorem ctX8_in_neg {E : jE} {h : Nat → va_E} {n : Nat} (x : Nat) (e : Int64) (h32x : x < 2 ^ 32) (he : e = -1) : jC E mX8_in (1, 0, 0) [.long (nI x).toInt64, .long (lN 0), .long e] h n (jR (some (.int (nI 0))) h n) := by
  refine J.of (L := [(0, .long (nI x).toInt64), (2, .long (lN 0)), (4, .long e)]) rfl (by decide +kernel) (Nat.le_of_ble_eq_true rfl) ?_
  obtain ⟨PP, hPP⟩ : ∃ PP : jPost, PP = (jR (some (.int (nI 0))) h n) := ⟨_, rfl⟩
  rw [← hPP]
  refine J_lload_n dX8_in_0 rfl ?_
  refine J_lload_n dX8_in_1 rfl ?_
  refine J_lcmp dX8_in_2 ?_
  refine J_if_lt (tgt := 17) dX8_in_3 (by decide) (fun c1 => ?_) (fun c1 => ?_)
  · skip
    rw [jx_Xlt h32x (by omega)] at c1
    refine J_iconst (v := nI 0) dX8_in_17 (by decide +kernel) ?_
    exact J_zret dX8_in_18 rfl rfl ⟨Nat.le_refl _, Nat.le_refl _⟩ (by rw [hPP]; exact ⟨rfl, rfl, rfl⟩)
  · skip
    rw [jx_Xlt h32x (by omega)] at c1
    refine J_lload_n dX8_in_6 rfl ?_
    refine J_lload dX8_in_7 rfl ?_
    refine J_lcmp dX8_in_9 ?_
    refine J_if_gt (tgt := 17) dX8_in_10 (by decide) (fun c2 => ?_) (fun c2 => ?_)
    · skip
      refine J_iconst (v := nI 0) dX8_in_17 (by decide +kernel) ?_
      exact J_zret dX8_in_18 rfl rfl ⟨Nat.le_refl _, Nat.le_refl _⟩ (by rw [hPP]; exact ⟨rfl, rfl, rfl⟩)
    · skip
      rw [jx_Xgtm h32x e he] at c2
      refine J_iconst (v := nI 1) dX8_in_13 (by decide +kernel) ?_
      refine J_goto (tgt := 18) dX8_in_14 (by decide) ?_
      exact J_zret dX8_in_18 rfl rfl ⟨Nat.le_refl _, Nat.le_refl _⟩ (by rw [hPP]; exact ⟨(congrArg some (jv_N (by omega))), rfl, rfl⟩)

set_option maxHeartbeats 1000000 in
set_option maxRecDepth 100000 in
theorem ctX8_inM_neg {E : jE} {h : Nat → va_E} {n : Nat} (x : Nat) (e : Int64) (h31x : x < 2 ^ 31) (he : e = -1) : jC E mX8_in (1, 0, 0) [.long (lN x), .long (lN 0), .long e] h n (jR (some (.int (nI 0))) h n) := by
  refine J.of (L := [(0, .long (lN x)), (2, .long (lN 0)), (4, .long e)]) rfl (by decide +kernel) (Nat.le_of_ble_eq_true rfl) ?_
  obtain ⟨PP, hPP⟩ : ∃ PP : jPost, PP = (jR (some (.int (nI 0))) h n) := ⟨_, rfl⟩
  rw [← hPP]
  refine J_lload_n dX8_in_0 rfl ?_
  refine J_lload_n dX8_in_1 rfl ?_
  refine J_lcmp dX8_in_2 ?_
  refine J_if_lt (tgt := 17) dX8_in_3 (by decide) (fun c1 => ?_) (fun c1 => ?_)
  · skip
    rw [jx_Mlt h31x (by omega)] at c1
    refine J_iconst (v := nI 0) dX8_in_17 (by decide +kernel) ?_
    exact J_zret dX8_in_18 rfl rfl ⟨Nat.le_refl _, Nat.le_refl _⟩ (by rw [hPP]; exact ⟨rfl, rfl, rfl⟩)
  · skip
    rw [jx_Mlt h31x (by omega)] at c1
    refine J_lload_n dX8_in_6 rfl ?_
    refine J_lload dX8_in_7 rfl ?_
    refine J_lcmp dX8_in_9 ?_
    refine J_if_gt (tgt := 17) dX8_in_10 (by decide) (fun c2 => ?_) (fun c2 => ?_)
    · skip
      refine J_iconst (v := nI 0) dX8_in_17 (by decide +kernel) ?_
      exact J_zret dX8_in_18 rfl rfl ⟨Nat.le_refl _, Nat.le_refl _⟩ (by rw [hPP]; exact ⟨rfl, rfl, rfl⟩)
    · skip
      rw [jx_Mgtm h31x e he] at c2
      refine J_iconst (v := nI 1) dX8_in_13 (by decide +kernel) ?_
      refine J_goto (tgt := 18) dX8_in_14 (by decide) ?_
      exact J_zret dX8_in_18 rfl rfl ⟨Nat.le_refl _, Nat.le_refl _⟩ (by rw [hPP]; exact ⟨(congrArg some (jv_N (by omega))), rfl, rfl⟩)

set_option maxHeartbeats 1000000 in
set_option maxRecDepth 100000 in
theorem ctX8_bad {E : jE} {h : Nat → va_E} {n : Nat} (v : Int32) (xa : Nat) (xb : Nat) (dt : Nat) (mo : Nat) (bn : Nat) (ta : Nat) (tl : Nat) (tk : Nat) (va : Nat) (RF : Nat → Nat) (H0 : h 38 = .inr (7, [.ref (E.1 + 39), .ref (E.1 + 40), .ref (E.1 + 41), .ref (E.1 + 42), .long (lN xa), .long (lN xb), .ref (E.1 + 43), .int (nI dt), .ref (E.1 + 44), .ref (E.1 + 45), .int (nI mo), .ref (E.1 + 46), .ref (E.1 + 47), .int (nI bn), .int (nI ta), .int (nI tl), .int (nI tk), .int (nI va), .ref (E.1 + 48), .ref (E.1 + 49)])) (H1 : h 42 = cI E 3 (nF RF)) (hn : 50 ≤ n) : jC E mX8_bad (1, 0, 0) [.ref (E.1 + 38), .int v] h n (jR (some (.int v)) (hset h 42 (cI E 3 (nF (updN RF 0 (RF 0 + 1))))) n) := by
  refine J.of (L := [(0, .ref (E.1 + 38)), (1, .int v)]) rfl (by decide +kernel) (Nat.le_of_ble_eq_true rfl) ?_
  obtain ⟨PP, hPP⟩ : ∃ PP : jPost, PP = (jR (some (.int v)) (hset h 42 (cI E 3 (nF (updN RF 0 (RF 0 + 1))))) n) := ⟨_, rfl⟩
  rw [← hPP]
  refine J_aload_n dX8_bad_0 rfl ?_
  refine J_get 3 dX8_bad_1 jk8 (Nat.le_of_ble_eq_true rfl) jfRX8_20 H0 (by omega) rfl ?_
  refine J_iconst (v := nI 0) dX8_bad_4 (by decide +kernel) ?_
  refine J_dup2 dX8_bad_5 rfl rfl ?_
  refine J_ialdN (i := 0) dX8_bad_6 H1 (by omega) (by omega) (by omega) ?_
  refine J_iconst (v := nI 1) dX8_bad_7 (by decide +kernel) ?_
  refine J_iaddN dX8_bad_8 ?_
  refine J_iastN (i := 0) (v := (RF 0) + 1) dX8_bad_9 H1 (by omega) (by omega) (by omega) ?_
  refine J_iload_n dX8_bad_10 rfl ?_
  exact J_iret dX8_bad_11 rfl ⟨Nat.le_refl _, Nat.le_refl _⟩ (by rw [hPP]; exact ⟨rfl, (hset_cg rfl (cI_cg (by intro z; omega))), rfl⟩)

set_option maxHeartbeats 1000000 in
set_option maxRecDepth 100000 in
theorem ctX8_no {E : jE} {h : Nat → va_E} {n : Nat} (xa : Nat) (xb : Nat) (dt : Nat) (mo : Nat) (bn : Nat) (ta : Nat) (tl : Nat) (tk : Nat) (va : Nat) (RF : Nat → Nat) (H0 : h 38 = .inr (7, [.ref (E.1 + 39), .ref (E.1 + 40), .ref (E.1 + 41), .ref (E.1 + 42), .long (lN xa), .long (lN xb), .ref (E.1 + 43), .int (nI dt), .ref (E.1 + 44), .ref (E.1 + 45), .int (nI mo), .ref (E.1 + 46), .ref (E.1 + 47), .int (nI bn), .int (nI ta), .int (nI tl), .int (nI tk), .int (nI va), .ref (E.1 + 48), .ref (E.1 + 49)])) (H1 : h 42 = cI E 3 (nF RF)) (hn : 50 ≤ n) : jC E mX8_no (1, 0, 0) [.ref (E.1 + 38)] h n (jR (some (.int (-3))) (hset h 42 (cI E 3 (nF (updN RF 1 (RF 1 + 1))))) n) := by
  refine J.of (L := [(0, .ref (E.1 + 38))]) rfl (by decide +kernel) (Nat.le_of_ble_eq_true rfl) ?_
  obtain ⟨PP, hPP⟩ : ∃ PP : jPost, PP = (jR (some (.int (-3))) (hset h 42 (cI E 3 (nF (updN RF 1 (RF 1 + 1))))) n) := ⟨_, rfl⟩
  rw [← hPP]
  refine J_aload_n dX8_no_0 rfl ?_
  refine J_get 3 dX8_no_1 jk8 (Nat.le_of_ble_eq_true rfl) jfRX8_20 H0 (by omega) rfl ?_
  refine J_iconst (v := nI 1) dX8_no_4 (by decide +kernel) ?_
  refine J_dup2 dX8_no_5 rfl rfl ?_
  refine J_ialdN (i := 1) dX8_no_6 H1 (by omega) (by omega) (by omega) ?_
  refine J_iconst (v := nI 1) dX8_no_7 (by decide +kernel) ?_
  refine J_iaddN dX8_no_8 ?_
  refine J_iastN (i := 1) (v := (RF 1) + 1) dX8_no_9 H1 (by omega) (by omega) (by omega) ?_
  refine J_bipush (v := (-3)) dX8_no_10 (by decide +kernel) ?_
  exact J_iret dX8_no_12 rfl ⟨Nat.le_refl _, Nat.le_refl _⟩ (by rw [hPP]; exact ⟨rfl, (hset_cg rfl (cI_cg (by intro z; omega))), rfl⟩)

set_option maxHeartbeats 1000000 in
set_option maxRecDepth 100000 in
theorem ctX8_full {E : jE} {h : Nat → va_E} {n : Nat} (xa : Nat) (xb : Nat) (dt : Nat) (mo : Nat) (bn : Nat) (ta : Nat) (tl : Nat) (tk : Nat) (va : Nat) (RF : Nat → Nat) (H0 : h 38 = .inr (7, [.ref (E.1 + 39), .ref (E.1 + 40), .ref (E.1 + 41), .ref (E.1 + 42), .long (lN xa), .long (lN xb), .ref (E.1 + 43), .int (nI dt), .ref (E.1 + 44), .ref (E.1 + 45), .int (nI mo), .ref (E.1 + 46), .ref (E.1 + 47), .int (nI bn), .int (nI ta), .int (nI tl), .int (nI tk), .int (nI va), .ref (E.1 + 48), .ref (E.1 + 49)])) (H1 : h 42 = cI E 3 (nF RF)) (hn : 50 ≤ n) : jC E mX8_full (1, 0, 0) [.ref (E.1 + 38)] h n (jR (some (.int (-4))) (hset h 42 (cI E 3 (nF (updN RF 2 (RF 2 + 1))))) n) := by
  refine J.of (L := [(0, .ref (E.1 + 38))]) rfl (by decide +kernel) (Nat.le_of_ble_eq_true rfl) ?_
  obtain ⟨PP, hPP⟩ : ∃ PP : jPost, PP = (jR (some (.int (-4))) (hset h 42 (cI E 3 (nF (updN RF 2 (RF 2 + 1))))) n) := ⟨_, rfl⟩
  rw [← hPP]
  refine J_aload_n dX8_full_0 rfl ?_
  refine J_get 3 dX8_full_1 jk8 (Nat.le_of_ble_eq_true rfl) jfRX8_20 H0 (by omega) rfl ?_
  refine J_iconst (v := nI 2) dX8_full_4 (by decide +kernel) ?_
  refine J_dup2 dX8_full_5 rfl rfl ?_
  refine J_ialdN (i := 2) dX8_full_6 H1 (by omega) (by omega) (by omega) ?_
  refine J_iconst (v := nI 1) dX8_full_7 (by decide +kernel) ?_
  refine J_iaddN dX8_full_8 ?_
  refine J_iastN (i := 2) (v := (RF 2) + 1) dX8_full_9 H1 (by omega) (by omega) (by omega) ?_
  refine J_bipush (v := (-4)) dX8_full_10 (by decide +kernel) ?_
  exact J_iret dX8_full_12 rfl ⟨Nat.le_refl _, Nat.le_refl _⟩ (by rw [hPP]; exact ⟨rfl, (hset_cg rfl (cI_cg (by intro z; omega))), rfl⟩)

set_option maxHeartbeats 1000000 in
set_option maxRecDepth 100000 in
theorem ctX8_has {E : jE} {h : Nat → va_E} {n : Nat} (s : Nat) (k : Nat) (hs : s < 2 ^ 31) (hk : k < 32) : jC E mX8_has (1, 0, 0) [.int (nI s), .int (nI k)] h n (jR (some (.int (jb (s / 2 ^ k % 2 ^ 1 = 1)))) h n) := by
  refine J.of (L := [(0, .int (nI s)), (1, .int (nI k))]) rfl (by decide +kernel) (Nat.le_of_ble_eq_true rfl) ?_
  obtain ⟨PP, hPP⟩ : ∃ PP : jPost, PP = (jR (some (.int (jb (s / 2 ^ k % 2 ^ 1 = 1)))) h n) := ⟨_, rfl⟩
  rw [← hPP]
  refine J_iload_n dX8_has_0 rfl ?_
  refine J_iload_n dX8_has_1 rfl ?_
  refine J_ishrN dX8_has_2 (by omega) (by omega) ?_
  refine J_iconst (v := nI 1) dX8_has_3 (by decide +kernel) ?_
  refine J_iandN 1 dX8_has_4 (by exact Nat.lt_of_le_of_lt (Nat.div_le_self _ _) (by omega)) (by decide +kernel) ?_
  refine J_iconst (v := nI 1) dX8_has_5 (by decide +kernel) ?_
  refine J_icmp_neN (tgt := 13) dX8_has_6 (by decide) (by omega) (by omega) (fun c1 => ?_) (fun c1 => ?_)
  · skip
    refine J_iconst (v := nI 0) dX8_has_13 (by decide +kernel) ?_
    exact J_zret dX8_has_14 rfl rfl ⟨Nat.le_refl _, Nat.le_refl _⟩ (by rw [hPP]; exact ⟨(congrArg some (Option.some.inj (jret_B0 (by omega)))), rfl, rfl⟩)
  · skip
    refine J_iconst (v := nI 1) dX8_has_9 (by decide +kernel) ?_
    refine J_goto (tgt := 14) dX8_has_10 (by decide) ?_
    exact J_zret dX8_has_14 rfl rfl ⟨Nat.le_refl _, Nat.le_refl _⟩ (by rw [hPP]; exact ⟨(congrArg some (Option.some.inj (jret_B1 (by omega)))), rfl, rfl⟩)

set_option maxHeartbeats 1000000 in
set_option maxRecDepth 100000 in
theorem ctX8_begin {E : jE} {h : Nat → va_E} {n : Nat} (r : Nat) (len : Nat) (g : Nat) (F : Nat → Nat) (H0 : h r = cI E len (nF F)) (hn : r < n) (hl : 74 ≤ len) (hl2 : len < 2 ^ 31) : jC E mX8_begin (1, 0, 0) [.ref (E.1 + r), .int (nI g)] h n (jR none (hset h r (cI E len (nF (beginQ F g)))) n) := by
  refine J.of (L := [(0, .ref (E.1 + r)), (1, .int (nI g))]) rfl (by decide +kernel) (Nat.le_of_ble_eq_true rfl) ?_
  obtain ⟨PP, hPP⟩ : ∃ PP : jPost, PP = (jR none (hset h r (cI E len (nF (beginQ F g)))) n) := ⟨_, rfl⟩
  rw [← hPP]
  refine J_iconst (v := nI 0) dX8_begin_0 (by decide +kernel) ?_
  refine J_istore_n dX8_begin_1 (Nat.le_of_ble_eq_true rfl) (L' := [(2, .int (nI 0)), (0, .ref (E.1 + r)), (1, .int (nI g))]) rfl ?_
  have CUT2 : ∀ (f2 : Nat) (i : Nat) (hm2 : 74 - i < f2) (hi : i ≤ 74), J E mX8_begin (1, 0, 0) jS0 PP (hset h r (cI E len (nF (begF F i)))) n (0, 0) 2 [(2, .int (nI i)), (0, .ref (E.1 + r)), (1, .int (nI g))] [] := by
    intro f2
    induction f2 with
    | zero => intro i hm2; exact absurd hm2 (Nat.not_lt_zero _)
    | succ f2 ih2 =>
      intro i hm2 hi
      refine J_iload_n dX8_begin_2 rfl ?_
      refine J_bipush (v := nI 74) dX8_begin_3 (by decide +kernel) ?_
      refine J_icmp_geN (tgt := 18) dX8_begin_5 (by decide) (by omega) (by omega) (fun c1 => ?_) (fun c1 => ?_)
      · skip
        refine J_aload_n dX8_begin_18 rfl ?_
        refine J_bipush (v := nI 21) dX8_begin_19 (by decide +kernel) ?_
        refine J_iload_n dX8_begin_21 rfl ?_
        refine J_iastN (i := 21) (v := g) dX8_begin_22 hset_eq (by omega) (by omega) (by omega) ?_
        refine J.cast hset_hset ?_
        exact J_vret dX8_begin_23 rfl ⟨Nat.le_refl _, Nat.le_refl _⟩ (by rw [hPP]; exact ⟨rfl, (hset_cg rfl (cI_cg (by intro z; rw [show i = 74 by omega]; rfl))), rfl⟩)
      · skip
        refine J_aload_n dX8_begin_8 rfl ?_
        refine J_iload_n dX8_begin_9 rfl ?_
        refine J_iconst (v := nI 0) dX8_begin_10 (by decide +kernel) ?_
        refine J_iastN (i := i) (v := 0) dX8_begin_11 hset_eq (by omega) (by omega) (by omega) ?_
        refine J.cast hset_hset ?_
        refine J_iincN (q := 0) (a := i) (m := 1) dX8_begin_12 rfl (by decide +kernel) (Nat.le_of_ble_eq_true rfl) (L' := [(2, .int (nI (i + 1))), (0, .ref (E.1 + r)), (1, .int (nI g))]) rfl ?_
        refine J_goto (tgt := 2) dX8_begin_15 (by decide) ?_
        refine J.eqs (h' := (hset h r (cI E len (nF (begF F (i + 1)))))) (L' := [(2, .int (nI (i + 1))), (0, .ref (E.1 + r)), (1, .int (nI g))]) (st' := []) (hset_cg rfl (cI_cg (by intro z; first | exact begF_0 z | exact begF_s z))) rfl rfl ?_
        exact ih2 (i + 1) (by omega) (by first | assumption | omega)
  refine J.eqs (h' := (hset h r (cI E len (nF (begF F 0))))) (L' := [(2, .int (nI 0)), (0, .ref (E.1 + r)), (1, .int (nI g))]) (st' := []) ((show h = (hset h r (cI E len (nF F))) by funext z; simp only [hset]; (repeat' split) <;> first | rfl | (exfalso; omega) | (subst_vars; first | exact H0)).trans (hset_cg rfl (cI_cg (by intro z; first | exact begF_0 z | exact begF_s z)))) rfl rfl ?_
  exact CUT2 (74 - 0 + 1) 0 (Nat.lt_succ_self _) (by first | assumption | omega)

set_option maxHeartbeats 1000000 in
set_option maxRecDepth 100000 in
theorem ctX8_many {E : jE} {h : Nat → va_E} {n : Nat} (xa : Nat) (xb : Nat) (dt : Nat) (mo : Nat) (bn : Nat) (ta : Nat) (tl : Nat) (tk : Nat) (va : Nat) (Q : Nat → Nat) (H0 : h 38 = .inr (7, [.ref (E.1 + 39), .ref (E.1 + 40), .ref (E.1 + 41), .ref (E.1 + 42), .long (lN xa), .long (lN xb), .ref (E.1 + 43), .int (nI dt), .ref (E.1 + 44), .ref (E.1 + 45), .int (nI mo), .ref (E.1 + 46), .ref (E.1 + 47), .int (nI bn), .int (nI ta), .int (nI tl), .int (nI tk), .int (nI va), .ref (E.1 + 48), .ref (E.1 + 49)])) (H1 : h 39 = cI E 218 (nF Q)) (hn : 50 ≤ n) : jC E mX8_many (1, 0, 0) [.ref (E.1 + 38)] h n (jR (some (.int (nI (Q 0)))) h n) := by
  refine J.of (L := [(0, .ref (E.1 + 38))]) rfl (by decide +kernel) (Nat.le_of_ble_eq_true rfl) ?_
  obtain ⟨PP, hPP⟩ : ∃ PP : jPost, PP = (jR (some (.int (nI (Q 0)))) h n) := ⟨_, rfl⟩
  rw [← hPP]
  refine J_aload_n dX8_many_0 rfl ?_
  refine J_get 0 dX8_many_1 jk8 (Nat.le_of_ble_eq_true rfl) jfRX8_7 H0 (by omega) rfl ?_
  refine J_iconst (v := nI 0) dX8_many_4 (by decide +kernel) ?_
  refine J_ialdN (i := 0) dX8_many_5 H1 (by omega) (by omega) (by omega) ?_
  exact J_iret dX8_many_6 rfl ⟨Nat.le_refl _, Nat.le_refl _⟩ (by rw [hPP]; exact ⟨rfl, rfl, rfl⟩)

set_option maxHeartbeats 1000000 in
set_option maxRecDepth 100000 in
theorem ctX8_isAnvil {E : jE} {h : Nat → va_E} {n : Nat} (a : Nat) (xa : Nat) (xb : Nat) (dt : Nat) (mo : Nat) (bn : Nat) (ta : Nat) (tl : Nat) (tk : Nat) (va : Nat) (Q : Nat → Nat) (H0 : h 38 = .inr (7, [.ref (E.1 + 39), .ref (E.1 + 40), .ref (E.1 + 41), .ref (E.1 + 42), .long (lN xa), .long (lN xb), .ref (E.1 + 43), .int (nI dt), .ref (E.1 + 44), .ref (E.1 + 45), .int (nI mo), .ref (E.1 + 46), .ref (E.1 + 47), .int (nI bn), .int (nI ta), .int (nI tl), .int (nI tk), .int (nI va), .ref (E.1 + 48), .ref (E.1 + 49)])) (H1 : h 39 = cI E 218 (nF Q)) (hn : 50 ≤ n) (ha : a < 2 ^ 32) (hn4 : Q 0 ≤ 4) : jC E mX8_isAnvil (2, 0, 0) [.ref (E.1 + 38), .int (nI a)] h n (jR (some (.int (jb (a < Q 0)))) h n) := by
  refine J.of (L := [(0, .ref (E.1 + 38)), (1, .int (nI a))]) rfl (by decide +kernel) (Nat.le_of_ble_eq_true rfl) ?_
  obtain ⟨PP, hPP⟩ : ∃ PP : jPost, PP = (jR (some (.int (jb (a < Q 0)))) h n) := ⟨_, rfl⟩
  rw [← hPP]
  have sp1 : (Q 0 = 0) ∨ (1 ≤ Q 0) := by omega
  rcases sp1 with sp1 | sp1
  · skip
    refine J_iload_n dX8_isAnvil_0 rfl ?_
    refine J_i2l (v := (nI a).toInt64) dX8_isAnvil_1 rfl ?_
    refine J_lconst (v := lN 0) dX8_isAnvil_2 (by decide +kernel) ?_
    refine J_aload_n dX8_isAnvil_3 rfl ?_
    refine J_callVr (M' := mX8_many) (d' := (1, 0, 0)) (rest := [.long (lN 0), .long (nI a).toInt64]) dX8_isAnvil_4 jmX8_many jlRX8_52 (ctX8_many xa xb dt mo bn ta tl tk va Q H0 H1 (by omega) ) H0 (by omega) jk8.1 rfl rfl (Nat.le_of_ble_eq_true rfl) (Nat.le_of_ble_eq_true rfl) ⟨Nat.le_refl _, Nat.le_refl _⟩ ?_
    refine J_iconst (v := nI 1) dX8_isAnvil_7 (by decide +kernel) ?_
    refine J_isub dX8_isAnvil_8 ?_
    refine J_i2l (v := Int32.toInt64 ((nI (Q 0)) - (nI 1))) dX8_isAnvil_9 rfl ?_
    refine J_callSr (M' := mX8_in) (d' := (1, 0, 0)) (rest := []) dX8_isAnvil_10 jmX8_in jlRX8_56 (ctX8_in_neg a (Int32.toInt64 ((nI (Q 0)) - (nI 1)))   (by first | assumption | omega) (by rw [show Q 0 = 0 by omega]; exact jx_m1)) rfl rfl (Nat.le_of_ble_eq_true rfl) (Nat.le_of_ble_eq_true rfl) ⟨Nat.le_refl _, Nat.le_refl _⟩ ?_
    exact J_zret dX8_isAnvil_13 rfl rfl ⟨Nat.le_refl _, Nat.le_refl _⟩ (by rw [hPP]; exact ⟨(congrArg some (Option.some.inj (jret_B0 (by omega)))), rfl, rfl⟩)
  · skip
    refine J_iload_n dX8_isAnvil_0 rfl ?_
    refine J_i2l (v := (nI a).toInt64) dX8_isAnvil_1 rfl ?_
    refine J_lconst (v := lN 0) dX8_isAnvil_2 (by decide +kernel) ?_
    refine J_aload_n dX8_isAnvil_3 rfl ?_
    refine J_callVr (M' := mX8_many) (d' := (1, 0, 0)) (rest := [.long (lN 0), .long (nI a).toInt64]) dX8_isAnvil_4 jmX8_many jlRX8_52 (ctX8_many xa xb dt mo bn ta tl tk va Q H0 H1 (by omega) ) H0 (by omega) jk8.1 rfl rfl (Nat.le_of_ble_eq_true rfl) (Nat.le_of_ble_eq_true rfl) ⟨Nat.le_refl _, Nat.le_refl _⟩ ?_
    refine J_iconst (v := nI 1) dX8_isAnvil_7 (by decide +kernel) ?_
    refine J_isubN dX8_isAnvil_8 (by omega) ?_
    refine J_i2lN dX8_isAnvil_9 (by omega) ?_
    refine J_callSr (M' := mX8_in) (d' := (1, 0, 0)) (rest := []) dX8_isAnvil_10 jmX8_in jlRX8_56 (ctX8_in a 0 ((Q 0) - 1)   (by first | assumption | omega) (by first | assumption | omega) (by first | assumption | omega)) rfl rfl (Nat.le_of_ble_eq_true rfl) (Nat.le_of_ble_eq_true rfl) ⟨Nat.le_refl _, Nat.le_refl _⟩ ?_
    exact J_zret dX8_isAnvil_13 rfl jb_nar ⟨Nat.le_refl _, Nat.le_refl _⟩ (by rw [hPP]; exact ⟨(congrArg some (jv_I (jb_cg (by omega)))), rfl, rfl⟩)

set_option maxHeartbeats 1000000 in
set_option maxRecDepth 100000 in
theorem ctX8_isTemper {E : jE} {h : Nat → va_E} {n : Nat} (v : Nat) (hv : v < 2 ^ 32) : jC E mX8_isTemper (2, 0, 0) [.int (nI v)] h n (jR (some (.int (jb (v ≤ 3)))) h n) := by
  refine J.of (L := [(0, .int (nI v))]) rfl (by decide +kernel) (Nat.le_of_ble_eq_true rfl) ?_
  obtain ⟨PP, hPP⟩ : ∃ PP : jPost, PP = (jR (some (.int (jb (v ≤ 3)))) h n) := ⟨_, rfl⟩
  rw [← hPP]
  refine J_iload_n dX8_isTemper_0 rfl ?_
  refine J_i2l (v := (nI v).toInt64) dX8_isTemper_1 rfl ?_
  refine J_lconst (v := lN 0) dX8_isTemper_2 (by decide +kernel) ?_
  refine J_ldc2 dX8_isTemper_3 jqRX8_60 ?_
  refine J.stk (st' := .long (lN 3) :: [.long (lN 0), .long (nI v).toInt64]) rfl ?_
  refine J_callSr (M' := mX8_in) (d' := (1, 0, 0)) (rest := []) dX8_isTemper_6 jmX8_in jlRX8_56 (ctX8_in v 0 3   (by first | assumption | omega) (by first | assumption | omega) (by first | assumption | omega)) rfl rfl (Nat.le_of_ble_eq_true rfl) (Nat.le_of_ble_eq_true rfl) ⟨Nat.le_refl _, Nat.le_refl _⟩ ?_
  exact J_zret dX8_isTemper_9 rfl jb_nar ⟨Nat.le_refl _, Nat.le_refl _⟩ (by rw [hPP]; exact ⟨(congrArg some (jv_I (jb_cg (by omega)))), rfl, rfl⟩)

set_option maxHeartbeats 1000000 in
set_option maxRecDepth 100000 in
theorem ctX8_isMemory {E : jE} {h : Nat → va_E} {n : Nat} (v : Nat) (hv : v < 2 ^ 32) : jC E mX8_isMemory (2, 0, 0) [.int (nI v)] h n (jR (some (.int (jb (v ≤ 20)))) h n) := by
  refine J.of (L := [(0, .int (nI v))]) rfl (by decide +kernel) (Nat.le_of_ble_eq_true rfl) ?_
  obtain ⟨PP, hPP⟩ : ∃ PP : jPost, PP = (jR (some (.int (jb (v ≤ 20)))) h n) := ⟨_, rfl⟩
  rw [← hPP]
  refine J_iload_n dX8_isMemory_0 rfl ?_
  refine J_i2l (v := (nI v).toInt64) dX8_isMemory_1 rfl ?_
  refine J_lconst (v := lN 0) dX8_isMemory_2 (by decide +kernel) ?_
  refine J_ldc2 dX8_isMemory_3 jqRX8_62 ?_
  refine J.stk (st' := .long (lN 20) :: [.long (lN 0), .long (nI v).toInt64]) rfl ?_
  refine J_callSr (M' := mX8_in) (d' := (1, 0, 0)) (rest := []) dX8_isMemory_6 jmX8_in jlRX8_56 (ctX8_in v 0 20   (by first | assumption | omega) (by first | assumption | omega) (by first | assumption | omega)) rfl rfl (Nat.le_of_ble_eq_true rfl) (Nat.le_of_ble_eq_true rfl) ⟨Nat.le_refl _, Nat.le_refl _⟩ ?_
  exact J_zret dX8_isMemory_9 rfl jb_nar ⟨Nat.le_refl _, Nat.le_refl _⟩ (by rw [hPP]; exact ⟨(congrArg some (jv_I (jb_cg (by omega)))), rfl, rfl⟩)

set_option maxHeartbeats 1000000 in
set_option maxRecDepth 100000 in
theorem ctX8_isSmall {E : jE} {h : Nat → va_E} {n : Nat} (v : Nat) (hv : v < 2 ^ 31) : jC E mX8_isSmall (2, 0, 0) [.int (nI v)] h n (jR (some (.int (jb (97 ≤ v ∧ v ≤ 122)))) h n) := by
  refine J.of (L := [(0, .int (nI v))]) rfl (by decide +kernel) (Nat.le_of_ble_eq_true rfl) ?_
  obtain ⟨PP, hPP⟩ : ∃ PP : jPost, PP = (jR (some (.int (jb (97 ≤ v ∧ v ≤ 122)))) h n) := ⟨_, rfl⟩
  rw [← hPP]
  refine J_iload_n dX8_isSmall_0 rfl ?_
  refine J_i2lN dX8_isSmall_1 (by omega) ?_
  refine J_ldc2 dX8_isSmall_2 jqRX8_197 ?_
  refine J.stk (st' := .long (lN 97) :: [.long (lN v)]) rfl ?_
  refine J_ldc2 dX8_isSmall_5 jqRX8_199 ?_
  refine J.stk (st' := .long (lN 122) :: [.long (lN 97), .long (lN v)]) rfl ?_
  refine J_callSr (M' := mX8_in) (d' := (1, 0, 0)) (rest := []) dX8_isSmall_8 jmX8_in jlRX8_56 (ctX8_inM v 97 122   (by first | assumption | omega) (by first | assumption | omega) (by first | assumption | omega)) rfl rfl (Nat.le_of_ble_eq_true rfl) (Nat.le_of_ble_eq_true rfl) ⟨Nat.le_refl _, Nat.le_refl _⟩ ?_
  exact J_zret dX8_isSmall_11 rfl jb_nar ⟨Nat.le_refl _, Nat.le_refl _⟩ (by rw [hPP]; exact ⟨rfl, rfl, rfl⟩)

set_option maxHeartbeats 1000000 in
set_option maxRecDepth 100000 in
theorem ctX8_isFigure {E : jE} {h : Nat → va_E} {n : Nat} (v : Nat) (hv : v < 2 ^ 31) : jC E mX8_isFigure (2, 0, 0) [.int (nI v)] h n (jR (some (.int (jb (48 ≤ v ∧ v ≤ 57)))) h n) := by
  refine J.of (L := [(0, .int (nI v))]) rfl (by decide +kernel) (Nat.le_of_ble_eq_true rfl) ?_
  obtain ⟨PP, hPP⟩ : ∃ PP : jPost, PP = (jR (some (.int (jb (48 ≤ v ∧ v ≤ 57)))) h n) := ⟨_, rfl⟩
  rw [← hPP]
  refine J_iload_n dX8_isFigure_0 rfl ?_
  refine J_i2lN dX8_isFigure_1 (by omega) ?_
  refine J_ldc2 dX8_isFigure_2 jqRX8_201 ?_
  refine J.stk (st' := .long (lN 48) :: [.long (lN v)]) rfl ?_
  refine J_ldc2 dX8_isFigure_5 jqRX8_203 ?_
  refine J.stk (st' := .long (lN 57) :: [.long (lN 48), .long (lN v)]) rfl ?_
  refine J_callSr (M' := mX8_in) (d' := (1, 0, 0)) (rest := []) dX8_isFigure_8 jmX8_in jlRX8_56 (ctX8_inM v 48 57   (by first | assumption | omega) (by first | assumption | omega) (by first | assumption | omega)) rfl rfl (Nat.le_of_ble_eq_true rfl) (Nat.le_of_ble_eq_true rfl) ⟨Nat.le_refl _, Nat.le_refl _⟩ ?_
  exact J_zret dX8_isFigure_11 rfl jb_nar ⟨Nat.le_refl _, Nat.le_refl _⟩ (by rw [hPP]; exact ⟨rfl, rfl, rfl⟩)

set_option maxHeartbeats 1000000 in
set_option maxRecDepth 100000 in
theorem ctX8_street_bad {E : jE} {h : Nat → va_E} {n : Nat} (x : Nat) (xa : Nat) (xb : Nat) (dt : Nat) (mo : Nat) (bn : Nat) (ta : Nat) (tl : Nat) (tk : Nat) (va : Nat) (RF : Nat → Nat) (H0 : h 38 = .inr (7, [.ref (E.1 + 39), .ref (E.1 + 40), .ref (E.1 + 41), .ref (E.1 + 42), .long (lN xa), .long (lN xb), .ref (E.1 + 43), .int (nI dt), .ref (E.1 + 44), .ref (E.1 + 45), .int (nI mo), .ref (E.1 + 46), .ref (E.1 + 47), .int (nI bn), .int (nI ta), .int (nI tl), .int (nI tk), .int (nI va), .ref (E.1 + 48), .ref (E.1 + 49)])) (H1 : h 42 = cI E 3 (nF RF)) (hn : 50 ≤ n) (h32x : x < 2 ^ 32) (hbad : ¬ x ≤ 9) : jC E mX8_street (2, 0, 0) [.ref (E.1 + 38), .int (nI x)] h n (jR (some (.int (-2))) (hset h 42 (cI E 3 (nF (updN RF 0 (RF 0 + 1))))) n) := by
  refine J.of (L := [(0, .ref (E.1 + 38)), (1, .int (nI x))]) rfl (by decide +kernel) (Nat.le_of_ble_eq_true rfl) ?_
  obtain ⟨PP, hPP⟩ : ∃ PP : jPost, PP = (jR (some (.int (-2))) (hset h 42 (cI E 3 (nF (updN RF 0 (RF 0 + 1))))) n) := ⟨_, rfl⟩
  rw [← hPP]
  refine J_iload_n dX8_street_0 rfl ?_
  refine J_i2l (v := (nI x).toInt64) dX8_street_1 rfl ?_
  refine J_lconst (v := lN 0) dX8_street_2 (by decide +kernel) ?_
  refine J_ldc2 dX8_street_3 jqRX8_64 ?_
  refine J.stk (st' := .long (lN 9) :: [.long (lN 0), .long (nI x).toInt64]) rfl ?_
  refine J_callSr (M' := mX8_in) (d' := (1, 0, 0)) (rest := []) dX8_street_6 jmX8_in jlRX8_56 (ctX8_in x 0 9   (by first | assumption | omega) (by first | assumption | omega) (by first | assumption | omega)) rfl rfl (Nat.le_of_ble_eq_true rfl) (Nat.le_of_ble_eq_true rfl) ⟨Nat.le_refl _, Nat.le_refl _⟩ ?_
  refine J_if_neB (tgt := 19) dX8_street_9 (by decide) (fun c1 => (by exfalso; omega)) (fun c1 => ?_)
  refine J_aload_n dX8_street_12 rfl ?_
  refine J_bipush (v := (-2)) dX8_street_13 (by decide +kernel) ?_
  refine J_callVr (M' := mX8_bad) (d' := (1, 0, 0)) (rest := []) dX8_street_15 jmX8_bad jlRX8_66 (ctX8_bad (-2) xa xb dt mo bn ta tl tk va RF H0 H1 (by omega) ) H0 (by omega) jk8.1 rfl rfl (Nat.le_of_ble_eq_true rfl) (Nat.le_of_ble_eq_true rfl) ⟨Nat.le_refl _, Nat.le_refl _⟩ ?_
  exact J_iret dX8_street_18 rfl ⟨Nat.le_refl _, Nat.le_refl _⟩ (by rw [hPP]; exact ⟨rfl, rfl, rfl⟩)

set_option maxHeartbeats 1000000 in
set_option maxRecDepth 100000 in
theorem ctX8_street {E : jE} {h : Nat → va_E} {n : Nat} (x : Nat) (xa : Nat) (xb : Nat) (dt : Nat) (mo : Nat) (bn : Nat) (ta : Nat) (tl : Nat) (tk : Nat) (va : Nat) (Q : Nat → Nat) (H0 : h 38 = .inr (7, [.ref (E.1 + 39), .ref (E.1 + 40), .ref (E.1 + 41), .ref (E.1 + 42), .long (lN xa), .long (lN xb), .ref (E.1 + 43), .int (nI dt), .ref (E.1 + 44), .ref (E.1 + 45), .int (nI mo), .ref (E.1 + 46), .ref (E.1 + 47), .int (nI bn), .int (nI ta), .int (nI tl), .int (nI tk), .int (nI va), .ref (E.1 + 48), .ref (E.1 + 49)])) (H1 : h 39 = cI E 218 (nF Q)) (hn : 50 ≤ n) (hx : x ≤ 9) : jC E mX8_street (2, 0, 0) [.ref (E.1 + 38), .int (nI x)] h n (jR (some (.int (nI (Q 0)))) (hset h 39 (cI E 218 (nF (beginQ Q x)))) n) := by
  refine J.of (L := [(0, .ref (E.1 + 38)), (1, .int (nI x))]) rfl (by decide +kernel) (Nat.le_of_ble_eq_true rfl) ?_
  obtain ⟨PP, hPP⟩ : ∃ PP : jPost, PP = (jR (some (.int (nI (Q 0)))) (hset h 39 (cI E 218 (nF (beginQ Q x)))) n) := ⟨_, rfl⟩
  rw [← hPP]
  refine J_iload_n dX8_street_0 rfl ?_
  refine J_i2l (v := (nI x).toInt64) dX8_street_1 rfl ?_
  refine J_lconst (v := lN 0) dX8_street_2 (by decide +kernel) ?_
  refine J_ldc2 dX8_street_3 jqRX8_64 ?_
  refine J.stk (st' := .long (lN 9) :: [.long (lN 0), .long (nI x).toInt64]) rfl ?_
  refine J_callSr (M' := mX8_in) (d' := (1, 0, 0)) (rest := []) dX8_street_6 jmX8_in jlRX8_56 (ctX8_in x 0 9   (by first | assumption | omega) (by first | assumption | omega) (by first | assumption | omega)) rfl rfl (Nat.le_of_ble_eq_true rfl) (Nat.le_of_ble_eq_true rfl) ⟨Nat.le_refl _, Nat.le_refl _⟩ ?_
  refine J_if_neB (tgt := 19) dX8_street_9 (by decide) (fun c1 => ?_) (fun c1 => (by exfalso; omega))
  refine J_aload_n dX8_street_19 rfl ?_
  refine J_callVr (M' := mX8_many) (d' := (1, 0, 0)) (rest := []) dX8_street_20 jmX8_many jlRX8_52 (ctX8_many xa xb dt mo bn ta tl tk va Q H0 H1 (by omega) ) H0 (by omega) jk8.1 rfl rfl (Nat.le_of_ble_eq_true rfl) (Nat.le_of_ble_eq_true rfl) ⟨Nat.le_refl _, Nat.le_refl _⟩ ?_
  refine J_istore_n dX8_street_23 (Nat.le_of_ble_eq_true rfl) (L' := [(2, .int (nI (Q 0))), (0, .ref (E.1 + 38)), (1, .int (nI x))]) rfl ?_
  refine J_aload_n dX8_street_24 rfl ?_
  refine J_get 0 dX8_street_25 jk8 (Nat.le_of_ble_eq_true rfl) jfRX8_7 H0 (by omega) rfl ?_
  refine J_iload_n dX8_street_28 rfl ?_
  refine J_callSn (M' := mX8_begin) (d' := (1, 0, 0)) (rest := []) dX8_street_29 jmX8_begin jlRX8_48 (ctX8_begin 39 218 x Q H1 (by omega) (by first | assumption | omega) (by first | assumption | omega)) rfl rfl (Nat.le_of_ble_eq_true rfl) (Nat.le_of_ble_eq_true rfl) ⟨Nat.le_refl _, Nat.le_refl _⟩ ?_
  refine J_iload_n dX8_street_32 rfl ?_
  exact J_iret dX8_street_33 rfl ⟨Nat.le_refl _, Nat.le_refl _⟩ (by rw [hPP]; exact ⟨rfl, rfl, rfl⟩)

set_option maxHeartbeats 1000000 in
set_option maxRecDepth 100000 in
theorem ctX8_layAnvil {E : jE} {h : Nat → va_E} {n : Nat} (r : Nat) (len : Nat) (x : Nat) (y0 : Nat) (y1 : Nat) (y2 : Nat) (y3 : Nat) (F : Nat → Nat) (H0 : h r = cI E len (nF F)) (hn : r < n) (hl : 74 ≤ len) (hl2 : len < 2 ^ 31) (hf : F 0 < 4) : jC E mX8_layAnvil (1, 0, 0) [.ref (E.1 + r), .int (nI x), .int (nI y0), .int (nI y1), .int (nI y2), .int (nI y3)] h n (jR none (hset h r (cI E len (nF (layQ F x y0 y1 y2 y3)))) n) := by
  refine J.of (L := [(0, .ref (E.1 + r)), (1, .int (nI x)), (2, .int (nI y0)), (3, .int (nI y1)), (4, .int (nI y2)), (5, .int (nI y3))]) rfl (by decide +kernel) (Nat.le_of_ble_eq_true rfl) ?_
  obtain ⟨PP, hPP⟩ : ∃ PP : jPost, PP = (jR none (hset h r (cI E len (nF (layQ F x y0 y1 y2 y3)))) n) := ⟨_, rfl⟩
  rw [← hPP]
  refine J_iconst (v := nI 4) dX8_layAnvil_0 (by decide +kernel) ?_
  refine J_iconst (v := nI 4) dX8_layAnvil_1 (by decide +kernel) ?_
  refine J_aload_n dX8_layAnvil_2 rfl ?_
  refine J_iconst (v := nI 0) dX8_layAnvil_3 (by decide +kernel) ?_
  refine J_ialdN (i := 0) dX8_layAnvil_4 H0 (by omega) (by omega) (by omega) ?_
  refine J_imulN dX8_layAnvil_5 ?_
  refine J_iaddN dX8_layAnvil_6 ?_
  refine J_istore dX8_layAnvil_7 (Nat.le_of_ble_eq_true rfl) (L' := [(6, .int (nI (4 + (4 * (F 0))))), (0, .ref (E.1 + r)), (1, .int (nI x)), (2, .int (nI y0)), (3, .int (nI y1)), (4, .int (nI y2)), (5, .int (nI y3))]) rfl ?_
  refine J_aload_n dX8_layAnvil_9 rfl ?_
  refine J_bipush (v := nI 22) dX8_layAnvil_10 (by decide +kernel) ?_
  refine J_aload_n dX8_layAnvil_12 rfl ?_
  refine J_iconst (v := nI 0) dX8_layAnvil_13 (by decide +kernel) ?_
  refine J_ialdN (i := 0) dX8_layAnvil_14 H0 (by omega) (by omega) (by omega) ?_
  refine J_iaddN dX8_layAnvil_15 ?_
  refine J_iload_n dX8_layAnvil_16 rfl ?_
  refine J_iastN (i := 22 + (F 0)) (v := x) dX8_layAnvil_17 H0 (by omega) (by omega) (by omega) ?_
  refine J_aload_n dX8_layAnvil_18 rfl ?_
  refine J_iload dX8_layAnvil_19 rfl ?_
  refine J_iload_n dX8_layAnvil_21 rfl ?_
  refine J_iastN (i := 4 + (4 * (F 0))) (v := y0) dX8_layAnvil_22 hset_eq (by omega) (by omega) (by omega) ?_
  refine J.cast hset_hset ?_
  refine J_aload_n dX8_layAnvil_23 rfl ?_
  refine J_iload dX8_layAnvil_24 rfl ?_
  refine J_iconst (v := nI 1) dX8_layAnvil_26 (by decide +kernel) ?_
  refine J_iaddN dX8_layAnvil_27 ?_
  refine J_iload_n dX8_layAnvil_28 rfl ?_
  refine J_iastN (i := (4 + (4 * (F 0))) + 1) (v := y1) dX8_layAnvil_29 hset_eq (by omega) (by omega) (by omega) ?_
  refine J.cast hset_hset ?_
  refine J_aload_n dX8_layAnvil_30 rfl ?_
  refine J_iload dX8_layAnvil_31 rfl ?_
  refine J_iconst (v := nI 2) dX8_layAnvil_33 (by decide +kernel) ?_
  refine J_iaddN dX8_layAnvil_34 ?_
  refine J_iload dX8_layAnvil_35 rfl ?_
  refine J_iastN (i := (4 + (4 * (F 0))) + 2) (v := y2) dX8_layAnvil_37 hset_eq (by omega) (by omega) (by omega) ?_
  refine J.cast hset_hset ?_
  refine J_aload_n dX8_layAnvil_38 rfl ?_
  refine J_iload dX8_layAnvil_39 rfl ?_
  refine J_iconst (v := nI 3) dX8_layAnvil_41 (by decide +kernel) ?_
  refine J_iaddN dX8_layAnvil_42 ?_
  refine J_iload dX8_layAnvil_43 rfl ?_
  refine J_iastN (i := (4 + (4 * (F 0))) + 3) (v := y3) dX8_layAnvil_45 hset_eq (by omega) (by omega) (by omega) ?_
  refine J.cast hset_hset ?_
  refine J_aload_n dX8_layAnvil_46 rfl ?_
  refine J_iconst (v := nI 0) dX8_layAnvil_47 (by decide +kernel) ?_
  refine J_dup2 dX8_layAnvil_48 rfl rfl ?_
  refine J_ialdN (i := 0) dX8_layAnvil_49 hset_eq (by omega) (by omega) (by omega) ?_
  refine J_iconst (v := nI 1) dX8_layAnvil_50 (by decide +kernel) ?_
  refine J_iaddN dX8_layAnvil_51 ?_
  refine J_iastN (i := 0) (v := ((updN (updN (updN (updN (updN F (22 + (F 0)) x) (4 + (4 * (F 0))) y0) ((4 + (4 * (F 0))) + 1) y1) ((4 + (4 * (F 0))) + 2) y2) ((4 + (4 * (F 0))) + 3) y3) 0) + 1) dX8_layAnvil_52 hset_eq (by omega) (by omega) (by omega) ?_
  refine J.cast hset_hset ?_
  exact J_vret dX8_layAnvil_53 rfl ⟨Nat.le_refl _, Nat.le_refl _⟩ (by rw [hPP]; exact ⟨rfl, (hset_cg rfl (cI_cg (by intro z; simp [layQ, updN]; rw [if_neg (show ¬ 0 = 4 + 4 * F 0 by omega), if_neg (show ¬ 0 = 22 + F 0 by omega)]))), rfl⟩)

set_option maxHeartbeats 1000000 in
set_option maxRecDepth 100000 in
theorem ctX8_anvil_bad {E : jE} {h : Nat → va_E} {n : Nat} (x : Nat) (y0 : Nat) (y1 : Nat) (y2 : Nat) (y3 : Nat) (xa : Nat) (xb : Nat) (dt : Nat) (mo : Nat) (bn : Nat) (ta : Nat) (tl : Nat) (tk : Nat) (va : Nat) (RF : Nat → Nat) (H0 : h 38 = .inr (7, [.ref (E.1 + 39), .ref (E.1 + 40), .ref (E.1 + 41), .ref (E.1 + 42), .long (lN xa), .long (lN xb), .ref (E.1 + 43), .int (nI dt), .ref (E.1 + 44), .ref (E.1 + 45), .int (nI mo), .ref (E.1 + 46), .ref (E.1 + 47), .int (nI bn), .int (nI ta), .int (nI tl), .int (nI tk), .int (nI va), .ref (E.1 + 48), .ref (E.1 + 49)])) (H1 : h 42 = cI E 3 (nF RF)) (hn : 50 ≤ n) (h32x : x < 2 ^ 32) (h32y0 : y0 < 2 ^ 32) (h32y1 : y1 < 2 ^ 32) (h32y2 : y2 < 2 ^ 32) (h32y3 : y3 < 2 ^ 32) (hbad : ¬ (x ≤ 5 ∧ y0 ≤ 20 ∧ y1 ≤ 20 ∧ y2 ≤ 20 ∧ y3 ≤ 20)) : jC E mX8_anvil (3, 0, 0) [.ref (E.1 + 38), .int (nI x), .int (nI y0), .int (nI y1), .int (nI y2), .int (nI y3)] h n (jR (some (.int (-2))) (hset h 42 (cI E 3 (nF (updN RF 0 (RF 0 + 1))))) n) := by
  refine J.of (L := [(0, .ref (E.1 + 38)), (1, .int (nI x)), (2, .int (nI y0)), (3, .int (nI y1)), (4, .int (nI y2)), (5, .int (nI y3))]) rfl (by decide +kernel) (Nat.le_of_ble_eq_true rfl) ?_
  obtain ⟨PP, hPP⟩ : ∃ PP : jPost, PP = (jR (some (.int (-2))) (hset h 42 (cI E 3 (nF (updN RF 0 (RF 0 + 1))))) n) := ⟨_, rfl⟩
  rw [← hPP]
  refine J_iload_n dX8_anvil_0 rfl ?_
  refine J_i2l (v := (nI x).toInt64) dX8_anvil_1 rfl ?_
  refine J_lconst (v := lN 0) dX8_anvil_2 (by decide +kernel) ?_
  refine J_ldc2 dX8_anvil_3 jqRX8_70 ?_
  refine J.stk (st' := .long (lN 5) :: [.long (lN 0), .long (nI x).toInt64]) rfl ?_
  refine J_callSr (M' := mX8_in) (d' := (1, 0, 0)) (rest := []) dX8_anvil_6 jmX8_in jlRX8_56 (ctX8_in x 0 5   (by first | assumption | omega) (by first | assumption | omega) (by first | assumption | omega)) rfl rfl (Nat.le_of_ble_eq_true rfl) (Nat.le_of_ble_eq_true rfl) ⟨Nat.le_refl _, Nat.le_refl _⟩ ?_
  refine J_if_eqB (tgt := 42) dX8_anvil_9 (by decide) (fun c1 => ?_) (fun c1 => ?_)
  · skip
    refine J_aload_n dX8_anvil_42 rfl ?_
    refine J_bipush (v := (-2)) dX8_anvil_43 (by decide +kernel) ?_
    refine J_callVr (M' := mX8_bad) (d' := (1, 0, 0)) (rest := []) dX8_anvil_45 jmX8_bad jlRX8_66 (ctX8_bad (-2) xa xb dt mo bn ta tl tk va RF H0 H1 (by omega) ) H0 (by omega) jk8.1 rfl rfl (Nat.le_of_ble_eq_true rfl) (Nat.le_of_ble_eq_true rfl) ⟨Nat.le_refl _, Nat.le_refl _⟩ ?_
    exact J_iret dX8_anvil_48 rfl ⟨Nat.le_refl _, Nat.le_refl _⟩ (by rw [hPP]; exact ⟨rfl, rfl, rfl⟩)
  · skip
    refine J_iload_n dX8_anvil_12 rfl ?_
    refine J_callSr (M' := mX8_isMemory) (d' := (2, 0, 0)) (rest := []) dX8_anvil_13 jmX8_isMemory jlRX8_72 (ctX8_isMemory y0   (by first | assumption | omega)) rfl rfl (Nat.le_of_ble_eq_true rfl) (Nat.le_of_ble_eq_true rfl) ⟨Nat.le_refl _, Nat.le_refl _⟩ ?_
    refine J_if_eqB (tgt := 42) dX8_anvil_16 (by decide) (fun c2 => ?_) (fun c2 => ?_)
    · skip
      refine J_aload_n dX8_anvil_42 rfl ?_
      refine J_bipush (v := (-2)) dX8_anvil_43 (by decide +kernel) ?_
      refine J_callVr (M' := mX8_bad) (d' := (1, 0, 0)) (rest := []) dX8_anvil_45 jmX8_bad jlRX8_66 (ctX8_bad (-2) xa xb dt mo bn ta tl tk va RF H0 H1 (by omega) ) H0 (by omega) jk8.1 rfl rfl (Nat.le_of_ble_eq_true rfl) (Nat.le_of_ble_eq_true rfl) ⟨Nat.le_refl _, Nat.le_refl _⟩ ?_
      exact J_iret dX8_anvil_48 rfl ⟨Nat.le_refl _, Nat.le_refl _⟩ (by rw [hPP]; exact ⟨rfl, rfl, rfl⟩)
    · skip
      refine J_iload_n dX8_anvil_19 rfl ?_
      refine J_callSr (M' := mX8_isMemory) (d' := (2, 0, 0)) (rest := []) dX8_anvil_20 jmX8_isMemory jlRX8_72 (ctX8_isMemory y1   (by first | assumption | omega)) rfl rfl (Nat.le_of_ble_eq_true rfl) (Nat.le_of_ble_eq_true rfl) ⟨Nat.le_refl _, Nat.le_refl _⟩ ?_
      refine J_if_eqB (tgt := 42) dX8_anvil_23 (by decide) (fun c3 => ?_) (fun c3 => ?_)
      · skip
        refine J_aload_n dX8_anvil_42 rfl ?_
        refine J_bipush (v := (-2)) dX8_anvil_43 (by decide +kernel) ?_
        refine J_callVr (M' := mX8_bad) (d' := (1, 0, 0)) (rest := []) dX8_anvil_45 jmX8_bad jlRX8_66 (ctX8_bad (-2) xa xb dt mo bn ta tl tk va RF H0 H1 (by omega) ) H0 (by omega) jk8.1 rfl rfl (Nat.le_of_ble_eq_true rfl) (Nat.le_of_ble_eq_true rfl) ⟨Nat.le_refl _, Nat.le_refl _⟩ ?_
        exact J_iret dX8_anvil_48 rfl ⟨Nat.le_refl _, Nat.le_refl _⟩ (by rw [hPP]; exact ⟨rfl, rfl, rfl⟩)
      · skip
        refine J_iload dX8_anvil_26 rfl ?_
        refine J_callSr (M' := mX8_isMemory) (d' := (2, 0, 0)) (rest := []) dX8_anvil_28 jmX8_isMemory jlRX8_72 (ctX8_isMemory y2   (by first | assumption | omega)) rfl rfl (Nat.le_of_ble_eq_true rfl) (Nat.le_of_ble_eq_true rfl) ⟨Nat.le_refl _, Nat.le_refl _⟩ ?_
        refine J_if_eqB (tgt := 42) dX8_anvil_31 (by decide) (fun c4 => ?_) (fun c4 => ?_)
        · skip
          refine J_aload_n dX8_anvil_42 rfl ?_
          refine J_bipush (v := (-2)) dX8_anvil_43 (by decide +kernel) ?_
          refine J_callVr (M' := mX8_bad) (d' := (1, 0, 0)) (rest := []) dX8_anvil_45 jmX8_bad jlRX8_66 (ctX8_bad (-2) xa xb dt mo bn ta tl tk va RF H0 H1 (by omega) ) H0 (by omega) jk8.1 rfl rfl (Nat.le_of_ble_eq_true rfl) (Nat.le_of_ble_eq_true rfl) ⟨Nat.le_refl _, Nat.le_refl _⟩ ?_
          exact J_iret dX8_anvil_48 rfl ⟨Nat.le_refl _, Nat.le_refl _⟩ (by rw [hPP]; exact ⟨rfl, rfl, rfl⟩)
        · skip
          refine J_iload dX8_anvil_34 rfl ?_
          refine J_callSr (M' := mX8_isMemory) (d' := (2, 0, 0)) (rest := []) dX8_anvil_36 jmX8_isMemory jlRX8_72 (ctX8_isMemory y3   (by first | assumption | omega)) rfl rfl (Nat.le_of_ble_eq_true rfl) (Nat.le_of_ble_eq_true rfl) ⟨Nat.le_refl _, Nat.le_refl _⟩ ?_
          refine J_if_neB (tgt := 49) dX8_anvil_39 (by decide) (fun c5 => (by exfalso; omega)) (fun c5 => ?_)
          refine J_aload_n dX8_anvil_42 rfl ?_
          refine J_bipush (v := (-2)) dX8_anvil_43 (by decide +kernel) ?_
          refine J_callVr (M' := mX8_bad) (d' := (1, 0, 0)) (rest := []) dX8_anvil_45 jmX8_bad jlRX8_66 (ctX8_bad (-2) xa xb dt mo bn ta tl tk va RF H0 H1 (by omega) ) H0 (by omega) jk8.1 rfl rfl (Nat.le_of_ble_eq_true rfl) (Nat.le_of_ble_eq_true rfl) ⟨Nat.le_refl _, Nat.le_refl _⟩ ?_
          exact J_iret dX8_anvil_48 rfl ⟨Nat.le_refl _, Nat.le_refl _⟩ (by rw [hPP]; exact ⟨rfl, rfl, rfl⟩)

set_option maxHeartbeats 1000000 in
set_option maxRecDepth 100000 in
theorem ctX8_anvil_full {E : jE} {h : Nat → va_E} {n : Nat} (x : Nat) (y0 : Nat) (y1 : Nat) (y2 : Nat) (y3 : Nat) (xa : Nat) (xb : Nat) (dt : Nat) (mo : Nat) (bn : Nat) (ta : Nat) (tl : Nat) (tk : Nat) (va : Nat) (RF : Nat → Nat) (Q : Nat → Nat) (H0 : h 38 = .inr (7, [.ref (E.1 + 39), .ref (E.1 + 40), .ref (E.1 + 41), .ref (E.1 + 42), .long (lN xa), .long (lN xb), .ref (E.1 + 43), .int (nI dt), .ref (E.1 + 44), .ref (E.1 + 45), .int (nI mo), .ref (E.1 + 46), .ref (E.1 + 47), .int (nI bn), .int (nI ta), .int (nI tl), .int (nI tk), .int (nI va), .ref (E.1 + 48), .ref (E.1 + 49)])) (H1 : h 42 = cI E 3 (nF RF)) (H2 : h 39 = cI E 218 (nF Q)) (hn : 50 ≤ n) (hx : x ≤ 5) (h0 : y0 ≤ 20) (h1 : y1 ≤ 20) (h2 : y2 ≤ 20) (h3 : y3 ≤ 20) (han : Q 0 = 4) : jC E mX8_anvil (3, 0, 0) [.ref (E.1 + 38), .int (nI x), .int (nI y0), .int (nI y1), .int (nI y2), .int (nI y3)] h n (jR (some (.int (-4))) (hset h 42 (cI E 3 (nF (updN RF 2 (RF 2 + 1))))) n) := by
  refine J.of (L := [(0, .ref (E.1 + 38)), (1, .int (nI x)), (2, .int (nI y0)), (3, .int (nI y1)), (4, .int (nI y2)), (5, .int (nI y3))]) rfl (by decide +kernel) (Nat.le_of_ble_eq_true rfl) ?_
  obtain ⟨PP, hPP⟩ : ∃ PP : jPost, PP = (jR (some (.int (-4))) (hset h 42 (cI E 3 (nF (updN RF 2 (RF 2 + 1))))) n) := ⟨_, rfl⟩
  rw [← hPP]
  refine J_iload_n dX8_anvil_0 rfl ?_
  refine J_i2l (v := (nI x).toInt64) dX8_anvil_1 rfl ?_
  refine J_lconst (v := lN 0) dX8_anvil_2 (by decide +kernel) ?_
  refine J_ldc2 dX8_anvil_3 jqRX8_70 ?_
  refine J.stk (st' := .long (lN 5) :: [.long (lN 0), .long (nI x).toInt64]) rfl ?_
  refine J_callSr (M' := mX8_in) (d' := (1, 0, 0)) (rest := []) dX8_anvil_6 jmX8_in jlRX8_56 (ctX8_in x 0 5   (by first | assumption | omega) (by first | assumption | omega) (by first | assumption | omega)) rfl rfl (Nat.le_of_ble_eq_true rfl) (Nat.le_of_ble_eq_true rfl) ⟨Nat.le_refl _, Nat.le_refl _⟩ ?_
  refine J_if_eqB (tgt := 42) dX8_anvil_9 (by decide) (fun c1 => (by exfalso; omega)) (fun c1 => ?_)
  refine J_iload_n dX8_anvil_12 rfl ?_
  refine J_callSr (M' := mX8_isMemory) (d' := (2, 0, 0)) (rest := []) dX8_anvil_13 jmX8_isMemory jlRX8_72 (ctX8_isMemory y0   (by first | assumption | omega)) rfl rfl (Nat.le_of_ble_eq_true rfl) (Nat.le_of_ble_eq_true rfl) ⟨Nat.le_refl _, Nat.le_refl _⟩ ?_
  refine J_if_eqB (tgt := 42) dX8_anvil_16 (by decide) (fun c2 => (by exfalso; omega)) (fun c2 => ?_)
  refine J_iload_n dX8_anvil_19 rfl ?_
  refine J_callSr (M' := mX8_isMemory) (d' := (2, 0, 0)) (rest := []) dX8_anvil_20 jmX8_isMemory jlRX8_72 (ctX8_isMemory y1   (by first | assumption | omega)) rfl rfl (Nat.le_of_ble_eq_true rfl) (Nat.le_of_ble_eq_true rfl) ⟨Nat.le_refl _, Nat.le_refl _⟩ ?_
  refine J_if_eqB (tgt := 42) dX8_anvil_23 (by decide) (fun c3 => (by exfalso; omega)) (fun c3 => ?_)
  refine J_iload dX8_anvil_26 rfl ?_
  refine J_callSr (M' := mX8_isMemory) (d' := (2, 0, 0)) (rest := []) dX8_anvil_28 jmX8_isMemory jlRX8_72 (ctX8_isMemory y2   (by first | assumption | omega)) rfl rfl (Nat.le_of_ble_eq_true rfl) (Nat.le_of_ble_eq_true rfl) ⟨Nat.le_refl _, Nat.le_refl _⟩ ?_
  refine J_if_eqB (tgt := 42) dX8_anvil_31 (by decide) (fun c4 => (by exfalso; omega)) (fun c4 => ?_)
  refine J_iload dX8_anvil_34 rfl ?_
  refine J_callSr (M' := mX8_isMemory) (d' := (2, 0, 0)) (rest := []) dX8_anvil_36 jmX8_isMemory jlRX8_72 (ctX8_isMemory y3   (by first | assumption | omega)) rfl rfl (Nat.le_of_ble_eq_true rfl) (Nat.le_of_ble_eq_true rfl) ⟨Nat.le_refl _, Nat.le_refl _⟩ ?_
  refine J_if_neB (tgt := 49) dX8_anvil_39 (by decide) (fun c5 => ?_) (fun c5 => (by exfalso; omega))
  refine J_aload_n dX8_anvil_49 rfl ?_
  refine J_callVr (M' := mX8_many) (d' := (1, 0, 0)) (rest := []) dX8_anvil_50 jmX8_many jlRX8_52 (ctX8_many xa xb dt mo bn ta tl tk va Q H0 H2 (by omega) ) H0 (by omega) jk8.1 rfl rfl (Nat.le_of_ble_eq_true rfl) (Nat.le_of_ble_eq_true rfl) ⟨Nat.le_refl _, Nat.le_refl _⟩ ?_
  refine J_iconst (v := nI 4) dX8_anvil_53 (by decide +kernel) ?_
  refine J_icmp_neN (tgt := 62) dX8_anvil_54 (by decide) (by omega) (by omega) (fun c6 => (by exfalso; omega)) (fun c6 => ?_)
  refine J_aload_n dX8_anvil_57 rfl ?_
  refine J_callVr (M' := mX8_full) (d' := (1, 0, 0)) (rest := []) dX8_anvil_58 jmX8_full jlRX8_76 (ctX8_full xa xb dt mo bn ta tl tk va RF H0 H1 (by omega) ) H0 (by omega) jk8.1 rfl rfl (Nat.le_of_ble_eq_true rfl) (Nat.le_of_ble_eq_true rfl) ⟨Nat.le_refl _, Nat.le_refl _⟩ ?_
  exact J_iret dX8_anvil_61 rfl ⟨Nat.le_refl _, Nat.le_refl _⟩ (by rw [hPP]; exact ⟨rfl, rfl, rfl⟩)

set_option maxHeartbeats 1000000 in
set_option maxRecDepth 100000 in
theorem ctX8_anvil {E : jE} {h : Nat → va_E} {n : Nat} (x : Nat) (y0 : Nat) (y1 : Nat) (y2 : Nat) (y3 : Nat) (xa : Nat) (xb : Nat) (dt : Nat) (mo : Nat) (bn : Nat) (ta : Nat) (tl : Nat) (tk : Nat) (va : Nat) (RF : Nat → Nat) (Q : Nat → Nat) (H0 : h 38 = .inr (7, [.ref (E.1 + 39), .ref (E.1 + 40), .ref (E.1 + 41), .ref (E.1 + 42), .long (lN xa), .long (lN xb), .ref (E.1 + 43), .int (nI dt), .ref (E.1 + 44), .ref (E.1 + 45), .int (nI mo), .ref (E.1 + 46), .ref (E.1 + 47), .int (nI bn), .int (nI ta), .int (nI tl), .int (nI tk), .int (nI va), .ref (E.1 + 48), .ref (E.1 + 49)])) (H1 : h 42 = cI E 3 (nF RF)) (H2 : h 39 = cI E 218 (nF Q)) (hn : 50 ≤ n) (hx : x ≤ 5) (h0 : y0 ≤ 20) (h1 : y1 ≤ 20) (h2 : y2 ≤ 20) (h3 : y3 ≤ 20) (han : Q 0 < 4) : jC E mX8_anvil (3, 0, 0) [.ref (E.1 + 38), .int (nI x), .int (nI y0), .int (nI y1), .int (nI y2), .int (nI y3)] h n (jR (some (.int (nI (Q 0)))) (hset h 39 (cI E 218 (nF (updN (layQ Q x y0 y1 y2 y3) 3 0)))) n) := by
  refine J.of (L := [(0, .ref (E.1 + 38)), (1, .int (nI x)), (2, .int (nI y0)), (3, .int (nI y1)), (4, .int (nI y2)), (5, .int (nI y3))]) rfl (by decide +kernel) (Nat.le_of_ble_eq_true rfl) ?_
  obtain ⟨PP, hPP⟩ : ∃ PP : jPost, PP = (jR (some (.int (nI (Q 0)))) (hset h 39 (cI E 218 (nF (updN (layQ Q x y0 y1 y2 y3) 3 0)))) n) := ⟨_, rfl⟩
  rw [← hPP]
  refine J_iload_n dX8_anvil_0 rfl ?_
  refine J_i2l (v := (nI x).toInt64) dX8_anvil_1 rfl ?_
  refine J_lconst (v := lN 0) dX8_anvil_2 (by decide +kernel) ?_
  refine J_ldc2 dX8_anvil_3 jqRX8_70 ?_
  refine J.stk (st' := .long (lN 5) :: [.long (lN 0), .long (nI x).toInt64]) rfl ?_
  refine J_callSr (M' := mX8_in) (d' := (1, 0, 0)) (rest := []) dX8_anvil_6 jmX8_in jlRX8_56 (ctX8_in x 0 5   (by first | assumption | omega) (by first | assumption | omega) (by first | assumption | omega)) rfl rfl (Nat.le_of_ble_eq_true rfl) (Nat.le_of_ble_eq_true rfl) ⟨Nat.le_refl _, Nat.le_refl _⟩ ?_
  refine J_if_eqB (tgt := 42) dX8_anvil_9 (by decide) (fun c1 => (by exfalso; omega)) (fun c1 => ?_)
  refine J_iload_n dX8_anvil_12 rfl ?_
  refine J_callSr (M' := mX8_isMemory) (d' := (2, 0, 0)) (rest := []) dX8_anvil_13 jmX8_isMemory jlRX8_72 (ctX8_isMemory y0   (by first | assumption | omega)) rfl rfl (Nat.le_of_ble_eq_true rfl) (Nat.le_of_ble_eq_true rfl) ⟨Nat.le_refl _, Nat.le_refl _⟩ ?_
  refine J_if_eqB (tgt := 42) dX8_anvil_16 (by decide) (fun c2 => (by exfalso; omega)) (fun c2 => ?_)
  refine J_iload_n dX8_anvil_19 rfl ?_
  refine J_callSr (M' := mX8_isMemory) (d' := (2, 0, 0)) (rest := []) dX8_anvil_20 jmX8_isMemory jlRX8_72 (ctX8_isMemory y1   (by first | assumption | omega)) rfl rfl (Nat.le_of_ble_eq_true rfl) (Nat.le_of_ble_eq_true rfl) ⟨Nat.le_refl _, Nat.le_refl _⟩ ?_
  refine J_if_eqB (tgt := 42) dX8_anvil_23 (by decide) (fun c3 => (by exfalso; omega)) (fun c3 => ?_)
  refine J_iload dX8_anvil_26 rfl ?_
  refine J_callSr (M' := mX8_isMemory) (d' := (2, 0, 0)) (rest := []) dX8_anvil_28 jmX8_isMemory jlRX8_72 (ctX8_isMemory y2   (by first | assumption | omega)) rfl rfl (Nat.le_of_ble_eq_true rfl) (Nat.le_of_ble_eq_true rfl) ⟨Nat.le_refl _, Nat.le_refl _⟩ ?_
  refine J_if_eqB (tgt := 42) dX8_anvil_31 (by decide) (fun c4 => (by exfalso; omega)) (fun c4 => ?_)
  refine J_iload dX8_anvil_34 rfl ?_
  refine J_callSr (M' := mX8_isMemory) (d' := (2, 0, 0)) (rest := []) dX8_anvil_36 jmX8_isMemory jlRX8_72 (ctX8_isMemory y3   (by first | assumption | omega)) rfl rfl (Nat.le_of_ble_eq_true rfl) (Nat.le_of_ble_eq_true rfl) ⟨Nat.le_refl _, Nat.le_refl _⟩ ?_
  refine J_if_neB (tgt := 49) dX8_anvil_39 (by decide) (fun c5 => ?_) (fun c5 => (by exfalso; omega))
  refine J_aload_n dX8_anvil_49 rfl ?_
  refine J_callVr (M' := mX8_many) (d' := (1, 0, 0)) (rest := []) dX8_anvil_50 jmX8_many jlRX8_52 (ctX8_many xa xb dt mo bn ta tl tk va Q H0 H2 (by omega) ) H0 (by omega) jk8.1 rfl rfl (Nat.le_of_ble_eq_true rfl) (Nat.le_of_ble_eq_true rfl) ⟨Nat.le_refl _, Nat.le_refl _⟩ ?_
  refine J_iconst (v := nI 4) dX8_anvil_53 (by decide +kernel) ?_
  refine J_icmp_neN (tgt := 62) dX8_anvil_54 (by decide) (by omega) (by omega) (fun c6 => ?_) (fun c6 => (by exfalso; omega))
  refine J_aload_n dX8_anvil_62 rfl ?_
  refine J_get 0 dX8_anvil_63 jk8 (Nat.le_of_ble_eq_true rfl) jfRX8_7 H0 (by omega) rfl ?_
  refine J_iload_n dX8_anvil_66 rfl ?_
  refine J_iload_n dX8_anvil_67 rfl ?_
  refine J_iload_n dX8_anvil_68 rfl ?_
  refine J_iload dX8_anvil_69 rfl ?_
  refine J_iload dX8_anvil_71 rfl ?_
  refine J_callSn (M' := mX8_layAnvil) (d' := (1, 0, 0)) (rest := []) dX8_anvil_73 jmX8_layAnvil jlRX8_79 (ctX8_layAnvil 39 218 x y0 y1 y2 y3 Q H2 (by omega) (by first | assumption | omega) (by first | assumption | omega) (by first | assumption | omega)) rfl rfl (Nat.le_of_ble_eq_true rfl) (Nat.le_of_ble_eq_true rfl) ⟨Nat.le_refl _, Nat.le_refl _⟩ ?_
  refine J_aload_n dX8_anvil_76 rfl ?_
  refine J_get 0 dX8_anvil_77 jk8 (Nat.le_of_ble_eq_true rfl) jfRX8_7 ((hset_ne (by omega)).trans H0) (by omega) rfl ?_
  refine J_iconst (v := nI 3) dX8_anvil_80 (by decide +kernel) ?_
  refine J_iconst (v := nI 0) dX8_anvil_81 (by decide +kernel) ?_
  refine J_iastN (i := 3) (v := 0) dX8_anvil_82 hset_eq (by omega) (by omega) (by omega) ?_
  refine J.cast hset_hset ?_
  refine J_aload_n dX8_anvil_83 rfl ?_
  refine J_callVr (M' := mX8_many) (d' := (1, 0, 0)) (rest := []) dX8_anvil_84 jmX8_many jlRX8_52 (ctX8_many xa xb dt mo bn ta tl tk va (updN (layQ Q x y0 y1 y2 y3) 3 0) ((hset_ne (by omega)).trans H0) hset_eq (by omega) ) ((hset_ne (by omega)).trans H0) (by omega) jk8.1 rfl rfl (Nat.le_of_ble_eq_true rfl) (Nat.le_of_ble_eq_true rfl) ⟨Nat.le_refl _, Nat.le_refl _⟩ ?_
  refine J_iconst (v := nI 1) dX8_anvil_87 (by decide +kernel) ?_
  refine J_isubN dX8_anvil_88 (by simp [layQ, updN]) ?_
  exact J_iret dX8_anvil_89 rfl ⟨Nat.le_refl _, Nat.le_refl _⟩ (by rw [hPP]; exact ⟨(congrArg some (jv_N (by simp [layQ, updN]))), rfl, rfl⟩)

set_option maxHeartbeats 1000000 in
set_option maxRecDepth 100000 in
theorem ctX8_leftAs {E : jE} {h : Nat → va_E} {n : Nat} (kd : Nat) (m : Nat) (d : Nat) (hk : kd ≤ 5) (hm : m < 2 ^ 31) (hd : d < 2 ^ 31) : jC E mX8_leftAs (1, 0, 0) [.int (nI kd), .int (nI m), .int (nI d)] h n (jR (some (.int (nI (leftN kd m d)))) h n) := by
  refine J.of (L := [(0, .int (nI kd)), (1, .int (nI m)), (2, .int (nI d))]) rfl (by decide +kernel) (Nat.le_of_ble_eq_true rfl) ?_
  obtain ⟨PP, hPP⟩ : ∃ PP : jPost, PP = (jR (some (.int (nI (leftN kd m d)))) h n) := ⟨_, rfl⟩
  rw [← hPP]
  have CUT11 : J E mX8_leftAs (1, 0, 0) jS0 PP h n (0, 0) 11 [(0, .int (nI kd)), (1, .int (nI m)), (2, .int (nI d))] [.int (nI (m - 1))] := by
    refine J_istore_n dX8_leftAs_11 (Nat.le_of_ble_eq_true rfl) (L' := [(3, .int (nI (m - 1))), (0, .int (nI kd)), (1, .int (nI m)), (2, .int (nI d))]) rfl ?_
    refine J_iload_n dX8_leftAs_12 rfl ?_
    have sw1 : kd = 0 ∨ kd = 1 ∨ kd = 2 ∨ kd = 3 ∨ kd = 4 ∨ kd = 5 := by omega
    rcases sw1 with sw1 | sw1 | sw1 | sw1 | sw1 | sw1
    · skip
      refine J_tableOutN (tgt := 78) (v := 0) sw1 dX8_leftAs_13 (by decide +kernel) (by decide) ?_
      refine J_iload_n dX8_leftAs_78 rfl ?_
      exact J_iret dX8_leftAs_79 rfl ⟨Nat.le_refl _, Nat.le_refl _⟩ (by rw [hPP]; exact ⟨(congrArg some (jv_N (by unfold leftN; (repeat' split) <;> omega))), rfl, rfl⟩)
    · skip
      refine J_tableInN (tgt := 48) (v := 1) sw1 dX8_leftAs_13 (by decide +kernel) (by decide +kernel) rfl (by decide) ?_
      refine J_iload_n dX8_leftAs_48 rfl ?_
      refine J_iconst (v := nI 2) dX8_leftAs_49 (by decide +kernel) ?_
      refine J_iremN dX8_leftAs_50 (by omega) (by omega) (by omega) ?_
      refine J_if_neN (tgt := 58) dX8_leftAs_51 (by decide) (by omega) (fun c2 => ?_) (fun c2 => ?_)
      · skip
        refine J_iload_n dX8_leftAs_58 rfl ?_
        exact J_iret dX8_leftAs_59 rfl ⟨Nat.le_refl _, Nat.le_refl _⟩ (by rw [hPP]; exact ⟨(congrArg some (jv_N (by unfold leftN; (repeat' split) <;> omega))), rfl, rfl⟩)
      · skip
        refine J_iload_n dX8_leftAs_54 rfl ?_
        refine J_goto (tgt := 59) dX8_leftAs_55 (by decide) ?_
        exact J_iret dX8_leftAs_59 rfl ⟨Nat.le_refl _, Nat.le_refl _⟩ (by rw [hPP]; exact ⟨(congrArg some (jv_N (by unfold leftN; (repeat' split) <;> omega))), rfl, rfl⟩)
    · skip
      refine J_tableInN (tgt := 60) (v := 2) sw1 dX8_leftAs_13 (by decide +kernel) (by decide +kernel) rfl (by decide) ?_
      refine J_iload_n dX8_leftAs_60 rfl ?_
      refine J_iconst (v := nI 3) dX8_leftAs_61 (by decide +kernel) ?_
      refine J_iremN dX8_leftAs_62 (by omega) (by omega) (by omega) ?_
      refine J_if_neN (tgt := 70) dX8_leftAs_63 (by decide) (by omega) (fun c3 => ?_) (fun c3 => ?_)
      · skip
        refine J_iload_n dX8_leftAs_70 rfl ?_
        exact J_iret dX8_leftAs_71 rfl ⟨Nat.le_refl _, Nat.le_refl _⟩ (by rw [hPP]; exact ⟨(congrArg some (jv_N (by unfold leftN; (repeat' split) <;> omega))), rfl, rfl⟩)
      · skip
        refine J_iload_n dX8_leftAs_66 rfl ?_
        refine J_goto (tgt := 71) dX8_leftAs_67 (by decide) ?_
        exact J_iret dX8_leftAs_71 rfl ⟨Nat.le_refl _, Nat.le_refl _⟩ (by rw [hPP]; exact ⟨(congrArg some (jv_N (by unfold leftN; (repeat' split) <;> omega))), rfl, rfl⟩)
    · skip
      refine J_tableInN (tgt := 72) (v := 3) sw1 dX8_leftAs_13 (by decide +kernel) (by decide +kernel) rfl (by decide) ?_
      refine J_iload_n dX8_leftAs_72 rfl ?_
      refine J_iconst (v := nI 2) dX8_leftAs_73 (by decide +kernel) ?_
      refine J_idivN dX8_leftAs_74 (by omega) (by omega) (by omega) ?_
      exact J_iret dX8_leftAs_75 rfl ⟨Nat.le_refl _, Nat.le_refl _⟩ (by rw [hPP]; exact ⟨(congrArg some (jv_N (by unfold leftN; (repeat' split) <;> omega))), rfl, rfl⟩)
    · skip
      refine J_tableInN (tgt := 76) (v := 4) sw1 dX8_leftAs_13 (by decide +kernel) (by decide +kernel) rfl (by decide) ?_
      refine J_iload_n dX8_leftAs_76 rfl ?_
      exact J_iret dX8_leftAs_77 rfl ⟨Nat.le_refl _, Nat.le_refl _⟩ (by rw [hPP]; exact ⟨(congrArg some (jv_N (by unfold leftN; (repeat' split) <;> omega))), rfl, rfl⟩)
    · skip
      refine J_tableInN (tgt := 48) (v := 5) sw1 dX8_leftAs_13 (by decide +kernel) (by decide +kernel) rfl (by decide) ?_
      refine J_iload_n dX8_leftAs_48 rfl ?_
      refine J_iconst (v := nI 2) dX8_leftAs_49 (by decide +kernel) ?_
      refine J_iremN dX8_leftAs_50 (by omega) (by omega) (by omega) ?_
      refine J_if_neN (tgt := 58) dX8_leftAs_51 (by decide) (by omega) (fun c4 => ?_) (fun c4 => ?_)
      · skip
        refine J_iload_n dX8_leftAs_58 rfl ?_
        exact J_iret dX8_leftAs_59 rfl ⟨Nat.le_refl _, Nat.le_refl _⟩ (by rw [hPP]; exact ⟨(congrArg some (jv_N (by unfold leftN; (repeat' split) <;> omega))), rfl, rfl⟩)
      · skip
        refine J_iload_n dX8_leftAs_54 rfl ?_
        refine J_goto (tgt := 59) dX8_leftAs_55 (by decide) ?_
        exact J_iret dX8_leftAs_59 rfl ⟨Nat.le_refl _, Nat.le_refl _⟩ (by rw [hPP]; exact ⟨(congrArg some (jv_N (by unfold leftN; (repeat' split) <;> omega))), rfl, rfl⟩)
  refine J_iload_n dX8_leftAs_0 rfl ?_
  refine J_if_leN (tgt := 10) dX8_leftAs_1 (by decide) (by omega) (fun c5 => ?_) (fun c5 => ?_)
  · skip
    refine J_iconst (v := nI 0) dX8_leftAs_10 (by decide +kernel) ?_
    refine J.eqs (h' := h) (L' := [(0, .int (nI kd)), (1, .int (nI m)), (2, .int (nI d))]) (st' := [.int (nI (m - 1))]) rfl rfl (jS_c (jv_N (by omega)) rfl) ?_
    exact CUT11  
  · skip
    refine J_iload_n dX8_leftAs_4 rfl ?_
    refine J_iconst (v := nI 1) dX8_leftAs_5 (by decide +kernel) ?_
    refine J_isubN dX8_leftAs_6 (by omega) ?_
    refine J_goto (tgt := 11) dX8_leftAs_7 (by decide) ?_
    exact CUT11  

set_option maxHeartbeats 1000000 in
set_option maxRecDepth 100000 in
theorem ctX8_upAs {E : jE} {h : Nat → va_E} {n : Nat} (kd : Nat) (m : Nat) (g : Nat) (hk : kd ≤ 5) (hm : m < 2 ^ 30) (hg : g < 2 ^ 30) : jC E mX8_upAs (1, 0, 0) [.int (nI kd), .int (nI m), .int (nI g)] h n (jR (some (.int (nI (upN kd m g)))) h n) := by
  refine J.of (L := [(0, .int (nI kd)), (1, .int (nI m)), (2, .int (nI g))]) rfl (by decide +kernel) (Nat.le_of_ble_eq_true rfl) ?_
  obtain ⟨PP, hPP⟩ : ∃ PP : jPost, PP = (jR (some (.int (nI (upN kd m g)))) h n) := ⟨_, rfl⟩
  rw [← hPP]
  have CUT12 : J E mX8_upAs (1, 0, 0) jS0 PP h n (0, 0) 12 [(0, .int (nI kd)), (1, .int (nI m)), (2, .int (nI g))] [.int (nI (m - g))] := by
    refine J_istore_n dX8_upAs_12 (Nat.le_of_ble_eq_true rfl) (L' := [(3, .int (nI (m - g))), (0, .int (nI kd)), (1, .int (nI m)), (2, .int (nI g))]) rfl ?_
    refine J_iload_n dX8_upAs_13 rfl ?_
    refine J_iconst (v := nI 1) dX8_upAs_14 (by decide +kernel) ?_
    refine J_iaddN dX8_upAs_15 ?_
    refine J_iconst (v := nI 2) dX8_upAs_16 (by decide +kernel) ?_
    refine J_idivN dX8_upAs_17 (by omega) (by omega) (by omega) ?_
    refine J_istore dX8_upAs_18 (Nat.le_of_ble_eq_true rfl) (L' := [(4, .int (nI (((m - g) + 1) / 2))), (3, .int (nI (m - g))), (0, .int (nI kd)), (1, .int (nI m)), (2, .int (nI g))]) rfl ?_
    have CUT32 : J E mX8_upAs (1, 0, 0) jS0 PP h n (0, 0) 32 [(4, .int (nI (((m - g) + 1) / 2))), (3, .int (nI (m - g))), (0, .int (nI kd)), (1, .int (nI m)), (2, .int (nI g))] [.int (nI (if 1 ≤ m then m - g + 1 else m - g))] := by
      refine J_istore dX8_upAs_32 (Nat.le_of_ble_eq_true rfl) (L' := [(5, .int (nI (if 1 ≤ m then m - g + 1 else m - g))), (4, .int (nI (((m - g) + 1) / 2))), (3, .int (nI (m - g))), (0, .int (nI kd)), (1, .int (nI m)), (2, .int (nI g))]) rfl ?_
      refine J_iload_n dX8_upAs_34 rfl ?_
      have sw1 : kd = 0 ∨ kd = 1 ∨ kd = 2 ∨ kd = 3 ∨ kd = 4 ∨ kd = 5 := by omega
      rcases sw1 with sw1 | sw1 | sw1 | sw1 | sw1 | sw1
      · skip
        refine J_tableOutN (tgt := 92) (v := 0) sw1 dX8_upAs_35 (by decide +kernel) (by decide) ?_
        refine J_iload_n dX8_upAs_92 rfl ?_
        exact J_iret dX8_upAs_93 rfl ⟨Nat.le_refl _, Nat.le_refl _⟩ (by rw [hPP]; exact ⟨(congrArg some (jv_N (by unfold upN; (repeat' split) <;> omega))), rfl, rfl⟩)
      · skip
        refine J_tableInN (tgt := 68) (v := 1) sw1 dX8_upAs_35 (by decide +kernel) (by decide +kernel) rfl (by decide) ?_
        refine J_iload dX8_upAs_68 rfl ?_
        exact J_iret dX8_upAs_70 rfl ⟨Nat.le_refl _, Nat.le_refl _⟩ (by rw [hPP]; exact ⟨(congrArg some (jv_N (by unfold upN; (repeat' split) <;> omega))), rfl, rfl⟩)
      · skip
        refine J_tableInN (tgt := 71) (v := 2) sw1 dX8_upAs_35 (by decide +kernel) (by decide +kernel) rfl (by decide) ?_
        refine J_iload dX8_upAs_71 rfl ?_
        exact J_iret dX8_upAs_73 rfl ⟨Nat.le_refl _, Nat.le_refl _⟩ (by rw [hPP]; exact ⟨(congrArg some (jv_N (by unfold upN; (repeat' split) <;> omega))), rfl, rfl⟩)
      · skip
        refine J_tableInN (tgt := 92) (v := 3) sw1 dX8_upAs_35 (by decide +kernel) (by decide +kernel) rfl (by decide) ?_
        refine J_iload_n dX8_upAs_92 rfl ?_
        exact J_iret dX8_upAs_93 rfl ⟨Nat.le_refl _, Nat.le_refl _⟩ (by rw [hPP]; exact ⟨(congrArg some (jv_N (by unfold upN; (repeat' split) <;> omega))), rfl, rfl⟩)
      · skip
        refine J_tableInN (tgt := 74) (v := 4) sw1 dX8_upAs_35 (by decide +kernel) (by decide +kernel) rfl (by decide) ?_
        refine J_iconst (v := nI 2) dX8_upAs_74 (by decide +kernel) ?_
        refine J_iload dX8_upAs_75 rfl ?_
        refine J_imulN dX8_upAs_77 ?_
        exact J_iret dX8_upAs_78 rfl ⟨Nat.le_refl _, Nat.le_refl _⟩ (by rw [hPP]; exact ⟨(congrArg some (jv_N (by unfold upN; (repeat' split) <;> omega))), rfl, rfl⟩)
      · skip
        refine J_tableInN (tgt := 79) (v := 5) sw1 dX8_upAs_35 (by decide +kernel) (by decide +kernel) rfl (by decide) ?_
        refine J_iload_n dX8_upAs_79 rfl ?_
        refine J_bipush (v := nI 10) dX8_upAs_80 (by decide +kernel) ?_
        refine J_icmp_ltN (tgt := 89) dX8_upAs_82 (by decide) (by omega) (by omega) (fun c2 => ?_) (fun c2 => ?_)
        · skip
          refine J_iload dX8_upAs_89 rfl ?_
          exact J_iret dX8_upAs_91 rfl ⟨Nat.le_refl _, Nat.le_refl _⟩ (by rw [hPP]; exact ⟨(congrArg some (jv_N (by unfold upN; (repeat' split) <;> omega))), rfl, rfl⟩)
        · skip
          refine J_iconst (v := nI 0) dX8_upAs_85 (by decide +kernel) ?_
          refine J_goto (tgt := 91) dX8_upAs_86 (by decide) ?_
          exact J_iret dX8_upAs_91 rfl ⟨Nat.le_refl _, Nat.le_refl _⟩ (by rw [hPP]; exact ⟨(congrArg some (jv_N (by unfold upN; (repeat' split) <;> omega))), rfl, rfl⟩)
    refine J_iload_n dX8_upAs_20 rfl ?_
    refine J_iconst (v := nI 1) dX8_upAs_21 (by decide +kernel) ?_
    refine J_icmp_ltN (tgt := 31) dX8_upAs_22 (by decide) (by omega) (by omega) (fun c3 => ?_) (fun c3 => ?_)
    · skip
      refine J_iload_n dX8_upAs_31 rfl ?_
      refine J.eqs (h' := h) (L' := [(4, .int (nI (((m - g) + 1) / 2))), (3, .int (nI (m - g))), (0, .int (nI kd)), (1, .int (nI m)), (2, .int (nI g))]) (st' := [.int (nI (if 1 ≤ m then m - g + 1 else m - g))]) rfl rfl (jS_c (jv_N (by split <;> omega)) rfl) ?_
      exact CUT32  
    · skip
      refine J_iload_n dX8_upAs_25 rfl ?_
      refine J_iconst (v := nI 1) dX8_upAs_26 (by decide +kernel) ?_
      refine J_iaddN dX8_upAs_27 ?_
      refine J_goto (tgt := 32) dX8_upAs_28 (by decide) ?_
      refine J.eqs (h' := h) (L' := [(4, .int (nI (((m - g) + 1) / 2))), (3, .int (nI (m - g))), (0, .int (nI kd)), (1, .int (nI m)), (2, .int (nI g))]) (st' := [.int (nI (if 1 ≤ m then m - g + 1 else m - g))]) rfl rfl (jS_c (jv_N (by split <;> omega)) rfl) ?_
      exact CUT32  
  refine J_iload_n dX8_upAs_0 rfl ?_
  refine J_iload_n dX8_upAs_1 rfl ?_
  refine J_icmp_leN (tgt := 11) dX8_upAs_2 (by decide) (by omega) (by omega) (fun c4 => ?_) (fun c4 => ?_)
  · skip
    refine J_iconst (v := nI 0) dX8_upAs_11 (by decide +kernel) ?_
    refine J.eqs (h' := h) (L' := [(0, .int (nI kd)), (1, .int (nI m)), (2, .int (nI g))]) (st' := [.int (nI (m - g))]) rfl rfl (jS_c (jv_N (by omega)) rfl) ?_
    exact CUT12  
  · skip
    refine J_iload_n dX8_upAs_5 rfl ?_
    refine J_iload_n dX8_upAs_6 rfl ?_
    refine J_isubN dX8_upAs_7 (by omega) ?_
    refine J_goto (tgt := 12) dX8_upAs_8 (by decide) ?_
    exact CUT12  

set_option maxHeartbeats 1000000 in
set_option maxRecDepth 100000 in
theorem ctX8_moreAs {E : jE} {h : Nat → va_E} {n : Nat} (kd : Nat) (bl : Nat) (hk : kd ≤ 5) (hb : bl ≤ 5) : jC E mX8_moreAs (1, 0, 0) [.int (nI kd), .int (nI bl)] h n (jR (some (.int (nI (moreN kd bl)))) h n) := by
  refine J.of (L := [(0, .int (nI kd)), (1, .int (nI bl))]) rfl (by decide +kernel) (Nat.le_of_ble_eq_true rfl) ?_
  obtain ⟨PP, hPP⟩ : ∃ PP : jPost, PP = (jR (some (.int (nI (moreN kd bl)))) h n) := ⟨_, rfl⟩
  rw [← hPP]
  refine J_iload_n dX8_moreAs_0 rfl ?_
  refine J_iconst (v := nI 3) dX8_moreAs_1 (by decide +kernel) ?_
  refine J_icmp_neN (tgt := 13) dX8_moreAs_2 (by decide) (by omega) (by omega) (fun c1 => ?_) (fun c1 => ?_)
  · skip
    refine J_iload_n dX8_moreAs_13 rfl ?_
    refine J_iconst (v := nI 5) dX8_moreAs_14 (by decide +kernel) ?_
    refine J_icmp_neN (tgt := 24) dX8_moreAs_15 (by decide) (by omega) (by omega) (fun c2 => ?_) (fun c2 => ?_)
    · skip
      refine J_iload_n dX8_moreAs_24 rfl ?_
      exact J_iret dX8_moreAs_25 rfl ⟨Nat.le_refl _, Nat.le_refl _⟩ (by rw [hPP]; exact ⟨(congrArg some (jv_N (by unfold moreN; (repeat' split) <;> omega))), rfl, rfl⟩)
    · skip
      refine J_iconst (v := nI 2) dX8_moreAs_18 (by decide +kernel) ?_
      refine J_iload_n dX8_moreAs_19 rfl ?_
      refine J_imulN dX8_moreAs_20 ?_
      refine J_goto (tgt := 25) dX8_moreAs_21 (by decide) ?_
      exact J_iret dX8_moreAs_25 rfl ⟨Nat.le_refl _, Nat.le_refl _⟩ (by rw [hPP]; exact ⟨(congrArg some (jv_N (by unfold moreN; (repeat' split) <;> omega))), rfl, rfl⟩)
  · skip
    refine J_iload_n dX8_moreAs_5 rfl ?_
    refine J_iconst (v := nI 1) dX8_moreAs_6 (by decide +kernel) ?_
    refine J_iaddN dX8_moreAs_7 ?_
    refine J_iconst (v := nI 2) dX8_moreAs_8 (by decide +kernel) ?_
    refine J_idivN dX8_moreAs_9 (by omega) (by omega) (by omega) ?_
    refine J_goto (tgt := 25) dX8_moreAs_10 (by decide) ?_
    exact J_iret dX8_moreAs_25 rfl ⟨Nat.le_refl _, Nat.le_refl _⟩ (by rw [hPP]; exact ⟨(congrArg some (jv_N (by unfold moreN; (repeat' split) <;> omega))), rfl, rfl⟩)

set_option maxHeartbeats 1000000 in
set_option maxRecDepth 100000 in
theorem ctX8_layHand {E : jE} {h : Nat → va_E} {n : Nat} (xa : Nat) (xb : Nat) (dt : Nat) (mo : Nat) (bn : Nat) (ta : Nat) (tl : Nat) (tk : Nat) (va : Nat) (Q : Nat → Nat) (MM : Nat → Nat) (H0 : h 38 = .inr (7, [.ref (E.1 + 39), .ref (E.1 + 40), .ref (E.1 + 41), .ref (E.1 + 42), .long (lN xa), .long (lN xb), .ref (E.1 + 43), .int (nI dt), .ref (E.1 + 44), .ref (E.1 + 45), .int (nI mo), .ref (E.1 + 46), .ref (E.1 + 47), .int (nI bn), .int (nI ta), .int (nI tl), .int (nI tk), .int (nI va), .ref (E.1 + 48), .ref (E.1 + 49)])) (H1 : h 39 = cI E 218 (nF Q)) (H2 : h 43 = cI E 16 (nF MM)) (hn : 50 ≤ n) : jC E mX8_layHand (1, 0, 0) [.ref (E.1 + 38)] h n (jR none (hset (hset h 43 (cI E 16 (nF (handM Q MM 16)))) 38 (.inr (7, [.ref (E.1 + 39), .ref (E.1 + 40), .ref (E.1 + 41), .ref (E.1 + 42), .long (lN xa), .long (lN xb), .ref (E.1 + 43), .int (nI (Q 20)), .ref (E.1 + 44), .ref (E.1 + 45), .int (nI mo), .ref (E.1 + 46), .ref (E.1 + 47), .int (nI bn), .int (nI ta), .int (nI tl), .int (nI tk), .int (nI va), .ref (E.1 + 48), .ref (E.1 + 49)]))) n) := by
  refine J.of (L := [(0, .ref (E.1 + 38))]) rfl (by decide +kernel) (Nat.le_of_ble_eq_true rfl) ?_
  obtain ⟨PP, hPP⟩ : ∃ PP : jPost, PP = (jR none (hset (hset h 43 (cI E 16 (nF (handM Q MM 16)))) 38 (.inr (7, [.ref (E.1 + 39), .ref (E.1 + 40), .ref (E.1 + 41), .ref (E.1 + 42), .long (lN xa), .long (lN xb), .ref (E.1 + 43), .int (nI (Q 20)), .ref (E.1 + 44), .ref (E.1 + 45), .int (nI mo), .ref (E.1 + 46), .ref (E.1 + 47), .int (nI bn), .int (nI ta), .int (nI tl), .int (nI tk), .int (nI va), .ref (E.1 + 48), .ref (E.1 + 49)]))) n) := ⟨_, rfl⟩
  rw [← hPP]
  refine J_iconst (v := nI 0) dX8_layHand_0 (by decide +kernel) ?_
  refine J_istore_n dX8_layHand_1 (Nat.le_of_ble_eq_true rfl) (L' := [(1, .int (nI 0)), (0, .ref (E.1 + 38))]) rfl ?_
  have CUT2 : ∀ (f2 : Nat) (i : Nat) (hm2 : 16 - i < f2) (hi : i ≤ 16), J E mX8_layHand (1, 0, 0) jS0 PP (hset h 43 (cI E 16 (nF (handM Q MM i)))) n (0, 0) 2 [(1, .int (nI i)), (0, .ref (E.1 + 38))] [] := by
    intro f2
    induction f2 with
    | zero => intro i hm2; exact absurd hm2 (Nat.not_lt_zero _)
    | succ f2 ih2 =>
      intro i hm2 hi
      refine J_iload_n dX8_layHand_2 rfl ?_
      refine J_bipush (v := nI 16) dX8_layHand_3 (by decide +kernel) ?_
      refine J_icmp_geN (tgt := 28) dX8_layHand_5 (by decide) (by omega) (by omega) (fun c1 => ?_) (fun c1 => ?_)
      · skip
        refine J_aload_n dX8_layHand_28 rfl ?_
        refine J_aload_n dX8_layHand_29 rfl ?_
        refine J_get 0 dX8_layHand_30 jk8 (Nat.le_of_ble_eq_true rfl) jfRX8_7 ((hset_ne (by omega)).trans H0) (by omega) rfl ?_
        refine J_bipush (v := nI 20) dX8_layHand_33 (by decide +kernel) ?_
        refine J_ialdN (i := 20) dX8_layHand_35 ((hset_ne (by omega)).trans H1) (by omega) (by omega) (by omega) ?_
        refine J_put 7 dX8_layHand_36 jk8 (Nat.le_of_ble_eq_true rfl) jfRX8_83 ((hset_ne (by omega)).trans H0) (by omega) rfl rfl rfl (Nat.le_of_ble_eq_true rfl) ?_
        refine J.cast (h' := (hset (hset h 43 (cI E 16 (nF (handM Q MM i)))) 38 (.inr (7, [.ref (E.1 + 39), .ref (E.1 + 40), .ref (E.1 + 41), .ref (E.1 + 42), .long (lN xa), .long (lN xb), .ref (E.1 + 43), .int (nI (Q 20)), .ref (E.1 + 44), .ref (E.1 + 45), .int (nI mo), .ref (E.1 + 46), .ref (E.1 + 47), .int (nI bn), .int (nI ta), .int (nI tl), .int (nI tk), .int (nI va), .ref (E.1 + 48), .ref (E.1 + 49)])))) rfl ?_
        exact J_vret dX8_layHand_39 rfl ⟨Nat.le_refl _, Nat.le_refl _⟩ (by rw [hPP]; exact ⟨rfl, (hset_cg (hset_cg rfl (cI_cg (by intro z; rw [show i = 16 by omega]))) rfl), rfl⟩)
      · skip
        refine J_aload_n dX8_layHand_8 rfl ?_
        refine J_get 6 dX8_layHand_9 jk8 (Nat.le_of_ble_eq_true rfl) jfRX8_27 ((hset_ne (by omega)).trans H0) (by omega) rfl ?_
        refine J_iload_n dX8_layHand_12 rfl ?_
        refine J_aload_n dX8_layHand_13 rfl ?_
        refine J_get 0 dX8_layHand_14 jk8 (Nat.le_of_ble_eq_true rfl) jfRX8_7 ((hset_ne (by omega)).trans H0) (by omega) rfl ?_
        refine J_iconst (v := nI 4) dX8_layHand_17 (by decide +kernel) ?_
        refine J_iload_n dX8_layHand_18 rfl ?_
        refine J_iaddN dX8_layHand_19 ?_
        refine J_ialdN (i := 4 + i) dX8_layHand_20 ((hset_ne (by omega)).trans H1) (by omega) (by omega) (by omega) ?_
        refine J_iastN (i := i) (v := Q (4 + i)) dX8_layHand_21 hset_eq (by omega) (by omega) (by omega) ?_
        refine J.cast hset_hset ?_
        refine J_iincN (q := 0) (a := i) (m := 1) dX8_layHand_22 rfl (by decide +kernel) (Nat.le_of_ble_eq_true rfl) (L' := [(1, .int (nI (i + 1))), (0, .ref (E.1 + 38))]) rfl ?_
        refine J_goto (tgt := 2) dX8_layHand_25 (by decide) ?_
        refine J.eqs (h' := (hset h 43 (cI E 16 (nF (handM Q MM (i + 1)))))) (L' := [(1, .int (nI (i + 1))), (0, .ref (E.1 + 38))]) (st' := []) (hset_cg rfl (cI_cg (by intro z; first | exact handM_0 z | exact handM_s z))) rfl rfl ?_
        exact ih2 (i + 1) (by omega) (by first | assumption | omega)
  refine J.eqs (h' := (hset h 43 (cI E 16 (nF (handM Q MM 0))))) (L' := [(1, .int (nI 0)), (0, .ref (E.1 + 38))]) (st' := []) ((show h = (hset h 43 (cI E 16 (nF MM))) by funext z; simp only [hset]; (repeat' split) <;> first | rfl | (exfalso; omega) | (subst_vars; first | exact H2)).trans (hset_cg rfl (cI_cg (by intro z; first | exact handM_0 z | exact handM_s z)))) rfl rfl ?_
  exact CUT2 (16 - 0 + 1) 0 (Nat.lt_succ_self _) (by first | assumption | omega)

set_option maxHeartbeats 1000000 in
set_option maxRecDepth 100000 in
theorem ctX8_kindOf {E : jE} {h : Nat → va_E} {n : Nat} (a : Nat) (xa : Nat) (xb : Nat) (dt : Nat) (mo : Nat) (bn : Nat) (ta : Nat) (tl : Nat) (tk : Nat) (va : Nat) (Q : Nat → Nat) (H0 : h 38 = .inr (7, [.ref (E.1 + 39), .ref (E.1 + 40), .ref (E.1 + 41), .ref (E.1 + 42), .long (lN xa), .long (lN xb), .ref (E.1 + 43), .int (nI dt), .ref (E.1 + 44), .ref (E.1 + 45), .int (nI mo), .ref (E.1 + 46), .ref (E.1 + 47), .int (nI bn), .int (nI ta), .int (nI tl), .int (nI tk), .int (nI va), .ref (E.1 + 48), .ref (E.1 + 49)])) (H1 : h 39 = cI E 218 (nF Q)) (hn : 50 ≤ n) (ha : a < 4) : jC E mX8_kindOf (1, 0, 0) [.ref (E.1 + 38), .int (nI a)] h n (jR (some (.int (nI (KQ Q a)))) h n) := by
  refine J.of (L := [(0, .ref (E.1 + 38)), (1, .int (nI a))]) rfl (by decide +kernel) (Nat.le_of_ble_eq_true rfl) ?_
  obtain ⟨PP, hPP⟩ : ∃ PP : jPost, PP = (jR (some (.int (nI (KQ Q a)))) h n) := ⟨_, rfl⟩
  rw [← hPP]
  refine J_aload_n dX8_kindOf_0 rfl ?_
  refine J_get 0 dX8_kindOf_1 jk8 (Nat.le_of_ble_eq_true rfl) jfRX8_7 H0 (by omega) rfl ?_
  refine J_bipush (v := nI 22) dX8_kindOf_4 (by decide +kernel) ?_
  refine J_iload_n dX8_kindOf_6 rfl ?_
  refine J_iaddN dX8_kindOf_7 ?_
  refine J_ialdN (i := 22 + a) dX8_kindOf_8 H1 (by omega) (by omega) (by omega) ?_
  exact J_iret dX8_kindOf_9 rfl ⟨Nat.le_refl _, Nat.le_refl _⟩ (by rw [hPP]; exact ⟨(congrArg some (jv_N (by rfl))), rfl, rfl⟩)

set_option maxHeartbeats 1000000 in
set_option maxRecDepth 100000 in
theorem ctX8_upOf {E : jE} {h : Nat → va_E} {n : Nat} (a : Nat) (t : Nat) (xa : Nat) (xb : Nat) (dt : Nat) (mo : Nat) (bn : Nat) (ta : Nat) (tl : Nat) (tk : Nat) (va : Nat) (Q : Nat → Nat) (MM : Nat → Nat) (H0 : h 38 = .inr (7, [.ref (E.1 + 39), .ref (E.1 + 40), .ref (E.1 + 41), .ref (E.1 + 42), .long (lN xa), .long (lN xb), .ref (E.1 + 43), .int (nI dt), .ref (E.1 + 44), .ref (E.1 + 45), .int (nI mo), .ref (E.1 + 46), .ref (E.1 + 47), .int (nI bn), .int (nI ta), .int (nI tl), .int (nI tk), .int (nI va), .ref (E.1 + 48), .ref (E.1 + 49)])) (H1 : h 39 = cI E 218 (nF Q)) (H2 : h 43 = cI E 16 (nF MM)) (hn : 50 ≤ n) (ha : a < 4) (ht : t < 4) (hK : ∀ zz, zz < 4 → KQ Q zz ≤ 5) (hM : ∀ zz, MM zz ≤ 20) (hg : Q 21 ≤ 9) : jC E mX8_upOf (2, 0, 0) [.ref (E.1 + 38), .int (nI a), .int (nI t)] h n (jR (some (.int (nI (upN (KQ Q a) (MM (4 * a + t)) (Q 21))))) h n) := by
  refine J.of (L := [(0, .ref (E.1 + 38)), (1, .int (nI a)), (2, .int (nI t))]) rfl (by decide +kernel) (Nat.le_of_ble_eq_true rfl) ?_
  obtain ⟨PP, hPP⟩ : ∃ PP : jPost, PP = (jR (some (.int (nI (upN (KQ Q a) (MM (4 * a + t)) (Q 21))))) h n) := ⟨_, rfl⟩
  rw [← hPP]
  refine J_aload_n dX8_upOf_0 rfl ?_
  refine J_iload_n dX8_upOf_1 rfl ?_
  refine J_callVr (M' := mX8_kindOf) (d' := (1, 0, 0)) (rest := []) dX8_upOf_2 jmX8_kindOf jlRX8_87 (ctX8_kindOf a xa xb dt mo bn ta tl tk va Q H0 H1 (by omega) (by first | assumption | omega)) H0 (by omega) jk8.1 rfl rfl (Nat.le_of_ble_eq_true rfl) (Nat.le_of_ble_eq_true rfl) ⟨Nat.le_refl _, Nat.le_refl _⟩ ?_
  have kb := hK a ha
  refine J_aload_n dX8_upOf_5 rfl ?_
  refine J_get 6 dX8_upOf_6 jk8 (Nat.le_of_ble_eq_true rfl) jfRX8_27 H0 (by omega) rfl ?_
  refine J_iconst (v := nI 4) dX8_upOf_9 (by decide +kernel) ?_
  refine J_iload_n dX8_upOf_10 rfl ?_
  refine J_imulN dX8_upOf_11 ?_
  refine J_iload_n dX8_upOf_12 rfl ?_
  refine J_iaddN dX8_upOf_13 ?_
  refine J_ialdN (i := (4 * a) + t) dX8_upOf_14 H2 (by omega) (by omega) (by omega) ?_
  have bd1 := hM ((4 * a) + t)
  refine J_aload_n dX8_upOf_15 rfl ?_
  refine J_get 0 dX8_upOf_16 jk8 (Nat.le_of_ble_eq_true rfl) jfRX8_7 H0 (by omega) rfl ?_
  refine J_bipush (v := nI 21) dX8_upOf_19 (by decide +kernel) ?_
  refine J_ialdN (i := 21) dX8_upOf_21 H1 (by omega) (by omega) (by omega) ?_
  refine J_callSr (M' := mX8_upAs) (d' := (1, 0, 0)) (rest := []) dX8_upOf_22 jmX8_upAs jlRX8_90 (ctX8_upAs (KQ Q a) (MM ((4 * a) + t)) (Q 21)   (by first | assumption | omega) (by first | assumption | omega) (by first | assumption | omega)) rfl rfl (Nat.le_of_ble_eq_true rfl) (Nat.le_of_ble_eq_true rfl) ⟨Nat.le_refl _, Nat.le_refl _⟩ ?_
  exact J_iret dX8_upOf_25 rfl ⟨Nat.le_refl _, Nat.le_refl _⟩ (by rw [hPP]; exact ⟨(congrArg some (jv_N (by omega))), rfl, rfl⟩)

set_option maxHeartbeats 1000000 in
set_option maxRecDepth 100000 in
theorem ctX8_foreignOf {E : jE} {h : Nat → va_E} {n : Nat} (a : Nat) (t : Nat) (xa : Nat) (xb : Nat) (dt : Nat) (mo : Nat) (bn : Nat) (ta : Nat) (tl : Nat) (tk : Nat) (va : Nat) (Q : Nat → Nat) (MM : Nat → Nat) (H0 : h 38 = .inr (7, [.ref (E.1 + 39), .ref (E.1 + 40), .ref (E.1 + 41), .ref (E.1 + 42), .long (lN xa), .long (lN xb), .ref (E.1 + 43), .int (nI dt), .ref (E.1 + 44), .ref (E.1 + 45), .int (nI mo), .ref (E.1 + 46), .ref (E.1 + 47), .int (nI bn), .int (nI ta), .int (nI tl), .int (nI tk), .int (nI va), .ref (E.1 + 48), .ref (E.1 + 49)])) (H1 : h 39 = cI E 218 (nF Q)) (H2 : h 43 = cI E 16 (nF MM)) (hn : 50 ≤ n) (ha : a < 4) (ht : t < 4) (hK : ∀ zz, zz < 4 → KQ Q zz ≤ 5) (hM : ∀ zz, MM zz ≤ 20) (hg : Q 21 ≤ 9) : jC E mX8_foreignOf (3, 0, 0) [.ref (E.1 + 38), .int (nI a), .int (nI t)] h n (jR (some (.int (nI (fgnN (KQ Q) MM (Q 21) a t 4)))) h n) := by
  refine J.of (L := [(0, .ref (E.1 + 38)), (1, .int (nI a)), (2, .int (nI t))]) rfl (by decide +kernel) (Nat.le_of_ble_eq_true rfl) ?_
  obtain ⟨PP, hPP⟩ : ∃ PP : jPost, PP = (jR (some (.int (nI (fgnN (KQ Q) MM (Q 21) a t 4)))) h n) := ⟨_, rfl⟩
  rw [← hPP]
  refine J_iconst (v := nI 0) dX8_foreignOf_0 (by decide +kernel) ?_
  refine J_istore_n dX8_foreignOf_1 (Nat.le_of_ble_eq_true rfl) (L' := [(3, .int (nI 0)), (0, .ref (E.1 + 38)), (1, .int (nI a)), (2, .int (nI t))]) rfl ?_
  refine J_iconst (v := nI 0) dX8_foreignOf_2 (by decide +kernel) ?_
  refine J_istore dX8_foreignOf_3 (Nat.le_of_ble_eq_true rfl) (L' := [(4, .int (nI 0)), (3, .int (nI 0)), (0, .ref (E.1 + 38)), (1, .int (nI a)), (2, .int (nI t))]) rfl ?_
  have CUT5 : ∀ (f5 : Nat) (i : Nat) (hm5 : 4 - i < f5) (hi : i ≤ 4), J E mX8_foreignOf (3, 0, 0) jS0 PP h n (0, 0) 5 [(4, .int (nI i)), (3, .int (nI (fgnN (KQ Q) MM (Q 21) a t i))), (0, .ref (E.1 + 38)), (1, .int (nI a)), (2, .int (nI t))] [] := by
    intro f5
    induction f5 with
    | zero => intro i hm5; exact absurd hm5 (Nat.not_lt_zero _)
    | succ f5 ih5 =>
      intro i hm5 hi
      refine J_iload dX8_foreignOf_5 rfl ?_
      refine J_iconst (v := nI 4) dX8_foreignOf_7 (by decide +kernel) ?_
      refine J_icmp_geN (tgt := 37) dX8_foreignOf_8 (by decide) (by omega) (by omega) (fun c1 => ?_) (fun c1 => ?_)
      · skip
        refine J_iload_n dX8_foreignOf_37 rfl ?_
        exact J_iret dX8_foreignOf_38 rfl ⟨Nat.le_refl _, Nat.le_refl _⟩ (by rw [hPP]; exact ⟨(congrArg some (jv_N (by rw [show i = 4 by omega]))), rfl, rfl⟩)
      · skip
        refine J_iload_n dX8_foreignOf_11 rfl ?_
        refine J_iload dX8_foreignOf_12 rfl ?_
        refine J_iload_n dX8_foreignOf_14 rfl ?_
        refine J_icmp_neN (tgt := 22) dX8_foreignOf_15 (by decide) (by omega) (by omega) (fun c2 => ?_) (fun c2 => ?_)
        · skip
          refine J_aload_n dX8_foreignOf_22 rfl ?_
          refine J_iload_n dX8_foreignOf_23 rfl ?_
          refine J_iload dX8_foreignOf_24 rfl ?_
          refine J_callVr (M' := mX8_upOf) (d' := (2, 0, 0)) (rest := [.int (nI (fgnN (KQ Q) MM (Q 21) a t i))]) dX8_foreignOf_26 jmX8_upOf jlRX8_94 (ctX8_upOf a i xa xb dt mo bn ta tl tk va Q MM H0 H1 H2 (by omega) (by first | assumption | omega) (by first | assumption | omega) (by first | assumption | omega) (by first | assumption | omega) (by first | assumption | omega)) H0 (by omega) jk8.1 rfl rfl (Nat.le_of_ble_eq_true rfl) (Nat.le_of_ble_eq_true rfl) ⟨Nat.le_refl _, Nat.le_refl _⟩ ?_
          have fc3 : upN (KQ Q a) (MM (4 * a + i)) (Q 21) ≤ 42 := upN_le ((show ∀ zz, MM zz ≤ 20 from by first | assumption | omega) (4 * a + i))
          refine J_iaddN dX8_foreignOf_29 ?_
          refine J_istore_n dX8_foreignOf_30 (Nat.le_of_ble_eq_true rfl) (L' := [(3, .int (nI ((fgnN (KQ Q) MM (Q 21) a t i) + (upN (KQ Q a) (MM (4 * a + i)) (Q 21))))), (4, .int (nI i)), (0, .ref (E.1 + 38)), (1, .int (nI a)), (2, .int (nI t))]) rfl ?_
          refine J_iincN (q := 1) (a := i) (m := 1) dX8_foreignOf_31 rfl (by decide +kernel) (Nat.le_of_ble_eq_true rfl) (L' := [(4, .int (nI (i + 1))), (3, .int (nI ((fgnN (KQ Q) MM (Q 21) a t i) + (upN (KQ Q a) (MM (4 * a + i)) (Q 21))))), (0, .ref (E.1 + 38)), (1, .int (nI a)), (2, .int (nI t))]) rfl ?_
          refine J_goto (tgt := 5) dX8_foreignOf_34 (by decide) ?_
          refine J.eqs (h' := h) (L' := [(4, .int (nI (i + 1))), (3, .int (nI (fgnN (KQ Q) MM (Q 21) a t (i + 1)))), (0, .ref (E.1 + 38)), (1, .int (nI a)), (2, .int (nI t))]) (st' := []) rfl (jL_c rfl (jL_c (jv_N (by first | rfl | (simp only [fgnN]; split <;> omega))) (jL_c rfl (jL_c rfl (jL_c rfl rfl))))) rfl ?_
          exact ih5 (i + 1) (by omega) (by first | assumption | omega)
        · skip
          refine J_iconst (v := nI 0) dX8_foreignOf_18 (by decide +kernel) ?_
          refine J_goto (tgt := 29) dX8_foreignOf_19 (by decide) ?_
          refine J_iaddN dX8_foreignOf_29 ?_
          refine J_istore_n dX8_foreignOf_30 (Nat.le_of_ble_eq_true rfl) (L' := [(3, .int (nI ((fgnN (KQ Q) MM (Q 21) a t i) + 0))), (4, .int (nI i)), (0, .ref (E.1 + 38)), (1, .int (nI a)), (2, .int (nI t))]) rfl ?_
          refine J_iincN (q := 1) (a := i) (m := 1) dX8_foreignOf_31 rfl (by decide +kernel) (Nat.le_of_ble_eq_true rfl) (L' := [(4, .int (nI (i + 1))), (3, .int (nI ((fgnN (KQ Q) MM (Q 21) a t i) + 0))), (0, .ref (E.1 + 38)), (1, .int (nI a)), (2, .int (nI t))]) rfl ?_
          refine J_goto (tgt := 5) dX8_foreignOf_34 (by decide) ?_
          refine J.eqs (h' := h) (L' := [(4, .int (nI (i + 1))), (3, .int (nI (fgnN (KQ Q) MM (Q 21) a t (i + 1)))), (0, .ref (E.1 + 38)), (1, .int (nI a)), (2, .int (nI t))]) (st' := []) rfl (jL_c rfl (jL_c (jv_N (by first | rfl | (simp only [fgnN]; split <;> omega))) (jL_c rfl (jL_c rfl (jL_c rfl rfl))))) rfl ?_
          exact ih5 (i + 1) (by omega) (by first | assumption | omega)
  refine J.eqs (h' := h) (L' := [(4, .int (nI 0)), (3, .int (nI (fgnN (KQ Q) MM (Q 21) a t 0))), (0, .ref (E.1 + 38)), (1, .int (nI a)), (2, .int (nI t))]) (st' := []) rfl (jL_c rfl (jL_c (jv_N (by first | rfl | (simp only [fgnN]; split <;> omega))) (jL_c rfl (jL_c rfl (jL_c rfl rfl))))) rfl ?_
  exact CUT5 (4 - 0 + 1) 0 (Nat.lt_succ_self _) (by first | assumption | omega)

set_option maxHeartbeats 1000000 in
set_option maxRecDepth 100000 in
theorem ctX8_goWork {E : jE} {h : Nat → va_E} {n : Nat} (a : Nat) (t : Nat) (bl : Nat) (xa : Nat) (xb : Nat) (dt : Nat) (mo : Nat) (bn : Nat) (ta : Nat) (tl : Nat) (tk : Nat) (va : Nat) (Q : Nat → Nat) (MM : Nat → Nat) (H0 : h 38 = .inr (7, [.ref (E.1 + 39), .ref (E.1 + 40), .ref (E.1 + 41), .ref (E.1 + 42), .long (lN xa), .long (lN xb), .ref (E.1 + 43), .int (nI dt), .ref (E.1 + 44), .ref (E.1 + 45), .int (nI mo), .ref (E.1 + 46), .ref (E.1 + 47), .int (nI bn), .int (nI ta), .int (nI tl), .int (nI tk), .int (nI va), .ref (E.1 + 48), .ref (E.1 + 49)])) (H1 : h 39 = cI E 218 (nF Q)) (H2 : h 43 = cI E 16 (nF MM)) (hn : 50 ≤ n) (ha : a < 4) (ht : t < 4) (hK : ∀ zz, zz < 4 → KQ Q zz ≤ 5) (hM : ∀ zz, MM zz ≤ 20) (hg : Q 21 ≤ 9) (hbl : bl ≤ 5) : jC E mX8_goWork (4, 0, 0) [.ref (E.1 + 38), .int (nI a), .int (nI t), .int (nI bl)] h n (jR (some (.int (nI (fgnN (KQ Q) MM (Q 21) a t 4)))) (hset h 43 (cI E 16 (nF (addMN (KQ Q) MM a t bl)))) n) := by
  refine J.of (L := [(0, .ref (E.1 + 38)), (1, .int (nI a)), (2, .int (nI t)), (3, .int (nI bl))]) rfl (by decide +kernel) (Nat.le_of_ble_eq_true rfl) ?_
  obtain ⟨PP, hPP⟩ : ∃ PP : jPost, PP = (jR (some (.int (nI (fgnN (KQ Q) MM (Q 21) a t 4)))) (hset h 43 (cI E 16 (nF (addMN (KQ Q) MM a t bl)))) n) := ⟨_, rfl⟩
  rw [← hPP]
  refine J_aload_n dX8_goWork_0 rfl ?_
  refine J_iload_n dX8_goWork_1 rfl ?_
  refine J_iload_n dX8_goWork_2 rfl ?_
  refine J_callVr (M' := mX8_foreignOf) (d' := (3, 0, 0)) (rest := []) dX8_goWork_3 jmX8_foreignOf jlRX8_98 (ctX8_foreignOf a t xa xb dt mo bn ta tl tk va Q MM H0 H1 H2 (by omega) (by first | assumption | omega) (by first | assumption | omega) (by first | assumption | omega) (by first | assumption | omega) (by first | assumption | omega)) H0 (by omega) jk8.1 rfl rfl (Nat.le_of_ble_eq_true rfl) (Nat.le_of_ble_eq_true rfl) ⟨Nat.le_refl _, Nat.le_refl _⟩ ?_
  have fc1 : fgnN (KQ Q) MM (Q 21) a t 4 ≤ 42 * 4 := fgnN_le (show ∀ zz, MM zz ≤ 20 from by first | assumption | omega) 4
  refine J_istore dX8_goWork_6 (Nat.le_of_ble_eq_true rfl) (L' := [(4, .int (nI (fgnN (KQ Q) MM (Q 21) a t 4))), (0, .ref (E.1 + 38)), (1, .int (nI a)), (2, .int (nI t)), (3, .int (nI bl))]) rfl ?_
  refine J_aload_n dX8_goWork_8 rfl ?_
  refine J_get 6 dX8_goWork_9 jk8 (Nat.le_of_ble_eq_true rfl) jfRX8_27 H0 (by omega) rfl ?_
  refine J_iconst (v := nI 4) dX8_goWork_12 (by decide +kernel) ?_
  refine J_iload_n dX8_goWork_13 rfl ?_
  refine J_imulN dX8_goWork_14 ?_
  refine J_iload_n dX8_goWork_15 rfl ?_
  refine J_iaddN dX8_goWork_16 ?_
  refine J_ialdN (i := (4 * a) + t) dX8_goWork_17 H2 (by omega) (by omega) (by omega) ?_
  have bd2 := hM ((4 * a) + t)
  refine J_aload_n dX8_goWork_18 rfl ?_
  refine J_iload_n dX8_goWork_19 rfl ?_
  refine J_callVr (M' := mX8_kindOf) (d' := (1, 0, 0)) (rest := [.int (nI (MM ((4 * a) + t)))]) dX8_goWork_20 jmX8_kindOf jlRX8_87 (ctX8_kindOf a xa xb dt mo bn ta tl tk va Q H0 H1 (by omega) (by first | assumption | omega)) H0 (by omega) jk8.1 rfl rfl (Nat.le_of_ble_eq_true rfl) (Nat.le_of_ble_eq_true rfl) ⟨Nat.le_refl _, Nat.le_refl _⟩ ?_
  have kb := hK a ha
  refine J_iload_n dX8_goWork_23 rfl ?_
  refine J_callSr (M' := mX8_moreAs) (d' := (1, 0, 0)) (rest := [.int (nI (MM ((4 * a) + t)))]) dX8_goWork_24 jmX8_moreAs jlRX8_101 (ctX8_moreAs (KQ Q a) bl   (by first | assumption | omega) (by first | assumption | omega)) rfl rfl (Nat.le_of_ble_eq_true rfl) (Nat.le_of_ble_eq_true rfl) ⟨Nat.le_refl _, Nat.le_refl _⟩ ?_
  have bm0 := moreN_le (kd := KQ Q a) (b := bl) (by omega)
  refine J_iaddN dX8_goWork_27 ?_
  refine J_istore dX8_goWork_28 (Nat.le_of_ble_eq_true rfl) (L' := [(5, .int (nI ((MM ((4 * a) + t)) + (moreN (KQ Q a) bl)))), (4, .int (nI (fgnN (KQ Q) MM (Q 21) a t 4))), (0, .ref (E.1 + 38)), (1, .int (nI a)), (2, .int (nI t)), (3, .int (nI bl))]) rfl ?_
  refine J_aload_n dX8_goWork_30 rfl ?_
  refine J_get 6 dX8_goWork_31 jk8 (Nat.le_of_ble_eq_true rfl) jfRX8_27 H0 (by omega) rfl ?_
  refine J_iconst (v := nI 4) dX8_goWork_34 (by decide +kernel) ?_
  refine J_iload_n dX8_goWork_35 rfl ?_
  refine J_imulN dX8_goWork_36 ?_
  refine J_iload_n dX8_goWork_37 rfl ?_
  refine J_iaddN dX8_goWork_38 ?_
  refine J_iload dX8_goWork_39 rfl ?_
  refine J_bipush (v := nI 20) dX8_goWork_41 (by decide +kernel) ?_
  refine J_icmp_leN (tgt := 51) dX8_goWork_43 (by decide) (by omega) (by omega) (fun c3 => ?_) (fun c3 => ?_)
  · skip
    refine J_iload dX8_goWork_51 rfl ?_
    refine J_iastN (i := (4 * a) + t) (v := (MM ((4 * a) + t)) + (moreN (KQ Q a) bl)) dX8_goWork_53 H2 (by omega) (by omega) (by omega) ?_
    refine J_iload dX8_goWork_54 rfl ?_
    exact J_iret dX8_goWork_56 rfl ⟨Nat.le_refl _, Nat.le_refl _⟩ (by rw [hPP]; exact ⟨rfl, (hset_cg rfl (cI_cg (by intro z; first | rfl | (simp only [addMN]; rw [Nat.min_eq_right (by omega)]) | (simp only [addMN]; rw [Nat.min_eq_left (by omega)])))), rfl⟩)
  · skip
    refine J_bipush (v := nI 20) dX8_goWork_46 (by decide +kernel) ?_
    refine J_goto (tgt := 53) dX8_goWork_48 (by decide) ?_
    refine J_iastN (i := (4 * a) + t) (v := 20) dX8_goWork_53 H2 (by omega) (by omega) (by omega) ?_
    refine J_iload dX8_goWork_54 rfl ?_
    exact J_iret dX8_goWork_56 rfl ⟨Nat.le_refl _, Nat.le_refl _⟩ (by rw [hPP]; exact ⟨rfl, (hset_cg rfl (cI_cg (by intro z; first | rfl | (simp only [addMN]; rw [Nat.min_eq_right (by omega)]) | (simp only [addMN]; rw [Nat.min_eq_left (by omega)])))), rfl⟩)

set_option maxHeartbeats 1000000 in
set_option maxRecDepth 100000 in
theorem ctX8_goDay {E : jE} {h : Nat → va_E} {n : Nat} (xa : Nat) (xb : Nat) (dt : Nat) (mo : Nat) (bn : Nat) (ta : Nat) (tl : Nat) (tk : Nat) (va : Nat) (Q : Nat → Nat) (MM : Nat → Nat) (H0 : h 38 = .inr (7, [.ref (E.1 + 39), .ref (E.1 + 40), .ref (E.1 + 41), .ref (E.1 + 42), .long (lN xa), .long (lN xb), .ref (E.1 + 43), .int (nI dt), .ref (E.1 + 44), .ref (E.1 + 45), .int (nI mo), .ref (E.1 + 46), .ref (E.1 + 47), .int (nI bn), .int (nI ta), .int (nI tl), .int (nI tk), .int (nI va), .ref (E.1 + 48), .ref (E.1 + 49)])) (H1 : h 39 = cI E 218 (nF Q)) (H2 : h 43 = cI E 16 (nF MM)) (hn : 50 ≤ n) (hn4 : Q 0 ≤ 4) (hK : ∀ zz, zz < 4 → KQ Q zz ≤ 5) (hM : ∀ zz, MM zz ≤ 20) (hd : dt < 2 ^ 31) : jC E mX8_goDay (2, 0, 0) [.ref (E.1 + 38)] h n (jR none (hset (hset h 43 (cI E 16 (nF (dayN (KQ Q) MM (Q 0) dt)))) 38 (.inr (7, [.ref (E.1 + 39), .ref (E.1 + 40), .ref (E.1 + 41), .ref (E.1 + 42), .long (lN xa), .long (lN xb), .ref (E.1 + 43), .int (nI (dt + 1)), .ref (E.1 + 44), .ref (E.1 + 45), .int (nI mo), .ref (E.1 + 46), .ref (E.1 + 47), .int (nI bn), .int (nI ta), .int (nI tl), .int (nI tk), .int (nI va), .ref (E.1 + 48), .ref (E.1 + 49)]))) n) := by
  refine J.of (L := [(0, .ref (E.1 + 38))]) rfl (by decide +kernel) (Nat.le_of_ble_eq_true rfl) ?_
  obtain ⟨PP, hPP⟩ : ∃ PP : jPost, PP = (jR none (hset (hset h 43 (cI E 16 (nF (dayN (KQ Q) MM (Q 0) dt)))) 38 (.inr (7, [.ref (E.1 + 39), .ref (E.1 + 40), .ref (E.1 + 41), .ref (E.1 + 42), .long (lN xa), .long (lN xb), .ref (E.1 + 43), .int (nI (dt + 1)), .ref (E.1 + 44), .ref (E.1 + 45), .int (nI mo), .ref (E.1 + 46), .ref (E.1 + 47), .int (nI bn), .int (nI ta), .int (nI tl), .int (nI tk), .int (nI va), .ref (E.1 + 48), .ref (E.1 + 49)]))) n) := ⟨_, rfl⟩
  rw [← hPP]
  refine J_iconst (v := nI 0) dX8_goDay_0 (by decide +kernel) ?_
  refine J_istore_n dX8_goDay_1 (Nat.le_of_ble_eq_true rfl) (L' := [(1, .int (nI 0)), (0, .ref (E.1 + 38))]) rfl ?_
  have CUT2 : ∀ (f2 : Nat) (i : Nat) (hm2 : 4 * Q 0 - i < f2) (hi : i ≤ 4 * Q 0), J E mX8_goDay (2, 0, 0) jS0 PP (hset h 43 (cI E 16 (nF (dayP (KQ Q) MM i dt)))) n (0, 0) 2 [(1, .int (nI i)), (0, .ref (E.1 + 38))] [] := by
    intro f2
    induction f2 with
    | zero => intro i hm2; exact absurd hm2 (Nat.not_lt_zero _)
    | succ f2 ih2 =>
      intro i hm2 hi
      have dp : dayP (KQ Q) MM i dt i ≤ 20 := by rw [dayP_at]; exact hM i
      refine J_iload_n dX8_goDay_2 rfl ?_
      refine J_iconst (v := nI 4) dX8_goDay_3 (by decide +kernel) ?_
      refine J_aload_n dX8_goDay_4 rfl ?_
      refine J_callVr (M' := mX8_many) (d' := (1, 0, 0)) (rest := [.int (nI 4), .int (nI i)]) dX8_goDay_5 jmX8_many jlRX8_52 (ctX8_many xa xb dt mo bn ta tl tk va Q ((hset_ne (by omega)).trans H0) ((hset_ne (by omega)).trans H1) (by omega) ) ((hset_ne (by omega)).trans H0) (by omega) jk8.1 rfl rfl (Nat.le_of_ble_eq_true rfl) (Nat.le_of_ble_eq_true rfl) ⟨Nat.le_refl _, Nat.le_refl _⟩ ?_
      refine J_imulN dX8_goDay_8 ?_
      refine J_icmp_geN (tgt := 44) dX8_goDay_9 (by decide) (by omega) (by omega) (fun c1 => ?_) (fun c1 => ?_)
      · skip
        refine J_aload_n dX8_goDay_44 rfl ?_
        refine J_dup dX8_goDay_45 rfl ?_
        refine J_get 7 dX8_goDay_46 jk8 (Nat.le_of_ble_eq_true rfl) jfRX8_83 ((hset_ne (by omega)).trans H0) (by omega) rfl ?_
        refine J_iconst (v := nI 1) dX8_goDay_49 (by decide +kernel) ?_
        refine J_iaddN dX8_goDay_50 ?_
        refine J_put 7 dX8_goDay_51 jk8 (Nat.le_of_ble_eq_true rfl) jfRX8_83 ((hset_ne (by omega)).trans H0) (by omega) rfl rfl rfl (Nat.le_of_ble_eq_true rfl) ?_
        refine J.cast (h' := (hset (hset h 43 (cI E 16 (nF (dayP (KQ Q) MM i dt)))) 38 (.inr (7, [.ref (E.1 + 39), .ref (E.1 + 40), .ref (E.1 + 41), .ref (E.1 + 42), .long (lN xa), .long (lN xb), .ref (E.1 + 43), .int (nI (dt + 1)), .ref (E.1 + 44), .ref (E.1 + 45), .int (nI mo), .ref (E.1 + 46), .ref (E.1 + 47), .int (nI bn), .int (nI ta), .int (nI tl), .int (nI tk), .int (nI va), .ref (E.1 + 48), .ref (E.1 + 49)])))) rfl ?_
        exact J_vret dX8_goDay_54 rfl ⟨Nat.le_refl _, Nat.le_refl _⟩ (by rw [hPP]; exact ⟨rfl, (hset_cg (hset_cg rfl (cI_cg (by intro z; rw [show i = 4 * Q 0 by omega]; rfl))) rfl), rfl⟩)
      · skip
        refine J_aload_n dX8_goDay_12 rfl ?_
        refine J_get 6 dX8_goDay_13 jk8 (Nat.le_of_ble_eq_true rfl) jfRX8_27 ((hset_ne (by omega)).trans H0) (by omega) rfl ?_
        refine J_iload_n dX8_goDay_16 rfl ?_
        refine J_aload_n dX8_goDay_17 rfl ?_
        refine J_iload_n dX8_goDay_18 rfl ?_
        refine J_iconst (v := nI 4) dX8_goDay_19 (by decide +kernel) ?_
        refine J_idivN dX8_goDay_20 (by omega) (by omega) (by omega) ?_
        refine J_callVr (M' := mX8_kindOf) (d' := (1, 0, 0)) (rest := [.int (nI i), .ref (E.1 + 43)]) dX8_goDay_21 jmX8_kindOf jlRX8_87 (ctX8_kindOf (i / 4) xa xb dt mo bn ta tl tk va Q ((hset_ne (by omega)).trans H0) ((hset_ne (by omega)).trans H1) (by omega) (by first | assumption | omega)) ((hset_ne (by omega)).trans H0) (by omega) jk8.1 rfl rfl (Nat.le_of_ble_eq_true rfl) (Nat.le_of_ble_eq_true rfl) ⟨Nat.le_refl _, Nat.le_refl _⟩ ?_
        have kb := hK (i / 4) (by omega)
        refine J_aload_n dX8_goDay_24 rfl ?_
        refine J_get 6 dX8_goDay_25 jk8 (Nat.le_of_ble_eq_true rfl) jfRX8_27 ((hset_ne (by omega)).trans H0) (by omega) rfl ?_
        refine J_iload_n dX8_goDay_28 rfl ?_
        refine J_ialdN (i := i) dX8_goDay_29 hset_eq (by omega) (by omega) (by omega) ?_
        refine J_aload_n dX8_goDay_30 rfl ?_
        refine J_get 7 dX8_goDay_31 jk8 (Nat.le_of_ble_eq_true rfl) jfRX8_83 ((hset_ne (by omega)).trans H0) (by omega) rfl ?_
        refine J_callSr (M' := mX8_leftAs) (d' := (1, 0, 0)) (rest := [.int (nI i), .ref (E.1 + 43)]) dX8_goDay_34 jmX8_leftAs jlRX8_104 (ctX8_leftAs (KQ Q (i / 4)) ((dayP (KQ Q) MM i dt) i) dt   (by first | assumption | omega) (by first | assumption | omega) (by first | assumption | omega)) rfl rfl (Nat.le_of_ble_eq_true rfl) (Nat.le_of_ble_eq_true rfl) ⟨Nat.le_refl _, Nat.le_refl _⟩ ?_
        refine J_iastN (i := i) (v := leftN (KQ Q (i / 4)) ((dayP (KQ Q) MM i dt) i) dt) dX8_goDay_37 hset_eq (by omega) (by omega) (by omega) ?_
        refine J.cast hset_hset ?_
        refine J_iincN (q := 0) (a := i) (m := 1) dX8_goDay_38 rfl (by decide +kernel) (Nat.le_of_ble_eq_true rfl) (L' := [(1, .int (nI (i + 1))), (0, .ref (E.1 + 38))]) rfl ?_
        refine J_goto (tgt := 2) dX8_goDay_41 (by decide) ?_
        refine J.eqs (h' := (hset h 43 (cI E 16 (nF (dayP (KQ Q) MM (i + 1) dt))))) (L' := [(1, .int (nI (i + 1))), (0, .ref (E.1 + 38))]) (st' := []) (hset_cg rfl (cI_cg (by intro z; first | exact dayP_0 z | exact dayP_s z))) rfl rfl ?_
        exact ih2 (i + 1) (by omega) (by first | assumption | omega)
  refine J.eqs (h' := (hset h 43 (cI E 16 (nF (dayP (KQ Q) MM 0 dt))))) (L' := [(1, .int (nI 0)), (0, .ref (E.1 + 38))]) (st' := []) ((show h = (hset h 43 (cI E 16 (nF MM))) by funext z; simp only [hset]; (repeat' split) <;> first | rfl | (exfalso; omega) | (subst_vars; first | exact H2)).trans (hset_cg rfl (cI_cg (by intro z; first | exact dayP_0 z | exact dayP_s z)))) rfl rfl ?_
  exact CUT2 (4 * Q 0 - 0 + 1) 0 (Nat.lt_succ_self _) (by first | assumption | omega)

set_option maxHeartbeats 1000000 in
set_option maxRecDepth 100000 in
theorem ctX8_keepPast {E : jE} {h : Nat → va_E} {n : Nat} (xa : Nat) (xb : Nat) (dt : Nat) (mo : Nat) (bn : Nat) (ta : Nat) (tl : Nat) (tk : Nat) (va : Nat) (Q : Nat → Nat) (H0 : h 38 = .inr (7, [.ref (E.1 + 39), .ref (E.1 + 40), .ref (E.1 + 41), .ref (E.1 + 42), .long (lN xa), .long (lN xb), .ref (E.1 + 43), .int (nI dt), .ref (E.1 + 44), .ref (E.1 + 45), .int (nI mo), .ref (E.1 + 46), .ref (E.1 + 47), .int (nI bn), .int (nI ta), .int (nI tl), .int (nI tk), .int (nI va), .ref (E.1 + 48), .ref (E.1 + 49)])) (H1 : h 39 = cI E 218 (nF Q)) (hn : 50 ≤ n) (hq3 : Q 3 ≤ 8) : jC E mX8_keepPast (1, 0, 0) [.ref (E.1 + 38)] h n (jR none (hset h 39 (cI E 218 (nF (keepQ Q)))) n) := by
  refine J.of (L := [(0, .ref (E.1 + 38))]) rfl (by decide +kernel) (Nat.le_of_ble_eq_true rfl) ?_
  obtain ⟨PP, hPP⟩ : ∃ PP : jPost, PP = (jR none (hset h 39 (cI E 218 (nF (keepQ Q)))) n) := ⟨_, rfl⟩
  rw [← hPP]
  have CUT51 : J E mX8_keepPast (1, 0, 0) jS0 PP (hset h 39 (cI E 218 (nF (keepA Q)))) n (0, 0) 51 [(0, .ref (E.1 + 38))] [] := by
    refine J_iconst (v := nI 0) dX8_keepPast_51 (by decide +kernel) ?_
    refine J_istore_n dX8_keepPast_52 (Nat.le_of_ble_eq_true rfl) (L' := [(1, .int (nI 0)), (0, .ref (E.1 + 38))]) rfl ?_
    have CUT53 : ∀ (f53 : Nat) (i : Nat) (hm53 : 18 - i < f53) (hi : i ≤ 18), J E mX8_keepPast (1, 0, 0) jS0 PP (hset h 39 (cI E 218 (nF (psQ (keepA Q) i)))) n (0, 0) 53 [(1, .int (nI i)), (0, .ref (E.1 + 38))] [] := by
      intro f53
      induction f53 with
      | zero => intro i hm53; exact absurd hm53 (Nat.not_lt_zero _)
      | succ f53 ih53 =>
        intro i hm53 hi
        have e3 := keepA_3 hq3
        have e4 : psQ (keepA Q) i 3 = keepA Q 3 := psQ_lo (by omega)
        refine J_iload_n dX8_keepPast_53 rfl ?_
        refine J_bipush (v := nI 18) dX8_keepPast_54 (by decide +kernel) ?_
        refine J_icmp_geN (tgt := 92) dX8_keepPast_56 (by decide) (by omega) (by omega) (fun c1 => ?_) (fun c1 => ?_)
        · skip
          refine J_aload_n dX8_keepPast_92 rfl ?_
          refine J_get 0 dX8_keepPast_93 jk8 (Nat.le_of_ble_eq_true rfl) jfRX8_7 ((hset_ne (by omega)).trans H0) (by omega) rfl ?_
          refine J_iconst (v := nI 3) dX8_keepPast_96 (by decide +kernel) ?_
          refine J_dup2 dX8_keepPast_97 rfl rfl ?_
          refine J_ialdN (i := 3) dX8_keepPast_98 hset_eq (by omega) (by omega) (by omega) ?_
          refine J_iconst (v := nI 1) dX8_keepPast_99 (by decide +kernel) ?_
          refine J_iaddN dX8_keepPast_100 ?_
          refine J_iastN (i := 3) (v := ((psQ (keepA Q) i) 3) + 1) dX8_keepPast_101 hset_eq (by omega) (by omega) (by omega) ?_
          refine J.cast hset_hset ?_
          exact J_vret dX8_keepPast_102 rfl ⟨Nat.le_refl _, Nat.le_refl _⟩ (by rw [hPP]; exact ⟨rfl, (hset_cg rfl (cI_cg (by intro z; rw [show i = 18 by omega]; simp only [keepQ]; rw [psQ_lo (Q := keepA Q) (k := 3) (by omega)]))), rfl⟩)
        · skip
          refine J_aload_n dX8_keepPast_59 rfl ?_
          refine J_get 0 dX8_keepPast_60 jk8 (Nat.le_of_ble_eq_true rfl) jfRX8_7 ((hset_ne (by omega)).trans H0) (by omega) rfl ?_
          refine J_bipush (v := nI 74) dX8_keepPast_63 (by decide +kernel) ?_
          refine J_bipush (v := nI 18) dX8_keepPast_65 (by decide +kernel) ?_
          refine J_aload_n dX8_keepPast_67 rfl ?_
          refine J_get 0 dX8_keepPast_68 jk8 (Nat.le_of_ble_eq_true rfl) jfRX8_7 ((hset_ne (by omega)).trans H0) (by omega) rfl ?_
          refine J_iconst (v := nI 3) dX8_keepPast_71 (by decide +kernel) ?_
          refine J_ialdN (i := 3) dX8_keepPast_72 hset_eq (by omega) (by omega) (by omega) ?_
          refine J_imulN dX8_keepPast_73 ?_
          refine J_iaddN dX8_keepPast_74 ?_
          refine J_iload_n dX8_keepPast_75 rfl ?_
          refine J_iaddN dX8_keepPast_76 ?_
          refine J_aload_n dX8_keepPast_77 rfl ?_
          refine J_get 0 dX8_keepPast_78 jk8 (Nat.le_of_ble_eq_true rfl) jfRX8_7 ((hset_ne (by omega)).trans H0) (by omega) rfl ?_
          refine J_iconst (v := nI 4) dX8_keepPast_81 (by decide +kernel) ?_
          refine J_iload_n dX8_keepPast_82 rfl ?_
          refine J_iaddN dX8_keepPast_83 ?_
          refine J_ialdN (i := 4 + i) dX8_keepPast_84 hset_eq (by omega) (by omega) (by omega) ?_
          refine J_iastN (i := (74 + (18 * ((psQ (keepA Q) i) 3))) + i) (v := (psQ (keepA Q) i) (4 + i)) dX8_keepPast_85 hset_eq (by omega) (by omega) (by omega) ?_
          refine J.cast hset_hset ?_
          refine J_iincN (q := 0) (a := i) (m := 1) dX8_keepPast_86 rfl (by decide +kernel) (Nat.le_of_ble_eq_true rfl) (L' := [(1, .int (nI (i + 1))), (0, .ref (E.1 + 38))]) rfl ?_
          refine J_goto (tgt := 53) dX8_keepPast_89 (by decide) ?_
          refine J.eqs (h' := (hset h 39 (cI E 218 (nF (psQ (keepA Q) (i + 1)))))) (L' := [(1, .int (nI (i + 1))), (0, .ref (E.1 + 38))]) (st' := []) (hset_cg rfl (cI_cg (by intro z; first | exact psQ_0 z | exact psQ_s (by omega) z))) rfl rfl ?_
          exact ih53 (i + 1) (by omega) (by first | assumption | omega)
    refine J.eqs (h' := (hset h 39 (cI E 218 (nF (psQ (keepA Q) 0))))) (L' := [(1, .int (nI 0)), (0, .ref (E.1 + 38))]) (st' := []) (hset_cg rfl (cI_cg (by intro z; first | exact psQ_0 z | exact psQ_s (by omega) z))) rfl rfl ?_
    exact CUT53 (18 - 0 + 1) 0 (Nat.lt_succ_self _) (by first | assumption | omega)
  refine J_aload_n dX8_keepPast_0 rfl ?_
  refine J_get 0 dX8_keepPast_1 jk8 (Nat.le_of_ble_eq_true rfl) jfRX8_7 H0 (by omega) rfl ?_
  refine J_iconst (v := nI 3) dX8_keepPast_4 (by decide +kernel) ?_
  refine J_ialdN (i := 3) dX8_keepPast_5 H1 (by omega) (by omega) (by omega) ?_
  refine J_bipush (v := nI 8) dX8_keepPast_6 (by decide +kernel) ?_
  refine J_icmp_neN (tgt := 51) dX8_keepPast_8 (by decide) (by omega) (by omega) (fun c2 => ?_) (fun c2 => ?_)
  · skip
    refine J.eqs (h' := (hset h 39 (cI E 218 (nF (keepA Q))))) (L' := [(0, .ref (E.1 + 38))]) (st' := []) ((show h = (hset h 39 (cI E 218 (nF Q))) by funext z; simp only [hset]; (repeat' split) <;> first | rfl | (exfalso; omega) | (subst_vars; first | exact H1)).trans (hset_cg rfl (cI_cg (by intro z; simp only [keepA]; first | rw [if_pos (by assumption)] | rw [if_neg (by assumption)])))) rfl rfl ?_
    exact CUT51  
  · skip
    refine J_iconst (v := nI 0) dX8_keepPast_11 (by decide +kernel) ?_
    refine J_istore_n dX8_keepPast_12 (Nat.le_of_ble_eq_true rfl) (L' := [(1, .int (nI 0)), (0, .ref (E.1 + 38))]) rfl ?_
    have CUT13 : ∀ (f13 : Nat) (i : Nat) (hm13 : 126 - i < f13) (hi : i ≤ 126), J E mX8_keepPast (1, 0, 0) jS0 PP (hset h 39 (cI E 218 (nF (shQ Q i)))) n (0, 0) 13 [(1, .int (nI i)), (0, .ref (E.1 + 38))] [] := by
      intro f13
      induction f13 with
      | zero => intro i hm13; exact absurd hm13 (Nat.not_lt_zero _)
      | succ f13 ih13 =>
        intro i hm13 hi
        refine J_iload_n dX8_keepPast_13 rfl ?_
        refine J_bipush (v := nI 126) dX8_keepPast_14 (by decide +kernel) ?_
        refine J_icmp_geN (tgt := 43) dX8_keepPast_16 (by decide) (by omega) (by omega) (fun c3 => ?_) (fun c3 => ?_)
        · skip
          have i126 : i = 126 := by omega
          subst i126
          refine J_aload_n dX8_keepPast_43 rfl ?_
          refine J_get 0 dX8_keepPast_44 jk8 (Nat.le_of_ble_eq_true rfl) jfRX8_7 ((hset_ne (by omega)).trans H0) (by omega) rfl ?_
          refine J_iconst (v := nI 3) dX8_keepPast_47 (by decide +kernel) ?_
          refine J_bipush (v := nI 7) dX8_keepPast_48 (by decide +kernel) ?_
          refine J_iastN (i := 3) (v := 7) dX8_keepPast_50 hset_eq (by omega) (by omega) (by omega) ?_
          refine J.cast hset_hset ?_
          refine J.sub [1] (L' := [(0, .ref (E.1 + 38))]) rfl ?_
          refine J.eqs (h' := (hset h 39 (cI E 218 (nF (keepA Q))))) (L' := [(0, .ref (E.1 + 38))]) (st' := []) (hset_cg rfl (cI_cg (by intro z; simp only [keepA]; first | rw [if_pos (by assumption)] | rw [if_neg (by assumption)]))) rfl rfl ?_
          exact CUT51  
        · skip
          refine J_aload_n dX8_keepPast_19 rfl ?_
          refine J_get 0 dX8_keepPast_20 jk8 (Nat.le_of_ble_eq_true rfl) jfRX8_7 ((hset_ne (by omega)).trans H0) (by omega) rfl ?_
          refine J_bipush (v := nI 74) dX8_keepPast_23 (by decide +kernel) ?_
          refine J_iload_n dX8_keepPast_25 rfl ?_
          refine J_iaddN dX8_keepPast_26 ?_
          refine J_aload_n dX8_keepPast_27 rfl ?_
          refine J_get 0 dX8_keepPast_28 jk8 (Nat.le_of_ble_eq_true rfl) jfRX8_7 ((hset_ne (by omega)).trans H0) (by omega) rfl ?_
          refine J_bipush (v := nI 92) dX8_keepPast_31 (by decide +kernel) ?_
          refine J_iload_n dX8_keepPast_33 rfl ?_
          refine J_iaddN dX8_keepPast_34 ?_
          refine J_ialdN (i := 92 + i) dX8_keepPast_35 hset_eq (by omega) (by omega) (by omega) ?_
          refine J_iastN (i := 74 + i) (v := (shQ Q i) (92 + i)) dX8_keepPast_36 hset_eq (by omega) (by omega) (by omega) ?_
          refine J.cast hset_hset ?_
          refine J_iincN (q := 0) (a := i) (m := 1) dX8_keepPast_37 rfl (by decide +kernel) (Nat.le_of_ble_eq_true rfl) (L' := [(1, .int (nI (i + 1))), (0, .ref (E.1 + 38))]) rfl ?_
          refine J_goto (tgt := 13) dX8_keepPast_40 (by decide) ?_
          refine J.eqs (h' := (hset h 39 (cI E 218 (nF (shQ Q (i + 1)))))) (L' := [(1, .int (nI (i + 1))), (0, .ref (E.1 + 38))]) (st' := []) (hset_cg rfl (cI_cg (by intro z; first | exact shQ_0 z | exact shQ_s z))) rfl rfl ?_
          exact ih13 (i + 1) (by omega) (by first | assumption | omega)
    refine J.eqs (h' := (hset h 39 (cI E 218 (nF (shQ Q 0))))) (L' := [(1, .int (nI 0)), (0, .ref (E.1 + 38))]) (st' := []) ((show h = (hset h 39 (cI E 218 (nF Q))) by funext z; simp only [hset]; (repeat' split) <;> first | rfl | (exfalso; omega) | (subst_vars; first | exact H1)).trans (hset_cg rfl (cI_cg (by intro z; first | exact shQ_0 z | exact shQ_s z)))) rfl rfl ?_
    exact CUT13 (126 - 0 + 1) 0 (Nat.lt_succ_self _) (by first | assumption | omega)

set_option maxHeartbeats 1000000 in
set_option maxRecDepth 100000 in
theorem ctX8_layNow {E : jE} {h : Nat → va_E} {n : Nat} (xa : Nat) (xb : Nat) (dt : Nat) (mo : Nat) (bn : Nat) (ta : Nat) (tl : Nat) (tk : Nat) (va : Nat) (Q : Nat → Nat) (MM : Nat → Nat) (H0 : h 38 = .inr (7, [.ref (E.1 + 39), .ref (E.1 + 40), .ref (E.1 + 41), .ref (E.1 + 42), .long (lN xa), .long (lN xb), .ref (E.1 + 43), .int (nI dt), .ref (E.1 + 44), .ref (E.1 + 45), .int (nI mo), .ref (E.1 + 46), .ref (E.1 + 47), .int (nI bn), .int (nI ta), .int (nI tl), .int (nI tk), .int (nI va), .ref (E.1 + 48), .ref (E.1 + 49)])) (H1 : h 39 = cI E 218 (nF Q)) (H2 : h 43 = cI E 16 (nF MM)) (hn : 50 ≤ n) : jC E mX8_layNow (1, 0, 0) [.ref (E.1 + 38)] h n (jR none (hset h 39 (cI E 218 (nF (laynQ Q MM 16)))) n) := by
  refine J.of (L := [(0, .ref (E.1 + 38))]) rfl (by decide +kernel) (Nat.le_of_ble_eq_true rfl) ?_
  obtain ⟨PP, hPP⟩ : ∃ PP : jPost, PP = (jR none (hset h 39 (cI E 218 (nF (laynQ Q MM 16)))) n) := ⟨_, rfl⟩
  rw [← hPP]
  refine J_iconst (v := nI 0) dX8_layNow_0 (by decide +kernel) ?_
  refine J_istore_n dX8_layNow_1 (Nat.le_of_ble_eq_true rfl) (L' := [(1, .int (nI 0)), (0, .ref (E.1 + 38))]) rfl ?_
  have CUT2 : ∀ (f2 : Nat) (i : Nat) (hm2 : 16 - i < f2) (hi : i ≤ 16), J E mX8_layNow (1, 0, 0) jS0 PP (hset h 39 (cI E 218 (nF (laynQ Q MM i)))) n (0, 0) 2 [(1, .int (nI i)), (0, .ref (E.1 + 38))] [] := by
    intro f2
    induction f2 with
    | zero => intro i hm2; exact absurd hm2 (Nat.not_lt_zero _)
    | succ f2 ih2 =>
      intro i hm2 hi
      refine J_iload_n dX8_layNow_2 rfl ?_
      refine J_bipush (v := nI 16) dX8_layNow_3 (by decide +kernel) ?_
      refine J_icmp_geN (tgt := 28) dX8_layNow_5 (by decide) (by omega) (by omega) (fun c1 => ?_) (fun c1 => ?_)
      · skip
        exact J_vret dX8_layNow_28 rfl ⟨Nat.le_refl _, Nat.le_refl _⟩ (by rw [hPP]; exact ⟨rfl, (hset_cg rfl (cI_cg (by intro z; rw [show i = 16 by omega]))), rfl⟩)
      · skip
        refine J_aload_n dX8_layNow_8 rfl ?_
        refine J_get 0 dX8_layNow_9 jk8 (Nat.le_of_ble_eq_true rfl) jfRX8_7 ((hset_ne (by omega)).trans H0) (by omega) rfl ?_
        refine J_iconst (v := nI 4) dX8_layNow_12 (by decide +kernel) ?_
        refine J_iload_n dX8_layNow_13 rfl ?_
        refine J_iaddN dX8_layNow_14 ?_
        refine J_aload_n dX8_layNow_15 rfl ?_
        refine J_get 6 dX8_layNow_16 jk8 (Nat.le_of_ble_eq_true rfl) jfRX8_27 ((hset_ne (by omega)).trans H0) (by omega) rfl ?_
        refine J_iload_n dX8_layNow_19 rfl ?_
        refine J_ialdN (i := i) dX8_layNow_20 ((hset_ne (by omega)).trans H2) (by omega) (by omega) (by omega) ?_
        refine J_iastN (i := 4 + i) (v := MM i) dX8_layNow_21 hset_eq (by omega) (by omega) (by omega) ?_
        refine J.cast hset_hset ?_
        refine J_iincN (q := 0) (a := i) (m := 1) dX8_layNow_22 rfl (by decide +kernel) (Nat.le_of_ble_eq_true rfl) (L' := [(1, .int (nI (i + 1))), (0, .ref (E.1 + 38))]) rfl ?_
        refine J_goto (tgt := 2) dX8_layNow_25 (by decide) ?_
        refine J.eqs (h' := (hset h 39 (cI E 218 (nF (laynQ Q MM (i + 1)))))) (L' := [(1, .int (nI (i + 1))), (0, .ref (E.1 + 38))]) (st' := []) (hset_cg rfl (cI_cg (by intro z; first | exact laynQ_0 z | exact laynQ_s z))) rfl rfl ?_
        exact ih2 (i + 1) (by omega) (by first | assumption | omega)
  refine J.eqs (h' := (hset h 39 (cI E 218 (nF (laynQ Q MM 0))))) (L' := [(1, .int (nI 0)), (0, .ref (E.1 + 38))]) (st' := []) ((show h = (hset h 39 (cI E 218 (nF Q))) by funext z; simp only [hset]; (repeat' split) <;> first | rfl | (exfalso; omega) | (subst_vars; first | exact H1)).trans (hset_cg rfl (cI_cg (by intro z; first | exact laynQ_0 z | exact laynQ_s z)))) rfl rfl ?_
  exact CUT2 (16 - 0 + 1) 0 (Nat.lt_succ_self _) (by first | assumption | omega)

set_option maxHeartbeats 1000000 in
set_option maxRecDepth 100000 in
theorem ctX8_work_bad {E : jE} {h : Nat → va_E} {n : Nat} (a : Nat) (t : Nat) (bl : Nat) (xa : Nat) (xb : Nat) (dt : Nat) (mo : Nat) (bn : Nat) (ta : Nat) (tl : Nat) (tk : Nat) (va : Nat) (RF : Nat → Nat) (Q : Nat → Nat) (H0 : h 38 = .inr (7, [.ref (E.1 + 39), .ref (E.1 + 40), .ref (E.1 + 41), .ref (E.1 + 42), .long (lN xa), .long (lN xb), .ref (E.1 + 43), .int (nI dt), .ref (E.1 + 44), .ref (E.1 + 45), .int (nI mo), .ref (E.1 + 46), .ref (E.1 + 47), .int (nI bn), .int (nI ta), .int (nI tl), .int (nI tk), .int (nI va), .ref (E.1 + 48), .ref (E.1 + 49)])) (H1 : h 42 = cI E 3 (nF RF)) (H2 : h 39 = cI E 218 (nF Q)) (hn : 50 ≤ n) (h32a : a < 2 ^ 32) (h32t : t < 2 ^ 32) (h32bl : bl < 2 ^ 32) (hn4 : Q 0 ≤ 4) (hbad : ¬ (a < Q 0 ∧ t ≤ 3 ∧ 1 ≤ bl ∧ bl ≤ 5)) : jC E mX8_work (5, 0, 0) [.ref (E.1 + 38), .int (nI a), .int (nI t), .int (nI bl)] h n (jR (some (.int (-2))) (hset h 42 (cI E 3 (nF (updN RF 0 (RF 0 + 1))))) n) := by
  refine J.of (L := [(0, .ref (E.1 + 38)), (1, .int (nI a)), (2, .int (nI t)), (3, .int (nI bl))]) rfl (by decide +kernel) (Nat.le_of_ble_eq_true rfl) ?_
  obtain ⟨PP, hPP⟩ : ∃ PP : jPost, PP = (jR (some (.int (-2))) (hset h 42 (cI E 3 (nF (updN RF 0 (RF 0 + 1))))) n) := ⟨_, rfl⟩
  rw [← hPP]
  refine J_aload_n dX8_work_0 rfl ?_
  refine J_iload_n dX8_work_1 rfl ?_
  refine J_callVr (M' := mX8_isAnvil) (d' := (2, 0, 0)) (rest := []) dX8_work_2 jmX8_isAnvil jlRX8_107 (ctX8_isAnvil a xa xb dt mo bn ta tl tk va Q H0 H2 (by omega) (by first | assumption | omega) (by first | assumption | omega)) H0 (by omega) jk8.1 rfl rfl (Nat.le_of_ble_eq_true rfl) (Nat.le_of_ble_eq_true rfl) ⟨Nat.le_refl _, Nat.le_refl _⟩ ?_
  refine J_if_eqB (tgt := 27) dX8_work_5 (by decide) (fun c1 => ?_) (fun c1 => ?_)
  · skip
    refine J_aload_n dX8_work_27 rfl ?_
    refine J_bipush (v := (-2)) dX8_work_28 (by decide +kernel) ?_
    refine J_callVr (M' := mX8_bad) (d' := (1, 0, 0)) (rest := []) dX8_work_30 jmX8_bad jlRX8_66 (ctX8_bad (-2) xa xb dt mo bn ta tl tk va RF H0 H1 (by omega) ) H0 (by omega) jk8.1 rfl rfl (Nat.le_of_ble_eq_true rfl) (Nat.le_of_ble_eq_true rfl) ⟨Nat.le_refl _, Nat.le_refl _⟩ ?_
    exact J_iret dX8_work_33 rfl ⟨Nat.le_refl _, Nat.le_refl _⟩ (by rw [hPP]; exact ⟨rfl, rfl, rfl⟩)
  · skip
    refine J_iload_n dX8_work_8 rfl ?_
    refine J_callSr (M' := mX8_isTemper) (d' := (2, 0, 0)) (rest := []) dX8_work_9 jmX8_isTemper jlRX8_110 (ctX8_isTemper t   (by first | assumption | omega)) rfl rfl (Nat.le_of_ble_eq_true rfl) (Nat.le_of_ble_eq_true rfl) ⟨Nat.le_refl _, Nat.le_refl _⟩ ?_
    refine J_if_eqB (tgt := 27) dX8_work_12 (by decide) (fun c2 => ?_) (fun c2 => ?_)
    · skip
      refine J_aload_n dX8_work_27 rfl ?_
      refine J_bipush (v := (-2)) dX8_work_28 (by decide +kernel) ?_
      refine J_callVr (M' := mX8_bad) (d' := (1, 0, 0)) (rest := []) dX8_work_30 jmX8_bad jlRX8_66 (ctX8_bad (-2) xa xb dt mo bn ta tl tk va RF H0 H1 (by omega) ) H0 (by omega) jk8.1 rfl rfl (Nat.le_of_ble_eq_true rfl) (Nat.le_of_ble_eq_true rfl) ⟨Nat.le_refl _, Nat.le_refl _⟩ ?_
      exact J_iret dX8_work_33 rfl ⟨Nat.le_refl _, Nat.le_refl _⟩ (by rw [hPP]; exact ⟨rfl, rfl, rfl⟩)
    · skip
      refine J_iload_n dX8_work_15 rfl ?_
      refine J_i2l (v := (nI bl).toInt64) dX8_work_16 rfl ?_
      refine J_lconst (v := lN 1) dX8_work_17 (by decide +kernel) ?_
      refine J_ldc2 dX8_work_18 jqRX8_70 ?_
      refine J.stk (st' := .long (lN 5) :: [.long (lN 1), .long (nI bl).toInt64]) rfl ?_
      refine J_callSr (M' := mX8_in) (d' := (1, 0, 0)) (rest := []) dX8_work_21 jmX8_in jlRX8_56 (ctX8_in bl 1 5   (by first | assumption | omega) (by first | assumption | omega) (by first | assumption | omega)) rfl rfl (Nat.le_of_ble_eq_true rfl) (Nat.le_of_ble_eq_true rfl) ⟨Nat.le_refl _, Nat.le_refl _⟩ ?_
      refine J_if_neB (tgt := 34) dX8_work_24 (by decide) (fun c3 => (by exfalso; omega)) (fun c3 => ?_)
      refine J_aload_n dX8_work_27 rfl ?_
      refine J_bipush (v := (-2)) dX8_work_28 (by decide +kernel) ?_
      refine J_callVr (M' := mX8_bad) (d' := (1, 0, 0)) (rest := []) dX8_work_30 jmX8_bad jlRX8_66 (ctX8_bad (-2) xa xb dt mo bn ta tl tk va RF H0 H1 (by omega) ) H0 (by omega) jk8.1 rfl rfl (Nat.le_of_ble_eq_true rfl) (Nat.le_of_ble_eq_true rfl) ⟨Nat.le_refl _, Nat.le_refl _⟩ ?_
      exact J_iret dX8_work_33 rfl ⟨Nat.le_refl _, Nat.le_refl _⟩ (by rw [hPP]; exact ⟨rfl, rfl, rfl⟩)

set_option maxHeartbeats 1000000 in
set_option maxRecDepth 100000 in
theorem ctX8_work {E : jE} {h : Nat → va_E} {n : Nat} (a : Nat) (t : Nat) (bl : Nat) (xa : Nat) (xb : Nat) (dt : Nat) (mo : Nat) (bn : Nat) (ta : Nat) (tl : Nat) (tk : Nat) (va : Nat) (Q : Nat → Nat) (MM : Nat → Nat) (H0 : h 38 = .inr (7, [.ref (E.1 + 39), .ref (E.1 + 40), .ref (E.1 + 41), .ref (E.1 + 42), .long (lN xa), .long (lN xb), .ref (E.1 + 43), .int (nI dt), .ref (E.1 + 44), .ref (E.1 + 45), .int (nI mo), .ref (E.1 + 46), .ref (E.1 + 47), .int (nI bn), .int (nI ta), .int (nI tl), .int (nI tk), .int (nI va), .ref (E.1 + 48), .ref (E.1 + 49)])) (H1 : h 39 = cI E 218 (nF Q)) (H2 : h 43 = cI E 16 (nF MM)) (hn : 50 ≤ n) (hn4 : Q 0 ≤ 4) (hK : ∀ zz, zz < 4 → KQ Q zz ≤ 5) (hM4 : ∀ zz, zz < 16 → Q (4 + zz) ≤ 20) (hg : Q 21 ≤ 9) (hM : ∀ zz, MM zz ≤ 20) (hq3 : Q 3 ≤ 8) (ha : a < Q 0) (ht : t < 4) (hb1 : 1 ≤ bl) (hb5 : bl ≤ 5) : jC E mX8_work (5, 0, 0) [.ref (E.1 + 38), .int (nI a), .int (nI t), .int (nI bl)] h n (jR (some (.int (nI (fgnN (KQ (keepQ Q)) (handM (keepQ Q) MM 16) ((keepQ Q) 21) a t 4)))) (hset (hset (hset h 39 (cI E 218 (nF (laynQ (keepQ Q) (addMN (KQ (keepQ Q)) (handM (keepQ Q) MM 16) a t bl) 16)))) 43 (cI E 16 (nF (addMN (KQ (keepQ Q)) (handM (keepQ Q) MM 16) a t bl)))) 38 (.inr (7, [.ref (E.1 + 39), .ref (E.1 + 40), .ref (E.1 + 41), .ref (E.1 + 42), .long (lN xa), .long (lN xb), .ref (E.1 + 43), .int (nI ((keepQ Q) 20)), .ref (E.1 + 44), .ref (E.1 + 45), .int (nI mo), .ref (E.1 + 46), .ref (E.1 + 47), .int (nI bn), .int (nI ta), .int (nI tl), .int (nI tk), .int (nI va), .ref (E.1 + 48), .ref (E.1 + 49)]))) n) := by
  refine J.of (L := [(0, .ref (E.1 + 38)), (1, .int (nI a)), (2, .int (nI t)), (3, .int (nI bl))]) rfl (by decide +kernel) (Nat.le_of_ble_eq_true rfl) ?_
  obtain ⟨PP, hPP⟩ : ∃ PP : jPost, PP = (jR (some (.int (nI (fgnN (KQ (keepQ Q)) (handM (keepQ Q) MM 16) ((keepQ Q) 21) a t 4)))) (hset (hset (hset h 39 (cI E 218 (nF (laynQ (keepQ Q) (addMN (KQ (keepQ Q)) (handM (keepQ Q) MM 16) a t bl) 16)))) 43 (cI E 16 (nF (addMN (KQ (keepQ Q)) (handM (keepQ Q) MM 16) a t bl)))) 38 (.inr (7, [.ref (E.1 + 39), .ref (E.1 + 40), .ref (E.1 + 41), .ref (E.1 + 42), .long (lN xa), .long (lN xb), .ref (E.1 + 43), .int (nI ((keepQ Q) 20)), .ref (E.1 + 44), .ref (E.1 + 45), .int (nI mo), .ref (E.1 + 46), .ref (E.1 + 47), .int (nI bn), .int (nI ta), .int (nI tl), .int (nI tk), .int (nI va), .ref (E.1 + 48), .ref (E.1 + 49)]))) n) := ⟨_, rfl⟩
  rw [← hPP]
  refine J_aload_n dX8_work_0 rfl ?_
  refine J_iload_n dX8_work_1 rfl ?_
  refine J_callVr (M' := mX8_isAnvil) (d' := (2, 0, 0)) (rest := []) dX8_work_2 jmX8_isAnvil jlRX8_107 (ctX8_isAnvil a xa xb dt mo bn ta tl tk va Q H0 H1 (by omega) (by first | assumption | omega) (by first | assumption | omega)) H0 (by omega) jk8.1 rfl rfl (Nat.le_of_ble_eq_true rfl) (Nat.le_of_ble_eq_true rfl) ⟨Nat.le_refl _, Nat.le_refl _⟩ ?_
  refine J_if_eqB (tgt := 27) dX8_work_5 (by decide) (fun c1 => (by exfalso; omega)) (fun c1 => ?_)
  refine J_iload_n dX8_work_8 rfl ?_
  refine J_callSr (M' := mX8_isTemper) (d' := (2, 0, 0)) (rest := []) dX8_work_9 jmX8_isTemper jlRX8_110 (ctX8_isTemper t   (by first | assumption | omega)) rfl rfl (Nat.le_of_ble_eq_true rfl) (Nat.le_of_ble_eq_true rfl) ⟨Nat.le_refl _, Nat.le_refl _⟩ ?_
  refine J_if_eqB (tgt := 27) dX8_work_12 (by decide) (fun c2 => (by exfalso; omega)) (fun c2 => ?_)
  refine J_iload_n dX8_work_15 rfl ?_
  refine J_i2l (v := (nI bl).toInt64) dX8_work_16 rfl ?_
  refine J_lconst (v := lN 1) dX8_work_17 (by decide +kernel) ?_
  refine J_ldc2 dX8_work_18 jqRX8_70 ?_
  refine J.stk (st' := .long (lN 5) :: [.long (lN 1), .long (nI bl).toInt64]) rfl ?_
  refine J_callSr (M' := mX8_in) (d' := (1, 0, 0)) (rest := []) dX8_work_21 jmX8_in jlRX8_56 (ctX8_in bl 1 5   (by first | assumption | omega) (by first | assumption | omega) (by first | assumption | omega)) rfl rfl (Nat.le_of_ble_eq_true rfl) (Nat.le_of_ble_eq_true rfl) ⟨Nat.le_refl _, Nat.le_refl _⟩ ?_
  refine J_if_neB (tgt := 34) dX8_work_24 (by decide) (fun c3 => ?_) (fun c3 => (by exfalso; omega))
  refine J_aload_n dX8_work_34 rfl ?_
  refine J_callVn (M' := mX8_keepPast) (d' := (1, 0, 0)) (rest := []) dX8_work_35 jmX8_keepPast jlRX8_113 (ctX8_keepPast xa xb dt mo bn ta tl tk va Q H0 H1 (by omega) (by first | assumption | omega)) H0 (by omega) jk8.1 rfl rfl (Nat.le_of_ble_eq_true rfl) (Nat.le_of_ble_eq_true rfl) ⟨Nat.le_refl _, Nat.le_refl _⟩ ?_
  refine J_aload_n dX8_work_38 rfl ?_
  refine J_callVn (M' := mX8_layHand) (d' := (1, 0, 0)) (rest := []) dX8_work_39 jmX8_layHand jlRX8_116 (ctX8_layHand xa xb dt mo bn ta tl tk va (keepQ Q) MM ((hset_ne (by omega)).trans H0) hset_eq ((hset_ne (by omega)).trans H2) (by omega) ) ((hset_ne (by omega)).trans H0) (by omega) jk8.1 rfl rfl (Nat.le_of_ble_eq_true rfl) (Nat.le_of_ble_eq_true rfl) ⟨Nat.le_refl _, Nat.le_refl _⟩ ?_
  refine J_aload_n dX8_work_42 rfl ?_
  refine J_iload_n dX8_work_43 rfl ?_
  refine J_iload_n dX8_work_44 rfl ?_
  refine J_iload_n dX8_work_45 rfl ?_
  refine J_callVr (M' := mX8_goWork) (d' := (4, 0, 0)) (rest := []) dX8_work_46 jmX8_goWork jlRX8_119 (ctX8_goWork a t bl xa xb ((keepQ Q) 20) mo bn ta tl tk va (keepQ Q) (handM (keepQ Q) MM 16) hset_eq ((hset_ne (by omega)).trans ((hset_ne (by omega)).trans hset_eq)) ((hset_ne (by omega)).trans hset_eq) (by omega) (by first | assumption | omega) (by first | assumption | omega) (by exact fun zz hz => by rw [keepQ_K hz]; exact hK zz hz) (by exact handM_le (fun zz hz => by rw [keepQ_lo (by omega) (by omega)]; exact hM4 zz hz) hM) (by rw [keepQ_lo (by omega) (by omega)]; exact hg) (by first | assumption | omega)) hset_eq (by omega) jk8.1 rfl rfl (Nat.le_of_ble_eq_true rfl) (Nat.le_of_ble_eq_true rfl) ⟨Nat.le_refl _, Nat.le_refl _⟩ ?_
  refine J.cast ((hset_comm (by omega)).trans (hset_cg hset_hset rfl)) ?_
  have fc4 : fgnN (KQ (keepQ Q)) (handM (keepQ Q) MM 16) ((keepQ Q) 21) a t 4 ≤ 42 * 4 := fgnN_le (show ∀ zz, (handM (keepQ Q) MM 16) zz ≤ 20 from by exact handM_le (fun zz hz => by rw [keepQ_lo (by omega) (by omega)]; exact hM4 zz hz) hM) 4
  refine J_istore dX8_work_49 (Nat.le_of_ble_eq_true rfl) (L' := [(4, .int (nI (fgnN (KQ (keepQ Q)) (handM (keepQ Q) MM 16) ((keepQ Q) 21) a t 4))), (0, .ref (E.1 + 38)), (1, .int (nI a)), (2, .int (nI t)), (3, .int (nI bl))]) rfl ?_
  refine J_aload_n dX8_work_51 rfl ?_
  refine J_callVn (M' := mX8_layNow) (d' := (1, 0, 0)) (rest := []) dX8_work_52 jmX8_layNow jlRX8_122 (ctX8_layNow xa xb ((keepQ Q) 20) mo bn ta tl tk va (keepQ Q) (addMN (KQ (keepQ Q)) (handM (keepQ Q) MM 16) a t bl) hset_eq ((hset_ne (by omega)).trans ((hset_ne (by omega)).trans hset_eq)) ((hset_ne (by omega)).trans hset_eq) (by omega) ) hset_eq (by omega) jk8.1 rfl rfl (Nat.le_of_ble_eq_true rfl) (Nat.le_of_ble_eq_true rfl) ⟨Nat.le_refl _, Nat.le_refl _⟩ ?_
  refine J.cast ((hset_comm (by omega)).trans (hset_cg ((hset_comm (by omega)).trans (hset_cg hset_hset rfl)) rfl)) ?_
  refine J_iload dX8_work_55 rfl ?_
  exact J_iret dX8_work_57 rfl ⟨Nat.le_refl _, Nat.le_refl _⟩ (by rw [hPP]; exact ⟨rfl, rfl, rfl⟩)

set_option maxHeartbeats 1000000 in
set_option maxRecDepth 100000 in
theorem ctX8_day_bad {E : jE} {h : Nat → va_E} {n : Nat} (x : Nat) (xa : Nat) (xb : Nat) (dt : Nat) (mo : Nat) (bn : Nat) (ta : Nat) (tl : Nat) (tk : Nat) (va : Nat) (RF : Nat → Nat) (H0 : h 38 = .inr (7, [.ref (E.1 + 39), .ref (E.1 + 40), .ref (E.1 + 41), .ref (E.1 + 42), .long (lN xa), .long (lN xb), .ref (E.1 + 43), .int (nI dt), .ref (E.1 + 44), .ref (E.1 + 45), .int (nI mo), .ref (E.1 + 46), .ref (E.1 + 47), .int (nI bn), .int (nI ta), .int (nI tl), .int (nI tk), .int (nI va), .ref (E.1 + 48), .ref (E.1 + 49)])) (H1 : h 42 = cI E 3 (nF RF)) (hn : 50 ≤ n) (h32x : x < 2 ^ 32) (hbad : ¬ (1 ≤ x ∧ x ≤ 60)) : jC E mX8_day (3, 0, 0) [.ref (E.1 + 38), .int (nI x)] h n (jR (some (.int (-2))) (hset h 42 (cI E 3 (nF (updN RF 0 (RF 0 + 1))))) n) := by
  refine J.of (L := [(0, .ref (E.1 + 38)), (1, .int (nI x))]) rfl (by decide +kernel) (Nat.le_of_ble_eq_true rfl) ?_
  obtain ⟨PP, hPP⟩ : ∃ PP : jPost, PP = (jR (some (.int (-2))) (hset h 42 (cI E 3 (nF (updN RF 0 (RF 0 + 1))))) n) := ⟨_, rfl⟩
  rw [← hPP]
  refine J_iload_n dX8_day_0 rfl ?_
  refine J_i2l (v := (nI x).toInt64) dX8_day_1 rfl ?_
  refine J_lconst (v := lN 1) dX8_day_2 (by decide +kernel) ?_
  refine J_ldc2 dX8_day_3 jqRX8_125 ?_
  refine J.stk (st' := .long (lN 60) :: [.long (lN 1), .long (nI x).toInt64]) rfl ?_
  refine J_callSr (M' := mX8_in) (d' := (1, 0, 0)) (rest := []) dX8_day_6 jmX8_in jlRX8_56 (ctX8_in x 1 60   (by first | assumption | omega) (by first | assumption | omega) (by first | assumption | omega)) rfl rfl (Nat.le_of_ble_eq_true rfl) (Nat.le_of_ble_eq_true rfl) ⟨Nat.le_refl _, Nat.le_refl _⟩ ?_
  refine J_if_neB (tgt := 19) dX8_day_9 (by decide) (fun c1 => (by exfalso; omega)) (fun c1 => ?_)
  refine J_aload_n dX8_day_12 rfl ?_
  refine J_bipush (v := (-2)) dX8_day_13 (by decide +kernel) ?_
  refine J_callVr (M' := mX8_bad) (d' := (1, 0, 0)) (rest := []) dX8_day_15 jmX8_bad jlRX8_66 (ctX8_bad (-2) xa xb dt mo bn ta tl tk va RF H0 H1 (by omega) ) H0 (by omega) jk8.1 rfl rfl (Nat.le_of_ble_eq_true rfl) (Nat.le_of_ble_eq_true rfl) ⟨Nat.le_refl _, Nat.le_refl _⟩ ?_
  exact J_iret dX8_day_18 rfl ⟨Nat.le_refl _, Nat.le_refl _⟩ (by rw [hPP]; exact ⟨rfl, rfl, rfl⟩)

set_option maxHeartbeats 1000000 in
set_option maxRecDepth 100000 in
theorem ctX8_day {E : jE} {h : Nat → va_E} {n : Nat} (x : Nat) (xa : Nat) (xb : Nat) (dt : Nat) (mo : Nat) (bn : Nat) (ta : Nat) (tl : Nat) (tk : Nat) (va : Nat) (Q : Nat → Nat) (MM : Nat → Nat) (H0 : h 38 = .inr (7, [.ref (E.1 + 39), .ref (E.1 + 40), .ref (E.1 + 41), .ref (E.1 + 42), .long (lN xa), .long (lN xb), .ref (E.1 + 43), .int (nI dt), .ref (E.1 + 44), .ref (E.1 + 45), .int (nI mo), .ref (E.1 + 46), .ref (E.1 + 47), .int (nI bn), .int (nI ta), .int (nI tl), .int (nI tk), .int (nI va), .ref (E.1 + 48), .ref (E.1 + 49)])) (H1 : h 39 = cI E 218 (nF Q)) (H2 : h 43 = cI E 16 (nF MM)) (hn : 50 ≤ n) (hn4 : Q 0 ≤ 4) (hK : ∀ zz, zz < 4 → KQ Q zz ≤ 5) (hM4 : ∀ zz, zz < 16 → Q (4 + zz) ≤ 20) (hg : Q 21 ≤ 9) (hM : ∀ zz, MM zz ≤ 20) (hq3 : Q 3 ≤ 8) (hd9 : Q 20 ≤ 999) (hx1 : 1 ≤ x) (hx : x ≤ 60) : jC E mX8_day (3, 0, 0) [.ref (E.1 + 38), .int (nI x)] h n (jR (some (.int (nI (dayT ((keepQ Q) 20) x)))) (hset (hset (hset h 39 (cI E 218 (nF (updN (laynQ (keepQ Q) (dayM (KQ (keepQ Q)) (handM (keepQ Q) MM 16) ((keepQ Q) 0) ((keepQ Q) 20) x) 16) 20 (dayT ((keepQ Q) 20) x))))) 43 (cI E 16 (nF (dayM (KQ (keepQ Q)) (handM (keepQ Q) MM 16) ((keepQ Q) 0) ((keepQ Q) 20) x)))) 38 (.inr (7, [.ref (E.1 + 39), .ref (E.1 + 40), .ref (E.1 + 41), .ref (E.1 + 42), .long (lN xa), .long (lN xb), .ref (E.1 + 43), .int (nI (dayT ((keepQ Q) 20) x)), .ref (E.1 + 44), .ref (E.1 + 45), .int (nI mo), .ref (E.1 + 46), .ref (E.1 + 47), .int (nI bn), .int (nI ta), .int (nI tl), .int (nI tk), .int (nI va), .ref (E.1 + 48), .ref (E.1 + 49)]))) n) := by
  refine J.of (L := [(0, .ref (E.1 + 38)), (1, .int (nI x))]) rfl (by decide +kernel) (Nat.le_of_ble_eq_true rfl) ?_
  obtain ⟨PP, hPP⟩ : ∃ PP : jPost, PP = (jR (some (.int (nI (dayT ((keepQ Q) 20) x)))) (hset (hset (hset h 39 (cI E 218 (nF (updN (laynQ (keepQ Q) (dayM (KQ (keepQ Q)) (handM (keepQ Q) MM 16) ((keepQ Q) 0) ((keepQ Q) 20) x) 16) 20 (dayT ((keepQ Q) 20) x))))) 43 (cI E 16 (nF (dayM (KQ (keepQ Q)) (handM (keepQ Q) MM 16) ((keepQ Q) 0) ((keepQ Q) 20) x)))) 38 (.inr (7, [.ref (E.1 + 39), .ref (E.1 + 40), .ref (E.1 + 41), .ref (E.1 + 42), .long (lN xa), .long (lN xb), .ref (E.1 + 43), .int (nI (dayT ((keepQ Q) 20) x)), .ref (E.1 + 44), .ref (E.1 + 45), .int (nI mo), .ref (E.1 + 46), .ref (E.1 + 47), .int (nI bn), .int (nI ta), .int (nI tl), .int (nI tk), .int (nI va), .ref (E.1 + 48), .ref (E.1 + 49)]))) n) := ⟨_, rfl⟩
  rw [← hPP]
  refine J_iload_n dX8_day_0 rfl ?_
  refine J_i2l (v := (nI x).toInt64) dX8_day_1 rfl ?_
  refine J_lconst (v := lN 1) dX8_day_2 (by decide +kernel) ?_
  refine J_ldc2 dX8_day_3 jqRX8_125 ?_
  refine J.stk (st' := .long (lN 60) :: [.long (lN 1), .long (nI x).toInt64]) rfl ?_
  refine J_callSr (M' := mX8_in) (d' := (1, 0, 0)) (rest := []) dX8_day_6 jmX8_in jlRX8_56 (ctX8_in x 1 60   (by first | assumption | omega) (by first | assumption | omega) (by first | assumption | omega)) rfl rfl (Nat.le_of_ble_eq_true rfl) (Nat.le_of_ble_eq_true rfl) ⟨Nat.le_refl _, Nat.le_refl _⟩ ?_
  refine J_if_neB (tgt := 19) dX8_day_9 (by decide) (fun c1 => ?_) (fun c1 => (by exfalso; omega))
  refine J_aload_n dX8_day_19 rfl ?_
  refine J_callVn (M' := mX8_keepPast) (d' := (1, 0, 0)) (rest := []) dX8_day_20 jmX8_keepPast jlRX8_113 (ctX8_keepPast xa xb dt mo bn ta tl tk va Q H0 H1 (by omega) (by first | assumption | omega)) H0 (by omega) jk8.1 rfl rfl (Nat.le_of_ble_eq_true rfl) (Nat.le_of_ble_eq_true rfl) ⟨Nat.le_refl _, Nat.le_refl _⟩ ?_
  refine J_aload_n dX8_day_23 rfl ?_
  refine J_callVn (M' := mX8_layHand) (d' := (1, 0, 0)) (rest := []) dX8_day_24 jmX8_layHand jlRX8_116 (ctX8_layHand xa xb dt mo bn ta tl tk va (keepQ Q) MM ((hset_ne (by omega)).trans H0) hset_eq ((hset_ne (by omega)).trans H2) (by omega) ) ((hset_ne (by omega)).trans H0) (by omega) jk8.1 rfl rfl (Nat.le_of_ble_eq_true rfl) (Nat.le_of_ble_eq_true rfl) ⟨Nat.le_refl _, Nat.le_refl _⟩ ?_
  refine J_iconst (v := nI 0) dX8_day_27 (by decide +kernel) ?_
  refine J_istore_n dX8_day_28 (Nat.le_of_ble_eq_true rfl) (L' := [(2, .int (nI 0)), (0, .ref (E.1 + 38)), (1, .int (nI x))]) rfl ?_
  have CUT29 : ∀ (f29 : Nat) (i : Nat) (hm29 : x - i < f29) (hi : i ≤ x), J E mX8_day (3, 0, 0) jS0 PP (hset (hset (hset h 39 (cI E 218 (nF (keepQ Q)))) 43 (cI E 16 (nF (dayM (KQ (keepQ Q)) (handM (keepQ Q) MM 16) ((keepQ Q) 0) ((keepQ Q) 20) i)))) 38 (.inr (7, [.ref (E.1 + 39), .ref (E.1 + 40), .ref (E.1 + 41), .ref (E.1 + 42), .long (lN xa), .long (lN xb), .ref (E.1 + 43), .int (nI (dayT ((keepQ Q) 20) i)), .ref (E.1 + 44), .ref (E.1 + 45), .int (nI mo), .ref (E.1 + 46), .ref (E.1 + 47), .int (nI bn), .int (nI ta), .int (nI tl), .int (nI tk), .int (nI va), .ref (E.1 + 48), .ref (E.1 + 49)]))) n (0, 0) 29 [(2, .int (nI i)), (0, .ref (E.1 + 38)), (1, .int (nI x))] [] := by
    intro f29
    induction f29 with
    | zero => intro i hm29; exact absurd hm29 (Nat.not_lt_zero _)
    | succ f29 ih29 =>
      intro i hm29 hi
      have dt0 := dayT_le ((keepQ Q) 20) i
      refine J_iload_n dX8_day_29 rfl ?_
      refine J_iload_n dX8_day_30 rfl ?_
      refine J_icmp_geW (tgt := 68) dX8_day_31 (by decide) (by omega) (by omega) (fun c2 => ?_) (fun c2 => ?_)
      · skip
        have ix : i = x := by omega
        subst ix
        refine J_aload_n dX8_day_68 rfl ?_
        refine J_callVn (M' := mX8_layNow) (d' := (1, 0, 0)) (rest := []) dX8_day_69 jmX8_layNow jlRX8_122 (ctX8_layNow xa xb (dayT ((keepQ Q) 20) i) mo bn ta tl tk va (keepQ Q) (dayM (KQ (keepQ Q)) (handM (keepQ Q) MM 16) ((keepQ Q) 0) ((keepQ Q) 20) i) hset_eq ((hset_ne (by omega)).trans ((hset_ne (by omega)).trans hset_eq)) ((hset_ne (by omega)).trans hset_eq) (by omega) ) hset_eq (by omega) jk8.1 rfl rfl (Nat.le_of_ble_eq_true rfl) (Nat.le_of_ble_eq_true rfl) ⟨Nat.le_refl _, Nat.le_refl _⟩ ?_
        refine J.cast ((hset_comm (by omega)).trans (hset_cg ((hset_comm (by omega)).trans (hset_cg hset_hset rfl)) rfl)) ?_
        refine J_aload_n dX8_day_72 rfl ?_
        refine J_get 0 dX8_day_73 jk8 (Nat.le_of_ble_eq_true rfl) jfRX8_7 hset_eq (by omega) rfl ?_
        refine J_bipush (v := nI 20) dX8_day_76 (by decide +kernel) ?_
        refine J_aload_n dX8_day_78 rfl ?_
        refine J_get 7 dX8_day_79 jk8 (Nat.le_of_ble_eq_true rfl) jfRX8_83 hset_eq (by omega) rfl ?_
        refine J_iastN (i := 20) (v := dayT ((keepQ Q) 20) i) dX8_day_82 ((hset_ne (by omega)).trans ((hset_ne (by omega)).trans hset_eq)) (by omega) (by omega) (by omega) ?_
        refine J.cast ((hset_comm (by omega)).trans (hset_cg ((hset_comm (by omega)).trans (hset_cg hset_hset rfl)) rfl)) ?_
        refine J_aload_n dX8_day_83 rfl ?_
        refine J_get 0 dX8_day_84 jk8 (Nat.le_of_ble_eq_true rfl) jfRX8_7 hset_eq (by omega) rfl ?_
        refine J_bipush (v := nI 20) dX8_day_87 (by decide +kernel) ?_
        refine J_ialdN (i := 20) dX8_day_89 ((hset_ne (by omega)).trans ((hset_ne (by omega)).trans hset_eq)) (by omega) (by omega) (by omega) ?_
        exact J_iret dX8_day_90 rfl ⟨Nat.le_refl _, Nat.le_refl _⟩ (by rw [hPP]; exact ⟨(congrArg some (jv_N (by simp [updN]))), (hset_cg (hset_cg (hset_cg rfl (cI_cg (by intro z; simp [updN]))) (cI_cg (by intro z; simp [updN]))) (congrArg (fun z => (Sum.inr (7, z) : va_E)) (jS_c rfl (jS_c rfl (jS_c rfl (jS_c rfl (jS_c rfl (jS_c rfl (jS_c rfl (jS_c (jv_N (by simp [updN])) (jS_c rfl (jS_c rfl (jS_c rfl (jS_c rfl (jS_c rfl (jS_c rfl (jS_c rfl (jS_c rfl (jS_c rfl (jS_c rfl (jS_c rfl (jS_c rfl rfl)))))))))))))))))))))), rfl⟩)
      · skip
        refine J_aload_n dX8_day_34 rfl ?_
        refine J_callVn (M' := mX8_goDay) (d' := (2, 0, 0)) (rest := []) dX8_day_35 jmX8_goDay jlRX8_127 (ctX8_goDay xa xb (dayT ((keepQ Q) 20) i) mo bn ta tl tk va (keepQ Q) (dayM (KQ (keepQ Q)) (handM (keepQ Q) MM 16) ((keepQ Q) 0) ((keepQ Q) 20) i) hset_eq ((hset_ne (by omega)).trans ((hset_ne (by omega)).trans hset_eq)) ((hset_ne (by omega)).trans hset_eq) (by omega) (by rw [keepQ_lo (by omega) (by omega)]; exact hn4) (by exact fun zz hz => by rw [keepQ_K hz]; exact hK zz hz) (by exact dayM_le (handM_le (fun zz hz => by rw [keepQ_lo (by omega) (by omega)]; exact hM4 zz hz) hM) i) (by first | assumption | omega)) hset_eq (by omega) jk8.1 rfl rfl (Nat.le_of_ble_eq_true rfl) (Nat.le_of_ble_eq_true rfl) ⟨Nat.le_refl _, Nat.le_refl _⟩ ?_
        refine J.cast ((hset_cg ((hset_comm (by omega)).trans (hset_cg hset_hset rfl)) rfl).trans hset_hset) ?_
        refine J_aload_n dX8_day_38 rfl ?_
        refine J_aload_n dX8_day_39 rfl ?_
        refine J_get 7 dX8_day_40 jk8 (Nat.le_of_ble_eq_true rfl) jfRX8_83 hset_eq (by omega) rfl ?_
        refine J_sipush (v := nI 999) dX8_day_43 (by decide +kernel) ?_
        refine J_icmp_leN (tgt := 55) dX8_day_46 (by decide) (by omega) (by omega) (fun c3 => ?_) (fun c3 => ?_)
        · skip
          refine J_aload_n dX8_day_55 rfl ?_
          refine J_get 7 dX8_day_56 jk8 (Nat.le_of_ble_eq_true rfl) jfRX8_83 hset_eq (by omega) rfl ?_
          refine J_put 7 dX8_day_59 jk8 (Nat.le_of_ble_eq_true rfl) jfRX8_83 hset_eq (by omega) rfl rfl rfl (Nat.le_of_ble_eq_true rfl) ?_
          refine J.cast (h' := (hset (hset (hset (hset h 39 (cI E 218 (nF (keepQ Q)))) 43 (cI E 16 (nF (dayN (KQ (keepQ Q)) (dayM (KQ (keepQ Q)) (handM (keepQ Q) MM 16) ((keepQ Q) 0) ((keepQ Q) 20) i) ((keepQ Q) 0) (dayT ((keepQ Q) 20) i))))) 38 (.inr (7, [.ref (E.1 + 39), .ref (E.1 + 40), .ref (E.1 + 41), .ref (E.1 + 42), .long (lN xa), .long (lN xb), .ref (E.1 + 43), .int (nI ((dayT ((keepQ Q) 20) i) + 1)), .ref (E.1 + 44), .ref (E.1 + 45), .int (nI mo), .ref (E.1 + 46), .ref (E.1 + 47), .int (nI bn), .int (nI ta), .int (nI tl), .int (nI tk), .int (nI va), .ref (E.1 + 48), .ref (E.1 + 49)]))) 38 (.inr (7, [.ref (E.1 + 39), .ref (E.1 + 40), .ref (E.1 + 41), .ref (E.1 + 42), .long (lN xa), .long (lN xb), .ref (E.1 + 43), .int (nI ((dayT ((keepQ Q) 20) i) + 1)), .ref (E.1 + 44), .ref (E.1 + 45), .int (nI mo), .ref (E.1 + 46), .ref (E.1 + 47), .int (nI bn), .int (nI ta), .int (nI tl), .int (nI tk), .int (nI va), .ref (E.1 + 48), .ref (E.1 + 49)])))) rfl ?_
          refine J.cast hset_hset ?_
          refine J_iincN (q := 0) (a := i) (m := 1) dX8_day_62 rfl (by decide +kernel) (Nat.le_of_ble_eq_true rfl) (L' := [(2, .int (nI (i + 1))), (0, .ref (E.1 + 38)), (1, .int (nI x))]) rfl ?_
          refine J_goto (tgt := 29) dX8_day_65 (by decide) ?_
          refine J.eqs (h' := (hset (hset (hset h 39 (cI E 218 (nF (keepQ Q)))) 43 (cI E 16 (nF (dayM (KQ (keepQ Q)) (handM (keepQ Q) MM 16) ((keepQ Q) 0) ((keepQ Q) 20) (i + 1))))) 38 (.inr (7, [.ref (E.1 + 39), .ref (E.1 + 40), .ref (E.1 + 41), .ref (E.1 + 42), .long (lN xa), .long (lN xb), .ref (E.1 + 43), .int (nI (dayT ((keepQ Q) 20) (i + 1))), .ref (E.1 + 44), .ref (E.1 + 45), .int (nI mo), .ref (E.1 + 46), .ref (E.1 + 47), .int (nI bn), .int (nI ta), .int (nI tl), .int (nI tk), .int (nI va), .ref (E.1 + 48), .ref (E.1 + 49)])))) (L' := [(2, .int (nI (i + 1))), (0, .ref (E.1 + 38)), (1, .int (nI x))]) (st' := []) (hset_cg (hset_cg (hset_cg rfl rfl) (cI_cg (by intro z; first | rfl | (exact dayT_0 _ (by rw [keepQ_lo (by omega) (by omega)]; exact hd9)) | (simp only [dayT]; omega)))) (congrArg (fun z => (Sum.inr (7, z) : va_E)) (jS_c rfl (jS_c rfl (jS_c rfl (jS_c rfl (jS_c rfl (jS_c rfl (jS_c rfl (jS_c (jv_N (by first | rfl | (exact dayT_0 _ (by rw [keepQ_lo (by omega) (by omega)]; exact hd9)) | (simp only [dayT]; omega))) (jS_c rfl (jS_c rfl (jS_c rfl (jS_c rfl (jS_c rfl (jS_c rfl (jS_c rfl (jS_c rfl (jS_c rfl (jS_c rfl (jS_c rfl (jS_c rfl rfl)))))))))))))))))))))) rfl rfl ?_
          exact ih29 (i + 1) (by omega) (by first | assumption | omega)
        · skip
          refine J_sipush (v := nI 999) dX8_day_49 (by decide +kernel) ?_
          refine J_goto (tgt := 59) dX8_day_52 (by decide) ?_
          refine J_put 7 dX8_day_59 jk8 (Nat.le_of_ble_eq_true rfl) jfRX8_83 hset_eq (by omega) rfl rfl rfl (Nat.le_of_ble_eq_true rfl) ?_
          refine J.cast (h' := (hset (hset (hset (hset h 39 (cI E 218 (nF (keepQ Q)))) 43 (cI E 16 (nF (dayN (KQ (keepQ Q)) (dayM (KQ (keepQ Q)) (handM (keepQ Q) MM 16) ((keepQ Q) 0) ((keepQ Q) 20) i) ((keepQ Q) 0) (dayT ((keepQ Q) 20) i))))) 38 (.inr (7, [.ref (E.1 + 39), .ref (E.1 + 40), .ref (E.1 + 41), .ref (E.1 + 42), .long (lN xa), .long (lN xb), .ref (E.1 + 43), .int (nI ((dayT ((keepQ Q) 20) i) + 1)), .ref (E.1 + 44), .ref (E.1 + 45), .int (nI mo), .ref (E.1 + 46), .ref (E.1 + 47), .int (nI bn), .int (nI ta), .int (nI tl), .int (nI tk), .int (nI va), .ref (E.1 + 48), .ref (E.1 + 49)]))) 38 (.inr (7, [.ref (E.1 + 39), .ref (E.1 + 40), .ref (E.1 + 41), .ref (E.1 + 42), .long (lN xa), .long (lN xb), .ref (E.1 + 43), .int (nI 999), .ref (E.1 + 44), .ref (E.1 + 45), .int (nI mo), .ref (E.1 + 46), .ref (E.1 + 47), .int (nI bn), .int (nI ta), .int (nI tl), .int (nI tk), .int (nI va), .ref (E.1 + 48), .ref (E.1 + 49)])))) rfl ?_
          refine J.cast hset_hset ?_
          refine J_iincN (q := 0) (a := i) (m := 1) dX8_day_62 rfl (by decide +kernel) (Nat.le_of_ble_eq_true rfl) (L' := [(2, .int (nI (i + 1))), (0, .ref (E.1 + 38)), (1, .int (nI x))]) rfl ?_
          refine J_goto (tgt := 29) dX8_day_65 (by decide) ?_
          refine J.eqs (h' := (hset (hset (hset h 39 (cI E 218 (nF (keepQ Q)))) 43 (cI E 16 (nF (dayM (KQ (keepQ Q)) (handM (keepQ Q) MM 16) ((keepQ Q) 0) ((keepQ Q) 20) (i + 1))))) 38 (.inr (7, [.ref (E.1 + 39), .ref (E.1 + 40), .ref (E.1 + 41), .ref (E.1 + 42), .long (lN xa), .long (lN xb), .ref (E.1 + 43), .int (nI (dayT ((keepQ Q) 20) (i + 1))), .ref (E.1 + 44), .ref (E.1 + 45), .int (nI mo), .ref (E.1 + 46), .ref (E.1 + 47), .int (nI bn), .int (nI ta), .int (nI tl), .int (nI tk), .int (nI va), .ref (E.1 + 48), .ref (E.1 + 49)])))) (L' := [(2, .int (nI (i + 1))), (0, .ref (E.1 + 38)), (1, .int (nI x))]) (st' := []) (hset_cg (hset_cg (hset_cg rfl rfl) (cI_cg (by intro z; first | rfl | (exact dayT_0 _ (by rw [keepQ_lo (by omega) (by omega)]; exact hd9)) | (simp only [dayT]; omega)))) (congrArg (fun z => (Sum.inr (7, z) : va_E)) (jS_c rfl (jS_c rfl (jS_c rfl (jS_c rfl (jS_c rfl (jS_c rfl (jS_c rfl (jS_c (jv_N (by first | rfl | (exact dayT_0 _ (by rw [keepQ_lo (by omega) (by omega)]; exact hd9)) | (simp only [dayT]; omega))) (jS_c rfl (jS_c rfl (jS_c rfl (jS_c rfl (jS_c rfl (jS_c rfl (jS_c rfl (jS_c rfl (jS_c rfl (jS_c rfl (jS_c rfl (jS_c rfl rfl)))))))))))))))))))))) rfl rfl ?_
          exact ih29 (i + 1) (by omega) (by first | assumption | omega)
  refine J.eqs (h' := (hset (hset (hset h 39 (cI E 218 (nF (keepQ Q)))) 43 (cI E 16 (nF (dayM (KQ (keepQ Q)) (handM (keepQ Q) MM 16) ((keepQ Q) 0) ((keepQ Q) 20) 0)))) 38 (.inr (7, [.ref (E.1 + 39), .ref (E.1 + 40), .ref (E.1 + 41), .ref (E.1 + 42), .long (lN xa), .long (lN xb), .ref (E.1 + 43), .int (nI (dayT ((keepQ Q) 20) 0)), .ref (E.1 + 44), .ref (E.1 + 45), .int (nI mo), .ref (E.1 + 46), .ref (E.1 + 47), .int (nI bn), .int (nI ta), .int (nI tl), .int (nI tk), .int (nI va), .ref (E.1 + 48), .ref (E.1 + 49)])))) (L' := [(2, .int (nI 0)), (0, .ref (E.1 + 38)), (1, .int (nI x))]) (st' := []) (hset_cg (hset_cg (hset_cg rfl rfl) (cI_cg (by intro z; first | rfl | (exact dayT_0 _ (by rw [keepQ_lo (by omega) (by omega)]; exact hd9)) | (simp only [dayT]; omega)))) (congrArg (fun z => (Sum.inr (7, z) : va_E)) (jS_c rfl (jS_c rfl (jS_c rfl (jS_c rfl (jS_c rfl (jS_c rfl (jS_c rfl (jS_c (jv_N (by first | rfl | (exact dayT_0 _ (by rw [keepQ_lo (by omega) (by omega)]; exact hd9)) | (simp only [dayT]; omega))) (jS_c rfl (jS_c rfl (jS_c rfl (jS_c rfl (jS_c rfl (jS_c rfl (jS_c rfl (jS_c rfl (jS_c rfl (jS_c rfl (jS_c rfl (jS_c rfl rfl)))))))))))))))))))))) rfl rfl ?_
  exact CUT29 (x - 0 + 1) 0 (Nat.lt_succ_self _) (by first | assumption | omega)

set_option maxHeartbeats 1000000 in
set_option maxRecDepth 100000 in
theorem ctX8_salt_bad {E : jE} {h : Nat → va_E} {n : Nat} (a : Nat) (t : Nat) (xa : Nat) (xb : Nat) (dt : Nat) (mo : Nat) (bn : Nat) (ta : Nat) (tl : Nat) (tk : Nat) (va : Nat) (RF : Nat → Nat) (Q : Nat → Nat) (H0 : h 38 = .inr (7, [.ref (E.1 + 39), .ref (E.1 + 40), .ref (E.1 + 41), .ref (E.1 + 42), .long (lN xa), .long (lN xb), .ref (E.1 + 43), .int (nI dt), .ref (E.1 + 44), .ref (E.1 + 45), .int (nI mo), .ref (E.1 + 46), .ref (E.1 + 47), .int (nI bn), .int (nI ta), .int (nI tl), .int (nI tk), .int (nI va), .ref (E.1 + 48), .ref (E.1 + 49)])) (H1 : h 42 = cI E 3 (nF RF)) (H2 : h 39 = cI E 218 (nF Q)) (hn : 50 ≤ n) (h32a : a < 2 ^ 32) (h32t : t < 2 ^ 32) (hn4 : Q 0 ≤ 4) (hbad : ¬ (a < Q 0 ∧ t ≤ 3)) : jC E mX8_salt (3, 0, 0) [.ref (E.1 + 38), .int (nI a), .int (nI t)] h n (jR (some (.int (-2))) (hset h 42 (cI E 3 (nF (updN RF 0 (RF 0 + 1))))) n) := by
  refine J.of (L := [(0, .ref (E.1 + 38)), (1, .int (nI a)), (2, .int (nI t))]) rfl (by decide +kernel) (Nat.le_of_ble_eq_true rfl) ?_
  obtain ⟨PP, hPP⟩ : ∃ PP : jPost, PP = (jR (some (.int (-2))) (hset h 42 (cI E 3 (nF (updN RF 0 (RF 0 + 1))))) n) := ⟨_, rfl⟩
  rw [← hPP]
  refine J_aload_n dX8_salt_0 rfl ?_
  refine J_iload_n dX8_salt_1 rfl ?_
  refine J_callVr (M' := mX8_isAnvil) (d' := (2, 0, 0)) (rest := []) dX8_salt_2 jmX8_isAnvil jlRX8_107 (ctX8_isAnvil a xa xb dt mo bn ta tl tk va Q H0 H2 (by omega) (by first | assumption | omega) (by first | assumption | omega)) H0 (by omega) jk8.1 rfl rfl (Nat.le_of_ble_eq_true rfl) (Nat.le_of_ble_eq_true rfl) ⟨Nat.le_refl _, Nat.le_refl _⟩ ?_
  refine J_if_eqB (tgt := 15) dX8_salt_5 (by decide) (fun c1 => ?_) (fun c1 => ?_)
  · skip
    refine J_aload_n dX8_salt_15 rfl ?_
    refine J_bipush (v := (-2)) dX8_salt_16 (by decide +kernel) ?_
    refine J_callVr (M' := mX8_bad) (d' := (1, 0, 0)) (rest := []) dX8_salt_18 jmX8_bad jlRX8_66 (ctX8_bad (-2) xa xb dt mo bn ta tl tk va RF H0 H1 (by omega) ) H0 (by omega) jk8.1 rfl rfl (Nat.le_of_ble_eq_true rfl) (Nat.le_of_ble_eq_true rfl) ⟨Nat.le_refl _, Nat.le_refl _⟩ ?_
    exact J_iret dX8_salt_21 rfl ⟨Nat.le_refl _, Nat.le_refl _⟩ (by rw [hPP]; exact ⟨rfl, rfl, rfl⟩)
  · skip
    refine J_iload_n dX8_salt_8 rfl ?_
    refine J_callSr (M' := mX8_isTemper) (d' := (2, 0, 0)) (rest := []) dX8_salt_9 jmX8_isTemper jlRX8_110 (ctX8_isTemper t   (by first | assumption | omega)) rfl rfl (Nat.le_of_ble_eq_true rfl) (Nat.le_of_ble_eq_true rfl) ⟨Nat.le_refl _, Nat.le_refl _⟩ ?_
    refine J_if_neB (tgt := 22) dX8_salt_12 (by decide) (fun c2 => (by exfalso; omega)) (fun c2 => ?_)
    refine J_aload_n dX8_salt_15 rfl ?_
    refine J_bipush (v := (-2)) dX8_salt_16 (by decide +kernel) ?_
    refine J_callVr (M' := mX8_bad) (d' := (1, 0, 0)) (rest := []) dX8_salt_18 jmX8_bad jlRX8_66 (ctX8_bad (-2) xa xb dt mo bn ta tl tk va RF H0 H1 (by omega) ) H0 (by omega) jk8.1 rfl rfl (Nat.le_of_ble_eq_true rfl) (Nat.le_of_ble_eq_true rfl) ⟨Nat.le_refl _, Nat.le_refl _⟩ ?_
    exact J_iret dX8_salt_21 rfl ⟨Nat.le_refl _, Nat.le_refl _⟩ (by rw [hPP]; exact ⟨rfl, rfl, rfl⟩)

set_option maxHeartbeats 1000000 in
set_option maxRecDepth 100000 in
theorem ctX8_salt {E : jE} {h : Nat → va_E} {n : Nat} (a : Nat) (t : Nat) (xa : Nat) (xb : Nat) (dt : Nat) (mo : Nat) (bn : Nat) (ta : Nat) (tl : Nat) (tk : Nat) (va : Nat) (Q : Nat → Nat) (H0 : h 38 = .inr (7, [.ref (E.1 + 39), .ref (E.1 + 40), .ref (E.1 + 41), .ref (E.1 + 42), .long (lN xa), .long (lN xb), .ref (E.1 + 43), .int (nI dt), .ref (E.1 + 44), .ref (E.1 + 45), .int (nI mo), .ref (E.1 + 46), .ref (E.1 + 47), .int (nI bn), .int (nI ta), .int (nI tl), .int (nI tk), .int (nI va), .ref (E.1 + 48), .ref (E.1 + 49)])) (H1 : h 39 = cI E 218 (nF Q)) (hn : 50 ≤ n) (hn4 : Q 0 ≤ 4) (hq3 : Q 3 ≤ 8) (ha : a < Q 0) (ht : t < 4) : jC E mX8_salt (3, 0, 0) [.ref (E.1 + 38), .int (nI a), .int (nI t)] h n (jR (some (.int (nI (Q (4 + 4 * a + t))))) (hset h 39 (cI E 218 (nF (updN (keepQ Q) (4 + 4 * a + t) 0)))) n) := by
  refine J.of (L := [(0, .ref (E.1 + 38)), (1, .int (nI a)), (2, .int (nI t))]) rfl (by decide +kernel) (Nat.le_of_ble_eq_true rfl) ?_
  obtain ⟨PP, hPP⟩ : ∃ PP : jPost, PP = (jR (some (.int (nI (Q (4 + 4 * a + t))))) (hset h 39 (cI E 218 (nF (updN (keepQ Q) (4 + 4 * a + t) 0)))) n) := ⟨_, rfl⟩
  rw [← hPP]
  refine J_aload_n dX8_salt_0 rfl ?_
  refine J_iload_n dX8_salt_1 rfl ?_
  refine J_callVr (M' := mX8_isAnvil) (d' := (2, 0, 0)) (rest := []) dX8_salt_2 jmX8_isAnvil jlRX8_107 (ctX8_isAnvil a xa xb dt mo bn ta tl tk va Q H0 H1 (by omega) (by first | assumption | omega) (by first | assumption | omega)) H0 (by omega) jk8.1 rfl rfl (Nat.le_of_ble_eq_true rfl) (Nat.le_of_ble_eq_true rfl) ⟨Nat.le_refl _, Nat.le_refl _⟩ ?_
  refine J_if_eqB (tgt := 15) dX8_salt_5 (by decide) (fun c1 => (by exfalso; omega)) (fun c1 => ?_)
  refine J_iload_n dX8_salt_8 rfl ?_
  refine J_callSr (M' := mX8_isTemper) (d' := (2, 0, 0)) (rest := []) dX8_salt_9 jmX8_isTemper jlRX8_110 (ctX8_isTemper t   (by first | assumption | omega)) rfl rfl (Nat.le_of_ble_eq_true rfl) (Nat.le_of_ble_eq_true rfl) ⟨Nat.le_refl _, Nat.le_refl _⟩ ?_
  refine J_if_neB (tgt := 22) dX8_salt_12 (by decide) (fun c2 => ?_) (fun c2 => (by exfalso; omega))
  refine J_aload_n dX8_salt_22 rfl ?_
  refine J_get 0 dX8_salt_23 jk8 (Nat.le_of_ble_eq_true rfl) jfRX8_7 H0 (by omega) rfl ?_
  refine J_iconst (v := nI 4) dX8_salt_26 (by decide +kernel) ?_
  refine J_iconst (v := nI 4) dX8_salt_27 (by decide +kernel) ?_
  refine J_iload_n dX8_salt_28 rfl ?_
  refine J_imulN dX8_salt_29 ?_
  refine J_iaddN dX8_salt_30 ?_
  refine J_iload_n dX8_salt_31 rfl ?_
  refine J_iaddN dX8_salt_32 ?_
  refine J_ialdN (i := (4 + (4 * a)) + t) dX8_salt_33 H1 (by omega) (by omega) (by omega) ?_
  refine J_istore_n dX8_salt_34 (Nat.le_of_ble_eq_true rfl) (L' := [(3, .int (nI (Q ((4 + (4 * a)) + t)))), (0, .ref (E.1 + 38)), (1, .int (nI a)), (2, .int (nI t))]) rfl ?_
  refine J_aload_n dX8_salt_35 rfl ?_
  refine J_callVn (M' := mX8_keepPast) (d' := (1, 0, 0)) (rest := []) dX8_salt_36 jmX8_keepPast jlRX8_113 (ctX8_keepPast xa xb dt mo bn ta tl tk va Q H0 H1 (by omega) (by first | assumption | omega)) H0 (by omega) jk8.1 rfl rfl (Nat.le_of_ble_eq_true rfl) (Nat.le_of_ble_eq_true rfl) ⟨Nat.le_refl _, Nat.le_refl _⟩ ?_
  refine J_aload_n dX8_salt_39 rfl ?_
  refine J_get 0 dX8_salt_40 jk8 (Nat.le_of_ble_eq_true rfl) jfRX8_7 ((hset_ne (by omega)).trans H0) (by omega) rfl ?_
  refine J_iconst (v := nI 4) dX8_salt_43 (by decide +kernel) ?_
  refine J_iconst (v := nI 4) dX8_salt_44 (by decide +kernel) ?_
  refine J_iload_n dX8_salt_45 rfl ?_
  refine J_imulN dX8_salt_46 ?_
  refine J_iaddN dX8_salt_47 ?_
  refine J_iload_n dX8_salt_48 rfl ?_
  refine J_iaddN dX8_salt_49 ?_
  refine J_iconst (v := nI 0) dX8_salt_50 (by decide +kernel) ?_
  refine J_iastN (i := (4 + (4 * a)) + t) (v := 0) dX8_salt_51 hset_eq (by omega) (by omega) (by omega) ?_
  refine J.cast hset_hset ?_
  refine J_iload_n dX8_salt_52 rfl ?_
  exact J_iret dX8_salt_53 rfl ⟨Nat.le_refl _, Nat.le_refl _⟩ (by rw [hPP]; exact ⟨(congrArg some (jv_N (by omega))), (hset_cg rfl (cI_cg (by intro z; omega))), rfl⟩)

set_option maxHeartbeats 1000000 in
set_option maxRecDepth 100000 in
theorem ctX8_hand_bad {E : jE} {h : Nat → va_E} {n : Nat} (x : Nat) (xa : Nat) (xb : Nat) (dt : Nat) (mo : Nat) (bn : Nat) (ta : Nat) (tl : Nat) (tk : Nat) (va : Nat) (RF : Nat → Nat) (H0 : h 38 = .inr (7, [.ref (E.1 + 39), .ref (E.1 + 40), .ref (E.1 + 41), .ref (E.1 + 42), .long (lN xa), .long (lN xb), .ref (E.1 + 43), .int (nI dt), .ref (E.1 + 44), .ref (E.1 + 45), .int (nI mo), .ref (E.1 + 46), .ref (E.1 + 47), .int (nI bn), .int (nI ta), .int (nI tl), .int (nI tk), .int (nI va), .ref (E.1 + 48), .ref (E.1 + 49)])) (H1 : h 42 = cI E 3 (nF RF)) (hn : 50 ≤ n) (h32x : x < 2 ^ 32) (hbad : ¬ x ≤ 9) : jC E mX8_hand (2, 0, 0) [.ref (E.1 + 38), .int (nI x)] h n (jR (some (.int (-2))) (hset h 42 (cI E 3 (nF (updN RF 0 (RF 0 + 1))))) n) := by
  refine J.of (L := [(0, .ref (E.1 + 38)), (1, .int (nI x))]) rfl (by decide +kernel) (Nat.le_of_ble_eq_true rfl) ?_
  obtain ⟨PP, hPP⟩ : ∃ PP : jPost, PP = (jR (some (.int (-2))) (hset h 42 (cI E 3 (nF (updN RF 0 (RF 0 + 1))))) n) := ⟨_, rfl⟩
  rw [← hPP]
  refine J_iload_n dX8_hand_0 rfl ?_
  refine J_i2l (v := (nI x).toInt64) dX8_hand_1 rfl ?_
  refine J_lconst (v := lN 0) dX8_hand_2 (by decide +kernel) ?_
  refine J_ldc2 dX8_hand_3 jqRX8_64 ?_
  refine J.stk (st' := .long (lN 9) :: [.long (lN 0), .long (nI x).toInt64]) rfl ?_
  refine J_callSr (M' := mX8_in) (d' := (1, 0, 0)) (rest := []) dX8_hand_6 jmX8_in jlRX8_56 (ctX8_in x 0 9   (by first | assumption | omega) (by first | assumption | omega) (by first | assumption | omega)) rfl rfl (Nat.le_of_ble_eq_true rfl) (Nat.le_of_ble_eq_true rfl) ⟨Nat.le_refl _, Nat.le_refl _⟩ ?_
  refine J_if_neB (tgt := 19) dX8_hand_9 (by decide) (fun c1 => (by exfalso; omega)) (fun c1 => ?_)
  refine J_aload_n dX8_hand_12 rfl ?_
  refine J_bipush (v := (-2)) dX8_hand_13 (by decide +kernel) ?_
  refine J_callVr (M' := mX8_bad) (d' := (1, 0, 0)) (rest := []) dX8_hand_15 jmX8_bad jlRX8_66 (ctX8_bad (-2) xa xb dt mo bn ta tl tk va RF H0 H1 (by omega) ) H0 (by omega) jk8.1 rfl rfl (Nat.le_of_ble_eq_true rfl) (Nat.le_of_ble_eq_true rfl) ⟨Nat.le_refl _, Nat.le_refl _⟩ ?_
  exact J_iret dX8_hand_18 rfl ⟨Nat.le_refl _, Nat.le_refl _⟩ (by rw [hPP]; exact ⟨rfl, rfl, rfl⟩)

set_option maxHeartbeats 1000000 in
set_option maxRecDepth 100000 in
theorem ctX8_hand {E : jE} {h : Nat → va_E} {n : Nat} (x : Nat) (xa : Nat) (xb : Nat) (dt : Nat) (mo : Nat) (bn : Nat) (ta : Nat) (tl : Nat) (tk : Nat) (va : Nat) (Q : Nat → Nat) (H0 : h 38 = .inr (7, [.ref (E.1 + 39), .ref (E.1 + 40), .ref (E.1 + 41), .ref (E.1 + 42), .long (lN xa), .long (lN xb), .ref (E.1 + 43), .int (nI dt), .ref (E.1 + 44), .ref (E.1 + 45), .int (nI mo), .ref (E.1 + 46), .ref (E.1 + 47), .int (nI bn), .int (nI ta), .int (nI tl), .int (nI tk), .int (nI va), .ref (E.1 + 48), .ref (E.1 + 49)])) (H1 : h 39 = cI E 218 (nF Q)) (hn : 50 ≤ n) (hq3 : Q 3 ≤ 8) (hx : x ≤ 9) : jC E mX8_hand (2, 0, 0) [.ref (E.1 + 38), .int (nI x)] h n (jR (some (.int (nI (Q 21)))) (hset h 39 (cI E 218 (nF (updN (keepQ Q) 21 x)))) n) := by
  refine J.of (L := [(0, .ref (E.1 + 38)), (1, .int (nI x))]) rfl (by decide +kernel) (Nat.le_of_ble_eq_true rfl) ?_
  obtain ⟨PP, hPP⟩ : ∃ PP : jPost, PP = (jR (some (.int (nI (Q 21)))) (hset h 39 (cI E 218 (nF (updN (keepQ Q) 21 x)))) n) := ⟨_, rfl⟩
  rw [← hPP]
  refine J_iload_n dX8_hand_0 rfl ?_
  refine J_i2l (v := (nI x).toInt64) dX8_hand_1 rfl ?_
  refine J_lconst (v := lN 0) dX8_hand_2 (by decide +kernel) ?_
  refine J_ldc2 dX8_hand_3 jqRX8_64 ?_
  refine J.stk (st' := .long (lN 9) :: [.long (lN 0), .long (nI x).toInt64]) rfl ?_
  refine J_callSr (M' := mX8_in) (d' := (1, 0, 0)) (rest := []) dX8_hand_6 jmX8_in jlRX8_56 (ctX8_in x 0 9   (by first | assumption | omega) (by first | assumption | omega) (by first | assumption | omega)) rfl rfl (Nat.le_of_ble_eq_true rfl) (Nat.le_of_ble_eq_true rfl) ⟨Nat.le_refl _, Nat.le_refl _⟩ ?_
  refine J_if_neB (tgt := 19) dX8_hand_9 (by decide) (fun c1 => ?_) (fun c1 => (by exfalso; omega))
  refine J_aload_n dX8_hand_19 rfl ?_
  refine J_get 0 dX8_hand_20 jk8 (Nat.le_of_ble_eq_true rfl) jfRX8_7 H0 (by omega) rfl ?_
  refine J_bipush (v := nI 21) dX8_hand_23 (by decide +kernel) ?_
  refine J_ialdN (i := 21) dX8_hand_25 H1 (by omega) (by omega) (by omega) ?_
  refine J_istore_n dX8_hand_26 (Nat.le_of_ble_eq_true rfl) (L' := [(2, .int (nI (Q 21))), (0, .ref (E.1 + 38)), (1, .int (nI x))]) rfl ?_
  refine J_aload_n dX8_hand_27 rfl ?_
  refine J_callVn (M' := mX8_keepPast) (d' := (1, 0, 0)) (rest := []) dX8_hand_28 jmX8_keepPast jlRX8_113 (ctX8_keepPast xa xb dt mo bn ta tl tk va Q H0 H1 (by omega) (by first | assumption | omega)) H0 (by omega) jk8.1 rfl rfl (Nat.le_of_ble_eq_true rfl) (Nat.le_of_ble_eq_true rfl) ⟨Nat.le_refl _, Nat.le_refl _⟩ ?_
  refine J_aload_n dX8_hand_31 rfl ?_
  refine J_get 0 dX8_hand_32 jk8 (Nat.le_of_ble_eq_true rfl) jfRX8_7 ((hset_ne (by omega)).trans H0) (by omega) rfl ?_
  refine J_bipush (v := nI 21) dX8_hand_35 (by decide +kernel) ?_
  refine J_iload_n dX8_hand_37 rfl ?_
  refine J_iastN (i := 21) (v := x) dX8_hand_38 hset_eq (by omega) (by omega) (by omega) ?_
  refine J.cast hset_hset ?_
  refine J_iload_n dX8_hand_39 rfl ?_
  exact J_iret dX8_hand_40 rfl ⟨Nat.le_refl _, Nat.le_refl _⟩ (by rw [hPP]; exact ⟨rfl, rfl, rfl⟩)

set_option maxHeartbeats 1000000 in
set_option maxRecDepth 100000 in
theorem ctX8_undo_no {E : jE} {h : Nat → va_E} {n : Nat} (xa : Nat) (xb : Nat) (dt : Nat) (mo : Nat) (bn : Nat) (ta : Nat) (tl : Nat) (tk : Nat) (va : Nat) (RF : Nat → Nat) (Q : Nat → Nat) (H0 : h 38 = .inr (7, [.ref (E.1 + 39), .ref (E.1 + 40), .ref (E.1 + 41), .ref (E.1 + 42), .long (lN xa), .long (lN xb), .ref (E.1 + 43), .int (nI dt), .ref (E.1 + 44), .ref (E.1 + 45), .int (nI mo), .ref (E.1 + 46), .ref (E.1 + 47), .int (nI bn), .int (nI ta), .int (nI tl), .int (nI tk), .int (nI va), .ref (E.1 + 48), .ref (E.1 + 49)])) (H1 : h 42 = cI E 3 (nF RF)) (H2 : h 39 = cI E 218 (nF Q)) (hn : 50 ≤ n) (hps : Q 3 = 0) : jC E mX8_undo (2, 0, 0) [.ref (E.1 + 38)] h n (jR (some (.int (-3))) (hset h 42 (cI E 3 (nF (updN RF 1 (RF 1 + 1))))) n) := by
  refine J.of (L := [(0, .ref (E.1 + 38))]) rfl (by decide +kernel) (Nat.le_of_ble_eq_true rfl) ?_
  obtain ⟨PP, hPP⟩ : ∃ PP : jPost, PP = (jR (some (.int (-3))) (hset h 42 (cI E 3 (nF (updN RF 1 (RF 1 + 1))))) n) := ⟨_, rfl⟩
  rw [← hPP]
  refine J_aload_n dX8_undo_0 rfl ?_
  refine J_get 0 dX8_undo_1 jk8 (Nat.le_of_ble_eq_true rfl) jfRX8_7 H0 (by omega) rfl ?_
  refine J_iconst (v := nI 3) dX8_undo_4 (by decide +kernel) ?_
  refine J_ialdN (i := 3) dX8_undo_5 H2 (by omega) (by omega) (by omega) ?_
  refine J_if_neN (tgt := 14) dX8_undo_6 (by decide) (by omega) (fun c1 => (by exfalso; omega)) (fun c1 => ?_)
  refine J_aload_n dX8_undo_9 rfl ?_
  refine J_callVr (M' := mX8_no) (d' := (1, 0, 0)) (rest := []) dX8_undo_10 jmX8_no jlRX8_130 (ctX8_no xa xb dt mo bn ta tl tk va RF H0 H1 (by omega) ) H0 (by omega) jk8.1 rfl rfl (Nat.le_of_ble_eq_true rfl) (Nat.le_of_ble_eq_true rfl) ⟨Nat.le_refl _, Nat.le_refl _⟩ ?_
  exact J_iret dX8_undo_13 rfl ⟨Nat.le_refl _, Nat.le_refl _⟩ (by rw [hPP]; exact ⟨rfl, rfl, rfl⟩)

set_option maxHeartbeats 1000000 in
set_option maxRecDepth 100000 in
theorem ctX8_undo {E : jE} {h : Nat → va_E} {n : Nat} (xa : Nat) (xb : Nat) (dt : Nat) (mo : Nat) (bn : Nat) (ta : Nat) (tl : Nat) (tk : Nat) (va : Nat) (Q : Nat → Nat) (H0 : h 38 = .inr (7, [.ref (E.1 + 39), .ref (E.1 + 40), .ref (E.1 + 41), .ref (E.1 + 42), .long (lN xa), .long (lN xb), .ref (E.1 + 43), .int (nI dt), .ref (E.1 + 44), .ref (E.1 + 45), .int (nI mo), .ref (E.1 + 46), .ref (E.1 + 47), .int (nI bn), .int (nI ta), .int (nI tl), .int (nI tk), .int (nI va), .ref (E.1 + 48), .ref (E.1 + 49)])) (H1 : h 39 = cI E 218 (nF Q)) (hn : 50 ≤ n) (hps : 0 < Q 3) (hq3 : Q 3 ≤ 8) : jC E mX8_undo (2, 0, 0) [.ref (E.1 + 38)] h n (jR (some (.int (nI (unQ Q 18 20)))) (hset h 39 (cI E 218 (nF (unQ Q 18)))) n) := by
  refine J.of (L := [(0, .ref (E.1 + 38))]) rfl (by decide +kernel) (Nat.le_of_ble_eq_true rfl) ?_
  obtain ⟨PP, hPP⟩ : ∃ PP : jPost, PP = (jR (some (.int (nI (unQ Q 18 20)))) (hset h 39 (cI E 218 (nF (unQ Q 18)))) n) := ⟨_, rfl⟩
  rw [← hPP]
  refine J_aload_n dX8_undo_0 rfl ?_
  refine J_get 0 dX8_undo_1 jk8 (Nat.le_of_ble_eq_true rfl) jfRX8_7 H0 (by omega) rfl ?_
  refine J_iconst (v := nI 3) dX8_undo_4 (by decide +kernel) ?_
  refine J_ialdN (i := 3) dX8_undo_5 H1 (by omega) (by omega) (by omega) ?_
  refine J_if_neN (tgt := 14) dX8_undo_6 (by decide) (by omega) (fun c1 => ?_) (fun c1 => (by exfalso; omega))
  refine J_aload_n dX8_undo_14 rfl ?_
  refine J_get 0 dX8_undo_15 jk8 (Nat.le_of_ble_eq_true rfl) jfRX8_7 H0 (by omega) rfl ?_
  refine J_iconst (v := nI 3) dX8_undo_18 (by decide +kernel) ?_
  refine J_dup2 dX8_undo_19 rfl rfl ?_
  refine J_ialdN (i := 3) dX8_undo_20 H1 (by omega) (by omega) (by omega) ?_
  refine J_iconst (v := nI 1) dX8_undo_21 (by decide +kernel) ?_
  refine J_isubN dX8_undo_22 (by omega) ?_
  refine J_iastN (i := 3) (v := (Q 3) - 1) dX8_undo_23 H1 (by omega) (by omega) (by omega) ?_
  refine J_iconst (v := nI 0) dX8_undo_24 (by decide +kernel) ?_
  refine J_istore_n dX8_undo_25 (Nat.le_of_ble_eq_true rfl) (L' := [(1, .int (nI 0)), (0, .ref (E.1 + 38))]) rfl ?_
  have CUT26 : ∀ (f26 : Nat) (i : Nat) (hm26 : 18 - i < f26) (hi : i ≤ 18), J E mX8_undo (2, 0, 0) jS0 PP (hset h 39 (cI E 218 (nF (unQ Q i)))) n (0, 0) 26 [(1, .int (nI i)), (0, .ref (E.1 + 38))] [] := by
    intro f26
    induction f26 with
    | zero => intro i hm26; exact absurd hm26 (Nat.not_lt_zero _)
    | succ f26 ih26 =>
      intro i hm26 hi
      have e3 : unQ Q i 3 = Q 3 - 1 := unQ_3
      refine J_iload_n dX8_undo_26 rfl ?_
      refine J_bipush (v := nI 18) dX8_undo_27 (by decide +kernel) ?_
      refine J_icmp_geN (tgt := 65) dX8_undo_29 (by decide) (by omega) (by omega) (fun c2 => ?_) (fun c2 => ?_)
      · skip
        have i18 : i = 18 := by omega
        subst i18
        refine J_aload_n dX8_undo_65 rfl ?_
        refine J_get 0 dX8_undo_66 jk8 (Nat.le_of_ble_eq_true rfl) jfRX8_7 ((hset_ne (by omega)).trans H0) (by omega) rfl ?_
        refine J_bipush (v := nI 20) dX8_undo_69 (by decide +kernel) ?_
        refine J_ialdN (i := 20) dX8_undo_71 hset_eq (by omega) (by omega) (by omega) ?_
        exact J_iret dX8_undo_72 rfl ⟨Nat.le_refl _, Nat.le_refl _⟩ (by rw [hPP]; exact ⟨(congrArg some (jv_N (by rfl))), (hset_cg rfl (cI_cg (by intro z; rfl))), rfl⟩)
      · skip
        refine J_aload_n dX8_undo_32 rfl ?_
        refine J_get 0 dX8_undo_33 jk8 (Nat.le_of_ble_eq_true rfl) jfRX8_7 ((hset_ne (by omega)).trans H0) (by omega) rfl ?_
        refine J_iconst (v := nI 4) dX8_undo_36 (by decide +kernel) ?_
        refine J_iload_n dX8_undo_37 rfl ?_
        refine J_iaddN dX8_undo_38 ?_
        refine J_aload_n dX8_undo_39 rfl ?_
        refine J_get 0 dX8_undo_40 jk8 (Nat.le_of_ble_eq_true rfl) jfRX8_7 ((hset_ne (by omega)).trans H0) (by omega) rfl ?_
        refine J_bipush (v := nI 74) dX8_undo_43 (by decide +kernel) ?_
        refine J_bipush (v := nI 18) dX8_undo_45 (by decide +kernel) ?_
        refine J_aload_n dX8_undo_47 rfl ?_
        refine J_get 0 dX8_undo_48 jk8 (Nat.le_of_ble_eq_true rfl) jfRX8_7 ((hset_ne (by omega)).trans H0) (by omega) rfl ?_
        refine J_iconst (v := nI 3) dX8_undo_51 (by decide +kernel) ?_
        refine J_ialdN (i := 3) dX8_undo_52 hset_eq (by omega) (by omega) (by omega) ?_
        refine J_imulN dX8_undo_53 ?_
        refine J_iaddN dX8_undo_54 ?_
        refine J_iload_n dX8_undo_55 rfl ?_
        refine J_iaddN dX8_undo_56 ?_
        refine J_ialdN (i := (74 + (18 * ((unQ Q i) 3))) + i) dX8_undo_57 hset_eq (by omega) (by omega) (by omega) ?_
        refine J_iastN (i := 4 + i) (v := (unQ Q i) ((74 + (18 * ((unQ Q i) 3))) + i)) dX8_undo_58 hset_eq (by omega) (by omega) (by omega) ?_
        refine J.cast hset_hset ?_
        refine J_iincN (q := 0) (a := i) (m := 1) dX8_undo_59 rfl (by decide +kernel) (Nat.le_of_ble_eq_true rfl) (L' := [(1, .int (nI (i + 1))), (0, .ref (E.1 + 38))]) rfl ?_
        refine J_goto (tgt := 26) dX8_undo_62 (by decide) ?_
        refine J.eqs (h' := (hset h 39 (cI E 218 (nF (unQ Q (i + 1)))))) (L' := [(1, .int (nI (i + 1))), (0, .ref (E.1 + 38))]) (st' := []) (hset_cg rfl (cI_cg (by intro z; first | exact unQ_0 z | exact unQ_s (by omega) z))) rfl rfl ?_
        exact ih26 (i + 1) (by omega) (by first | assumption | omega)
  refine J.eqs (h' := (hset h 39 (cI E 218 (nF (unQ Q 0))))) (L' := [(1, .int (nI 0)), (0, .ref (E.1 + 38))]) (st' := []) (hset_cg rfl (cI_cg (by intro z; first | exact unQ_0 z | exact unQ_s (by omega) z))) rfl rfl ?_
  exact CUT26 (18 - 0 + 1) 0 (Nat.lt_succ_self _) (by first | assumption | omega)

set_option maxHeartbeats 1000000 in
set_option maxRecDepth 100000 in
theorem ctX8_of_bad {E : jE} {h : Nat → va_E} {n : Nat} (a : Nat) (w : Nat) (xa : Nat) (xb : Nat) (dt : Nat) (mo : Nat) (bn : Nat) (ta : Nat) (tl : Nat) (tk : Nat) (va : Nat) (RF : Nat → Nat) (Q : Nat → Nat) (H0 : h 38 = .inr (7, [.ref (E.1 + 39), .ref (E.1 + 40), .ref (E.1 + 41), .ref (E.1 + 42), .long (lN xa), .long (lN xb), .ref (E.1 + 43), .int (nI dt), .ref (E.1 + 44), .ref (E.1 + 45), .int (nI mo), .ref (E.1 + 46), .ref (E.1 + 47), .int (nI bn), .int (nI ta), .int (nI tl), .int (nI tk), .int (nI va), .ref (E.1 + 48), .ref (E.1 + 49)])) (H1 : h 42 = cI E 3 (nF RF)) (H2 : h 39 = cI E 218 (nF Q)) (hn : 50 ≤ n) (h32a : a < 2 ^ 32) (h32w : w < 2 ^ 32) (hn4 : Q 0 ≤ 4) (hbad : ¬ (a < Q 0 ∧ w ≤ 4)) : jC E mX8_of (3, 0, 0) [.ref (E.1 + 38), .int (nI a), .int (nI w)] h n (jR (some (.int (-2))) (hset h 42 (cI E 3 (nF (updN RF 0 (RF 0 + 1))))) n) := by
  refine J.of (L := [(0, .ref (E.1 + 38)), (1, .int (nI a)), (2, .int (nI w))]) rfl (by decide +kernel) (Nat.le_of_ble_eq_true rfl) ?_
  obtain ⟨PP, hPP⟩ : ∃ PP : jPost, PP = (jR (some (.int (-2))) (hset h 42 (cI E 3 (nF (updN RF 0 (RF 0 + 1))))) n) := ⟨_, rfl⟩
  rw [← hPP]
  refine J_aload_n dX8_of_0 rfl ?_
  refine J_iload_n dX8_of_1 rfl ?_
  refine J_callVr (M' := mX8_isAnvil) (d' := (2, 0, 0)) (rest := []) dX8_of_2 jmX8_isAnvil jlRX8_107 (ctX8_isAnvil a xa xb dt mo bn ta tl tk va Q H0 H2 (by omega) (by first | assumption | omega) (by first | assumption | omega)) H0 (by omega) jk8.1 rfl rfl (Nat.le_of_ble_eq_true rfl) (Nat.le_of_ble_eq_true rfl) ⟨Nat.le_refl _, Nat.le_refl _⟩ ?_
  refine J_if_eqB (tgt := 20) dX8_of_5 (by decide) (fun c1 => ?_) (fun c1 => ?_)
  · skip
    refine J_aload_n dX8_of_20 rfl ?_
    refine J_bipush (v := (-2)) dX8_of_21 (by decide +kernel) ?_
    refine J_callVr (M' := mX8_bad) (d' := (1, 0, 0)) (rest := []) dX8_of_23 jmX8_bad jlRX8_66 (ctX8_bad (-2) xa xb dt mo bn ta tl tk va RF H0 H1 (by omega) ) H0 (by omega) jk8.1 rfl rfl (Nat.le_of_ble_eq_true rfl) (Nat.le_of_ble_eq_true rfl) ⟨Nat.le_refl _, Nat.le_refl _⟩ ?_
    exact J_iret dX8_of_26 rfl ⟨Nat.le_refl _, Nat.le_refl _⟩ (by rw [hPP]; exact ⟨rfl, rfl, rfl⟩)
  · skip
    refine J_iload_n dX8_of_8 rfl ?_
    refine J_i2l (v := (nI w).toInt64) dX8_of_9 rfl ?_
    refine J_lconst (v := lN 0) dX8_of_10 (by decide +kernel) ?_
    refine J_ldc2 dX8_of_11 jqRX8_133 ?_
    refine J.stk (st' := .long (lN 4) :: [.long (lN 0), .long (nI w).toInt64]) rfl ?_
    refine J_callSr (M' := mX8_in) (d' := (1, 0, 0)) (rest := []) dX8_of_14 jmX8_in jlRX8_56 (ctX8_in w 0 4   (by first | assumption | omega) (by first | assumption | omega) (by first | assumption | omega)) rfl rfl (Nat.le_of_ble_eq_true rfl) (Nat.le_of_ble_eq_true rfl) ⟨Nat.le_refl _, Nat.le_refl _⟩ ?_
    refine J_if_neB (tgt := 27) dX8_of_17 (by decide) (fun c2 => (by exfalso; omega)) (fun c2 => ?_)
    refine J_aload_n dX8_of_20 rfl ?_
    refine J_bipush (v := (-2)) dX8_of_21 (by decide +kernel) ?_
    refine J_callVr (M' := mX8_bad) (d' := (1, 0, 0)) (rest := []) dX8_of_23 jmX8_bad jlRX8_66 (ctX8_bad (-2) xa xb dt mo bn ta tl tk va RF H0 H1 (by omega) ) H0 (by omega) jk8.1 rfl rfl (Nat.le_of_ble_eq_true rfl) (Nat.le_of_ble_eq_true rfl) ⟨Nat.le_refl _, Nat.le_refl _⟩ ?_
    exact J_iret dX8_of_26 rfl ⟨Nat.le_refl _, Nat.le_refl _⟩ (by rw [hPP]; exact ⟨rfl, rfl, rfl⟩)

set_option maxHeartbeats 1000000 in
set_option maxRecDepth 100000 in
theorem ctX8_of_0 {E : jE} {h : Nat → va_E} {n : Nat} (a : Nat) (xa : Nat) (xb : Nat) (dt : Nat) (mo : Nat) (bn : Nat) (ta : Nat) (tl : Nat) (tk : Nat) (va : Nat) (Q : Nat → Nat) (H0 : h 38 = .inr (7, [.ref (E.1 + 39), .ref (E.1 + 40), .ref (E.1 + 41), .ref (E.1 + 42), .long (lN xa), .long (lN xb), .ref (E.1 + 43), .int (nI dt), .ref (E.1 + 44), .ref (E.1 + 45), .int (nI mo), .ref (E.1 + 46), .ref (E.1 + 47), .int (nI bn), .int (nI ta), .int (nI tl), .int (nI tk), .int (nI va), .ref (E.1 + 48), .ref (E.1 + 49)])) (H1 : h 39 = cI E 218 (nF Q)) (hn : 50 ≤ n) (hn4 : Q 0 ≤ 4) (ha : a < Q 0) : jC E mX8_of (3, 0, 0) [.ref (E.1 + 38), .int (nI a), .int (nI 0)] h n (jR (some (.int (nI (KQ Q a)))) h n) := by
  refine J.of (L := [(0, .ref (E.1 + 38)), (1, .int (nI a)), (2, .int (nI 0))]) rfl (by decide +kernel) (Nat.le_of_ble_eq_true rfl) ?_
  obtain ⟨PP, hPP⟩ : ∃ PP : jPost, PP = (jR (some (.int (nI (KQ Q a)))) h n) := ⟨_, rfl⟩
  rw [← hPP]
  refine J_aload_n dX8_of_0 rfl ?_
  refine J_iload_n dX8_of_1 rfl ?_
  refine J_callVr (M' := mX8_isAnvil) (d' := (2, 0, 0)) (rest := []) dX8_of_2 jmX8_isAnvil jlRX8_107 (ctX8_isAnvil a xa xb dt mo bn ta tl tk va Q H0 H1 (by omega) (by first | assumption | omega) (by first | assumption | omega)) H0 (by omega) jk8.1 rfl rfl (Nat.le_of_ble_eq_true rfl) (Nat.le_of_ble_eq_true rfl) ⟨Nat.le_refl _, Nat.le_refl _⟩ ?_
  refine J_if_eqB (tgt := 20) dX8_of_5 (by decide) (fun c1 => (by exfalso; omega)) (fun c1 => ?_)
  refine J_iload_n dX8_of_8 rfl ?_
  refine J_i2lN dX8_of_9 (by omega) ?_
  refine J_lconst (v := lN 0) dX8_of_10 (by decide +kernel) ?_
  refine J_ldc2 dX8_of_11 jqRX8_133 ?_
  refine J.stk (st' := .long (lN 4) :: [.long (lN 0), .long (lN 0)]) rfl ?_
  refine J_callSr (M' := mX8_in) (d' := (1, 0, 0)) (rest := []) dX8_of_14 jmX8_in jlRX8_56 (ctX8_inM 0 0 4   (by first | assumption | omega) (by first | assumption | omega) (by first | assumption | omega)) rfl rfl (Nat.le_of_ble_eq_true rfl) (Nat.le_of_ble_eq_true rfl) ⟨Nat.le_refl _, Nat.le_refl _⟩ ?_
  refine J_if_neB (tgt := 27) dX8_of_17 (by decide) (fun c2 => ?_) (fun c2 => (by exfalso; omega))
  refine J_iload_n dX8_of_27 rfl ?_
  refine J_if_neN (tgt := 39) dX8_of_28 (by decide) (by omega) (fun z => absurd z (by decide)) (fun _ => ?_)
  refine J_aload_n dX8_of_31 rfl ?_
  refine J_iload_n dX8_of_32 rfl ?_
  refine J_callVr (M' := mX8_kindOf) (d' := (1, 0, 0)) (rest := []) dX8_of_33 jmX8_kindOf jlRX8_87 (ctX8_kindOf a xa xb dt mo bn ta tl tk va Q H0 H1 (by omega) (by first | assumption | omega)) H0 (by omega) jk8.1 rfl rfl (Nat.le_of_ble_eq_true rfl) (Nat.le_of_ble_eq_true rfl) ⟨Nat.le_refl _, Nat.le_refl _⟩ ?_
  refine J_goto (tgt := 53) dX8_of_36 (by decide) ?_
  exact J_iret dX8_of_53 rfl ⟨Nat.le_refl _, Nat.le_refl _⟩ (by rw [hPP]; exact ⟨rfl, rfl, rfl⟩)

set_option maxHeartbeats 1000000 in
set_option maxRecDepth 100000 in
theorem ctX8_of_1 {E : jE} {h : Nat → va_E} {n : Nat} (a : Nat) (j : Nat) (xa : Nat) (xb : Nat) (dt : Nat) (mo : Nat) (bn : Nat) (ta : Nat) (tl : Nat) (tk : Nat) (va : Nat) (Q : Nat → Nat) (H0 : h 38 = .inr (7, [.ref (E.1 + 39), .ref (E.1 + 40), .ref (E.1 + 41), .ref (E.1 + 42), .long (lN xa), .long (lN xb), .ref (E.1 + 43), .int (nI dt), .ref (E.1 + 44), .ref (E.1 + 45), .int (nI mo), .ref (E.1 + 46), .ref (E.1 + 47), .int (nI bn), .int (nI ta), .int (nI tl), .int (nI tk), .int (nI va), .ref (E.1 + 48), .ref (E.1 + 49)])) (H1 : h 39 = cI E 218 (nF Q)) (hn : 50 ≤ n) (hn4 : Q 0 ≤ 4) (ha : a < Q 0) (hj : j < 4) : jC E mX8_of (3, 0, 0) [.ref (E.1 + 38), .int (nI a), .int (nI (j + 1))] h n (jR (some (.int (nI (Q (4 + 4 * a + j))))) h n) := by
  refine J.of (L := [(0, .ref (E.1 + 38)), (1, .int (nI a)), (2, .int (nI (j + 1)))]) rfl (by decide +kernel) (Nat.le_of_ble_eq_true rfl) ?_
  obtain ⟨PP, hPP⟩ : ∃ PP : jPost, PP = (jR (some (.int (nI (Q (4 + 4 * a + j))))) h n) := ⟨_, rfl⟩
  rw [← hPP]
  refine J_aload_n dX8_of_0 rfl ?_
  refine J_iload_n dX8_of_1 rfl ?_
  refine J_callVr (M' := mX8_isAnvil) (d' := (2, 0, 0)) (rest := []) dX8_of_2 jmX8_isAnvil jlRX8_107 (ctX8_isAnvil a xa xb dt mo bn ta tl tk va Q H0 H1 (by omega) (by first | assumption | omega) (by first | assumption | omega)) H0 (by omega) jk8.1 rfl rfl (Nat.le_of_ble_eq_true rfl) (Nat.le_of_ble_eq_true rfl) ⟨Nat.le_refl _, Nat.le_refl _⟩ ?_
  refine J_if_eqB (tgt := 20) dX8_of_5 (by decide) (fun c1 => (by exfalso; omega)) (fun c1 => ?_)
  refine J_iload_n dX8_of_8 rfl ?_
  refine J_i2lN dX8_of_9 (by omega) ?_
  refine J_lconst (v := lN 0) dX8_of_10 (by decide +kernel) ?_
  refine J_ldc2 dX8_of_11 jqRX8_133 ?_
  refine J.stk (st' := .long (lN 4) :: [.long (lN 0), .long (lN (j + 1))]) rfl ?_
  refine J_callSr (M' := mX8_in) (d' := (1, 0, 0)) (rest := []) dX8_of_14 jmX8_in jlRX8_56 (ctX8_inM (j + 1) 0 4   (by first | assumption | omega) (by first | assumption | omega) (by first | assumption | omega)) rfl rfl (Nat.le_of_ble_eq_true rfl) (Nat.le_of_ble_eq_true rfl) ⟨Nat.le_refl _, Nat.le_refl _⟩ ?_
  refine J_if_neB (tgt := 27) dX8_of_17 (by decide) (fun c2 => ?_) (fun c2 => (by exfalso; omega))
  refine J_iload_n dX8_of_27 rfl ?_
  refine J_if_neN (tgt := 39) dX8_of_28 (by decide) (by omega) (fun c3 => ?_) (fun c3 => (by exfalso; omega))
  refine J_aload_n dX8_of_39 rfl ?_
  refine J_get 0 dX8_of_40 jk8 (Nat.le_of_ble_eq_true rfl) jfRX8_7 H0 (by omega) rfl ?_
  refine J_iconst (v := nI 4) dX8_of_43 (by decide +kernel) ?_
  refine J_iconst (v := nI 4) dX8_of_44 (by decide +kernel) ?_
  refine J_iload_n dX8_of_45 rfl ?_
  refine J_imulN dX8_of_46 ?_
  refine J_iaddN dX8_of_47 ?_
  refine J_iload_n dX8_of_48 rfl ?_
  refine J_iaddN dX8_of_49 ?_
  refine J_iconst (v := nI 1) dX8_of_50 (by decide +kernel) ?_
  refine J_isubN dX8_of_51 (by omega) ?_
  refine J_ialdN (i := ((4 + (4 * a)) + (j + 1)) - 1) dX8_of_52 H1 (by omega) (by omega) (by omega) ?_
  exact J_iret dX8_of_53 rfl ⟨Nat.le_refl _, Nat.le_refl _⟩ (by rw [hPP]; exact ⟨(congrArg some (jv_N (by first | rfl | (congr 1)))), rfl, rfl⟩)
