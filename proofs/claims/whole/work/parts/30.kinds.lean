set_option maxHeartbeats 1000000 in
set_option maxRecDepth 100000 in
theorem ctX0_left {E : jE} {h : Nat → va_E} {n : Nat} (kd : Nat) (m : Nat) (d : Nat) (hk : kd ≤ 5) (hm : m < 2 ^ 31) (hd : d < 2 ^ 31) : jC E mX0_left (1, 0, 0) [.int (nI kd), .int (nI m), .int (nI d)] h n (jR (some (.int (nI (leftN kd m d)))) h n) := by
  refine J.of (L := [(0, .int (nI kd)), (1, .int (nI m)), (2, .int (nI d))]) rfl (by decide +kernel) (Nat.le_of_ble_eq_true rfl) ?_
  obtain ⟨PP, hPP⟩ : ∃ PP : jPost, PP = (jR (some (.int (nI (leftN kd m d)))) h n) := ⟨_, rfl⟩
  rw [← hPP]
  have CUT11 : J E mX0_left (1, 0, 0) jS0 PP h n (0, 0) 11 [(0, .int (nI kd)), (1, .int (nI m)), (2, .int (nI d))] [.int (nI (m - 1))] := by
    refine J_istore_n dX0_left_11 (Nat.le_of_ble_eq_true rfl) (L' := [(3, .int (nI (m - 1))), (0, .int (nI kd)), (1, .int (nI m)), (2, .int (nI d))]) rfl ?_
    refine J_iload_n dX0_left_12 rfl ?_
    have sw1 : kd = 0 ∨ kd = 1 ∨ kd = 2 ∨ kd = 3 ∨ kd = 4 ∨ kd = 5 := by omega
    rcases sw1 with sw1 | sw1 | sw1 | sw1 | sw1 | sw1
    · skip
      refine J_tableOutN (tgt := 78) (v := 0) sw1 dX0_left_13 (by decide +kernel) (by decide) ?_
      refine J_iload_n dX0_left_78 rfl ?_
      exact J_iret dX0_left_79 rfl ⟨Nat.le_refl _, Nat.le_refl _⟩ (by rw [hPP]; exact ⟨(congrArg some (jv_N (by unfold leftN; (repeat' split) <;> omega))), rfl, rfl⟩)
    · skip
      refine J_tableInN (tgt := 48) (v := 1) sw1 dX0_left_13 (by decide +kernel) (by decide +kernel) rfl (by decide) ?_
      refine J_iload_n dX0_left_48 rfl ?_
      refine J_iconst (v := nI 2) dX0_left_49 (by decide +kernel) ?_
      refine J_iremN dX0_left_50 (by omega) (by omega) (by omega) ?_
      refine J_if_neN (tgt := 58) dX0_left_51 (by decide) (by omega) (fun c2 => ?_) (fun c2 => ?_)
      · skip
        refine J_iload_n dX0_left_58 rfl ?_
        exact J_iret dX0_left_59 rfl ⟨Nat.le_refl _, Nat.le_refl _⟩ (by rw [hPP]; exact ⟨(congrArg some (jv_N (by unfold leftN; (repeat' split) <;> omega))), rfl, rfl⟩)
      · skip
        refine J_iload_n dX0_left_54 rfl ?_
        refine J_goto (tgt := 59) dX0_left_55 (by decide) ?_
        exact J_iret dX0_left_59 rfl ⟨Nat.le_refl _, Nat.le_refl _⟩ (by rw [hPP]; exact ⟨(congrArg some (jv_N (by unfold leftN; (repeat' split) <;> omega))), rfl, rfl⟩)
    · skip
      refine J_tableInN (tgt := 60) (v := 2) sw1 dX0_left_13 (by decide +kernel) (by decide +kernel) rfl (by decide) ?_
      refine J_iload_n dX0_left_60 rfl ?_
      refine J_iconst (v := nI 3) dX0_left_61 (by decide +kernel) ?_
      refine J_iremN dX0_left_62 (by omega) (by omega) (by omega) ?_
      refine J_if_neN (tgt := 70) dX0_left_63 (by decide) (by omega) (fun c3 => ?_) (fun c3 => ?_)
      · skip
        refine J_iload_n dX0_left_70 rfl ?_
        exact J_iret dX0_left_71 rfl ⟨Nat.le_refl _, Nat.le_refl _⟩ (by rw [hPP]; exact ⟨(congrArg some (jv_N (by unfold leftN; (repeat' split) <;> omega))), rfl, rfl⟩)
      · skip
        refine J_iload_n dX0_left_66 rfl ?_
        refine J_goto (tgt := 71) dX0_left_67 (by decide) ?_
        exact J_iret dX0_left_71 rfl ⟨Nat.le_refl _, Nat.le_refl _⟩ (by rw [hPP]; exact ⟨(congrArg some (jv_N (by unfold leftN; (repeat' split) <;> omega))), rfl, rfl⟩)
    · skip
      refine J_tableInN (tgt := 72) (v := 3) sw1 dX0_left_13 (by decide +kernel) (by decide +kernel) rfl (by decide) ?_
      refine J_iload_n dX0_left_72 rfl ?_
      refine J_iconst (v := nI 2) dX0_left_73 (by decide +kernel) ?_
      refine J_idivN dX0_left_74 (by omega) (by omega) (by omega) ?_
      exact J_iret dX0_left_75 rfl ⟨Nat.le_refl _, Nat.le_refl _⟩ (by rw [hPP]; exact ⟨(congrArg some (jv_N (by unfold leftN; (repeat' split) <;> omega))), rfl, rfl⟩)
    · skip
      refine J_tableInN (tgt := 76) (v := 4) sw1 dX0_left_13 (by decide +kernel) (by decide +kernel) rfl (by decide) ?_
      refine J_iload_n dX0_left_76 rfl ?_
      exact J_iret dX0_left_77 rfl ⟨Nat.le_refl _, Nat.le_refl _⟩ (by rw [hPP]; exact ⟨(congrArg some (jv_N (by unfold leftN; (repeat' split) <;> omega))), rfl, rfl⟩)
    · skip
      refine J_tableInN (tgt := 48) (v := 5) sw1 dX0_left_13 (by decide +kernel) (by decide +kernel) rfl (by decide) ?_
      refine J_iload_n dX0_left_48 rfl ?_
      refine J_iconst (v := nI 2) dX0_left_49 (by decide +kernel) ?_
      refine J_iremN dX0_left_50 (by omega) (by omega) (by omega) ?_
      refine J_if_neN (tgt := 58) dX0_left_51 (by decide) (by omega) (fun c4 => ?_) (fun c4 => ?_)
      · skip
        refine J_iload_n dX0_left_58 rfl ?_
        exact J_iret dX0_left_59 rfl ⟨Nat.le_refl _, Nat.le_refl _⟩ (by rw [hPP]; exact ⟨(congrArg some (jv_N (by unfold leftN; (repeat' split) <;> omega))), rfl, rfl⟩)
      · skip
        refine J_iload_n dX0_left_54 rfl ?_
        refine J_goto (tgt := 59) dX0_left_55 (by decide) ?_
        exact J_iret dX0_left_59 rfl ⟨Nat.le_refl _, Nat.le_refl _⟩ (by rw [hPP]; exact ⟨(congrArg some (jv_N (by unfold leftN; (repeat' split) <;> omega))), rfl, rfl⟩)
  refine J_iload_n dX0_left_0 rfl ?_
  refine J_if_leN (tgt := 10) dX0_left_1 (by decide) (by omega) (fun c5 => ?_) (fun c5 => ?_)
  · skip
    refine J_iconst (v := nI 0) dX0_left_10 (by decide +kernel) ?_
    refine J.eqs (h' := h) (L' := [(0, .int (nI kd)), (1, .int (nI m)), (2, .int (nI d))]) (st' := [.int (nI (m - 1))]) rfl rfl (jS_c (jv_N (by omega)) rfl) ?_
    exact CUT11  
  · skip
    refine J_iload_n dX0_left_4 rfl ?_
    refine J_iconst (v := nI 1) dX0_left_5 (by decide +kernel) ?_
    refine J_isubN dX0_left_6 (by omega) ?_
    refine J_goto (tgt := 11) dX0_left_7 (by decide) ?_
    exact CUT11  

set_option maxHeartbeats 1000000 in
set_option maxRecDepth 100000 in
theorem ctX0_risen {E : jE} {h : Nat → va_E} {n : Nat} (kd : Nat) (m : Nat) (g : Nat) (hk : kd ≤ 5) (hm : m < 2 ^ 30) (hg : g < 2 ^ 30) : jC E mX0_risen (1, 0, 0) [.int (nI kd), .int (nI m), .int (nI g)] h n (jR (some (.int (nI (upN kd m g)))) h n) := by
  refine J.of (L := [(0, .int (nI kd)), (1, .int (nI m)), (2, .int (nI g))]) rfl (by decide +kernel) (Nat.le_of_ble_eq_true rfl) ?_
  obtain ⟨PP, hPP⟩ : ∃ PP : jPost, PP = (jR (some (.int (nI (upN kd m g)))) h n) := ⟨_, rfl⟩
  rw [← hPP]
  have CUT12 : J E mX0_risen (1, 0, 0) jS0 PP h n (0, 0) 12 [(0, .int (nI kd)), (1, .int (nI m)), (2, .int (nI g))] [.int (nI (m - g))] := by
    refine J_istore_n dX0_risen_12 (Nat.le_of_ble_eq_true rfl) (L' := [(3, .int (nI (m - g))), (0, .int (nI kd)), (1, .int (nI m)), (2, .int (nI g))]) rfl ?_
    have CUT25 : J E mX0_risen (1, 0, 0) jS0 PP h n (0, 0) 25 [(3, .int (nI (m - g))), (0, .int (nI kd)), (1, .int (nI m)), (2, .int (nI g))] [.int (nI (if 1 ≤ m then m - g + 1 else m - g))] := by
      refine J_istore dX0_risen_25 (Nat.le_of_ble_eq_true rfl) (L' := [(4, .int (nI (if 1 ≤ m then m - g + 1 else m - g))), (3, .int (nI (m - g))), (0, .int (nI kd)), (1, .int (nI m)), (2, .int (nI g))]) rfl ?_
      refine J_iload_n dX0_risen_27 rfl ?_
      have sw1 : kd = 0 ∨ kd = 1 ∨ kd = 2 ∨ kd = 3 ∨ kd = 4 ∨ kd = 5 := by omega
      rcases sw1 with sw1 | sw1 | sw1 | sw1 | sw1 | sw1
      · skip
        refine J_tableOutN (tgt := 94) (v := 0) sw1 dX0_risen_28 (by decide +kernel) (by decide) ?_
        refine J_iload_n dX0_risen_94 rfl ?_
        exact J_iret dX0_risen_95 rfl ⟨Nat.le_refl _, Nat.le_refl _⟩ (by rw [hPP]; exact ⟨(congrArg some (jv_N (by unfold upN; (repeat' split) <;> omega))), rfl, rfl⟩)
      · skip
        refine J_tableInN (tgt := 64) (v := 1) sw1 dX0_risen_28 (by decide +kernel) (by decide +kernel) rfl (by decide) ?_
        refine J_iload_n dX0_risen_64 rfl ?_
        refine J_iconst (v := nI 1) dX0_risen_65 (by decide +kernel) ?_
        refine J_iaddN dX0_risen_66 ?_
        refine J_iconst (v := nI 2) dX0_risen_67 (by decide +kernel) ?_
        refine J_idivN dX0_risen_68 (by omega) (by omega) (by omega) ?_
        exact J_iret dX0_risen_69 rfl ⟨Nat.le_refl _, Nat.le_refl _⟩ (by rw [hPP]; exact ⟨(congrArg some (jv_N (by unfold upN; (repeat' split) <;> omega))), rfl, rfl⟩)
      · skip
        refine J_tableInN (tgt := 70) (v := 2) sw1 dX0_risen_28 (by decide +kernel) (by decide +kernel) rfl (by decide) ?_
        refine J_iload dX0_risen_70 rfl ?_
        exact J_iret dX0_risen_72 rfl ⟨Nat.le_refl _, Nat.le_refl _⟩ (by rw [hPP]; exact ⟨(congrArg some (jv_N (by unfold upN; (repeat' split) <;> omega))), rfl, rfl⟩)
      · skip
        refine J_tableInN (tgt := 94) (v := 3) sw1 dX0_risen_28 (by decide +kernel) (by decide +kernel) rfl (by decide) ?_
        refine J_iload_n dX0_risen_94 rfl ?_
        exact J_iret dX0_risen_95 rfl ⟨Nat.le_refl _, Nat.le_refl _⟩ (by rw [hPP]; exact ⟨(congrArg some (jv_N (by unfold upN; (repeat' split) <;> omega))), rfl, rfl⟩)
      · skip
        refine J_tableInN (tgt := 73) (v := 4) sw1 dX0_risen_28 (by decide +kernel) (by decide +kernel) rfl (by decide) ?_
        refine J_iconst (v := nI 2) dX0_risen_73 (by decide +kernel) ?_
        refine J_iload dX0_risen_74 rfl ?_
        refine J_imulN dX0_risen_76 ?_
        exact J_iret dX0_risen_77 rfl ⟨Nat.le_refl _, Nat.le_refl _⟩ (by rw [hPP]; exact ⟨(congrArg some (jv_N (by unfold upN; (repeat' split) <;> omega))), rfl, rfl⟩)
      · skip
        refine J_tableInN (tgt := 78) (v := 5) sw1 dX0_risen_28 (by decide +kernel) (by decide +kernel) rfl (by decide) ?_
        refine J_iload_n dX0_risen_78 rfl ?_
        refine J_bipush (v := nI 10) dX0_risen_79 (by decide +kernel) ?_
        refine J_icmp_ltN (tgt := 88) dX0_risen_81 (by decide) (by omega) (by omega) (fun c2 => ?_) (fun c2 => ?_)
        · skip
          refine J_iload_n dX0_risen_88 rfl ?_
          refine J_iconst (v := nI 1) dX0_risen_89 (by decide +kernel) ?_
          refine J_iaddN dX0_risen_90 ?_
          refine J_iconst (v := nI 2) dX0_risen_91 (by decide +kernel) ?_
          refine J_idivN dX0_risen_92 (by omega) (by omega) (by omega) ?_
          exact J_iret dX0_risen_93 rfl ⟨Nat.le_refl _, Nat.le_refl _⟩ (by rw [hPP]; exact ⟨(congrArg some (jv_N (by unfold upN; (repeat' split) <;> omega))), rfl, rfl⟩)
        · skip
          refine J_iconst (v := nI 0) dX0_risen_84 (by decide +kernel) ?_
          refine J_goto (tgt := 93) dX0_risen_85 (by decide) ?_
          exact J_iret dX0_risen_93 rfl ⟨Nat.le_refl _, Nat.le_refl _⟩ (by rw [hPP]; exact ⟨(congrArg some (jv_N (by unfold upN; (repeat' split) <;> omega))), rfl, rfl⟩)
    refine J_iload_n dX0_risen_13 rfl ?_
    refine J_iconst (v := nI 1) dX0_risen_14 (by decide +kernel) ?_
    refine J_icmp_ltN (tgt := 24) dX0_risen_15 (by decide) (by omega) (by omega) (fun c3 => ?_) (fun c3 => ?_)
    · skip
      refine J_iload_n dX0_risen_24 rfl ?_
      refine J.eqs (h' := h) (L' := [(3, .int (nI (m - g))), (0, .int (nI kd)), (1, .int (nI m)), (2, .int (nI g))]) (st' := [.int (nI (if 1 ≤ m then m - g + 1 else m - g))]) rfl rfl (jS_c (jv_N (by split <;> omega)) rfl) ?_
      exact CUT25  
    · skip
      refine J_iload_n dX0_risen_18 rfl ?_
      refine J_iconst (v := nI 1) dX0_risen_19 (by decide +kernel) ?_
      refine J_iaddN dX0_risen_20 ?_
      refine J_goto (tgt := 25) dX0_risen_21 (by decide) ?_
      refine J.eqs (h' := h) (L' := [(3, .int (nI (m - g))), (0, .int (nI kd)), (1, .int (nI m)), (2, .int (nI g))]) (st' := [.int (nI (if 1 ≤ m then m - g + 1 else m - g))]) rfl rfl (jS_c (jv_N (by split <;> omega)) rfl) ?_
      exact CUT25  
  refine J_iload_n dX0_risen_0 rfl ?_
  refine J_iload_n dX0_risen_1 rfl ?_
  refine J_icmp_leN (tgt := 11) dX0_risen_2 (by decide) (by omega) (by omega) (fun c4 => ?_) (fun c4 => ?_)
  · skip
    refine J_iconst (v := nI 0) dX0_risen_11 (by decide +kernel) ?_
    refine J.eqs (h' := h) (L' := [(0, .int (nI kd)), (1, .int (nI m)), (2, .int (nI g))]) (st' := [.int (nI (m - g))]) rfl rfl (jS_c (jv_N (by omega)) rfl) ?_
    exact CUT12  
  · skip
    refine J_iload_n dX0_risen_5 rfl ?_
    refine J_iload_n dX0_risen_6 rfl ?_
    refine J_isubN dX0_risen_7 (by omega) ?_
    refine J_goto (tgt := 12) dX0_risen_8 (by decide) ?_
    exact CUT12  

set_option maxHeartbeats 1000000 in
set_option maxRecDepth 100000 in
theorem ctX0_added {E : jE} {h : Nat → va_E} {n : Nat} (kd : Nat) (bl : Nat) (hk : kd ≤ 5) (hb : bl ≤ 5) : jC E mX0_added (1, 0, 0) [.int (nI kd), .int (nI bl)] h n (jR (some (.int (nI (moreN kd bl)))) h n) := by
  refine J.of (L := [(0, .int (nI kd)), (1, .int (nI bl))]) rfl (by decide +kernel) (Nat.le_of_ble_eq_true rfl) ?_
  obtain ⟨PP, hPP⟩ : ∃ PP : jPost, PP = (jR (some (.int (nI (moreN kd bl)))) h n) := ⟨_, rfl⟩
  rw [← hPP]
  refine J_iload_n dX0_added_0 rfl ?_
  have sw1 : kd = 0 ∨ kd = 1 ∨ kd = 2 ∨ kd = 3 ∨ kd = 4 ∨ kd = 5 := by omega
  rcases sw1 with sw1 | sw1 | sw1 | sw1 | sw1 | sw1
  · skip
    refine J_lookupN (tgt := 38) (v := 0) sw1 dX0_added_1 (by decide +kernel) (off := 37) (by decide +kernel) (by decide) ?_
    refine J_iload_n dX0_added_38 rfl ?_
    exact J_iret dX0_added_39 rfl ⟨Nat.le_refl _, Nat.le_refl _⟩ (by rw [hPP]; exact ⟨(congrArg some (jv_N (by unfold moreN; (repeat' split) <;> omega))), rfl, rfl⟩)
  · skip
    refine J_lookupN (tgt := 38) (v := 1) sw1 dX0_added_1 (by decide +kernel) (off := 37) (by decide +kernel) (by decide) ?_
    refine J_iload_n dX0_added_38 rfl ?_
    exact J_iret dX0_added_39 rfl ⟨Nat.le_refl _, Nat.le_refl _⟩ (by rw [hPP]; exact ⟨(congrArg some (jv_N (by unfold moreN; (repeat' split) <;> omega))), rfl, rfl⟩)
  · skip
    refine J_lookupN (tgt := 38) (v := 2) sw1 dX0_added_1 (by decide +kernel) (off := 37) (by decide +kernel) (by decide) ?_
    refine J_iload_n dX0_added_38 rfl ?_
    exact J_iret dX0_added_39 rfl ⟨Nat.le_refl _, Nat.le_refl _⟩ (by rw [hPP]; exact ⟨(congrArg some (jv_N (by unfold moreN; (repeat' split) <;> omega))), rfl, rfl⟩)
  · skip
    refine J_lookupN (tgt := 28) (v := 3) sw1 dX0_added_1 (by decide +kernel) (off := 27) (by decide +kernel) (by decide) ?_
    refine J_iload_n dX0_added_28 rfl ?_
    refine J_iconst (v := nI 1) dX0_added_29 (by decide +kernel) ?_
    refine J_iaddN dX0_added_30 ?_
    refine J_iconst (v := nI 2) dX0_added_31 (by decide +kernel) ?_
    refine J_idivN dX0_added_32 (by omega) (by omega) (by omega) ?_
    exact J_iret dX0_added_33 rfl ⟨Nat.le_refl _, Nat.le_refl _⟩ (by rw [hPP]; exact ⟨(congrArg some (jv_N (by unfold moreN; (repeat' split) <;> omega))), rfl, rfl⟩)
  · skip
    refine J_lookupN (tgt := 38) (v := 4) sw1 dX0_added_1 (by decide +kernel) (off := 37) (by decide +kernel) (by decide) ?_
    refine J_iload_n dX0_added_38 rfl ?_
    exact J_iret dX0_added_39 rfl ⟨Nat.le_refl _, Nat.le_refl _⟩ (by rw [hPP]; exact ⟨(congrArg some (jv_N (by unfold moreN; (repeat' split) <;> omega))), rfl, rfl⟩)
  · skip
    refine J_lookupN (tgt := 34) (v := 5) sw1 dX0_added_1 (by decide +kernel) (off := 33) (by decide +kernel) (by decide) ?_
    refine J_iconst (v := nI 2) dX0_added_34 (by decide +kernel) ?_
    refine J_iload_n dX0_added_35 rfl ?_
    refine J_imulN dX0_added_36 ?_
    exact J_iret dX0_added_37 rfl ⟨Nat.le_refl _, Nat.le_refl _⟩ (by rw [hPP]; exact ⟨(congrArg some (jv_N (by unfold moreN; (repeat' split) <;> omega))), rfl, rfl⟩)
