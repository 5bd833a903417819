/-! the four literals: their length, their chars -/
section JSTR
variable {E : jE} {M M' : jM} {d d' : jD} {S : Array Value → State → Prop} {P Q : jPost} {h : Nat → va_E} {n : Nat} {k : Nat × Nat} {pc : Nat} {L : List (Nat × Value)} {st rest as : List Value} {idx np : Nat}
theorem J_ldcS {i : Nat} {tx : String} (hd : decode M.2.1 pc = .ok (.ldc idx, 2)) (hr : ∀ s, jKK E s → vk_R M.1.cls idx tx (E.2.2.2.1 i) s) (kk : J E M d S P h n k (pc + 2) L (.ref (E.2.2.2.1 i) :: st)) : J E M d S P h n k pc L st := by
  intro p l e R s m args below meth c H locs ls F hs hl' hP hz hV
  exact va_ldcS F.1 F.2.1 F.2.2.2.2.2.2.1 (hr s F.2.2.2.2.2.2.2.2.1) hd (kk p l e R s m args below meth c H locs ls F hs hl' hP hz hV)
theorem J_strV {i : Nat} (hi : i < 4) (hd : decode M.2.1 pc = .ok (.getfield idx, 3)) (hl : Cond.fieldLink M.1.cls idx "java/lang/String" "value" "[B" ∈ jw) (kk : J E M d S P h n k (pc + 3) L (.ref (E.2.2.2.2 i) :: st)) : J E M d S P h n k pc L (.ref (E.2.2.2.1 i) :: st) := by
  intro p l e R s m args below meth c H locs ls F hs hl' hP hz hV
  have hts := F.2.2.2.2.2.2.2.1
  exact vk_getf F.1 F.2.1 (F.2.2.2.2.2.2.2.2.1.2.2.2.1.1 i hi).2.2.1 hV F.2.2.2.2.2.2.1 (hts _ hl) (fun _ q => q) hd (kk p l e R s m args below meth c H locs ls F hs hl' hP hz hV)
theorem J_strC {i : Nat} (hi : i < 4) (hd : decode M.2.1 pc = .ok (.getfield idx, 3)) (hl : Cond.fieldLink M.1.cls idx "java/lang/String" "coder" "B" ∈ jw) (kk : J E M d S P h n k (pc + 3) L (.int 0 :: st)) : J E M d S P h n k pc L (.ref (E.2.2.2.1 i) :: st) := by
  intro p l e R s m args below meth c H locs ls F hs hl' hP hz hV
  have hts := F.2.2.2.2.2.2.2.1
  exact vk_getf F.1 F.2.1 (F.2.2.2.2.2.2.2.2.1.2.2.2.1.1 i hi).2.1 hV F.2.2.2.2.2.2.1 (hts _ hl) (fun _ q => q) hd (kk p l e R s m args below meth c H locs ls F hs hl' hP hz hV)
theorem J_strL {i : Nat} (hi : i < 4) (hd : decode M.2.1 pc = .ok (.arraylength, 1)) (kk : J E M d S P h n k (pc + 1) L (.int (nI (jlen.getD i 0)) :: st)) : J E M d S P h n k pc L (.ref (E.2.2.2.2 i) :: st) := by
  intro p l e R s m args below meth c H locs ls F hs hl' hP hz hV
  exact va_tlen F.1 F.2.1 (F.2.2.2.2.2.2.2.2.1.2.2.2.1.1 i hi).2.2.2 hV rfl hd (kk p l e R s m args below meth c H locs ls F hs hl' hP hz hV)
theorem J_strB {i a : Nat} (hi : i < 4) (ha : a < jlen.getD i 0) (hL : jlen.getD i 0 < 2 ^ 31) (hd : decode M.2.1 pc = .ok (.baload, 1)) (kk : J E M d S P h n k (pc + 1) L (.int ((jbyt.getD i []).getD a 0) :: st)) : J E M d S P h n k pc L (.int (nI a) :: .ref (E.2.2.2.2 i) :: st) := by
  intro p l e R s m args below meth c H locs ls F hs hl' hP hz hV
  exact va_tb F.1 F.2.1 (F.2.2.2.2.2.2.2.2.1.2.2.2.1.1 i hi).2.2.2 hV (vp_in_nI ha hL) (by rw [nI_clamp (by omega)]) hd (kk p l e R s m args below meth c H locs ls F hs hl' hP hz hV)
theorem J_cs (hd : decode M.2.1 pc = .ok (.getstatic idx, 3)) (hl : Cond.fieldLink M.1.cls idx "java/lang/String" "COMPACT_STRINGS" "Z" ∈ jw) (kk : J E M d S P h n k (pc + 3) L (.int 1 :: st)) : J E M d S P h n k pc L st := by
  intro p l e R s m args below meth c H locs ls F hs hl' hP hz hV
  have hts := F.2.2.2.2.2.2.2.1
  exact va_gets F.1 F.2.1 F.2.2.2.2.2.2.2.2.1.2.2.2.2.2.1 hV F.2.2.2.2.2.2.1 (hts _ hl) (fun _ q => q) hd (kk p l e R s m args below meth c H locs ls F hs hl' hP hz hV)
theorem J_sio (hd : decode M.2.1 pc = .ok (.getstatic idx, 3)) (hl : Cond.fieldLink M.1.cls idx "jdk/internal/util/Preconditions" "SIOOBE_FORMATTER" "Ljava/util/function/BiFunction;" ∈ jw) (kk : ∀ x : Value, (x = .null ∨ ∃ t, x = .ref t) → J E M d S P h n k (pc + 3) L (x :: st)) : J E M d S P h n k pc L st := by
  intro p l e R s m args below meth c H locs ls F hs hl' hP hz hV
  have hts := F.2.2.2.2.2.2.2.1
  rcases F.2.2.2.2.2.2.2.2.1.2.2.2.2.2.2 with q | ⟨t, q⟩
  · exact va_gets F.1 F.2.1 q hV F.2.2.2.2.2.2.1 (hts _ hl) (fun _ q => q) hd (kk _ (.inl rfl) p l e R s m args below meth c H locs ls F hs hl' hP hz hV)
  · exact va_gets F.1 F.2.1 q hV F.2.2.2.2.2.2.1 (hts _ hl) (fun _ q => q) hd (kk _ (.inr ⟨t, rfl⟩) p l e R s m args below meth c H locs ls F hs hl' hP hz hV)
theorem J_i2c {x v : Int32} (hd : decode M.2.1 pc = .ok (.i2c, 1)) (hv : (x.toUInt32 % 65536).toInt32 = v) (kk : J E M d S P h n k (pc + 1) L (.int v :: st)) : J E M d S P h n k pc L (.int x :: st) := by
  intro p l e R s m args below meth c H locs ls F hs hl' hP hz hV
  exact lv_i2c F.1 F.2.1 hd hv (kk p l e R s m args below meth c H locs ls F hs hl' hP hz hV)
theorem J_callVS {i : Nat} {v : Value} {h' : Nat → va_E} (hi : i < 4) (hd : decode M.2.1 pc = .ok (.invokevirtual idx, 3)) (hm : jmV M' np) (hcl : M'.1.cls = "java/lang/String") (hl : Cond.methodLink M.1.cls idx M'.1 ∈ jw) (hC : jC E M' (d'.1, 0, 0) (.ref (E.2.2.2.1 i) :: as) h n (jR (some v) h' n)) (hst : st = as.reverse ++ .ref (E.2.2.2.1 i) :: rest) (hn : as.length = np) (hr : (rest.map fun v => v.category).sum ≤ 8) (hdep : d'.1 + 1 ≤ d.1) (hks : k.1 ≤ d.2.1 ∧ k.2 ≤ d.2.2)
    (kk : J E M d S P h' n k (pc + 3) L (v :: rest)) : J E M d S P h n k pc L st := by
  subst hst
  intro p l e R s m args below meth c H locs ls F hs hl' hP hz hV
  have cb := j_callB (d' := (d'.1, 0, 0)) F hm.1 hl hdep
  obtain ⟨hx, hbb, hml, hrr, hlk, hnm, hown, hts, hK, r1, r2, r3, r4, hE⟩ := id F
  refine j_after (va_runV (As := as) (rest := rest) ⟨hx, hbb, hml, hown, hts⟩ (hC l) ⟨cb, hts _ hm.2.1, hts _ hm.2.2⟩ ⟨jPc_blind, by rw [hcl]; exact vk_recv hK.2.2.2.1 hi hV, fun U hU hW => ⟨rfl, by rw [hU]; exact hP, by rw [hU]; exact hz, jKK_moved hV hU hW hK⟩⟩ rfl hn hl'.1 rfl (lv_room hr) hd ⟨by simp only []; omega, by simp only []; omega⟩) hV hE ?_
  rintro _ _ _ H' locs' ⟨rfl, rfl, rfl⟩ hP' hz' hV'
  exact kk p l e R s m args below meth c H' locs' ls F hs hl' hP' hz' hV'
end JSTR
theorem jst_len : ∀ i, i < 4 → 1 ≤ jlen.getD i 0 ∧ jlen.getD i 0 ≤ 6 := by decide +kernel
def wchs : List (List Nat) := [[115, 116, 114, 101, 101, 116], [97, 110, 118, 105, 108], [119, 111, 114, 107], [100, 97, 121]]
def wch (i z : Nat) : Nat := (wchs.getD i []).getD z 0
theorem jst_ch : ∀ i, i < 4 → ∀ z, z < 7 → ((((jbyt.getD i []).getD z 0) &&& nI 255).toUInt32 % 65536).toInt32 = nI (wch i z) ∧ wch i z ≤ 122 ∧ narrow .char (.int (nI (wch i z))) = .int (nI (wch i z)) := by decide +kernel
theorem jfRJ0_38 : Cond.fieldLink RJ0 38 "java/lang/String" "COMPACT_STRINGS" "Z" ∈ jw := jw_t 302 (by decide +kernel) rfl
theorem jfRJ0_1053 : Cond.fieldLink RJ0 1053 "jdk/internal/util/Preconditions" "SIOOBE_FORMATTER" "Ljava/util/function/BiFunction;" ∈ jw := jw_t 318 (by decide +kernel) rfl
theorem jfRJ0_9 : Cond.fieldLink RJ0 9 "java/lang/String" "value" "[B" ∈ jw := jw_t 1114 (by decide +kernel) rfl
theorem jfRJ0_15 : Cond.fieldLink RJ0 15 "java/lang/String" "coder" "B" ∈ jw := jw_t 1115 (by decide +kernel) rfl
theorem ctS_coder {E : jE} {h : Nat → va_E} {n : Nat} (i : Nat) (hi : i < 4) : jC E mJ0_coder_7d493 (1, 0, 0) [.ref (E.2.2.2.1 i)] h n (jR (some (.int 0)) h n) := by
  refine J.of (L := [(0, .ref (E.2.2.2.1 i))]) rfl (by decide +kernel) (Nat.le_of_ble_eq_true rfl) ?_
  refine J_cs dJ0_coder_7d493_0 jfRJ0_38 ?_
  refine J_if_eq (tgt := 13) dJ0_coder_7d493_3 (by decide) (fun z => absurd z (by decide)) (fun _ => ?_)
  refine J_aload_n dJ0_coder_7d493_6 rfl ?_
  refine J_strC hi dJ0_coder_7d493_7 jfRJ0_15 ?_
  refine J_goto (tgt := 14) dJ0_coder_7d493_10 (by decide) ?_
  exact J_zret dJ0_coder_7d493_14 rfl rfl ⟨Nat.le_refl _, Nat.le_refl _⟩ ⟨rfl, rfl, rfl⟩
theorem ctS_isLatin1 {E : jE} {h : Nat → va_E} {n : Nat} (i : Nat) (hi : i < 4) : jC E mJ0_isLatin1_aae02 (2, 0, 0) [.ref (E.2.2.2.1 i)] h n (jR (some (.int 1)) h n) := by
  refine J.of (L := [(0, .ref (E.2.2.2.1 i))]) rfl (by decide +kernel) (Nat.le_of_ble_eq_true rfl) ?_
  refine J_cs dJ0_isLatin1_aae02_0 jfRJ0_38 ?_
  refine J_if_eq (tgt := 17) dJ0_isLatin1_aae02_3 (by decide) (fun z => absurd z (by decide)) (fun _ => ?_)
  refine J_aload_n dJ0_isLatin1_aae02_6 rfl ?_
  refine J_strC hi dJ0_isLatin1_aae02_7 jfRJ0_15 ?_
  refine J_if_ne (tgt := 17) dJ0_isLatin1_aae02_10 (by decide) (fun z => absurd rfl z) (fun _ => ?_)
  refine J_iconst (v := 1) dJ0_isLatin1_aae02_13 (by decide +kernel) ?_
  refine J_goto (tgt := 18) dJ0_isLatin1_aae02_14 (by decide) ?_
  exact J_zret dJ0_isLatin1_aae02_18 rfl rfl ⟨Nat.le_refl _, Nat.le_refl _⟩ ⟨rfl, rfl, rfl⟩
theorem ctS_length {E : jE} {h : Nat → va_E} {n : Nat} (i : Nat) (hi : i < 4) : jC E mJ0_length_8abf5 (2, 0, 0) [.ref (E.2.2.2.1 i)] h n (jR (some (.int (nI (jlen.getD i 0)))) h n) := by
  have hl := jst_len i hi
  refine J.of (L := [(0, .ref (E.2.2.2.1 i))]) rfl (by decide +kernel) (Nat.le_of_ble_eq_true rfl) ?_
  refine J_aload_n dJ0_length_8abf5_0 rfl ?_
  refine J_strV hi dJ0_length_8abf5_1 jfRJ0_9 ?_
  refine J_strL hi dJ0_length_8abf5_4 ?_
  refine J_aload_n dJ0_length_8abf5_5 rfl ?_
  refine J_callVS (M' := mJ0_coder_7d493) (d' := (1, 0, 0)) (rest := [.int (nI (jlen.getD i 0))]) hi dJ0_length_8abf5_6 jmJ0_coder_7d493 rfl jlRJ0_335 (ctS_coder i hi) rfl rfl (Nat.le_of_ble_eq_true rfl) (Nat.le_of_ble_eq_true rfl) ⟨Nat.le_refl _, Nat.le_refl _⟩ ?_
  refine J.stk (st' := [.int (nI 0), .int (nI (jlen.getD i 0))]) rfl ?_
  refine J_ishrN dJ0_length_8abf5_9 (by omega) (by omega) ?_
  exact J_iret dJ0_length_8abf5_10 rfl ⟨Nat.le_refl _, Nat.le_refl _⟩ ⟨by rw [show jlen.getD i 0 / 2 ^ 0 = jlen.getD i 0 by simp], rfl, rfl⟩
theorem ctS_check3 {E : jE} {h : Nat → va_E} {n : Nat} (a b : Nat) (x : Value) (hx : x = .null ∨ ∃ t, x = .ref t) (hab : a < b) (hb : b < 2 ^ 31) : jC E mJ3_checkIndex_8e157 (1, 0, 0) [.int (nI a), .int (nI b), x] h n (jR (some (.int (nI a))) h n) := by
  rcases hx with rfl | ⟨t, rfl⟩
  · refine J.of (L := [(0, .int (nI a)), (1, .int (nI b)), (2, .null)]) rfl (by decide +kernel) (Nat.le_of_ble_eq_true rfl) ?_
    refine J_iload_n dJ3_checkIndex_8e157_0 rfl ?_
    refine J_if_ltN dJ3_checkIndex_8e157_1 (tgt := 9) (by decide) (by omega) ?_
    refine J_iload_n dJ3_checkIndex_8e157_4 rfl ?_
    refine J_iload_n dJ3_checkIndex_8e157_5 rfl ?_
    refine J_icmp_ltN (tgt := 16) dJ3_checkIndex_8e157_6 (by decide) (by omega) (by omega) (fun _ => ?_) (fun z => (by exfalso; omega))
    refine J_iload_n dJ3_checkIndex_8e157_16 rfl ?_
    exact J_iret dJ3_checkIndex_8e157_17 rfl ⟨Nat.le_refl _, Nat.le_refl _⟩ ⟨rfl, rfl, rfl⟩
  · refine J.of (L := [(0, .int (nI a)), (1, .int (nI b)), (2, .ref t)]) rfl (by decide +kernel) (Nat.le_of_ble_eq_true rfl) ?_
    refine J_iload_n dJ3_checkIndex_8e157_0 rfl ?_
    refine J_if_ltN dJ3_checkIndex_8e157_1 (tgt := 9) (by decide) (by omega) ?_
    refine J_iload_n dJ3_checkIndex_8e157_4 rfl ?_
    refine J_iload_n dJ3_checkIndex_8e157_5 rfl ?_
    refine J_icmp_ltN (tgt := 16) dJ3_checkIndex_8e157_6 (by decide) (by omega) (by omega) (fun _ => ?_) (fun z => (by exfalso; omega))
    refine J_iload_n dJ3_checkIndex_8e157_16 rfl ?_
    exact J_iret dJ3_checkIndex_8e157_17 rfl ⟨Nat.le_refl _, Nat.le_refl _⟩ ⟨rfl, rfl, rfl⟩
theorem ctS_check {E : jE} {h : Nat → va_E} {n : Nat} (a b : Nat) (hab : a < b) (hb : b < 2 ^ 31) : jC E mJ0_checkIndex_df160 (2, 0, 0) [.int (nI a), .int (nI b)] h n (jR none h n) := by
  refine J.of (L := [(0, .int (nI a)), (1, .int (nI b))]) rfl (by decide +kernel) (Nat.le_of_ble_eq_true rfl) ?_
  refine J_iload_n dJ0_checkIndex_df160_0 rfl ?_
  refine J_iload_n dJ0_checkIndex_df160_1 rfl ?_
  refine J_sio dJ0_checkIndex_df160_2 jfRJ0_1053 (fun x hx => ?_)
  refine J_callSr (M' := mJ3_checkIndex_8e157) (d' := (1, 0, 0)) (rest := []) dJ0_checkIndex_df160_5 jmJ3_checkIndex_8e157 jlRJ0_1059 (ctS_check3 a b x hx hab hb) rfl rfl (Nat.le_of_ble_eq_true rfl) (Nat.le_of_ble_eq_true rfl) ⟨Nat.le_refl _, Nat.le_refl _⟩ ?_
  refine J_pop dJ0_checkIndex_df160_8 rfl ?_
  exact J_vret dJ0_checkIndex_df160_9 rfl ⟨Nat.le_refl _, Nat.le_refl _⟩ ⟨rfl, rfl, rfl⟩
theorem ctS_charAt1 {E : jE} {h : Nat → va_E} {n : Nat} (i a : Nat) (hi : i < 4) (ha : a < jlen.getD i 0) : jC E mJ1_charAt_3b067 (3, 0, 0) [.ref (E.2.2.2.2 i), .int (nI a)] h n (jR (some (.int (nI (wch i a)))) h n) := by
  have hl := jst_len i hi
  have hc := jst_ch i hi a (by omega)
  refine J.of (L := [(0, .ref (E.2.2.2.2 i)), (1, .int (nI a))]) rfl (by decide +kernel) (Nat.le_of_ble_eq_true rfl) ?_
  refine J_iload_n dJ1_charAt_3b067_0 rfl ?_
  refine J_aload_n dJ1_charAt_3b067_1 rfl ?_
  refine J_strL hi dJ1_charAt_3b067_2 ?_
  refine J_callSn (M' := mJ0_checkIndex_df160) (d' := (2, 0, 0)) (rest := []) dJ1_charAt_3b067_3 jmJ0_checkIndex_df160 jlRJ1_9 (ctS_check a (jlen.getD i 0) ha (by omega)) rfl rfl (Nat.le_of_ble_eq_true rfl) (Nat.le_of_ble_eq_true rfl) ⟨Nat.le_refl _, Nat.le_refl _⟩ ?_
  refine J_aload_n dJ1_charAt_3b067_6 rfl ?_
  refine J_iload_n dJ1_charAt_3b067_7 rfl ?_
  refine J_strB hi ha (by omega) dJ1_charAt_3b067_8 ?_
  refine J_sipush (v := nI 255) dJ1_charAt_3b067_9 (by decide +kernel) ?_
  refine J_iand dJ1_charAt_3b067_12 ?_
  refine J_i2c dJ1_charAt_3b067_13 hc.1 ?_
  exact J_zret dJ1_charAt_3b067_14 rfl hc.2.2 ⟨Nat.le_refl _, Nat.le_refl _⟩ ⟨rfl, rfl, rfl⟩
theorem ctS_charAt {E : jE} {h : Nat → va_E} {n : Nat} (i a : Nat) (hi : i < 4) (ha : a < jlen.getD i 0) : jC E mJ0_charAt_5068e (4, 0, 0) [.ref (E.2.2.2.1 i), .int (nI a)] h n (jR (some (.int (nI (wch i a)))) h n) := by
  have hc := jst_ch i hi a (by have := jst_len i hi; omega)
  refine J.of (L := [(0, .ref (E.2.2.2.1 i)), (1, .int (nI a))]) rfl (by decide +kernel) (Nat.le_of_ble_eq_true rfl) ?_
  refine J_aload_n dJ0_charAt_5068e_0 rfl ?_
  refine J_callVS (M' := mJ0_isLatin1_aae02) (d' := (2, 0, 0)) (rest := []) hi dJ0_charAt_5068e_1 jmJ0_isLatin1_aae02 rfl jlRJ0_492 (ctS_isLatin1 i hi) rfl rfl (Nat.le_of_ble_eq_true rfl) (Nat.le_of_ble_eq_true rfl) ⟨Nat.le_refl _, Nat.le_refl _⟩ ?_
  refine J_if_eq (tgt := 16) dJ0_charAt_5068e_4 (by decide) (fun z => absurd z (by decide)) (fun _ => ?_)
  refine J_aload_n dJ0_charAt_5068e_7 rfl ?_
  refine J_strV hi dJ0_charAt_5068e_8 jfRJ0_9 ?_
  refine J_iload_n dJ0_charAt_5068e_11 rfl ?_
  refine J_callSr (M' := mJ1_charAt_3b067) (d' := (3, 0, 0)) (rest := []) dJ0_charAt_5068e_12 jmJ1_charAt_3b067 jlRJ0_495 (ctS_charAt1 i a hi ha) rfl rfl (Nat.le_of_ble_eq_true rfl) (Nat.le_of_ble_eq_true rfl) ⟨Nat.le_refl _, Nat.le_refl _⟩ ?_
  exact J_zret dJ0_charAt_5068e_15 rfl hc.2.2 ⟨Nat.le_refl _, Nat.le_refl _⟩ ⟨rfl, rfl, rfl⟩
