set_option maxHeartbeats 1000000 in
set_option maxRecDepth 100000 in
theorem ctX8_lookAt {E : jE} {h : Nat → va_E} {n : Nat} (p : Nat) (xa : Nat) (xb : Nat) (dt : Nat) (mo : Nat) (bn : Nat) (ta : Nat) (tl : Nat) (tk : Nat) (va : Nat) (BY : Nat → Nat) (F : Nat → Nat) (H0 : h 38 = .inr (7, [.ref (E.1 + 39), .ref (E.1 + 40), .ref (E.1 + 41), .ref (E.1 + 42), .long (lN xa), .long (lN xb), .ref (E.1 + 43), .int (nI dt), .ref (E.1 + 44), .ref (E.1 + 45), .int (nI mo), .ref (E.1 + 46), .ref (E.1 + 47), .int (nI bn), .int (nI ta), .int (nI tl), .int (nI tk), .int (nI va), .ref (E.1 + 48), .ref (E.1 + 49)])) (H1 : h 47 = cI E 150 (nF BY)) (hn : 50 ≤ n) (hBY : ∀ zz, zz < bn → BY zz = F zz ∧ F zz ≤ 127) (hbn : bn ≤ 150) (hp : p ≤ bn) : jC E mX8_lookAt (3, 0, 0) [.ref (E.1 + 38), .int (nI p)] h n (fun v h' n' => v = none ∧ n' = n ∧ ∃ (va1 : Nat), h' = (hset h 38 (.inr (7, [.ref (E.1 + 39), .ref (E.1 + 40), .ref (E.1 + 41), .ref (E.1 + 42), .long (lN xa), .long (lN xb), .ref (E.1 + 43), .int (nI dt), .ref (E.1 + 44), .ref (E.1 + 45), .int (nI mo), .ref (E.1 + 46), .ref (E.1 + 47), .int (nI bn), .int (nI (skipF F bn p)), .int (nI (lenQ F bn (skipF F bn p))), .int (nI (tokR F bn (skipF F bn p))), .int (nI va1), .ref (E.1 + 48), .ref (E.1 + 49)]))) ∧ (tokR F bn (skipF F bn p) = 2 → va1 = valN F (skipF F bn p) (endF F bn (skipF F bn p)))) := by
  refine J.of (L := [(0, .ref (E.1 + 38)), (1, .int (nI p))]) rfl (by decide +kernel) (Nat.le_of_ble_eq_true rfl) ?_
  obtain ⟨PP, hPP⟩ : ∃ PP : jPost, PP = (fun v h' n' => v = none ∧ n' = n ∧ ∃ (va1 : Nat), h' = (hset h 38 (.inr (7, [.ref (E.1 + 39), .ref (E.1 + 40), .ref (E.1 + 41), .ref (E.1 + 42), .long (lN xa), .long (lN xb), .ref (E.1 + 43), .int (nI dt), .ref (E.1 + 44), .ref (E.1 + 45), .int (nI mo), .ref (E.1 + 46), .ref (E.1 + 47), .int (nI bn), .int (nI (skipF F bn p)), .int (nI (lenQ F bn (skipF F bn p))), .int (nI (tokR F bn (skipF F bn p))), .int (nI va1), .ref (E.1 + 48), .ref (E.1 + 49)]))) ∧ (tokR F bn (skipF F bn p) = 2 → va1 = valN F (skipF F bn p) (endF F bn (skipF F bn p)))) := ⟨_, rfl⟩
  rw [← hPP]
  have CUT43 : ∀ (q : Nat) (hqs : skipF F bn p = q) (hqn : q ≤ bn), J E mX8_lookAt (3, 0, 0) jS0 PP (hset h 38 (.inr (7, [.ref (E.1 + 39), .ref (E.1 + 40), .ref (E.1 + 41), .ref (E.1 + 42), .long (lN xa), .long (lN xb), .ref (E.1 + 43), .int (nI dt), .ref (E.1 + 44), .ref (E.1 + 45), .int (nI mo), .ref (E.1 + 46), .ref (E.1 + 47), .int (nI bn), .int (nI q), .int (nI tl), .int (nI tk), .int (nI va), .ref (E.1 + 48), .ref (E.1 + 49)]))) n (0, 0) 43 [(0, .ref (E.1 + 38)), (1, .int (nI p))] [] := by
    intro q hqs hqn
    refine J_aload_n dX8_lookAt_43 rfl ?_
    refine J_iconst (v := nI 0) dX8_lookAt_44 (by decide +kernel) ?_
    refine J_put 15 dX8_lookAt_45 jk8 (Nat.le_of_ble_eq_true rfl) jfRX8_208 hset_eq (by omega) rfl rfl rfl (Nat.le_of_ble_eq_true rfl) ?_
    refine J.cast (h' := (hset (hset h 38 (.inr (7, [.ref (E.1 + 39), .ref (E.1 + 40), .ref (E.1 + 41), .ref (E.1 + 42), .long (lN xa), .long (lN xb), .ref (E.1 + 43), .int (nI dt), .ref (E.1 + 44), .ref (E.1 + 45), .int (nI mo), .ref (E.1 + 46), .ref (E.1 + 47), .int (nI bn), .int (nI q), .int (nI tl), .int (nI tk), .int (nI va), .ref (E.1 + 48), .ref (E.1 + 49)]))) 38 (.inr (7, [.ref (E.1 + 39), .ref (E.1 + 40), .ref (E.1 + 41), .ref (E.1 + 42), .long (lN xa), .long (lN xb), .ref (E.1 + 43), .int (nI dt), .ref (E.1 + 44), .ref (E.1 + 45), .int (nI mo), .ref (E.1 + 46), .ref (E.1 + 47), .int (nI bn), .int (nI q), .int (nI 0), .int (nI tk), .int (nI va), .ref (E.1 + 48), .ref (E.1 + 49)])))) rfl ?_
    refine J.cast hset_hset ?_
    refine J_aload_n dX8_lookAt_48 rfl ?_
    refine J_iconst (v := nI 0) dX8_lookAt_49 (by decide +kernel) ?_
    refine J_put 16 dX8_lookAt_50 jk8 (Nat.le_of_ble_eq_true rfl) jfRX8_211 hset_eq (by omega) rfl rfl rfl (Nat.le_of_ble_eq_true rfl) ?_
    refine J.cast (h' := (hset (hset h 38 (.inr (7, [.ref (E.1 + 39), .ref (E.1 + 40), .ref (E.1 + 41), .ref (E.1 + 42), .long (lN xa), .long (lN xb), .ref (E.1 + 43), .int (nI dt), .ref (E.1 + 44), .ref (E.1 + 45), .int (nI mo), .ref (E.1 + 46), .ref (E.1 + 47), .int (nI bn), .int (nI q), .int (nI 0), .int (nI tk), .int (nI va), .ref (E.1 + 48), .ref (E.1 + 49)]))) 38 (.inr (7, [.ref (E.1 + 39), .ref (E.1 + 40), .ref (E.1 + 41), .ref (E.1 + 42), .long (lN xa), .long (lN xb), .ref (E.1 + 43), .int (nI dt), .ref (E.1 + 44), .ref (E.1 + 45), .int (nI mo), .ref (E.1 + 46), .ref (E.1 + 47), .int (nI bn), .int (nI q), .int (nI 0), .int (nI 0), .int (nI va), .ref (E.1 + 48), .ref (E.1 + 49)])))) rfl ?_
    refine J.cast hset_hset ?_
    refine J_aload_n dX8_lookAt_53 rfl ?_
    refine J_iconst (v := nI 0) dX8_lookAt_54 (by decide +kernel) ?_
    refine J_put 17 dX8_lookAt_55 jk8 (Nat.le_of_ble_eq_true rfl) jfRX8_214 hset_eq (by omega) rfl rfl rfl (Nat.le_of_ble_eq_true rfl) ?_
    refine J.cast (h' := (hset (hset h 38 (.inr (7, [.ref (E.1 + 39), .ref (E.1 + 40), .ref (E.1 + 41), .ref (E.1 + 42), .long (lN xa), .long (lN xb), .ref (E.1 + 43), .int (nI dt), .ref (E.1 + 44), .ref (E.1 + 45), .int (nI mo), .ref (E.1 + 46), .ref (E.1 + 47), .int (nI bn), .int (nI q), .int (nI 0), .int (nI 0), .int (nI va), .ref (E.1 + 48), .ref (E.1 + 49)]))) 38 (.inr (7, [.ref (E.1 + 39), .ref (E.1 + 40), .ref (E.1 + 41), .ref (E.1 + 42), .long (lN xa), .long (lN xb), .ref (E.1 + 43), .int (nI dt), .ref (E.1 + 44), .ref (E.1 + 45), .int (nI mo), .ref (E.1 + 46), .ref (E.1 + 47), .int (nI bn), .int (nI q), .int (nI 0), .int (nI 0), .int (nI 0), .ref (E.1 + 48), .ref (E.1 + 49)])))) rfl ?_
    refine J.cast hset_hset ?_
    refine J_aload_n dX8_lookAt_58 rfl ?_
    refine J_get 14 dX8_lookAt_59 jk8 (Nat.le_of_ble_eq_true rfl) jfRX8_205 hset_eq (by omega) rfl ?_
    refine J_aload_n dX8_lookAt_62 rfl ?_
    refine J_get 13 dX8_lookAt_63 jk8 (Nat.le_of_ble_eq_true rfl) jfRX8_194 hset_eq (by omega) rfl ?_
    refine J_icmp_neN (tgt := 70) dX8_lookAt_66 (by decide) (by omega) (by omega) (fun c1 => ?_) (fun c1 => ?_)
    · skip
      have CUT114 : ∀ (tk0 : Nat) (htk0 : tk0 = tok0 (F q)), J E mX8_lookAt (3, 0, 0) jS0 PP (hset h 38 (.inr (7, [.ref (E.1 + 39), .ref (E.1 + 40), .ref (E.1 + 41), .ref (E.1 + 42), .long (lN xa), .long (lN xb), .ref (E.1 + 43), .int (nI dt), .ref (E.1 + 44), .ref (E.1 + 45), .int (nI mo), .ref (E.1 + 46), .ref (E.1 + 47), .int (nI bn), .int (nI q), .int (nI 0), .int (nI 0), .int (nI 0), .ref (E.1 + 48), .ref (E.1 + 49)]))) n (0, 0) 114 [(2, .int (nI (BY q))), (0, .ref (E.1 + 38)), (1, .int (nI p))] [.int (nI tk0), .ref (E.1 + 38)] := by
        intro tk0 htk0
        refine J_put 16 dX8_lookAt_114 jk8 (Nat.le_of_ble_eq_true rfl) jfRX8_211 hset_eq (by omega) rfl rfl rfl (Nat.le_of_ble_eq_true rfl) ?_
        refine J.cast (h' := (hset (hset h 38 (.inr (7, [.ref (E.1 + 39), .ref (E.1 + 40), .ref (E.1 + 41), .ref (E.1 + 42), .long (lN xa), .long (lN xb), .ref (E.1 + 43), .int (nI dt), .ref (E.1 + 44), .ref (E.1 + 45), .int (nI mo), .ref (E.1 + 46), .ref (E.1 + 47), .int (nI bn), .int (nI q), .int (nI 0), .int (nI 0), .int (nI 0), .ref (E.1 + 48), .ref (E.1 + 49)]))) 38 (.inr (7, [.ref (E.1 + 39), .ref (E.1 + 40), .ref (E.1 + 41), .ref (E.1 + 42), .long (lN xa), .long (lN xb), .ref (E.1 + 43), .int (nI dt), .ref (E.1 + 44), .ref (E.1 + 45), .int (nI mo), .ref (E.1 + 46), .ref (E.1 + 47), .int (nI bn), .int (nI q), .int (nI 0), .int (nI tk0), .int (nI 0), .ref (E.1 + 48), .ref (E.1 + 49)])))) rfl ?_
        refine J.cast hset_hset ?_
        have CUT215 : ∀ (l2 : Nat) (he : endF F bn q = q + l2) (hl2 : 1 ≤ l2) (hlb2 : q + l2 ≤ bn), J E mX8_lookAt (3, 0, 0) jS0 PP (hset h 38 (.inr (7, [.ref (E.1 + 39), .ref (E.1 + 40), .ref (E.1 + 41), .ref (E.1 + 42), .long (lN xa), .long (lN xb), .ref (E.1 + 43), .int (nI dt), .ref (E.1 + 44), .ref (E.1 + 45), .int (nI mo), .ref (E.1 + 46), .ref (E.1 + 47), .int (nI bn), .int (nI q), .int (nI l2), .int (nI tk0), .int (nI 0), .ref (E.1 + 48), .ref (E.1 + 49)]))) n (0, 0) 215 [(2, .int (nI (BY q))), (0, .ref (E.1 + 38)), (1, .int (nI p))] [] := by
          intro l2 he hl2 hlb2
          have hx := hBY q (by omega)
          have t1 := tok0_1 (c := F q)
          have t2 := tok0_2 (c := F q)
          have tlx := tok0_le (c := F q)
          have fq := fam_1i (c := F q)
          have fl := fam_le (c := F q)
          refine J_iconst (v := nI 0) dX8_lookAt_215 (by decide +kernel) ?_
          refine J_istore dX8_lookAt_216 (Nat.le_of_ble_eq_true rfl) (L' := [(4, .int (nI 0)), (2, .int (nI (BY q))), (0, .ref (E.1 + 38)), (1, .int (nI p))]) rfl ?_
          refine J_iload dX8_lookAt_218 rfl ?_
          refine J_aload_n dX8_lookAt_220 rfl ?_
          refine J_get 15 dX8_lookAt_221 jk8 (Nat.le_of_ble_eq_true rfl) jfRX8_208 hset_eq (by omega) rfl ?_
          refine J_icmp_geN (tgt := 274) dX8_lookAt_224 (by decide) (by omega) (by omega) (fun c2 => (by exfalso; omega)) (fun c2 => ?_)
          refine J_iload dX8_lookAt_227 rfl ?_
          refine J_iconst (v := nI 2) dX8_lookAt_229 (by decide +kernel) ?_
          refine J_icmp_geN (tgt := 274) dX8_lookAt_230 (by decide) (by omega) (by omega) (fun z => absurd z (by decide)) (fun _ => ?_)
          refine J_aload_n dX8_lookAt_233 rfl ?_
          refine J_get 16 dX8_lookAt_234 jk8 (Nat.le_of_ble_eq_true rfl) jfRX8_211 hset_eq (by omega) rfl ?_
          refine J_iconst (v := nI 2) dX8_lookAt_237 (by decide +kernel) ?_
          refine J_icmp_neN (tgt := 274) dX8_lookAt_238 (by decide) (by omega) (by omega) (fun c4 => ?_) (fun c4 => ?_)
          · skip
            refine J_aload_n dX8_lookAt_274 rfl ?_
            refine J_aload_n dX8_lookAt_275 rfl ?_
            refine J_get 16 dX8_lookAt_276 jk8 (Nat.le_of_ble_eq_true rfl) jfRX8_211 hset_eq (by omega) rfl ?_
            refine J_iconst (v := nI 2) dX8_lookAt_279 (by decide +kernel) ?_
            refine J_icmp_neN (tgt := 295) dX8_lookAt_280 (by decide) (by omega) (by omega) (fun c5 => ?_) (fun c5 => ?_)
            · skip
              refine J_aload_n dX8_lookAt_295 rfl ?_
              refine J_get 16 dX8_lookAt_296 jk8 (Nat.le_of_ble_eq_true rfl) jfRX8_211 hset_eq (by omega) rfl ?_
              refine J_put 16 dX8_lookAt_299 jk8 (Nat.le_of_ble_eq_true rfl) jfRX8_211 hset_eq (by omega) rfl rfl rfl (Nat.le_of_ble_eq_true rfl) ?_
              refine J.cast (h' := (hset (hset h 38 (.inr (7, [.ref (E.1 + 39), .ref (E.1 + 40), .ref (E.1 + 41), .ref (E.1 + 42), .long (lN xa), .long (lN xb), .ref (E.1 + 43), .int (nI dt), .ref (E.1 + 44), .ref (E.1 + 45), .int (nI mo), .ref (E.1 + 46), .ref (E.1 + 47), .int (nI bn), .int (nI q), .int (nI l2), .int (nI tk0), .int (nI 0), .ref (E.1 + 48), .ref (E.1 + 49)]))) 38 (.inr (7, [.ref (E.1 + 39), .ref (E.1 + 40), .ref (E.1 + 41), .ref (E.1 + 42), .long (lN xa), .long (lN xb), .ref (E.1 + 43), .int (nI dt), .ref (E.1 + 44), .ref (E.1 + 45), .int (nI mo), .ref (E.1 + 46), .ref (E.1 + 47), .int (nI bn), .int (nI q), .int (nI l2), .int (nI tk0), .int (nI 0), .ref (E.1 + 48), .ref (E.1 + 49)])))) rfl ?_
              refine J.cast hset_hset ?_
              exact J_vret dX8_lookAt_302 rfl ⟨Nat.le_refl _, Nat.le_refl _⟩ (by rw [hPP]; exact ⟨rfl, rfl, 0, (hset_cg rfl (congrArg (fun z => (Sum.inr (7, z) : va_E)) (jS_c rfl (jS_c rfl (jS_c rfl (jS_c rfl (jS_c rfl (jS_c rfl (jS_c rfl (jS_c rfl (jS_c rfl (jS_c rfl (jS_c rfl (jS_c rfl (jS_c rfl (jS_c rfl (jS_c (jv_N (by first | (exfalso; omega) | exact hqs.symm | (rw [hqs, lenQ, if_pos (by omega)]; omega) | (rw [hqs, lenQ, if_neg (by omega)]; done) | (rw [hqs, tokR, if_neg (by omega)]; done) | (rw [hqs, tokR, if_pos (by omega), if_pos ⟨by omega, by omega⟩]; done) | (rw [hqs, tokR, if_pos (by omega), if_neg (by omega)]; exact htk0))) (jS_c (jv_N (by first | (exfalso; omega) | exact hqs.symm | (rw [hqs, lenQ, if_pos (by omega)]; omega) | (rw [hqs, lenQ, if_neg (by omega)]; done) | (rw [hqs, tokR, if_neg (by omega)]; done) | (rw [hqs, tokR, if_pos (by omega), if_pos ⟨by omega, by omega⟩]; done) | (rw [hqs, tokR, if_pos (by omega), if_neg (by omega)]; exact htk0))) (jS_c (jv_N (by first | (exfalso; omega) | exact hqs.symm | (rw [hqs, lenQ, if_pos (by omega)]; omega) | (rw [hqs, lenQ, if_neg (by omega)]; done) | (rw [hqs, tokR, if_neg (by omega)]; done) | (rw [hqs, tokR, if_pos (by omega), if_pos ⟨by omega, by omega⟩]; done) | (rw [hqs, tokR, if_pos (by omega), if_neg (by omega)]; exact htk0))) (jS_c rfl (jS_c rfl (jS_c rfl rfl)))))))))))))))))))))), (by first | (exfalso; omega) | (rw [hqs]; exact lva (by omega) he hl2 (fun _ _ => by omega) (fun _ _ => by omega)) | (rw [hqs]; intro z; rw [tokR, if_neg (by omega)] at z; omega))⟩)
            · skip
              refine J_aload_n dX8_lookAt_283 rfl ?_
              refine J_get 15 dX8_lookAt_284 jk8 (Nat.le_of_ble_eq_true rfl) jfRX8_208 hset_eq (by omega) rfl ?_
              refine J_iconst (v := nI 2) dX8_lookAt_287 (by decide +kernel) ?_
              refine J_icmp_leN (tgt := 295) dX8_lookAt_288 (by decide) (by omega) (by omega) (fun c6 => ?_) (fun c6 => ?_)
              · skip
                refine J_aload_n dX8_lookAt_295 rfl ?_
                refine J_get 16 dX8_lookAt_296 jk8 (Nat.le_of_ble_eq_true rfl) jfRX8_211 hset_eq (by omega) rfl ?_
                refine J_put 16 dX8_lookAt_299 jk8 (Nat.le_of_ble_eq_true rfl) jfRX8_211 hset_eq (by omega) rfl rfl rfl (Nat.le_of_ble_eq_true rfl) ?_
                refine J.cast (h' := (hset (hset h 38 (.inr (7, [.ref (E.1 + 39), .ref (E.1 + 40), .ref (E.1 + 41), .ref (E.1 + 42), .long (lN xa), .long (lN xb), .ref (E.1 + 43), .int (nI dt), .ref (E.1 + 44), .ref (E.1 + 45), .int (nI mo), .ref (E.1 + 46), .ref (E.1 + 47), .int (nI bn), .int (nI q), .int (nI l2), .int (nI tk0), .int (nI 0), .ref (E.1 + 48), .ref (E.1 + 49)]))) 38 (.inr (7, [.ref (E.1 + 39), .ref (E.1 + 40), .ref (E.1 + 41), .ref (E.1 + 42), .long (lN xa), .long (lN xb), .ref (E.1 + 43), .int (nI dt), .ref (E.1 + 44), .ref (E.1 + 45), .int (nI mo), .ref (E.1 + 46), .ref (E.1 + 47), .int (nI bn), .int (nI q), .int (nI l2), .int (nI tk0), .int (nI 0), .ref (E.1 + 48), .ref (E.1 + 49)])))) rfl ?_
                refine J.cast hset_hset ?_
                exact J_vret dX8_lookAt_302 rfl ⟨Nat.le_refl _, Nat.le_refl _⟩ (by rw [hPP]; exact ⟨rfl, rfl, 0, (hset_cg rfl (congrArg (fun z => (Sum.inr (7, z) : va_E)) (jS_c rfl (jS_c rfl (jS_c rfl (jS_c rfl (jS_c rfl (jS_c rfl (jS_c rfl (jS_c rfl (jS_c rfl (jS_c rfl (jS_c rfl (jS_c rfl (jS_c rfl (jS_c rfl (jS_c (jv_N (by first | (exfalso; omega) | exact hqs.symm | (rw [hqs, lenQ, if_pos (by omega)]; omega) | (rw [hqs, lenQ, if_neg (by omega)]; done) | (rw [hqs, tokR, if_neg (by omega)]; done) | (rw [hqs, tokR, if_pos (by omega), if_pos ⟨by omega, by omega⟩]; done) | (rw [hqs, tokR, if_pos (by omega), if_neg (by omega)]; exact htk0))) (jS_c (jv_N (by first | (exfalso; omega) | exact hqs.symm | (rw [hqs, lenQ, if_pos (by omega)]; omega) | (rw [hqs, lenQ, if_neg (by omega)]; done) | (rw [hqs, tokR, if_neg (by omega)]; done) | (rw [hqs, tokR, if_pos (by omega), if_pos ⟨by omega, by omega⟩]; done) | (rw [hqs, tokR, if_pos (by omega), if_neg (by omega)]; exact htk0))) (jS_c (jv_N (by first | (exfalso; omega) | exact hqs.symm | (rw [hqs, lenQ, if_pos (by omega)]; omega) | (rw [hqs, lenQ, if_neg (by omega)]; done) | (rw [hqs, tokR, if_neg (by omega)]; done) | (rw [hqs, tokR, if_pos (by omega), if_pos ⟨by omega, by omega⟩]; done) | (rw [hqs, tokR, if_pos (by omega), if_neg (by omega)]; exact htk0))) (jS_c rfl (jS_c rfl (jS_c rfl rfl)))))))))))))))))))))), (by first | (exfalso; omega) | (rw [hqs]; exact lva (by omega) he hl2 (fun _ _ => by omega) (fun _ _ => by omega)) | (rw [hqs]; intro z; rw [tokR, if_neg (by omega)] at z; omega))⟩)
              · skip
                refine J_iconst (v := nI 4) dX8_lookAt_291 (by decide +kernel) ?_
                refine J_goto (tgt := 299) dX8_lookAt_292 (by decide) ?_
                refine J_put 16 dX8_lookAt_299 jk8 (Nat.le_of_ble_eq_true rfl) jfRX8_211 hset_eq (by omega) rfl rfl rfl (Nat.le_of_ble_eq_true rfl) ?_
                refine J.cast (h' := (hset (hset h 38 (.inr (7, [.ref (E.1 + 39), .ref (E.1 + 40), .ref (E.1 + 41), .ref (E.1 + 42), .long (lN xa), .long (lN xb), .ref (E.1 + 43), .int (nI dt), .ref (E.1 + 44), .ref (E.1 + 45), .int (nI mo), .ref (E.1 + 46), .ref (E.1 + 47), .int (nI bn), .int (nI q), .int (nI l2), .int (nI tk0), .int (nI 0), .ref (E.1 + 48), .ref (E.1 + 49)]))) 38 (.inr (7, [.ref (E.1 + 39), .ref (E.1 + 40), .ref (E.1 + 41), .ref (E.1 + 42), .long (lN xa), .long (lN xb), .ref (E.1 + 43), .int (nI dt), .ref (E.1 + 44), .ref (E.1 + 45), .int (nI mo), .ref (E.1 + 46), .ref (E.1 + 47), .int (nI bn), .int (nI q), .int (nI l2), .int (nI 4), .int (nI 0), .ref (E.1 + 48), .ref (E.1 + 49)])))) rfl ?_
                refine J.cast hset_hset ?_
                exact J_vret dX8_lookAt_302 rfl ⟨Nat.le_refl _, Nat.le_refl _⟩ (by rw [hPP]; exact ⟨rfl, rfl, 0, (hset_cg rfl (congrArg (fun z => (Sum.inr (7, z) : va_E)) (jS_c rfl (jS_c rfl (jS_c rfl (jS_c rfl (jS_c rfl (jS_c rfl (jS_c rfl (jS_c rfl (jS_c rfl (jS_c rfl (jS_c rfl (jS_c rfl (jS_c rfl (jS_c rfl (jS_c (jv_N (by first | (exfalso; omega) | exact hqs.symm | (rw [hqs, lenQ, if_pos (by omega)]; omega) | (rw [hqs, lenQ, if_neg (by omega)]; done) | (rw [hqs, tokR, if_neg (by omega)]; done) | (rw [hqs, tokR, if_pos (by omega), if_pos ⟨by omega, by omega⟩]; done) | (rw [hqs, tokR, if_pos (by omega), if_neg (by omega)]; exact htk0))) (jS_c (jv_N (by first | (exfalso; omega) | exact hqs.symm | (rw [hqs, lenQ, if_pos (by omega)]; omega) | (rw [hqs, lenQ, if_neg (by omega)]; done) | (rw [hqs, tokR, if_neg (by omega)]; done) | (rw [hqs, tokR, if_pos (by omega), if_pos ⟨by omega, by omega⟩]; done) | (rw [hqs, tokR, if_pos (by omega), if_neg (by omega)]; exact htk0))) (jS_c (jv_N (by first | (exfalso; omega) | exact hqs.symm | (rw [hqs, lenQ, if_pos (by omega)]; omega) | (rw [hqs, lenQ, if_neg (by omega)]; done) | (rw [hqs, tokR, if_neg (by omega)]; done) | (rw [hqs, tokR, if_pos (by omega), if_pos ⟨by omega, by omega⟩]; done) | (rw [hqs, tokR, if_pos (by omega), if_neg (by omega)]; exact htk0))) (jS_c rfl (jS_c rfl (jS_c rfl rfl)))))))))))))))))))))), (by first | (exfalso; omega) | (rw [hqs]; exact lva (by omega) he hl2 (fun _ _ => by omega) (fun _ _ => by omega)) | (rw [hqs]; intro z; rw [tokR, if_neg (by omega)] at z; omega))⟩)
          · skip
            have hq0 : BY (q + 0) = BY q := rfl
            refine J_aload_n dX8_lookAt_241 rfl ?_
            refine J_bipush (v := nI 10) dX8_lookAt_242 (by decide +kernel) ?_
            refine J_aload_n dX8_lookAt_244 rfl ?_
            refine J_get 17 dX8_lookAt_245 jk8 (Nat.le_of_ble_eq_true rfl) jfRX8_214 hset_eq (by omega) rfl ?_
            refine J_imulN dX8_lookAt_248 ?_
            refine J.stk (st' := [.int (nI 0), .ref (E.1 + 38)]) rfl ?_
            refine J_aload_n dX8_lookAt_249 rfl ?_
            refine J_get 12 dX8_lookAt_250 jk8 (Nat.le_of_ble_eq_true rfl) jfRX8_39 hset_eq (by omega) rfl ?_
            refine J_aload_n dX8_lookAt_253 rfl ?_
            refine J_get 14 dX8_lookAt_254 jk8 (Nat.le_of_ble_eq_true rfl) jfRX8_205 hset_eq (by omega) rfl ?_
            refine J_iload dX8_lookAt_257 rfl ?_
            refine J_iaddN dX8_lookAt_259 ?_
            refine J_ialdN (i := q + 0) dX8_lookAt_260 ((hset_ne (by omega)).trans H1) (by omega) (by omega) (by omega) ?_
            refine J_iaddN dX8_lookAt_261 ?_
            refine J_bipush (v := nI 48) dX8_lookAt_262 (by decide +kernel) ?_
            refine J_isubN dX8_lookAt_264 (by omega) ?_
            refine J_put 17 dX8_lookAt_265 jk8 (Nat.le_of_ble_eq_true rfl) jfRX8_214 hset_eq (by omega) rfl rfl rfl (Nat.le_of_ble_eq_true rfl) ?_
            refine J.cast (h' := (hset (hset h 38 (.inr (7, [.ref (E.1 + 39), .ref (E.1 + 40), .ref (E.1 + 41), .ref (E.1 + 42), .long (lN xa), .long (lN xb), .ref (E.1 + 43), .int (nI dt), .ref (E.1 + 44), .ref (E.1 + 45), .int (nI mo), .ref (E.1 + 46), .ref (E.1 + 47), .int (nI bn), .int (nI q), .int (nI l2), .int (nI tk0), .int (nI 0), .ref (E.1 + 48), .ref (E.1 + 49)]))) 38 (.inr (7, [.ref (E.1 + 39), .ref (E.1 + 40), .ref (E.1 + 41), .ref (E.1 + 42), .long (lN xa), .long (lN xb), .ref (E.1 + 43), .int (nI dt), .ref (E.1 + 44), .ref (E.1 + 45), .int (nI mo), .ref (E.1 + 46), .ref (E.1 + 47), .int (nI bn), .int (nI q), .int (nI l2), .int (nI tk0), .int (nI ((0 + (BY (q + 0))) - 48)), .ref (E.1 + 48), .ref (E.1 + 49)])))) rfl ?_
            refine J.cast hset_hset ?_
            refine J_iincN (q := 0) (a := 0) (m := 1) dX8_lookAt_268 rfl (by decide +kernel) (Nat.le_of_ble_eq_true rfl) (L' := [(4, .int (nI 1)), (2, .int (nI (BY q))), (0, .ref (E.1 + 38)), (1, .int (nI p))]) rfl ?_
            refine J_goto (tgt := 218) dX8_lookAt_271 (by decide) ?_
            refine J_iload dX8_lookAt_218 rfl ?_
            refine J_aload_n dX8_lookAt_220 rfl ?_
            refine J_get 15 dX8_lookAt_221 jk8 (Nat.le_of_ble_eq_true rfl) jfRX8_208 hset_eq (by omega) rfl ?_
            refine J_icmp_geN (tgt := 274) dX8_lookAt_224 (by decide) (by omega) (by omega) (fun c7 => ?_) (fun c7 => ?_)
            · skip
              refine J_aload_n dX8_lookAt_274 rfl ?_
              refine J_aload_n dX8_lookAt_275 rfl ?_
              refine J_get 16 dX8_lookAt_276 jk8 (Nat.le_of_ble_eq_true rfl) jfRX8_211 hset_eq (by omega) rfl ?_
              refine J_iconst (v := nI 2) dX8_lookAt_279 (by decide +kernel) ?_
              refine J_icmp_neN (tgt := 295) dX8_lookAt_280 (by decide) (by omega) (by omega) (fun c8 => ?_) (fun c8 => ?_)
              · skip
                refine J_aload_n dX8_lookAt_295 rfl ?_
                refine J_get 16 dX8_lookAt_296 jk8 (Nat.le_of_ble_eq_true rfl) jfRX8_211 hset_eq (by omega) rfl ?_
                refine J_put 16 dX8_lookAt_299 jk8 (Nat.le_of_ble_eq_true rfl) jfRX8_211 hset_eq (by omega) rfl rfl rfl (Nat.le_of_ble_eq_true rfl) ?_
                refine J.cast (h' := (hset (hset h 38 (.inr (7, [.ref (E.1 + 39), .ref (E.1 + 40), .ref (E.1 + 41), .ref (E.1 + 42), .long (lN xa), .long (lN xb), .ref (E.1 + 43), .int (nI dt), .ref (E.1 + 44), .ref (E.1 + 45), .int (nI mo), .ref (E.1 + 46), .ref (E.1 + 47), .int (nI bn), .int (nI q), .int (nI l2), .int (nI tk0), .int (nI ((0 + (BY (q + 0))) - 48)), .ref (E.1 + 48), .ref (E.1 + 49)]))) 38 (.inr (7, [.ref (E.1 + 39), .ref (E.1 + 40), .ref (E.1 + 41), .ref (E.1 + 42), .long (lN xa), .long (lN xb), .ref (E.1 + 43), .int (nI dt), .ref (E.1 + 44), .ref (E.1 + 45), .int (nI mo), .ref (E.1 + 46), .ref (E.1 + 47), .int (nI bn), .int (nI q), .int (nI l2), .int (nI tk0), .int (nI ((0 + (BY (q + 0))) - 48)), .ref (E.1 + 48), .ref (E.1 + 49)])))) rfl ?_
                refine J.cast hset_hset ?_
                exact J_vret dX8_lookAt_302 rfl ⟨Nat.le_refl _, Nat.le_refl _⟩ (by rw [hPP]; exact ⟨rfl, rfl, ((0 + (BY (q + 0))) - 48), (hset_cg rfl (congrArg (fun z => (Sum.inr (7, z) : va_E)) (jS_c rfl (jS_c rfl (jS_c rfl (jS_c rfl (jS_c rfl (jS_c rfl (jS_c rfl (jS_c rfl (jS_c rfl (jS_c rfl (jS_c rfl (jS_c rfl (jS_c rfl (jS_c rfl (jS_c (jv_N (by first | (exfalso; omega) | exact hqs.symm | (rw [hqs, lenQ, if_pos (by omega)]; omega) | (rw [hqs, lenQ, if_neg (by omega)]; done) | (rw [hqs, tokR, if_neg (by omega)]; done) | (rw [hqs, tokR, if_pos (by omega), if_pos ⟨by omega, by omega⟩]; done) | (rw [hqs, tokR, if_pos (by omega), if_neg (by omega)]; exact htk0))) (jS_c (jv_N (by first | (exfalso; omega) | exact hqs.symm | (rw [hqs, lenQ, if_pos (by omega)]; omega) | (rw [hqs, lenQ, if_neg (by omega)]; done) | (rw [hqs, tokR, if_neg (by omega)]; done) | (rw [hqs, tokR, if_pos (by omega), if_pos ⟨by omega, by omega⟩]; done) | (rw [hqs, tokR, if_pos (by omega), if_neg (by omega)]; exact htk0))) (jS_c (jv_N (by first | (exfalso; omega) | exact hqs.symm | (rw [hqs, lenQ, if_pos (by omega)]; omega) | (rw [hqs, lenQ, if_neg (by omega)]; done) | (rw [hqs, tokR, if_neg (by omega)]; done) | (rw [hqs, tokR, if_pos (by omega), if_pos ⟨by omega, by omega⟩]; done) | (rw [hqs, tokR, if_pos (by omega), if_neg (by omega)]; exact htk0))) (jS_c rfl (jS_c rfl (jS_c rfl rfl)))))))))))))))))))))), (by first | (exfalso; omega) | (rw [hqs]; exact lva (by omega) he hl2 (fun _ _ => by omega) (fun _ _ => by omega)) | (rw [hqs]; intro z; rw [tokR, if_neg (by omega)] at z; omega))⟩)
              · skip
                refine J_aload_n dX8_lookAt_283 rfl ?_
                refine J_get 15 dX8_lookAt_284 jk8 (Nat.le_of_ble_eq_true rfl) jfRX8_208 hset_eq (by omega) rfl ?_
                refine J_iconst (v := nI 2) dX8_lookAt_287 (by decide +kernel) ?_
                refine J_icmp_leN (tgt := 295) dX8_lookAt_288 (by decide) (by omega) (by omega) (fun c9 => ?_) (fun c9 => ?_)
                · skip
                  refine J_aload_n dX8_lookAt_295 rfl ?_
                  refine J_get 16 dX8_lookAt_296 jk8 (Nat.le_of_ble_eq_true rfl) jfRX8_211 hset_eq (by omega) rfl ?_
                  refine J_put 16 dX8_lookAt_299 jk8 (Nat.le_of_ble_eq_true rfl) jfRX8_211 hset_eq (by omega) rfl rfl rfl (Nat.le_of_ble_eq_true rfl) ?_
                  refine J.cast (h' := (hset (hset h 38 (.inr (7, [.ref (E.1 + 39), .ref (E.1 + 40), .ref (E.1 + 41), .ref (E.1 + 42), .long (lN xa), .long (lN xb), .ref (E.1 + 43), .int (nI dt), .ref (E.1 + 44), .ref (E.1 + 45), .int (nI mo), .ref (E.1 + 46), .ref (E.1 + 47), .int (nI bn), .int (nI q), .int (nI l2), .int (nI tk0), .int (nI ((0 + (BY (q + 0))) - 48)), .ref (E.1 + 48), .ref (E.1 + 49)]))) 38 (.inr (7, [.ref (E.1 + 39), .ref (E.1 + 40), .ref (E.1 + 41), .ref (E.1 + 42), .long (lN xa), .long (lN xb), .ref (E.1 + 43), .int (nI dt), .ref (E.1 + 44), .ref (E.1 + 45), .int (nI mo), .ref (E.1 + 46), .ref (E.1 + 47), .int (nI bn), .int (nI q), .int (nI l2), .int (nI tk0), .int (nI ((0 + (BY (q + 0))) - 48)), .ref (E.1 + 48), .ref (E.1 + 49)])))) rfl ?_
                  refine J.cast hset_hset ?_
                  exact J_vret dX8_lookAt_302 rfl ⟨Nat.le_refl _, Nat.le_refl _⟩ (by rw [hPP]; exact ⟨rfl, rfl, ((0 + (BY (q + 0))) - 48), (hset_cg rfl (congrArg (fun z => (Sum.inr (7, z) : va_E)) (jS_c rfl (jS_c rfl (jS_c rfl (jS_c rfl (jS_c rfl (jS_c rfl (jS_c rfl (jS_c rfl (jS_c rfl (jS_c rfl (jS_c rfl (jS_c rfl (jS_c rfl (jS_c rfl (jS_c (jv_N (by first | (exfalso; omega) | exact hqs.symm | (rw [hqs, lenQ, if_pos (by omega)]; omega) | (rw [hqs, lenQ, if_neg (by omega)]; done) | (rw [hqs, tokR, if_neg (by omega)]; done) | (rw [hqs, tokR, if_pos (by omega), if_pos ⟨by omega, by omega⟩]; done) | (rw [hqs, tokR, if_pos (by omega), if_neg (by omega)]; exact htk0))) (jS_c (jv_N (by first | (exfalso; omega) | exact hqs.symm | (rw [hqs, lenQ, if_pos (by omega)]; omega) | (rw [hqs, lenQ, if_neg (by omega)]; done) | (rw [hqs, tokR, if_neg (by omega)]; done) | (rw [hqs, tokR, if_pos (by omega), if_pos ⟨by omega, by omega⟩]; done) | (rw [hqs, tokR, if_pos (by omega), if_neg (by omega)]; exact htk0))) (jS_c (jv_N (by first | (exfalso; omega) | exact hqs.symm | (rw [hqs, lenQ, if_pos (by omega)]; omega) | (rw [hqs, lenQ, if_neg (by omega)]; done) | (rw [hqs, tokR, if_neg (by omega)]; done) | (rw [hqs, tokR, if_pos (by omega), if_pos ⟨by omega, by omega⟩]; done) | (rw [hqs, tokR, if_pos (by omega), if_neg (by omega)]; exact htk0))) (jS_c rfl (jS_c rfl (jS_c rfl rfl)))))))))))))))))))))), (by first | (exfalso; omega) | (rw [hqs]; exact lva (by omega) he hl2 (fun _ _ => by omega) (fun _ _ => by omega)) | (rw [hqs]; intro z; rw [tokR, if_neg (by omega)] at z; omega))⟩)
                · skip
                  refine J_iconst (v := nI 4) dX8_lookAt_291 (by decide +kernel) ?_
                  refine J_goto (tgt := 299) dX8_lookAt_292 (by decide) ?_
                  refine J_put 16 dX8_lookAt_299 jk8 (Nat.le_of_ble_eq_true rfl) jfRX8_211 hset_eq (by omega) rfl rfl rfl (Nat.le_of_ble_eq_true rfl) ?_
                  refine J.cast (h' := (hset (hset h 38 (.inr (7, [.ref (E.1 + 39), .ref (E.1 + 40), .ref (E.1 + 41), .ref (E.1 + 42), .long (lN xa), .long (lN xb), .ref (E.1 + 43), .int (nI dt), .ref (E.1 + 44), .ref (E.1 + 45), .int (nI mo), .ref (E.1 + 46), .ref (E.1 + 47), .int (nI bn), .int (nI q), .int (nI l2), .int (nI tk0), .int (nI ((0 + (BY (q + 0))) - 48)), .ref (E.1 + 48), .ref (E.1 + 49)]))) 38 (.inr (7, [.ref (E.1 + 39), .ref (E.1 + 40), .ref (E.1 + 41), .ref (E.1 + 42), .long (lN xa), .long (lN xb), .ref (E.1 + 43), .int (nI dt), .ref (E.1 + 44), .ref (E.1 + 45), .int (nI mo), .ref (E.1 + 46), .ref (E.1 + 47), .int (nI bn), .int (nI q), .int (nI l2), .int (nI 4), .int (nI ((0 + (BY (q + 0))) - 48)), .ref (E.1 + 48), .ref (E.1 + 49)])))) rfl ?_
                  refine J.cast hset_hset ?_
                  exact J_vret dX8_lookAt_302 rfl ⟨Nat.le_refl _, Nat.le_refl _⟩ (by rw [hPP]; exact ⟨rfl, rfl, ((0 + (BY (q + 0))) - 48), (hset_cg rfl (congrArg (fun z => (Sum.inr (7, z) : va_E)) (jS_c rfl (jS_c rfl (jS_c rfl (jS_c rfl (jS_c rfl (jS_c rfl (jS_c rfl (jS_c rfl (jS_c rfl (jS_c rfl (jS_c rfl (jS_c rfl (jS_c rfl (jS_c rfl (jS_c (jv_N (by first | (exfalso; omega) | exact hqs.symm | (rw [hqs, lenQ, if_pos (by omega)]; omega) | (rw [hqs, lenQ, if_neg (by omega)]; done) | (rw [hqs, tokR, if_neg (by omega)]; done) | (rw [hqs, tokR, if_pos (by omega), if_pos ⟨by omega, by omega⟩]; done) | (rw [hqs, tokR, if_pos (by omega), if_neg (by omega)]; exact htk0))) (jS_c (jv_N (by first | (exfalso; omega) | exact hqs.symm | (rw [hqs, lenQ, if_pos (by omega)]; omega) | (rw [hqs, lenQ, if_neg (by omega)]; done) | (rw [hqs, tokR, if_neg (by omega)]; done) | (rw [hqs, tokR, if_pos (by omega), if_pos ⟨by omega, by omega⟩]; done) | (rw [hqs, tokR, if_pos (by omega), if_neg (by omega)]; exact htk0))) (jS_c (jv_N (by first | (exfalso; omega) | exact hqs.symm | (rw [hqs, lenQ, if_pos (by omega)]; omega) | (rw [hqs, lenQ, if_neg (by omega)]; done) | (rw [hqs, tokR, if_neg (by omega)]; done) | (rw [hqs, tokR, if_pos (by omega), if_pos ⟨by omega, by omega⟩]; done) | (rw [hqs, tokR, if_pos (by omega), if_neg (by omega)]; exact htk0))) (jS_c rfl (jS_c rfl (jS_c rfl rfl)))))))))))))))))))))), (by first | (exfalso; omega) | (rw [hqs]; exact lva (by omega) he hl2 (fun _ _ => by omega) (fun _ _ => by omega)) | (rw [hqs]; intro z; rw [tokR, if_neg (by omega)] at z; omega))⟩)
            · skip
              refine J_iload dX8_lookAt_227 rfl ?_
              refine J_iconst (v := nI 2) dX8_lookAt_229 (by decide +kernel) ?_
              refine J_icmp_geN (tgt := 274) dX8_lookAt_230 (by decide) (by omega) (by omega) (fun z => absurd z (by decide)) (fun _ => ?_)
              refine J_aload_n dX8_lookAt_233 rfl ?_
              refine J_get 16 dX8_lookAt_234 jk8 (Nat.le_of_ble_eq_true rfl) jfRX8_211 hset_eq (by omega) rfl ?_
              refine J_iconst (v := nI 2) dX8_lookAt_237 (by decide +kernel) ?_
              refine J_icmp_neN (tgt := 274) dX8_lookAt_238 (by decide) (by omega) (by omega) (fun c11 => (by exfalso; omega)) (fun c11 => ?_)
              have ef := (endF_le (F := F) (n := bn) (q := q) (by omega)).2.2 (by omega) (q + 1) (by omega) (by omega)
              have fy3 := fam_1i (c := F (q + 1))
              have hy1 := hBY (q + 1) (by omega)
              refine J_aload_n dX8_lookAt_241 rfl ?_
              refine J_bipush (v := nI 10) dX8_lookAt_242 (by decide +kernel) ?_
              refine J_aload_n dX8_lookAt_244 rfl ?_
              refine J_get 17 dX8_lookAt_245 jk8 (Nat.le_of_ble_eq_true rfl) jfRX8_214 hset_eq (by omega) rfl ?_
              refine J_imulN dX8_lookAt_248 ?_
              refine J_aload_n dX8_lookAt_249 rfl ?_
              refine J_get 12 dX8_lookAt_250 jk8 (Nat.le_of_ble_eq_true rfl) jfRX8_39 hset_eq (by omega) rfl ?_
              refine J_aload_n dX8_lookAt_253 rfl ?_
              refine J_get 14 dX8_lookAt_254 jk8 (Nat.le_of_ble_eq_true rfl) jfRX8_205 hset_eq (by omega) rfl ?_
              refine J_iload dX8_lookAt_257 rfl ?_
              refine J_iaddN dX8_lookAt_259 ?_
              refine J_ialdN (i := q + 1) dX8_lookAt_260 ((hset_ne (by omega)).trans H1) (by omega) (by omega) (by omega) ?_
              refine J_iaddN dX8_lookAt_261 ?_
              refine J_bipush (v := nI 48) dX8_lookAt_262 (by decide +kernel) ?_
              refine J_isubN dX8_lookAt_264 (by omega) ?_
              refine J_put 17 dX8_lookAt_265 jk8 (Nat.le_of_ble_eq_true rfl) jfRX8_214 hset_eq (by omega) rfl rfl rfl (Nat.le_of_ble_eq_true rfl) ?_
              refine J.cast (h' := (hset (hset h 38 (.inr (7, [.ref (E.1 + 39), .ref (E.1 + 40), .ref (E.1 + 41), .ref (E.1 + 42), .long (lN xa), .long (lN xb), .ref (E.1 + 43), .int (nI dt), .ref (E.1 + 44), .ref (E.1 + 45), .int (nI mo), .ref (E.1 + 46), .ref (E.1 + 47), .int (nI bn), .int (nI q), .int (nI l2), .int (nI tk0), .int (nI ((0 + (BY (q + 0))) - 48)), .ref (E.1 + 48), .ref (E.1 + 49)]))) 38 (.inr (7, [.ref (E.1 + 39), .ref (E.1 + 40), .ref (E.1 + 41), .ref (E.1 + 42), .long (lN xa), .long (lN xb), .ref (E.1 + 43), .int (nI dt), .ref (E.1 + 44), .ref (E.1 + 45), .int (nI mo), .ref (E.1 + 46), .ref (E.1 + 47), .int (nI bn), .int (nI q), .int (nI l2), .int (nI tk0), .int (nI (((10 * ((0 + (BY (q + 0))) - 48)) + (BY (q + 1))) - 48)), .ref (E.1 + 48), .ref (E.1 + 49)])))) rfl ?_
              refine J.cast hset_hset ?_
              refine J_iincN (q := 0) (a := 1) (m := 1) dX8_lookAt_268 rfl (by decide +kernel) (Nat.le_of_ble_eq_true rfl) (L' := [(4, .int (nI 2)), (2, .int (nI (BY q))), (0, .ref (E.1 + 38)), (1, .int (nI p))]) rfl ?_
              refine J_goto (tgt := 218) dX8_lookAt_271 (by decide) ?_
              refine J_iload dX8_lookAt_218 rfl ?_
              refine J_aload_n dX8_lookAt_220 rfl ?_
              refine J_get 15 dX8_lookAt_221 jk8 (Nat.le_of_ble_eq_true rfl) jfRX8_208 hset_eq (by omega) rfl ?_
              refine J_icmp_geN (tgt := 274) dX8_lookAt_224 (by decide) (by omega) (by omega) (fun c12 => ?_) (fun c12 => ?_)
              · skip
                refine J_aload_n dX8_lookAt_274 rfl ?_
                refine J_aload_n dX8_lookAt_275 rfl ?_
                refine J_get 16 dX8_lookAt_276 jk8 (Nat.le_of_ble_eq_true rfl) jfRX8_211 hset_eq (by omega) rfl ?_
                refine J_iconst (v := nI 2) dX8_lookAt_279 (by decide +kernel) ?_
                refine J_icmp_neN (tgt := 295) dX8_lookAt_280 (by decide) (by omega) (by omega) (fun c13 => ?_) (fun c13 => ?_)
                · skip
                  refine J_aload_n dX8_lookAt_295 rfl ?_
                  refine J_get 16 dX8_lookAt_296 jk8 (Nat.le_of_ble_eq_true rfl) jfRX8_211 hset_eq (by omega) rfl ?_
                  refine J_put 16 dX8_lookAt_299 jk8 (Nat.le_of_ble_eq_true rfl) jfRX8_211 hset_eq (by omega) rfl rfl rfl (Nat.le_of_ble_eq_true rfl) ?_
                  refine J.cast (h' := (hset (hset h 38 (.inr (7, [.ref (E.1 + 39), .ref (E.1 + 40), .ref (E.1 + 41), .ref (E.1 + 42), .long (lN xa), .long (lN xb), .ref (E.1 + 43), .int (nI dt), .ref (E.1 + 44), .ref (E.1 + 45), .int (nI mo), .ref (E.1 + 46), .ref (E.1 + 47), .int (nI bn), .int (nI q), .int (nI l2), .int (nI tk0), .int (nI (((10 * ((0 + (BY (q + 0))) - 48)) + (BY (q + 1))) - 48)), .ref (E.1 + 48), .ref (E.1 + 49)]))) 38 (.inr (7, [.ref (E.1 + 39), .ref (E.1 + 40), .ref (E.1 + 41), .ref (E.1 + 42), .long (lN xa), .long (lN xb), .ref (E.1 + 43), .int (nI dt), .ref (E.1 + 44), .ref (E.1 + 45), .int (nI mo), .ref (E.1 + 46), .ref (E.1 + 47), .int (nI bn), .int (nI q), .int (nI l2), .int (nI tk0), .int (nI (((10 * ((0 + (BY (q + 0))) - 48)) + (BY (q + 1))) - 48)), .ref (E.1 + 48), .ref (E.1 + 49)])))) rfl ?_
                  refine J.cast hset_hset ?_
                  exact J_vret dX8_lookAt_302 rfl ⟨Nat.le_refl _, Nat.le_refl _⟩ (by rw [hPP]; exact ⟨rfl, rfl, (((10 * ((0 + (BY (q + 0))) - 48)) + (BY (q + 1))) - 48), (hset_cg rfl (congrArg (fun z => (Sum.inr (7, z) : va_E)) (jS_c rfl (jS_c rfl (jS_c rfl (jS_c rfl (jS_c rfl (jS_c rfl (jS_c rfl (jS_c rfl (jS_c rfl (jS_c rfl (jS_c rfl (jS_c rfl (jS_c rfl (jS_c rfl (jS_c (jv_N (by first | (exfalso; omega) | exact hqs.symm | (rw [hqs, lenQ, if_pos (by omega)]; omega) | (rw [hqs, lenQ, if_neg (by omega)]; done) | (rw [hqs, tokR, if_neg (by omega)]; done) | (rw [hqs, tokR, if_pos (by omega), if_pos ⟨by omega, by omega⟩]; done) | (rw [hqs, tokR, if_pos (by omega), if_neg (by omega)]; exact htk0))) (jS_c (jv_N (by first | (exfalso; omega) | exact hqs.symm | (rw [hqs, lenQ, if_pos (by omega)]; omega) | (rw [hqs, lenQ, if_neg (by omega)]; done) | (rw [hqs, tokR, if_neg (by omega)]; done) | (rw [hqs, tokR, if_pos (by omega), if_pos ⟨by omega, by omega⟩]; done) | (rw [hqs, tokR, if_pos (by omega), if_neg (by omega)]; exact htk0))) (jS_c (jv_N (by first | (exfalso; omega) | exact hqs.symm | (rw [hqs, lenQ, if_pos (by omega)]; omega) | (rw [hqs, lenQ, if_neg (by omega)]; done) | (rw [hqs, tokR, if_neg (by omega)]; done) | (rw [hqs, tokR, if_pos (by omega), if_pos ⟨by omega, by omega⟩]; done) | (rw [hqs, tokR, if_pos (by omega), if_neg (by omega)]; exact htk0))) (jS_c rfl (jS_c rfl (jS_c rfl rfl)))))))))))))))))))))), (by first | (exfalso; omega) | (rw [hqs]; exact lva (by omega) he hl2 (fun _ _ => by omega) (fun _ _ => by omega)) | (rw [hqs]; intro z; rw [tokR, if_neg (by omega)] at z; omega))⟩)
                · skip
                  refine J_aload_n dX8_lookAt_283 rfl ?_
                  refine J_get 15 dX8_lookAt_284 jk8 (Nat.le_of_ble_eq_true rfl) jfRX8_208 hset_eq (by omega) rfl ?_
                  refine J_iconst (v := nI 2) dX8_lookAt_287 (by decide +kernel) ?_
                  refine J_icmp_leN (tgt := 295) dX8_lookAt_288 (by decide) (by omega) (by omega) (fun c14 => ?_) (fun c14 => ?_)
                  · skip
                    refine J_aload_n dX8_lookAt_295 rfl ?_
                    refine J_get 16 dX8_lookAt_296 jk8 (Nat.le_of_ble_eq_true rfl) jfRX8_211 hset_eq (by omega) rfl ?_
                    refine J_put 16 dX8_lookAt_299 jk8 (Nat.le_of_ble_eq_true rfl) jfRX8_211 hset_eq (by omega) rfl rfl rfl (Nat.le_of_ble_eq_true rfl) ?_
                    refine J.cast (h' := (hset (hset h 38 (.inr (7, [.ref (E.1 + 39), .ref (E.1 + 40), .ref (E.1 + 41), .ref (E.1 + 42), .long (lN xa), .long (lN xb), .ref (E.1 + 43), .int (nI dt), .ref (E.1 + 44), .ref (E.1 + 45), .int (nI mo), .ref (E.1 + 46), .ref (E.1 + 47), .int (nI bn), .int (nI q), .int (nI l2), .int (nI tk0), .int (nI (((10 * ((0 + (BY (q + 0))) - 48)) + (BY (q + 1))) - 48)), .ref (E.1 + 48), .ref (E.1 + 49)]))) 38 (.inr (7, [.ref (E.1 + 39), .ref (E.1 + 40), .ref (E.1 + 41), .ref (E.1 + 42), .long (lN xa), .long (lN xb), .ref (E.1 + 43), .int (nI dt), .ref (E.1 + 44), .ref (E.1 + 45), .int (nI mo), .ref (E.1 + 46), .ref (E.1 + 47), .int (nI bn), .int (nI q), .int (nI l2), .int (nI tk0), .int (nI (((10 * ((0 + (BY (q + 0))) - 48)) + (BY (q + 1))) - 48)), .ref (E.1 + 48), .ref (E.1 + 49)])))) rfl ?_
                    refine J.cast hset_hset ?_
                    exact J_vret dX8_lookAt_302 rfl ⟨Nat.le_refl _, Nat.le_refl _⟩ (by rw [hPP]; exact ⟨rfl, rfl, (((10 * ((0 + (BY (q + 0))) - 48)) + (BY (q + 1))) - 48), (hset_cg rfl (congrArg (fun z => (Sum.inr (7, z) : va_E)) (jS_c rfl (jS_c rfl (jS_c rfl (jS_c rfl (jS_c rfl (jS_c rfl (jS_c rfl (jS_c rfl (jS_c rfl (jS_c rfl (jS_c rfl (jS_c rfl (jS_c rfl (jS_c rfl (jS_c (jv_N (by first | (exfalso; omega) | exact hqs.symm | (rw [hqs, lenQ, if_pos (by omega)]; omega) | (rw [hqs, lenQ, if_neg (by omega)]; done) | (rw [hqs, tokR, if_neg (by omega)]; done) | (rw [hqs, tokR, if_pos (by omega), if_pos ⟨by omega, by omega⟩]; done) | (rw [hqs, tokR, if_pos (by omega), if_neg (by omega)]; exact htk0))) (jS_c (jv_N (by first | (exfalso; omega) | exact hqs.symm | (rw [hqs, lenQ, if_pos (by omega)]; omega) | (rw [hqs, lenQ, if_neg (by omega)]; done) | (rw [hqs, tokR, if_neg (by omega)]; done) | (rw [hqs, tokR, if_pos (by omega), if_pos ⟨by omega, by omega⟩]; done) | (rw [hqs, tokR, if_pos (by omega), if_neg (by omega)]; exact htk0))) (jS_c (jv_N (by first | (exfalso; omega) | exact hqs.symm | (rw [hqs, lenQ, if_pos (by omega)]; omega) | (rw [hqs, lenQ, if_neg (by omega)]; done) | (rw [hqs, tokR, if_neg (by omega)]; done) | (rw [hqs, tokR, if_pos (by omega), if_pos ⟨by omega, by omega⟩]; done) | (rw [hqs, tokR, if_pos (by omega), if_neg (by omega)]; exact htk0))) (jS_c rfl (jS_c rfl (jS_c rfl rfl)))))))))))))))))))))), (by first | (exfalso; omega) | (rw [hqs]; exact lva (by omega) he hl2 (fun _ _ => by omega) (fun _ _ => by omega)) | (rw [hqs]; intro z; rw [tokR, if_neg (by omega)] at z; omega))⟩)
                  · skip
                    refine J_iconst (v := nI 4) dX8_lookAt_291 (by decide +kernel) ?_
                    refine J_goto (tgt := 299) dX8_lookAt_292 (by decide) ?_
                    refine J_put 16 dX8_lookAt_299 jk8 (Nat.le_of_ble_eq_true rfl) jfRX8_211 hset_eq (by omega) rfl rfl rfl (Nat.le_of_ble_eq_true rfl) ?_
                    refine J.cast (h' := (hset (hset h 38 (.inr (7, [.ref (E.1 + 39), .ref (E.1 + 40), .ref (E.1 + 41), .ref (E.1 + 42), .long (lN xa), .long (lN xb), .ref (E.1 + 43), .int (nI dt), .ref (E.1 + 44), .ref (E.1 + 45), .int (nI mo), .ref (E.1 + 46), .ref (E.1 + 47), .int (nI bn), .int (nI q), .int (nI l2), .int (nI tk0), .int (nI (((10 * ((0 + (BY (q + 0))) - 48)) + (BY (q + 1))) - 48)), .ref (E.1 + 48), .ref (E.1 + 49)]))) 38 (.inr (7, [.ref (E.1 + 39), .ref (E.1 + 40), .ref (E.1 + 41), .ref (E.1 + 42), .long (lN xa), .long (lN xb), .ref (E.1 + 43), .int (nI dt), .ref (E.1 + 44), .ref (E.1 + 45), .int (nI mo), .ref (E.1 + 46), .ref (E.1 + 47), .int (nI bn), .int (nI q), .int (nI l2), .int (nI 4), .int (nI (((10 * ((0 + (BY (q + 0))) - 48)) + (BY (q + 1))) - 48)), .ref (E.1 + 48), .ref (E.1 + 49)])))) rfl ?_
                    refine J.cast hset_hset ?_
                    exact J_vret dX8_lookAt_302 rfl ⟨Nat.le_refl _, Nat.le_refl _⟩ (by rw [hPP]; exact ⟨rfl, rfl, (((10 * ((0 + (BY (q + 0))) - 48)) + (BY (q + 1))) - 48), (hset_cg rfl (congrArg (fun z => (Sum.inr (7, z) : va_E)) (jS_c rfl (jS_c rfl (jS_c rfl (jS_c rfl (jS_c rfl (jS_c rfl (jS_c rfl (jS_c rfl (jS_c rfl (jS_c rfl (jS_c rfl (jS_c rfl (jS_c rfl (jS_c rfl (jS_c (jv_N (by first | (exfalso; omega) | exact hqs.symm | (rw [hqs, lenQ, if_pos (by omega)]; omega) | (rw [hqs, lenQ, if_neg (by omega)]; done) | (rw [hqs, tokR, if_neg (by omega)]; done) | (rw [hqs, tokR, if_pos (by omega), if_pos ⟨by omega, by omega⟩]; done) | (rw [hqs, tokR, if_pos (by omega), if_neg (by omega)]; exact htk0))) (jS_c (jv_N (by first | (exfalso; omega) | exact hqs.symm | (rw [hqs, lenQ, if_pos (by omega)]; omega) | (rw [hqs, lenQ, if_neg (by omega)]; done) | (rw [hqs, tokR, if_neg (by omega)]; done) | (rw [hqs, tokR, if_pos (by omega), if_pos ⟨by omega, by omega⟩]; done) | (rw [hqs, tokR, if_pos (by omega), if_neg (by omega)]; exact htk0))) (jS_c (jv_N (by first | (exfalso; omega) | exact hqs.symm | (rw [hqs, lenQ, if_pos (by omega)]; omega) | (rw [hqs, lenQ, if_neg (by omega)]; done) | (rw [hqs, tokR, if_neg (by omega)]; done) | (rw [hqs, tokR, if_pos (by omega), if_pos ⟨by omega, by omega⟩]; done) | (rw [hqs, tokR, if_pos (by omega), if_neg (by omega)]; exact htk0))) (jS_c rfl (jS_c rfl (jS_c rfl rfl)))))))))))))))))))))), (by first | (exfalso; omega) | (rw [hqs]; exact lva (by omega) he hl2 (fun _ _ => by omega) (fun _ _ => by omega)) | (rw [hqs]; intro z; rw [tokR, if_neg (by omega)] at z; omega))⟩)
              · skip
                refine J_iload dX8_lookAt_227 rfl ?_
                refine J_iconst (v := nI 2) dX8_lookAt_229 (by decide +kernel) ?_
                refine J_icmp_geN (tgt := 274) dX8_lookAt_230 (by decide) (by omega) (by omega) (fun _ => ?_) (fun z => absurd z (by decide))
                refine J_aload_n dX8_lookAt_274 rfl ?_
                refine J_aload_n dX8_lookAt_275 rfl ?_
                refine J_get 16 dX8_lookAt_276 jk8 (Nat.le_of_ble_eq_true rfl) jfRX8_211 hset_eq (by omega) rfl ?_
                refine J_iconst (v := nI 2) dX8_lookAt_279 (by decide +kernel) ?_
                refine J_icmp_neN (tgt := 295) dX8_lookAt_280 (by decide) (by omega) (by omega) (fun c16 => ?_) (fun c16 => ?_)
                · skip
                  refine J_aload_n dX8_lookAt_295 rfl ?_
                  refine J_get 16 dX8_lookAt_296 jk8 (Nat.le_of_ble_eq_true rfl) jfRX8_211 hset_eq (by omega) rfl ?_
                  refine J_put 16 dX8_lookAt_299 jk8 (Nat.le_of_ble_eq_true rfl) jfRX8_211 hset_eq (by omega) rfl rfl rfl (Nat.le_of_ble_eq_true rfl) ?_
                  refine J.cast (h' := (hset (hset h 38 (.inr (7, [.ref (E.1 + 39), .ref (E.1 + 40), .ref (E.1 + 41), .ref (E.1 + 42), .long (lN xa), .long (lN xb), .ref (E.1 + 43), .int (nI dt), .ref (E.1 + 44), .ref (E.1 + 45), .int (nI mo), .ref (E.1 + 46), .ref (E.1 + 47), .int (nI bn), .int (nI q), .int (nI l2), .int (nI tk0), .int (nI (((10 * ((0 + (BY (q + 0))) - 48)) + (BY (q + 1))) - 48)), .ref (E.1 + 48), .ref (E.1 + 49)]))) 38 (.inr (7, [.ref (E.1 + 39), .ref (E.1 + 40), .ref (E.1 + 41), .ref (E.1 + 42), .long (lN xa), .long (lN xb), .ref (E.1 + 43), .int (nI dt), .ref (E.1 + 44), .ref (E.1 + 45), .int (nI mo), .ref (E.1 + 46), .ref (E.1 + 47), .int (nI bn), .int (nI q), .int (nI l2), .int (nI tk0), .int (nI (((10 * ((0 + (BY (q + 0))) - 48)) + (BY (q + 1))) - 48)), .ref (E.1 + 48), .ref (E.1 + 49)])))) rfl ?_
                  refine J.cast hset_hset ?_
                  exact J_vret dX8_lookAt_302 rfl ⟨Nat.le_refl _, Nat.le_refl _⟩ (by rw [hPP]; exact ⟨rfl, rfl, (((10 * ((0 + (BY (q + 0))) - 48)) + (BY (q + 1))) - 48), (hset_cg rfl (congrArg (fun z => (Sum.inr (7, z) : va_E)) (jS_c rfl (jS_c rfl (jS_c rfl (jS_c rfl (jS_c rfl (jS_c rfl (jS_c rfl (jS_c rfl (jS_c rfl (jS_c rfl (jS_c rfl (jS_c rfl (jS_c rfl (jS_c rfl (jS_c (jv_N (by first | (exfalso; omega) | exact hqs.symm | (rw [hqs, lenQ, if_pos (by omega)]; omega) | (rw [hqs, lenQ, if_neg (by omega)]; done) | (rw [hqs, tokR, if_neg (by omega)]; done) | (rw [hqs, tokR, if_pos (by omega), if_pos ⟨by omega, by omega⟩]; done) | (rw [hqs, tokR, if_pos (by omega), if_neg (by omega)]; exact htk0))) (jS_c (jv_N (by first | (exfalso; omega) | exact hqs.symm | (rw [hqs, lenQ, if_pos (by omega)]; omega) | (rw [hqs, lenQ, if_neg (by omega)]; done) | (rw [hqs, tokR, if_neg (by omega)]; done) | (rw [hqs, tokR, if_pos (by omega), if_pos ⟨by omega, by omega⟩]; done) | (rw [hqs, tokR, if_pos (by omega), if_neg (by omega)]; exact htk0))) (jS_c (jv_N (by first | (exfalso; omega) | exact hqs.symm | (rw [hqs, lenQ, if_pos (by omega)]; omega) | (rw [hqs, lenQ, if_neg (by omega)]; done) | (rw [hqs, tokR, if_neg (by omega)]; done) | (rw [hqs, tokR, if_pos (by omega), if_pos ⟨by omega, by omega⟩]; done) | (rw [hqs, tokR, if_pos (by omega), if_neg (by omega)]; exact htk0))) (jS_c rfl (jS_c rfl (jS_c rfl rfl)))))))))))))))))))))), (by first | (exfalso; omega) | (rw [hqs]; exact lva (by omega) he hl2 (fun _ _ => by omega) (fun _ _ => by omega)) | (rw [hqs]; intro z; rw [tokR, if_neg (by omega)] at z; omega))⟩)
                · skip
                  refine J_aload_n dX8_lookAt_283 rfl ?_
                  refine J_get 15 dX8_lookAt_284 jk8 (Nat.le_of_ble_eq_true rfl) jfRX8_208 hset_eq (by omega) rfl ?_
                  refine J_iconst (v := nI 2) dX8_lookAt_287 (by decide +kernel) ?_
                  refine J_icmp_leN (tgt := 295) dX8_lookAt_288 (by decide) (by omega) (by omega) (fun c17 => ?_) (fun c17 => ?_)
                  · skip
                    refine J_aload_n dX8_lookAt_295 rfl ?_
                    refine J_get 16 dX8_lookAt_296 jk8 (Nat.le_of_ble_eq_true rfl) jfRX8_211 hset_eq (by omega) rfl ?_
                    refine J_put 16 dX8_lookAt_299 jk8 (Nat.le_of_ble_eq_true rfl) jfRX8_211 hset_eq (by omega) rfl rfl rfl (Nat.le_of_ble_eq_true rfl) ?_
                    refine J.cast (h' := (hset (hset h 38 (.inr (7, [.ref (E.1 + 39), .ref (E.1 + 40), .ref (E.1 + 41), .ref (E.1 + 42), .long (lN xa), .long (lN xb), .ref (E.1 + 43), .int (nI dt), .ref (E.1 + 44), .ref (E.1 + 45), .int (nI mo), .ref (E.1 + 46), .ref (E.1 + 47), .int (nI bn), .int (nI q), .int (nI l2), .int (nI tk0), .int (nI (((10 * ((0 + (BY (q + 0))) - 48)) + (BY (q + 1))) - 48)), .ref (E.1 + 48), .ref (E.1 + 49)]))) 38 (.inr (7, [.ref (E.1 + 39), .ref (E.1 + 40), .ref (E.1 + 41), .ref (E.1 + 42), .long (lN xa), .long (lN xb), .ref (E.1 + 43), .int (nI dt), .ref (E.1 + 44), .ref (E.1 + 45), .int (nI mo), .ref (E.1 + 46), .ref (E.1 + 47), .int (nI bn), .int (nI q), .int (nI l2), .int (nI tk0), .int (nI (((10 * ((0 + (BY (q + 0))) - 48)) + (BY (q + 1))) - 48)), .ref (E.1 + 48), .ref (E.1 + 49)])))) rfl ?_
                    refine J.cast hset_hset ?_
                    exact J_vret dX8_lookAt_302 rfl ⟨Nat.le_refl _, Nat.le_refl _⟩ (by rw [hPP]; exact ⟨rfl, rfl, (((10 * ((0 + (BY (q + 0))) - 48)) + (BY (q + 1))) - 48), (hset_cg rfl (congrArg (fun z => (Sum.inr (7, z) : va_E)) (jS_c rfl (jS_c rfl (jS_c rfl (jS_c rfl (jS_c rfl (jS_c rfl (jS_c rfl (jS_c rfl (jS_c rfl (jS_c rfl (jS_c rfl (jS_c rfl (jS_c rfl (jS_c rfl (jS_c (jv_N (by first | (exfalso; omega) | exact hqs.symm | (rw [hqs, lenQ, if_pos (by omega)]; omega) | (rw [hqs, lenQ, if_neg (by omega)]; done) | (rw [hqs, tokR, if_neg (by omega)]; done) | (rw [hqs, tokR, if_pos (by omega), if_pos ⟨by omega, by omega⟩]; done) | (rw [hqs, tokR, if_pos (by omega), if_neg (by omega)]; exact htk0))) (jS_c (jv_N (by first | (exfalso; omega) | exact hqs.symm | (rw [hqs, lenQ, if_pos (by omega)]; omega) | (rw [hqs, lenQ, if_neg (by omega)]; done) | (rw [hqs, tokR, if_neg (by omega)]; done) | (rw [hqs, tokR, if_pos (by omega), if_pos ⟨by omega, by omega⟩]; done) | (rw [hqs, tokR, if_pos (by omega), if_neg (by omega)]; exact htk0))) (jS_c (jv_N (by first | (exfalso; omega) | exact hqs.symm | (rw [hqs, lenQ, if_pos (by omega)]; omega) | (rw [hqs, lenQ, if_neg (by omega)]; done) | (rw [hqs, tokR, if_neg (by omega)]; done) | (rw [hqs, tokR, if_pos (by omega), if_pos ⟨by omega, by omega⟩]; done) | (rw [hqs, tokR, if_pos (by omega), if_neg (by omega)]; exact htk0))) (jS_c rfl (jS_c rfl (jS_c rfl rfl)))))))))))))))))))))), (by first | (exfalso; omega) | (rw [hqs]; exact lva (by omega) he hl2 (fun _ _ => by omega) (fun _ _ => by omega)) | (rw [hqs]; intro z; rw [tokR, if_neg (by omega)] at z; omega))⟩)
                  · skip
                    refine J_iconst (v := nI 4) dX8_lookAt_291 (by decide +kernel) ?_
                    refine J_goto (tgt := 299) dX8_lookAt_292 (by decide) ?_
                    refine J_put 16 dX8_lookAt_299 jk8 (Nat.le_of_ble_eq_true rfl) jfRX8_211 hset_eq (by omega) rfl rfl rfl (Nat.le_of_ble_eq_true rfl) ?_
                    refine J.cast (h' := (hset (hset h 38 (.inr (7, [.ref (E.1 + 39), .ref (E.1 + 40), .ref (E.1 + 41), .ref (E.1 + 42), .long (lN xa), .long (lN xb), .ref (E.1 + 43), .int (nI dt), .ref (E.1 + 44), .ref (E.1 + 45), .int (nI mo), .ref (E.1 + 46), .ref (E.1 + 47), .int (nI bn), .int (nI q), .int (nI l2), .int (nI tk0), .int (nI (((10 * ((0 + (BY (q + 0))) - 48)) + (BY (q + 1))) - 48)), .ref (E.1 + 48), .ref (E.1 + 49)]))) 38 (.inr (7, [.ref (E.1 + 39), .ref (E.1 + 40), .ref (E.1 + 41), .ref (E.1 + 42), .long (lN xa), .long (lN xb), .ref (E.1 + 43), .int (nI dt), .ref (E.1 + 44), .ref (E.1 + 45), .int (nI mo), .ref (E.1 + 46), .ref (E.1 + 47), .int (nI bn), .int (nI q), .int (nI l2), .int (nI 4), .int (nI (((10 * ((0 + (BY (q + 0))) - 48)) + (BY (q + 1))) - 48)), .ref (E.1 + 48), .ref (E.1 + 49)])))) rfl ?_
                    refine J.cast hset_hset ?_
                    exact J_vret dX8_lookAt_302 rfl ⟨Nat.le_refl _, Nat.le_refl _⟩ (by rw [hPP]; exact ⟨rfl, rfl, (((10 * ((0 + (BY (q + 0))) - 48)) + (BY (q + 1))) - 48), (hset_cg rfl (congrArg (fun z => (Sum.inr (7, z) : va_E)) (jS_c rfl (jS_c rfl (jS_c rfl (jS_c rfl (jS_c rfl (jS_c rfl (jS_c rfl (jS_c rfl (jS_c rfl (jS_c rfl (jS_c rfl (jS_c rfl (jS_c rfl (jS_c rfl (jS_c (jv_N (by first | (exfalso; omega) | exact hqs.symm | (rw [hqs, lenQ, if_pos (by omega)]; omega) | (rw [hqs, lenQ, if_neg (by omega)]; done) | (rw [hqs, tokR, if_neg (by omega)]; done) | (rw [hqs, tokR, if_pos (by omega), if_pos ⟨by omega, by omega⟩]; done) | (rw [hqs, tokR, if_pos (by omega), if_neg (by omega)]; exact htk0))) (jS_c (jv_N (by first | (exfalso; omega) | exact hqs.symm | (rw [hqs, lenQ, if_pos (by omega)]; omega) | (rw [hqs, lenQ, if_neg (by omega)]; done) | (rw [hqs, tokR, if_neg (by omega)]; done) | (rw [hqs, tokR, if_pos (by omega), if_pos ⟨by omega, by omega⟩]; done) | (rw [hqs, tokR, if_pos (by omega), if_neg (by omega)]; exact htk0))) (jS_c (jv_N (by first | (exfalso; omega) | exact hqs.symm | (rw [hqs, lenQ, if_pos (by omega)]; omega) | (rw [hqs, lenQ, if_neg (by omega)]; done) | (rw [hqs, tokR, if_neg (by omega)]; done) | (rw [hqs, tokR, if_pos (by omega), if_pos ⟨by omega, by omega⟩]; done) | (rw [hqs, tokR, if_pos (by omega), if_neg (by omega)]; exact htk0))) (jS_c rfl (jS_c rfl (jS_c rfl rfl)))))))))))))))))))))), (by first | (exfalso; omega) | (rw [hqs]; exact lva (by omega) he hl2 (fun _ _ => by omega) (fun _ _ => by omega)) | (rw [hqs]; intro z; rw [tokR, if_neg (by omega)] at z; omega))⟩)
        have hx := hBY q (by omega)
        have t1 := tok0_1 (c := F q)
        have t2 := tok0_2 (c := F q)
        have tlx := tok0_le (c := F q)
        have fq := fam_1i (c := F q)
        have fl := fam_le (c := F q)
        refine J_aload_n dX8_lookAt_117 rfl ?_
        refine J_iconst (v := nI 1) dX8_lookAt_118 (by decide +kernel) ?_
        refine J_put 15 dX8_lookAt_119 jk8 (Nat.le_of_ble_eq_true rfl) jfRX8_208 hset_eq (by omega) rfl rfl rfl (Nat.le_of_ble_eq_true rfl) ?_
        refine J.cast (h' := (hset (hset h 38 (.inr (7, [.ref (E.1 + 39), .ref (E.1 + 40), .ref (E.1 + 41), .ref (E.1 + 42), .long (lN xa), .long (lN xb), .ref (E.1 + 43), .int (nI dt), .ref (E.1 + 44), .ref (E.1 + 45), .int (nI mo), .ref (E.1 + 46), .ref (E.1 + 47), .int (nI bn), .int (nI q), .int (nI 0), .int (nI tk0), .int (nI 0), .ref (E.1 + 48), .ref (E.1 + 49)]))) 38 (.inr (7, [.ref (E.1 + 39), .ref (E.1 + 40), .ref (E.1 + 41), .ref (E.1 + 42), .long (lN xa), .long (lN xb), .ref (E.1 + 43), .int (nI dt), .ref (E.1 + 44), .ref (E.1 + 45), .int (nI mo), .ref (E.1 + 46), .ref (E.1 + 47), .int (nI bn), .int (nI q), .int (nI 1), .int (nI tk0), .int (nI 0), .ref (E.1 + 48), .ref (E.1 + 49)])))) rfl ?_
        refine J.cast hset_hset ?_
        refine J_aload_n dX8_lookAt_122 rfl ?_
        refine J_get 16 dX8_lookAt_123 jk8 (Nat.le_of_ble_eq_true rfl) jfRX8_211 hset_eq (by omega) rfl ?_
        refine J_iconst (v := nI 3) dX8_lookAt_126 (by decide +kernel) ?_
        refine J_icmp_geN (tgt := 134) dX8_lookAt_127 (by decide) (by omega) (by omega) (fun c18 => ?_) (fun c18 => ?_)
        · skip
          refine J_iconst (v := nI 0) dX8_lookAt_134 (by decide +kernel) ?_
          refine J_istore_n dX8_lookAt_135 (Nat.le_of_ble_eq_true rfl) (L' := [(3, .int (nI 0)), (2, .int (nI (BY q))), (0, .ref (E.1 + 38)), (1, .int (nI p))]) rfl ?_
          have CUT136 : ∀ (f136 : Nat) (l : Nat) (g : Nat) (hm136 : 2 * (bn - (q + l)) + g < f136) (hr : runQ F bn q l g) (hl1 : 1 ≤ l) (hlb : q + l ≤ bn) (hg : g ≤ 1), J E mX8_lookAt (3, 0, 0) jS0 PP (hset h 38 (.inr (7, [.ref (E.1 + 39), .ref (E.1 + 40), .ref (E.1 + 41), .ref (E.1 + 42), .long (lN xa), .long (lN xb), .ref (E.1 + 43), .int (nI dt), .ref (E.1 + 44), .ref (E.1 + 45), .int (nI mo), .ref (E.1 + 46), .ref (E.1 + 47), .int (nI bn), .int (nI q), .int (nI l), .int (nI tk0), .int (nI 0), .ref (E.1 + 48), .ref (E.1 + 49)]))) n (0, 0) 136 [(3, .int (nI g)), (2, .int (nI (BY q))), (0, .ref (E.1 + 38)), (1, .int (nI p))] [] := by
            intro f136
            induction f136 with
            | zero => intro l g hm136; exact absurd hm136 (Nat.not_lt_zero _)
            | succ f136 ih136 =>
              intro l g hm136 hr hl1 hlb hg
              refine J_iload_n dX8_lookAt_136 rfl ?_
              refine J_if_eqN (tgt := 215) dX8_lookAt_137 (by decide) (by omega) (fun c19 => ?_) (fun c19 => ?_)
              · skip
                refine J.sub [1, 2, 3] (L' := [(2, .int (nI (BY q))), (0, .ref (E.1 + 38)), (1, .int (nI p))]) rfl ?_
                exact CUT215 l (by first | exact runQ_e1 hr (by omega) | (rw [show g = 0 by omega] at hr; exact runQ_e0 hr)) (by first | assumption | omega) (by first | assumption | omega)
              · skip
                have g1 : g = 1 := by omega
                rw [g1] at hr
                have r3 := runQ_3 hr
                refine J_aload_n dX8_lookAt_140 rfl ?_
                refine J_get 14 dX8_lookAt_141 jk8 (Nat.le_of_ble_eq_true rfl) jfRX8_205 hset_eq (by omega) rfl ?_
                refine J_aload_n dX8_lookAt_144 rfl ?_
                refine J_get 15 dX8_lookAt_145 jk8 (Nat.le_of_ble_eq_true rfl) jfRX8_208 hset_eq (by omega) rfl ?_
                refine J_iaddN dX8_lookAt_148 ?_
                refine J_aload_n dX8_lookAt_149 rfl ?_
                refine J_get 13 dX8_lookAt_150 jk8 (Nat.le_of_ble_eq_true rfl) jfRX8_194 hset_eq (by omega) rfl ?_
                refine J_icmp_geN (tgt := 215) dX8_lookAt_153 (by decide) (by omega) (by omega) (fun c20 => ?_) (fun c20 => ?_)
                · skip
                  refine J.sub [1, 2, 3] (L' := [(2, .int (nI (BY q))), (0, .ref (E.1 + 38)), (1, .int (nI p))]) rfl ?_
                  exact CUT215 l (by first | exact runQ_e1 hr (by omega) | (rw [show g = 0 by omega] at hr; exact runQ_e0 hr)) (by first | assumption | omega) (by first | assumption | omega)
                · skip
                  refine J_aload_n dX8_lookAt_156 rfl ?_
                  refine J_get 12 dX8_lookAt_157 jk8 (Nat.le_of_ble_eq_true rfl) jfRX8_39 hset_eq (by omega) rfl ?_
                  refine J_aload_n dX8_lookAt_160 rfl ?_
                  refine J_get 14 dX8_lookAt_161 jk8 (Nat.le_of_ble_eq_true rfl) jfRX8_205 hset_eq (by omega) rfl ?_
                  refine J_aload_n dX8_lookAt_164 rfl ?_
                  refine J_get 15 dX8_lookAt_165 jk8 (Nat.le_of_ble_eq_true rfl) jfRX8_208 hset_eq (by omega) rfl ?_
                  refine J_iaddN dX8_lookAt_168 ?_
                  refine J_ialdN (i := q + l) dX8_lookAt_169 ((hset_ne (by omega)).trans H1) (by omega) (by omega) (by omega) ?_
                  have hy := hBY (q + l) (by omega)
                  have fy1 := fam_1i (c := F (q + l))
                  have fy2 := fam_2 (c := F (q + l))
                  have fyl := fam_le (c := F (q + l))
                  refine J_istore dX8_lookAt_170 (Nat.le_of_ble_eq_true rfl) (L' := [(4, .int (nI (BY (q + l)))), (3, .int (nI g)), (2, .int (nI (BY q))), (0, .ref (E.1 + 38)), (1, .int (nI p))]) rfl ?_
                  refine J_aload_n dX8_lookAt_172 rfl ?_
                  refine J_get 16 dX8_lookAt_173 jk8 (Nat.le_of_ble_eq_true rfl) jfRX8_211 hset_eq (by omega) rfl ?_
                  refine J_iconst (v := nI 1) dX8_lookAt_176 (by decide +kernel) ?_
                  refine J_icmp_neN (tgt := 188) dX8_lookAt_177 (by decide) (by omega) (by omega) (fun c21 => ?_) (fun c21 => ?_)
                  · skip
                    refine J_iload dX8_lookAt_188 rfl ?_
                    refine J_callSr (M' := mX8_isFigure) (d' := (2, 0, 0)) (rest := []) dX8_lookAt_190 jmX8_isFigure jlRX8_220 (ctX8_isFigure (BY (q + l))   (by first | assumption | omega)) rfl rfl (Nat.le_of_ble_eq_true rfl) (Nat.le_of_ble_eq_true rfl) ⟨Nat.le_refl _, Nat.le_refl _⟩ ?_
                    have sp22 : (48 ≤ (BY (q + l)) ∧ (BY (q + l)) ≤ 57) ∨ (¬ (48 ≤ (BY (q + l)) ∧ (BY (q + l)) ≤ 57)) := by exact Classical.em _
                    rcases sp22 with sp22 | sp22
                    · skip
                      refine J.stk (st' := [.int (nI 1)]) (congrArg (fun z => z :: []) (by exact jbv1 (by assumption))) ?_
                      refine J_istore_n dX8_lookAt_193 (Nat.le_of_ble_eq_true rfl) (L' := [(3, .int (nI 1)), (4, .int (nI (BY (q + l)))), (2, .int (nI (BY q))), (0, .ref (E.1 + 38)), (1, .int (nI p))]) rfl ?_
                      refine J_aload_n dX8_lookAt_194 rfl ?_
                      refine J_dup dX8_lookAt_195 rfl ?_
                      refine J_get 15 dX8_lookAt_196 jk8 (Nat.le_of_ble_eq_true rfl) jfRX8_208 hset_eq (by omega) rfl ?_
                      refine J_iload_n dX8_lookAt_199 rfl ?_
                      refine J_if_eqN (tgt := 207) dX8_lookAt_200 (by decide) (by omega) (fun z => absurd z (by decide)) (fun _ => ?_)
                      refine J_iconst (v := nI 1) dX8_lookAt_203 (by decide +kernel) ?_
                      refine J_goto (tgt := 208) dX8_lookAt_204 (by decide) ?_
                      refine J_iaddN dX8_lookAt_208 ?_
                      refine J_put 15 dX8_lookAt_209 jk8 (Nat.le_of_ble_eq_true rfl) jfRX8_208 hset_eq (by omega) rfl rfl rfl (Nat.le_of_ble_eq_true rfl) ?_
                      refine J.cast (h' := (hset (hset h 38 (.inr (7, [.ref (E.1 + 39), .ref (E.1 + 40), .ref (E.1 + 41), .ref (E.1 + 42), .long (lN xa), .long (lN xb), .ref (E.1 + 43), .int (nI dt), .ref (E.1 + 44), .ref (E.1 + 45), .int (nI mo), .ref (E.1 + 46), .ref (E.1 + 47), .int (nI bn), .int (nI q), .int (nI l), .int (nI tk0), .int (nI 0), .ref (E.1 + 48), .ref (E.1 + 49)]))) 38 (.inr (7, [.ref (E.1 + 39), .ref (E.1 + 40), .ref (E.1 + 41), .ref (E.1 + 42), .long (lN xa), .long (lN xb), .ref (E.1 + 43), .int (nI dt), .ref (E.1 + 44), .ref (E.1 + 45), .int (nI mo), .ref (E.1 + 46), .ref (E.1 + 47), .int (nI bn), .int (nI q), .int (nI (l + 1)), .int (nI tk0), .int (nI 0), .ref (E.1 + 48), .ref (E.1 + 49)])))) rfl ?_
                      refine J.cast hset_hset ?_
                      refine J_goto (tgt := 136) dX8_lookAt_212 (by decide) ?_
                      refine J.sub [0, 2, 3, 4] (L' := [(3, .int (nI 1)), (2, .int (nI (BY q))), (0, .ref (E.1 + 38)), (1, .int (nI p))]) rfl ?_
                      exact ih136 (l + 1) 1 (by omega) (by first | exact runQ_0 (by omega) | exact runQ_x (by omega) | exact runQ_s hr (by omega) (by omega) | exact runQ_n (l := l) hr (by omega)) (by first | assumption | omega) (by first | assumption | omega) (by first | assumption | omega)
                    · skip
                      refine J.stk (st' := [.int (nI 0)]) (congrArg (fun z => z :: []) (by exact jbv0 (by assumption))) ?_
                      refine J_istore_n dX8_lookAt_193 (Nat.le_of_ble_eq_true rfl) (L' := [(3, .int (nI 0)), (4, .int (nI (BY (q + l)))), (2, .int (nI (BY q))), (0, .ref (E.1 + 38)), (1, .int (nI p))]) rfl ?_
                      refine J_aload_n dX8_lookAt_194 rfl ?_
                      refine J_dup dX8_lookAt_195 rfl ?_
                      refine J_get 15 dX8_lookAt_196 jk8 (Nat.le_of_ble_eq_true rfl) jfRX8_208 hset_eq (by omega) rfl ?_
                      refine J_iload_n dX8_lookAt_199 rfl ?_
                      refine J_if_eqN (tgt := 207) dX8_lookAt_200 (by decide) (by omega) (fun _ => ?_) (fun z => absurd z (by decide))
                      refine J_iconst (v := nI 0) dX8_lookAt_207 (by decide +kernel) ?_
                      refine J_iaddN dX8_lookAt_208 ?_
                      refine J_put 15 dX8_lookAt_209 jk8 (Nat.le_of_ble_eq_true rfl) jfRX8_208 hset_eq (by omega) rfl rfl rfl (Nat.le_of_ble_eq_true rfl) ?_
                      refine J.cast (h' := (hset (hset h 38 (.inr (7, [.ref (E.1 + 39), .ref (E.1 + 40), .ref (E.1 + 41), .ref (E.1 + 42), .long (lN xa), .long (lN xb), .ref (E.1 + 43), .int (nI dt), .ref (E.1 + 44), .ref (E.1 + 45), .int (nI mo), .ref (E.1 + 46), .ref (E.1 + 47), .int (nI bn), .int (nI q), .int (nI l), .int (nI tk0), .int (nI 0), .ref (E.1 + 48), .ref (E.1 + 49)]))) 38 (.inr (7, [.ref (E.1 + 39), .ref (E.1 + 40), .ref (E.1 + 41), .ref (E.1 + 42), .long (lN xa), .long (lN xb), .ref (E.1 + 43), .int (nI dt), .ref (E.1 + 44), .ref (E.1 + 45), .int (nI mo), .ref (E.1 + 46), .ref (E.1 + 47), .int (nI bn), .int (nI q), .int (nI (l + 0)), .int (nI tk0), .int (nI 0), .ref (E.1 + 48), .ref (E.1 + 49)])))) rfl ?_
                      refine J.cast hset_hset ?_
                      refine J_goto (tgt := 136) dX8_lookAt_212 (by decide) ?_
                      refine J.sub [0, 2, 3, 4] (L' := [(3, .int (nI 0)), (2, .int (nI (BY q))), (0, .ref (E.1 + 38)), (1, .int (nI p))]) rfl ?_
                      exact ih136 (l + 0) 0 (by omega) (by first | exact runQ_0 (by omega) | exact runQ_x (by omega) | exact runQ_s hr (by omega) (by omega) | exact runQ_n (l := l) hr (by omega)) (by first | assumption | omega) (by first | assumption | omega) (by first | assumption | omega)
                  · skip
                    refine J_iload dX8_lookAt_180 rfl ?_
                    refine J_callSr (M' := mX8_isSmall) (d' := (2, 0, 0)) (rest := []) dX8_lookAt_182 jmX8_isSmall jlRX8_217 (ctX8_isSmall (BY (q + l))   (by first | assumption | omega)) rfl rfl (Nat.le_of_ble_eq_true rfl) (Nat.le_of_ble_eq_true rfl) ⟨Nat.le_refl _, Nat.le_refl _⟩ ?_
                    refine J_goto (tgt := 193) dX8_lookAt_185 (by decide) ?_
                    have sp25 : (97 ≤ (BY (q + l)) ∧ (BY (q + l)) ≤ 122) ∨ (¬ (97 ≤ (BY (q + l)) ∧ (BY (q + l)) ≤ 122)) := by exact Classical.em _
                    rcases sp25 with sp25 | sp25
                    · skip
                      refine J.stk (st' := [.int (nI 1)]) (congrArg (fun z => z :: []) (by exact jbv1 (by assumption))) ?_
                      refine J_istore_n dX8_lookAt_193 (Nat.le_of_ble_eq_true rfl) (L' := [(3, .int (nI 1)), (4, .int (nI (BY (q + l)))), (2, .int (nI (BY q))), (0, .ref (E.1 + 38)), (1, .int (nI p))]) rfl ?_
                      refine J_aload_n dX8_lookAt_194 rfl ?_
                      refine J_dup dX8_lookAt_195 rfl ?_
                      refine J_get 15 dX8_lookAt_196 jk8 (Nat.le_of_ble_eq_true rfl) jfRX8_208 hset_eq (by omega) rfl ?_
                      refine J_iload_n dX8_lookAt_199 rfl ?_
                      refine J_if_eqN (tgt := 207) dX8_lookAt_200 (by decide) (by omega) (fun z => absurd z (by decide)) (fun _ => ?_)
                      refine J_iconst (v := nI 1) dX8_lookAt_203 (by decide +kernel) ?_
                      refine J_goto (tgt := 208) dX8_lookAt_204 (by decide) ?_
                      refine J_iaddN dX8_lookAt_208 ?_
                      refine J_put 15 dX8_lookAt_209 jk8 (Nat.le_of_ble_eq_true rfl) jfRX8_208 hset_eq (by omega) rfl rfl rfl (Nat.le_of_ble_eq_true rfl) ?_
                      refine J.cast (h' := (hset (hset h 38 (.inr (7, [.ref (E.1 + 39), .ref (E.1 + 40), .ref (E.1 + 41), .ref (E.1 + 42), .long (lN xa), .long (lN xb), .ref (E.1 + 43), .int (nI dt), .ref (E.1 + 44), .ref (E.1 + 45), .int (nI mo), .ref (E.1 + 46), .ref (E.1 + 47), .int (nI bn), .int (nI q), .int (nI l), .int (nI tk0), .int (nI 0), .ref (E.1 + 48), .ref (E.1 + 49)]))) 38 (.inr (7, [.ref (E.1 + 39), .ref (E.1 + 40), .ref (E.1 + 41), .ref (E.1 + 42), .long (lN xa), .long (lN xb), .ref (E.1 + 43), .int (nI dt), .ref (E.1 + 44), .ref (E.1 + 45), .int (nI mo), .ref (E.1 + 46), .ref (E.1 + 47), .int (nI bn), .int (nI q), .int (nI (l + 1)), .int (nI tk0), .int (nI 0), .ref (E.1 + 48), .ref (E.1 + 49)])))) rfl ?_
                      refine J.cast hset_hset ?_
                      refine J_goto (tgt := 136) dX8_lookAt_212 (by decide) ?_
                      refine J.sub [0, 2, 3, 4] (L' := [(3, .int (nI 1)), (2, .int (nI (BY q))), (0, .ref (E.1 + 38)), (1, .int (nI p))]) rfl ?_
                      exact ih136 (l + 1) 1 (by omega) (by first | exact runQ_0 (by omega) | exact runQ_x (by omega) | exact runQ_s hr (by omega) (by omega) | exact runQ_n (l := l) hr (by omega)) (by first | assumption | omega) (by first | assumption | omega) (by first | assumption | omega)
                    · skip
                      refine J.stk (st' := [.int (nI 0)]) (congrArg (fun z => z :: []) (by exact jbv0 (by assumption))) ?_
                      refine J_istore_n dX8_lookAt_193 (Nat.le_of_ble_eq_true rfl) (L' := [(3, .int (nI 0)), (4, .int (nI (BY (q + l)))), (2, .int (nI (BY q))), (0, .ref (E.1 + 38)), (1, .int (nI p))]) rfl ?_
                      refine J_aload_n dX8_lookAt_194 rfl ?_
                      refine J_dup dX8_lookAt_195 rfl ?_
                      refine J_get 15 dX8_lookAt_196 jk8 (Nat.le_of_ble_eq_true rfl) jfRX8_208 hset_eq (by omega) rfl ?_
                      refine J_iload_n dX8_lookAt_199 rfl ?_
                      refine J_if_eqN (tgt := 207) dX8_lookAt_200 (by decide) (by omega) (fun _ => ?_) (fun z => absurd z (by decide))
                      refine J_iconst (v := nI 0) dX8_lookAt_207 (by decide +kernel) ?_
                      refine J_iaddN dX8_lookAt_208 ?_
                      refine J_put 15 dX8_lookAt_209 jk8 (Nat.le_of_ble_eq_true rfl) jfRX8_208 hset_eq (by omega) rfl rfl rfl (Nat.le_of_ble_eq_true rfl) ?_
                      refine J.cast (h' := (hset (hset h 38 (.inr (7, [.ref (E.1 + 39), .ref (E.1 + 40), .ref (E.1 + 41), .ref (E.1 + 42), .long (lN xa), .long (lN xb), .ref (E.1 + 43), .int (nI dt), .ref (E.1 + 44), .ref (E.1 + 45), .int (nI mo), .ref (E.1 + 46), .ref (E.1 + 47), .int (nI bn), .int (nI q), .int (nI l), .int (nI tk0), .int (nI 0), .ref (E.1 + 48), .ref (E.1 + 49)]))) 38 (.inr (7, [.ref (E.1 + 39), .ref (E.1 + 40), .ref (E.1 + 41), .ref (E.1 + 42), .long (lN xa), .long (lN xb), .ref (E.1 + 43), .int (nI dt), .ref (E.1 + 44), .ref (E.1 + 45), .int (nI mo), .ref (E.1 + 46), .ref (E.1 + 47), .int (nI bn), .int (nI q), .int (nI (l + 0)), .int (nI tk0), .int (nI 0), .ref (E.1 + 48), .ref (E.1 + 49)])))) rfl ?_
                      refine J.cast hset_hset ?_
                      refine J_goto (tgt := 136) dX8_lookAt_212 (by decide) ?_
                      refine J.sub [0, 2, 3, 4] (L' := [(3, .int (nI 0)), (2, .int (nI (BY q))), (0, .ref (E.1 + 38)), (1, .int (nI p))]) rfl ?_
                      exact ih136 (l + 0) 0 (by omega) (by first | exact runQ_0 (by omega) | exact runQ_x (by omega) | exact runQ_s hr (by omega) (by omega) | exact runQ_n (l := l) hr (by omega)) (by first | assumption | omega) (by first | assumption | omega) (by first | assumption | omega)
          exact CUT136 (2 * (bn - (q + 1)) + 0 + 1) 1 0 (Nat.lt_succ_self _) (by first | exact runQ_0 (by omega) | exact runQ_x (by omega) | exact runQ_s hr (by omega) (by omega) | exact runQ_n (l := l) hr (by omega)) (by first | assumption | omega) (by first | assumption | omega) (by first | assumption | omega)
        · skip
          refine J_iconst (v := nI 1) dX8_lookAt_130 (by decide +kernel) ?_
          refine J_goto (tgt := 135) dX8_lookAt_131 (by decide) ?_
          refine J_istore_n dX8_lookAt_135 (Nat.le_of_ble_eq_true rfl) (L' := [(3, .int (nI 1)), (2, .int (nI (BY q))), (0, .ref (E.1 + 38)), (1, .int (nI p))]) rfl ?_
          have CUT136 : ∀ (f136 : Nat) (l : Nat) (g : Nat) (hm136 : 2 * (bn - (q + l)) + g < f136) (hr : runQ F bn q l g) (hl1 : 1 ≤ l) (hlb : q + l ≤ bn) (hg : g ≤ 1), J E mX8_lookAt (3, 0, 0) jS0 PP (hset h 38 (.inr (7, [.ref (E.1 + 39), .ref (E.1 + 40), .ref (E.1 + 41), .ref (E.1 + 42), .long (lN xa), .long (lN xb), .ref (E.1 + 43), .int (nI dt), .ref (E.1 + 44), .ref (E.1 + 45), .int (nI mo), .ref (E.1 + 46), .ref (E.1 + 47), .int (nI bn), .int (nI q), .int (nI l), .int (nI tk0), .int (nI 0), .ref (E.1 + 48), .ref (E.1 + 49)]))) n (0, 0) 136 [(3, .int (nI g)), (2, .int (nI (BY q))), (0, .ref (E.1 + 38)), (1, .int (nI p))] [] := by
            intro f136
            induction f136 with
            | zero => intro l g hm136; exact absurd hm136 (Nat.not_lt_zero _)
            | succ f136 ih136 =>
              intro l g hm136 hr hl1 hlb hg
              refine J_iload_n dX8_lookAt_136 rfl ?_
              refine J_if_eqN (tgt := 215) dX8_lookAt_137 (by decide) (by omega) (fun c28 => ?_) (fun c28 => ?_)
              · skip
                refine J.sub [1, 2, 3] (L' := [(2, .int (nI (BY q))), (0, .ref (E.1 + 38)), (1, .int (nI p))]) rfl ?_
                exact CUT215 l (by first | exact runQ_e1 hr (by omega) | (rw [show g = 0 by omega] at hr; exact runQ_e0 hr)) (by first | assumption | omega) (by first | assumption | omega)
              · skip
                have g1 : g = 1 := by omega
                rw [g1] at hr
                have r3 := runQ_3 hr
                refine J_aload_n dX8_lookAt_140 rfl ?_
                refine J_get 14 dX8_lookAt_141 jk8 (Nat.le_of_ble_eq_true rfl) jfRX8_205 hset_eq (by omega) rfl ?_
                refine J_aload_n dX8_lookAt_144 rfl ?_
                refine J_get 15 dX8_lookAt_145 jk8 (Nat.le_of_ble_eq_true rfl) jfRX8_208 hset_eq (by omega) rfl ?_
                refine J_iaddN dX8_lookAt_148 ?_
                refine J_aload_n dX8_lookAt_149 rfl ?_
                refine J_get 13 dX8_lookAt_150 jk8 (Nat.le_of_ble_eq_true rfl) jfRX8_194 hset_eq (by omega) rfl ?_
                refine J_icmp_geN (tgt := 215) dX8_lookAt_153 (by decide) (by omega) (by omega) (fun c29 => ?_) (fun c29 => ?_)
                · skip
                  refine J.sub [1, 2, 3] (L' := [(2, .int (nI (BY q))), (0, .ref (E.1 + 38)), (1, .int (nI p))]) rfl ?_
                  exact CUT215 l (by first | exact runQ_e1 hr (by omega) | (rw [show g = 0 by omega] at hr; exact runQ_e0 hr)) (by first | assumption | omega) (by first | assumption | omega)
                · skip
                  refine J_aload_n dX8_lookAt_156 rfl ?_
                  refine J_get 12 dX8_lookAt_157 jk8 (Nat.le_of_ble_eq_true rfl) jfRX8_39 hset_eq (by omega) rfl ?_
                  refine J_aload_n dX8_lookAt_160 rfl ?_
                  refine J_get 14 dX8_lookAt_161 jk8 (Nat.le_of_ble_eq_true rfl) jfRX8_205 hset_eq (by omega) rfl ?_
                  refine J_aload_n dX8_lookAt_164 rfl ?_
                  refine J_get 15 dX8_lookAt_165 jk8 (Nat.le_of_ble_eq_true rfl) jfRX8_208 hset_eq (by omega) rfl ?_
                  refine J_iaddN dX8_lookAt_168 ?_
                  refine J_ialdN (i := q + l) dX8_lookAt_169 ((hset_ne (by omega)).trans H1) (by omega) (by omega) (by omega) ?_
                  have hy := hBY (q + l) (by omega)
                  have fy1 := fam_1i (c := F (q + l))
                  have fy2 := fam_2 (c := F (q + l))
                  have fyl := fam_le (c := F (q + l))
                  refine J_istore dX8_lookAt_170 (Nat.le_of_ble_eq_true rfl) (L' := [(4, .int (nI (BY (q + l)))), (3, .int (nI g)), (2, .int (nI (BY q))), (0, .ref (E.1 + 38)), (1, .int (nI p))]) rfl ?_
                  refine J_aload_n dX8_lookAt_172 rfl ?_
                  refine J_get 16 dX8_lookAt_173 jk8 (Nat.le_of_ble_eq_true rfl) jfRX8_211 hset_eq (by omega) rfl ?_
                  refine J_iconst (v := nI 1) dX8_lookAt_176 (by decide +kernel) ?_
                  refine J_icmp_neN (tgt := 188) dX8_lookAt_177 (by decide) (by omega) (by omega) (fun c30 => ?_) (fun c30 => ?_)
                  · skip
                    refine J_iload dX8_lookAt_188 rfl ?_
                    refine J_callSr (M' := mX8_isFigure) (d' := (2, 0, 0)) (rest := []) dX8_lookAt_190 jmX8_isFigure jlRX8_220 (ctX8_isFigure (BY (q + l))   (by first | assumption | omega)) rfl rfl (Nat.le_of_ble_eq_true rfl) (Nat.le_of_ble_eq_true rfl) ⟨Nat.le_refl _, Nat.le_refl _⟩ ?_
                    have sp31 : (48 ≤ (BY (q + l)) ∧ (BY (q + l)) ≤ 57) ∨ (¬ (48 ≤ (BY (q + l)) ∧ (BY (q + l)) ≤ 57)) := by exact Classical.em _
                    rcases sp31 with sp31 | sp31
                    · skip
                      refine J.stk (st' := [.int (nI 1)]) (congrArg (fun z => z :: []) (by exact jbv1 (by assumption))) ?_
                      refine J_istore_n dX8_lookAt_193 (Nat.le_of_ble_eq_true rfl) (L' := [(3, .int (nI 1)), (4, .int (nI (BY (q + l)))), (2, .int (nI (BY q))), (0, .ref (E.1 + 38)), (1, .int (nI p))]) rfl ?_
                      refine J_aload_n dX8_lookAt_194 rfl ?_
                      refine J_dup dX8_lookAt_195 rfl ?_
                      refine J_get 15 dX8_lookAt_196 jk8 (Nat.le_of_ble_eq_true rfl) jfRX8_208 hset_eq (by omega) rfl ?_
                      refine J_iload_n dX8_lookAt_199 rfl ?_
                      refine J_if_eqN (tgt := 207) dX8_lookAt_200 (by decide) (by omega) (fun z => absurd z (by decide)) (fun _ => ?_)
                      refine J_iconst (v := nI 1) dX8_lookAt_203 (by decide +kernel) ?_
                      refine J_goto (tgt := 208) dX8_lookAt_204 (by decide) ?_
                      refine J_iaddN dX8_lookAt_208 ?_
                      refine J_put 15 dX8_lookAt_209 jk8 (Nat.le_of_ble_eq_true rfl) jfRX8_208 hset_eq (by omega) rfl rfl rfl (Nat.le_of_ble_eq_true rfl) ?_
                      refine J.cast (h' := (hset (hset h 38 (.inr (7, [.ref (E.1 + 39), .ref (E.1 + 40), .ref (E.1 + 41), .ref (E.1 + 42), .long (lN xa), .long (lN xb), .ref (E.1 + 43), .int (nI dt), .ref (E.1 + 44), .ref (E.1 + 45), .int (nI mo), .ref (E.1 + 46), .ref (E.1 + 47), .int (nI bn), .int (nI q), .int (nI l), .int (nI tk0), .int (nI 0), .ref (E.1 + 48), .ref (E.1 + 49)]))) 38 (.inr (7, [.ref (E.1 + 39), .ref (E.1 + 40), .ref (E.1 + 41), .ref (E.1 + 42), .long (lN xa), .long (lN xb), .ref (E.1 + 43), .int (nI dt), .ref (E.1 + 44), .ref (E.1 + 45), .int (nI mo), .ref (E.1 + 46), .ref (E.1 + 47), .int (nI bn), .int (nI q), .int (nI (l + 1)), .int (nI tk0), .int (nI 0), .ref (E.1 + 48), .ref (E.1 + 49)])))) rfl ?_
                      refine J.cast hset_hset ?_
                      refine J_goto (tgt := 136) dX8_lookAt_212 (by decide) ?_
                      refine J.sub [0, 2, 3, 4] (L' := [(3, .int (nI 1)), (2, .int (nI (BY q))), (0, .ref (E.1 + 38)), (1, .int (nI p))]) rfl ?_
                      exact ih136 (l + 1) 1 (by omega) (by first | exact runQ_0 (by omega) | exact runQ_x (by omega) | exact runQ_s hr (by omega) (by omega) | exact runQ_n (l := l) hr (by omega)) (by first | assumption | omega) (by first | assumption | omega) (by first | assumption | omega)
                    · skip
                      refine J.stk (st' := [.int (nI 0)]) (congrArg (fun z => z :: []) (by exact jbv0 (by assumption))) ?_
                      refine J_istore_n dX8_lookAt_193 (Nat.le_of_ble_eq_true rfl) (L' := [(3, .int (nI 0)), (4, .int (nI (BY (q + l)))), (2, .int (nI (BY q))), (0, .ref (E.1 + 38)), (1, .int (nI p))]) rfl ?_
                      refine J_aload_n dX8_lookAt_194 rfl ?_
                      refine J_dup dX8_lookAt_195 rfl ?_
                      refine J_get 15 dX8_lookAt_196 jk8 (Nat.le_of_ble_eq_true rfl) jfRX8_208 hset_eq (by omega) rfl ?_
                      refine J_iload_n dX8_lookAt_199 rfl ?_
                      refine J_if_eqN (tgt := 207) dX8_lookAt_200 (by decide) (by omega) (fun _ => ?_) (fun z => absurd z (by decide))
                      refine J_iconst (v := nI 0) dX8_lookAt_207 (by decide +kernel) ?_
                      refine J_iaddN dX8_lookAt_208 ?_
                      refine J_put 15 dX8_lookAt_209 jk8 (Nat.le_of_ble_eq_true rfl) jfRX8_208 hset_eq (by omega) rfl rfl rfl (Nat.le_of_ble_eq_true rfl) ?_
                      refine J.cast (h' := (hset (hset h 38 (.inr (7, [.ref (E.1 + 39), .ref (E.1 + 40), .ref (E.1 + 41), .ref (E.1 + 42), .long (lN xa), .long (lN xb), .ref (E.1 + 43), .int (nI dt), .ref (E.1 + 44), .ref (E.1 + 45), .int (nI mo), .ref (E.1 + 46), .ref (E.1 + 47), .int (nI bn), .int (nI q), .int (nI l), .int (nI tk0), .int (nI 0), .ref (E.1 + 48), .ref (E.1 + 49)]))) 38 (.inr (7, [.ref (E.1 + 39), .ref (E.1 + 40), .ref (E.1 + 41), .ref (E.1 + 42), .long (lN xa), .long (lN xb), .ref (E.1 + 43), .int (nI dt), .ref (E.1 + 44), .ref (E.1 + 45), .int (nI mo), .ref (E.1 + 46), .ref (E.1 + 47), .int (nI bn), .int (nI q), .int (nI (l + 0)), .int (nI tk0), .int (nI 0), .ref (E.1 + 48), .ref (E.1 + 49)])))) rfl ?_
                      refine J.cast hset_hset ?_
                      refine J_goto (tgt := 136) dX8_lookAt_212 (by decide) ?_
                      refine J.sub [0, 2, 3, 4] (L' := [(3, .int (nI 0)), (2, .int (nI (BY q))), (0, .ref (E.1 + 38)), (1, .int (nI p))]) rfl ?_
                      exact ih136 (l + 0) 0 (by omega) (by first | exact runQ_0 (by omega) | exact runQ_x (by omega) | exact runQ_s hr (by omega) (by omega) | exact runQ_n (l := l) hr (by omega)) (by first | assumption | omega) (by first | assumption | omega) (by first | assumption | omega)
                  · skip
                    refine J_iload dX8_lookAt_180 rfl ?_
                    refine J_callSr (M' := mX8_isSmall) (d' := (2, 0, 0)) (rest := []) dX8_lookAt_182 jmX8_isSmall jlRX8_217 (ctX8_isSmall (BY (q + l))   (by first | assumption | omega)) rfl rfl (Nat.le_of_ble_eq_true rfl) (Nat.le_of_ble_eq_true rfl) ⟨Nat.le_refl _, Nat.le_refl _⟩ ?_
                    refine J_goto (tgt := 193) dX8_lookAt_185 (by decide) ?_
                    have sp34 : (97 ≤ (BY (q + l)) ∧ (BY (q + l)) ≤ 122) ∨ (¬ (97 ≤ (BY (q + l)) ∧ (BY (q + l)) ≤ 122)) := by exact Classical.em _
                    rcases sp34 with sp34 | sp34
                    · skip
                      refine J.stk (st' := [.int (nI 1)]) (congrArg (fun z => z :: []) (by exact jbv1 (by assumption))) ?_
                      refine J_istore_n dX8_lookAt_193 (Nat.le_of_ble_eq_true rfl) (L' := [(3, .int (nI 1)), (4, .int (nI (BY (q + l)))), (2, .int (nI (BY q))), (0, .ref (E.1 + 38)), (1, .int (nI p))]) rfl ?_
                      refine J_aload_n dX8_lookAt_194 rfl ?_
                      refine J_dup dX8_lookAt_195 rfl ?_
                      refine J_get 15 dX8_lookAt_196 jk8 (Nat.le_of_ble_eq_true rfl) jfRX8_208 hset_eq (by omega) rfl ?_
                      refine J_iload_n dX8_lookAt_199 rfl ?_
                      refine J_if_eqN (tgt := 207) dX8_lookAt_200 (by decide) (by omega) (fun z => absurd z (by decide)) (fun _ => ?_)
                      refine J_iconst (v := nI 1) dX8_lookAt_203 (by decide +kernel) ?_
                      refine J_goto (tgt := 208) dX8_lookAt_204 (by decide) ?_
                      refine J_iaddN dX8_lookAt_208 ?_
                      refine J_put 15 dX8_lookAt_209 jk8 (Nat.le_of_ble_eq_true rfl) jfRX8_208 hset_eq (by omega) rfl rfl rfl (Nat.le_of_ble_eq_true rfl) ?_
                      refine J.cast (h' := (hset (hset h 38 (.inr (7, [.ref (E.1 + 39), .ref (E.1 + 40), .ref (E.1 + 41), .ref (E.1 + 42), .long (lN xa), .long (lN xb), .ref (E.1 + 43), .int (nI dt), .ref (E.1 + 44), .ref (E.1 + 45), .int (nI mo), .ref (E.1 + 46), .ref (E.1 + 47), .int (nI bn), .int (nI q), .int (nI l), .int (nI tk0), .int (nI 0), .ref (E.1 + 48), .ref (E.1 + 49)]))) 38 (.inr (7, [.ref (E.1 + 39), .ref (E.1 + 40), .ref (E.1 + 41), .ref (E.1 + 42), .long (lN xa), .long (lN xb), .ref (E.1 + 43), .int (nI dt), .ref (E.1 + 44), .ref (E.1 + 45), .int (nI mo), .ref (E.1 + 46), .ref (E.1 + 47), .int (nI bn), .int (nI q), .int (nI (l + 1)), .int (nI tk0), .int (nI 0), .ref (E.1 + 48), .ref (E.1 + 49)])))) rfl ?_
                      refine J.cast hset_hset ?_
                      refine J_goto (tgt := 136) dX8_lookAt_212 (by decide) ?_
                      refine J.sub [0, 2, 3, 4] (L' := [(3, .int (nI 1)), (2, .int (nI (BY q))), (0, .ref (E.1 + 38)), (1, .int (nI p))]) rfl ?_
                      exact ih136 (l + 1) 1 (by omega) (by first | exact runQ_0 (by omega) | exact runQ_x (by omega) | exact runQ_s hr (by omega) (by omega) | exact runQ_n (l := l) hr (by omega)) (by first | assumption | omega) (by first | assumption | omega) (by first | assumption | omega)
                    · skip
                      refine J.stk (st' := [.int (nI 0)]) (congrArg (fun z => z :: []) (by exact jbv0 (by assumption))) ?_
                      refine J_istore_n dX8_lookAt_193 (Nat.le_of_ble_eq_true rfl) (L' := [(3, .int (nI 0)), (4, .int (nI (BY (q + l)))), (2, .int (nI (BY q))), (0, .ref (E.1 + 38)), (1, .int (nI p))]) rfl ?_
                      refine J_aload_n dX8_lookAt_194 rfl ?_
                      refine J_dup dX8_lookAt_195 rfl ?_
                      refine J_get 15 dX8_lookAt_196 jk8 (Nat.le_of_ble_eq_true rfl) jfRX8_208 hset_eq (by omega) rfl ?_
                      refine J_iload_n dX8_lookAt_199 rfl ?_
                      refine J_if_eqN (tgt := 207) dX8_lookAt_200 (by decide) (by omega) (fun _ => ?_) (fun z => absurd z (by decide))
                      refine J_iconst (v := nI 0) dX8_lookAt_207 (by decide +kernel) ?_
                      refine J_iaddN dX8_lookAt_208 ?_
                      refine J_put 15 dX8_lookAt_209 jk8 (Nat.le_of_ble_eq_true rfl) jfRX8_208 hset_eq (by omega) rfl rfl rfl (Nat.le_of_ble_eq_true rfl) ?_
                      refine J.cast (h' := (hset (hset h 38 (.inr (7, [.ref (E.1 + 39), .ref (E.1 + 40), .ref (E.1 + 41), .ref (E.1 + 42), .long (lN xa), .long (lN xb), .ref (E.1 + 43), .int (nI dt), .ref (E.1 + 44), .ref (E.1 + 45), .int (nI mo), .ref (E.1 + 46), .ref (E.1 + 47), .int (nI bn), .int (nI q), .int (nI l), .int (nI tk0), .int (nI 0), .ref (E.1 + 48), .ref (E.1 + 49)]))) 38 (.inr (7, [.ref (E.1 + 39), .ref (E.1 + 40), .ref (E.1 + 41), .ref (E.1 + 42), .long (lN xa), .long (lN xb), .ref (E.1 + 43), .int (nI dt), .ref (E.1 + 44), .ref (E.1 + 45), .int (nI mo), .ref (E.1 + 46), .ref (E.1 + 47), .int (nI bn), .int (nI q), .int (nI (l + 0)), .int (nI tk0), .int (nI 0), .ref (E.1 + 48), .ref (E.1 + 49)])))) rfl ?_
                      refine J.cast hset_hset ?_
                      refine J_goto (tgt := 136) dX8_lookAt_212 (by decide) ?_
                      refine J.sub [0, 2, 3, 4] (L' := [(3, .int (nI 0)), (2, .int (nI (BY q))), (0, .ref (E.1 + 38)), (1, .int (nI p))]) rfl ?_
                      exact ih136 (l + 0) 0 (by omega) (by first | exact runQ_0 (by omega) | exact runQ_x (by omega) | exact runQ_s hr (by omega) (by omega) | exact runQ_n (l := l) hr (by omega)) (by first | assumption | omega) (by first | assumption | omega) (by first | assumption | omega)
          exact CUT136 (2 * (bn - (q + 1)) + 1 + 1) 1 1 (Nat.lt_succ_self _) (by first | exact runQ_0 (by omega) | exact runQ_x (by omega) | exact runQ_s hr (by omega) (by omega) | exact runQ_n (l := l) hr (by omega)) (by first | assumption | omega) (by first | assumption | omega) (by first | assumption | omega)
      have hx := hBY q (by omega)
      refine J_aload_n dX8_lookAt_70 rfl ?_
      refine J_get 12 dX8_lookAt_71 jk8 (Nat.le_of_ble_eq_true rfl) jfRX8_39 hset_eq (by omega) rfl ?_
      refine J_aload_n dX8_lookAt_74 rfl ?_
      refine J_get 14 dX8_lookAt_75 jk8 (Nat.le_of_ble_eq_true rfl) jfRX8_205 hset_eq (by omega) rfl ?_
      refine J_ialdN (i := q) dX8_lookAt_78 ((hset_ne (by omega)).trans H1) (by omega) (by omega) (by omega) ?_
      refine J_istore_n dX8_lookAt_79 (Nat.le_of_ble_eq_true rfl) (L' := [(2, .int (nI (BY q))), (0, .ref (E.1 + 38)), (1, .int (nI p))]) rfl ?_
      refine J_aload_n dX8_lookAt_80 rfl ?_
      refine J_iload_n dX8_lookAt_81 rfl ?_
      refine J_callSr (M' := mX8_isSmall) (d' := (2, 0, 0)) (rest := [.ref (E.1 + 38)]) dX8_lookAt_82 jmX8_isSmall jlRX8_217 (ctX8_isSmall (BY q)   (by first | assumption | omega)) rfl rfl (Nat.le_of_ble_eq_true rfl) (Nat.le_of_ble_eq_true rfl) ⟨Nat.le_refl _, Nat.le_refl _⟩ ?_
      refine J_if_eqB (tgt := 92) dX8_lookAt_85 (by decide) (fun c37 => ?_) (fun c37 => ?_)
      · skip
        refine J_iload_n dX8_lookAt_92 rfl ?_
        refine J_callSr (M' := mX8_isFigure) (d' := (2, 0, 0)) (rest := [.ref (E.1 + 38)]) dX8_lookAt_93 jmX8_isFigure jlRX8_220 (ctX8_isFigure (BY q)   (by first | assumption | omega)) rfl rfl (Nat.le_of_ble_eq_true rfl) (Nat.le_of_ble_eq_true rfl) ⟨Nat.le_refl _, Nat.le_refl _⟩ ?_
        refine J_if_eqB (tgt := 103) dX8_lookAt_96 (by decide) (fun c38 => ?_) (fun c38 => ?_)
        · skip
          refine J_iload_n dX8_lookAt_103 rfl ?_
          refine J_bipush (v := nI 59) dX8_lookAt_104 (by decide +kernel) ?_
          refine J_icmp_neN (tgt := 113) dX8_lookAt_106 (by decide) (by omega) (by omega) (fun c39 => ?_) (fun c39 => ?_)
          · skip
            refine J_iconst (v := nI 4) dX8_lookAt_113 (by decide +kernel) ?_
            exact CUT114 4 (by first | exact tok0_s (c := F q) (by omega) | exact tok0_f (c := F q) (by omega) | exact tok0_p (c := F q) (by omega) | exact tok0_x (c := F q) (by omega) (by omega) (by omega))
          · skip
            refine J_iconst (v := nI 3) dX8_lookAt_109 (by decide +kernel) ?_
            refine J_goto (tgt := 114) dX8_lookAt_110 (by decide) ?_
            exact CUT114 3 (by first | exact tok0_s (c := F q) (by omega) | exact tok0_f (c := F q) (by omega) | exact tok0_p (c := F q) (by omega) | exact tok0_x (c := F q) (by omega) (by omega) (by omega))
        · skip
          refine J_iconst (v := nI 2) dX8_lookAt_99 (by decide +kernel) ?_
          refine J_goto (tgt := 114) dX8_lookAt_100 (by decide) ?_
          exact CUT114 2 (by first | exact tok0_s (c := F q) (by omega) | exact tok0_f (c := F q) (by omega) | exact tok0_p (c := F q) (by omega) | exact tok0_x (c := F q) (by omega) (by omega) (by omega))
      · skip
        refine J_iconst (v := nI 1) dX8_lookAt_88 (by decide +kernel) ?_
        refine J_goto (tgt := 114) dX8_lookAt_89 (by decide) ?_
        exact CUT114 1 (by first | exact tok0_s (c := F q) (by omega) | exact tok0_f (c := F q) (by omega) | exact tok0_p (c := F q) (by omega) | exact tok0_x (c := F q) (by omega) (by omega) (by omega))
    · skip
      exact J_vret dX8_lookAt_69 rfl ⟨Nat.le_refl _, Nat.le_refl _⟩ (by rw [hPP]; exact ⟨rfl, rfl, 0, (hset_cg rfl (congrArg (fun z => (Sum.inr (7, z) : va_E)) (jS_c rfl (jS_c rfl (jS_c rfl (jS_c rfl (jS_c rfl (jS_c rfl (jS_c rfl (jS_c rfl (jS_c rfl (jS_c rfl (jS_c rfl (jS_c rfl (jS_c rfl (jS_c rfl (jS_c (jv_N (by first | (exfalso; omega) | exact hqs.symm | (rw [hqs, lenQ, if_pos (by omega)]; omega) | (rw [hqs, lenQ, if_neg (by omega)]; done) | (rw [hqs, tokR, if_neg (by omega)]; done) | (rw [hqs, tokR, if_pos (by omega), if_pos ⟨by omega, by omega⟩]; done) | (rw [hqs, tokR, if_pos (by omega), if_neg (by omega)]; exact htk0))) (jS_c (jv_N (by first | (exfalso; omega) | exact hqs.symm | (rw [hqs, lenQ, if_pos (by omega)]; omega) | (rw [hqs, lenQ, if_neg (by omega)]; done) | (rw [hqs, tokR, if_neg (by omega)]; done) | (rw [hqs, tokR, if_pos (by omega), if_pos ⟨by omega, by omega⟩]; done) | (rw [hqs, tokR, if_pos (by omega), if_neg (by omega)]; exact htk0))) (jS_c (jv_N (by first | (exfalso; omega) | exact hqs.symm | (rw [hqs, lenQ, if_pos (by omega)]; omega) | (rw [hqs, lenQ, if_neg (by omega)]; done) | (rw [hqs, tokR, if_neg (by omega)]; done) | (rw [hqs, tokR, if_pos (by omega), if_pos ⟨by omega, by omega⟩]; done) | (rw [hqs, tokR, if_pos (by omega), if_neg (by omega)]; exact htk0))) (jS_c rfl (jS_c rfl (jS_c rfl rfl)))))))))))))))))))))), (by first | (exfalso; omega) | (rw [hqs]; exact lva (by omega) he hl2 (fun _ _ => by omega) (fun _ _ => by omega)) | (rw [hqs]; intro z; rw [tokR, if_neg (by omega)] at z; omega))⟩)
  refine J_aload_n dX8_lookAt_0 rfl ?_
  refine J_iload_n dX8_lookAt_1 rfl ?_
  refine J_put 14 dX8_lookAt_2 jk8 (Nat.le_of_ble_eq_true rfl) jfRX8_205 H0 (by omega) rfl rfl rfl (Nat.le_of_ble_eq_true rfl) ?_
  refine J.cast (h' := (hset h 38 (.inr (7, [.ref (E.1 + 39), .ref (E.1 + 40), .ref (E.1 + 41), .ref (E.1 + 42), .long (lN xa), .long (lN xb), .ref (E.1 + 43), .int (nI dt), .ref (E.1 + 44), .ref (E.1 + 45), .int (nI mo), .ref (E.1 + 46), .ref (E.1 + 47), .int (nI bn), .int (nI p), .int (nI tl), .int (nI tk), .int (nI va), .ref (E.1 + 48), .ref (E.1 + 49)])))) rfl ?_
  have CUT5 : ∀ (f5 : Nat) (q0 : Nat) (hm5 : bn - q0 < f5) (h0a : skipF F bn p = skipF F bn q0) (h0b : q0 ≤ bn), J E mX8_lookAt (3, 0, 0) jS0 PP (hset h 38 (.inr (7, [.ref (E.1 + 39), .ref (E.1 + 40), .ref (E.1 + 41), .ref (E.1 + 42), .long (lN xa), .long (lN xb), .ref (E.1 + 43), .int (nI dt), .ref (E.1 + 44), .ref (E.1 + 45), .int (nI mo), .ref (E.1 + 46), .ref (E.1 + 47), .int (nI bn), .int (nI q0), .int (nI tl), .int (nI tk), .int (nI va), .ref (E.1 + 48), .ref (E.1 + 49)]))) n (0, 0) 5 [(0, .ref (E.1 + 38)), (1, .int (nI p))] [] := by
    intro f5
    induction f5 with
    | zero => intro q0 hm5; exact absurd hm5 (Nat.not_lt_zero _)
    | succ f5 ih5 =>
      intro q0 hm5 h0a h0b
      refine J_aload_n dX8_lookAt_5 rfl ?_
      refine J_get 14 dX8_lookAt_6 jk8 (Nat.le_of_ble_eq_true rfl) jfRX8_205 hset_eq (by omega) rfl ?_
      refine J_aload_n dX8_lookAt_9 rfl ?_
      refine J_get 13 dX8_lookAt_10 jk8 (Nat.le_of_ble_eq_true rfl) jfRX8_194 hset_eq (by omega) rfl ?_
      refine J_icmp_geN (tgt := 43) dX8_lookAt_13 (by decide) (by omega) (by omega) (fun c40 => ?_) (fun c40 => ?_)
      · skip
        exact CUT43 q0 (by first | (rw [h0a]; exact skipF_end (by omega)) | (rw [h0a]; exact skipF_no (by omega))) (by first | assumption | omega)
      · skip
        refine J_aload_n dX8_lookAt_16 rfl ?_
        refine J_get 12 dX8_lookAt_17 jk8 (Nat.le_of_ble_eq_true rfl) jfRX8_39 hset_eq (by omega) rfl ?_
        refine J_aload_n dX8_lookAt_20 rfl ?_
        refine J_get 14 dX8_lookAt_21 jk8 (Nat.le_of_ble_eq_true rfl) jfRX8_205 hset_eq (by omega) rfl ?_
        refine J_ialdN (i := q0) dX8_lookAt_24 ((hset_ne (by omega)).trans H1) (by omega) (by omega) (by omega) ?_
        have hx := hBY q0 (by omega)
        refine J_bipush (v := nI 32) dX8_lookAt_25 (by decide +kernel) ?_
        refine J_icmp_neN (tgt := 43) dX8_lookAt_27 (by decide) (by omega) (by omega) (fun c41 => ?_) (fun c41 => ?_)
        · skip
          exact CUT43 q0 (by first | (rw [h0a]; exact skipF_end (by omega)) | (rw [h0a]; exact skipF_no (by omega))) (by first | assumption | omega)
        · skip
          refine J_aload_n dX8_lookAt_30 rfl ?_
          refine J_dup dX8_lookAt_31 rfl ?_
          refine J_get 14 dX8_lookAt_32 jk8 (Nat.le_of_ble_eq_true rfl) jfRX8_205 hset_eq (by omega) rfl ?_
          refine J_iconst (v := nI 1) dX8_lookAt_35 (by decide +kernel) ?_
          refine J_iaddN dX8_lookAt_36 ?_
          refine J_put 14 dX8_lookAt_37 jk8 (Nat.le_of_ble_eq_true rfl) jfRX8_205 hset_eq (by omega) rfl rfl rfl (Nat.le_of_ble_eq_true rfl) ?_
          refine J.cast (h' := (hset (hset h 38 (.inr (7, [.ref (E.1 + 39), .ref (E.1 + 40), .ref (E.1 + 41), .ref (E.1 + 42), .long (lN xa), .long (lN xb), .ref (E.1 + 43), .int (nI dt), .ref (E.1 + 44), .ref (E.1 + 45), .int (nI mo), .ref (E.1 + 46), .ref (E.1 + 47), .int (nI bn), .int (nI q0), .int (nI tl), .int (nI tk), .int (nI va), .ref (E.1 + 48), .ref (E.1 + 49)]))) 38 (.inr (7, [.ref (E.1 + 39), .ref (E.1 + 40), .ref (E.1 + 41), .ref (E.1 + 42), .long (lN xa), .long (lN xb), .ref (E.1 + 43), .int (nI dt), .ref (E.1 + 44), .ref (E.1 + 45), .int (nI mo), .ref (E.1 + 46), .ref (E.1 + 47), .int (nI bn), .int (nI (q0 + 1)), .int (nI tl), .int (nI tk), .int (nI va), .ref (E.1 + 48), .ref (E.1 + 49)])))) rfl ?_
          refine J.cast hset_hset ?_
          refine J_goto (tgt := 5) dX8_lookAt_40 (by decide) ?_
          exact ih5 (q0 + 1) (by omega) (by first | rfl | (rw [h0a]; exact skipF_sp (by omega) (by omega))) (by first | assumption | omega)
  exact CUT5 (bn - p + 1) p (Nat.lt_succ_self _) (by first | rfl | (rw [h0a]; exact skipF_sp (by omega) (by omega))) (by first | assumption | omega)

set_option maxHeartbeats 1000000 in
set_option maxRecDepth 100000 in
theorem ctX8_goBehind {E : jE} {h : Nat → va_E} {n : Nat} (i : Nat) (xa : Nat) (xb : Nat) (dt : Nat) (mo : Nat) (bn : Nat) (ta : Nat) (tl : Nat) (tk : Nat) (va : Nat) (BY : Nat → Nat) (F : Nat → Nat) (H0 : h 38 = .inr (7, [.ref (E.1 + 39), .ref (E.1 + 40), .ref (E.1 + 41), .ref (E.1 + 42), .long (lN xa), .long (lN xb), .ref (E.1 + 43), .int (nI dt), .ref (E.1 + 44), .ref (E.1 + 45), .int (nI mo), .ref (E.1 + 46), .ref (E.1 + 47), .int (nI bn), .int (nI ta), .int (nI tl), .int (nI tk), .int (nI va), .ref (E.1 + 48), .ref (E.1 + 49)])) (H1 : h 47 = cI E 150 (nF BY)) (hn : 50 ≤ n) (hBY : ∀ zz, zz < bn → BY zz = F zz ∧ F zz ≤ 127) (hbn : bn ≤ 150) (hst : stQ F bn i ta tl tk va) : jC E mX8_goBehind (4, 0, 0) [.ref (E.1 + 38)] h n (fun v h' n' => v = none ∧ n' = n ∧ ∃ (ta1 : Nat) (tl1 : Nat) (tk1 : Nat) (va1 : Nat), h' = (hset h 38 (.inr (7, [.ref (E.1 + 39), .ref (E.1 + 40), .ref (E.1 + 41), .ref (E.1 + 42), .long (lN xa), .long (lN xb), .ref (E.1 + 43), .int (nI dt), .ref (E.1 + 44), .ref (E.1 + 45), .int (nI mo), .ref (E.1 + 46), .ref (E.1 + 47), .int (nI bn), .int (nI ta1), .int (nI tl1), .int (nI tk1), .int (nI va1), .ref (E.1 + 48), .ref (E.1 + 49)]))) ∧ (stQ F bn (i + 1) ta1 tl1 tk1 va1)) := by
  refine J.of (L := [(0, .ref (E.1 + 38))]) rfl (by decide +kernel) (Nat.le_of_ble_eq_true rfl) ?_
  obtain ⟨PP, hPP⟩ : ∃ PP : jPost, PP = (fun v h' n' => v = none ∧ n' = n ∧ ∃ (ta1 : Nat) (tl1 : Nat) (tk1 : Nat) (va1 : Nat), h' = (hset h 38 (.inr (7, [.ref (E.1 + 39), .ref (E.1 + 40), .ref (E.1 + 41), .ref (E.1 + 42), .long (lN xa), .long (lN xb), .ref (E.1 + 43), .int (nI dt), .ref (E.1 + 44), .ref (E.1 + 45), .int (nI mo), .ref (E.1 + 46), .ref (E.1 + 47), .int (nI bn), .int (nI ta1), .int (nI tl1), .int (nI tk1), .int (nI va1), .ref (E.1 + 48), .ref (E.1 + 49)]))) ∧ (stQ F bn (i + 1) ta1 tl1 tk1 va1)) := ⟨_, rfl⟩
  rw [← hPP]
  have hl6 := hst.2.2.2.2.2
  refine J_aload_n dX8_goBehind_0 rfl ?_
  refine J_aload_n dX8_goBehind_1 rfl ?_
  refine J_get 14 dX8_goBehind_2 jk8 (Nat.le_of_ble_eq_true rfl) jfRX8_205 H0 (by omega) rfl ?_
  refine J_aload_n dX8_goBehind_5 rfl ?_
  refine J_get 15 dX8_goBehind_6 jk8 (Nat.le_of_ble_eq_true rfl) jfRX8_208 H0 (by omega) rfl ?_
  refine J_iaddN dX8_goBehind_9 ?_
  refine J_callV (M' := mX8_lookAt) (d' := (3, 0, 0)) (rest := []) dX8_goBehind_10 jmX8_lookAt jlRX8_223 (ctX8_lookAt (ta + tl) xa xb dt mo bn ta tl tk va BY F H0 H1 (by omega) (by first | assumption | omega) (by first | assumption | omega) (by first | assumption | omega)) H0 (by omega) jk8.1 rfl rfl (Nat.le_of_ble_eq_true rfl) (Nat.le_of_ble_eq_true rfl) (by constructor <;> decide +kernel) (fun v9 h9 n9 q9 => ?_)
  obtain ⟨rfl, hn9, va1_1, rfl, hva_2⟩ := q9
  replace hn9 := hn9.symm
  subst hn9
  refine J.stk (st' := []) rfl ?_
  have hv1 := hva_2
  exact J_vret dX8_goBehind_13 rfl ⟨Nat.le_refl _, Nat.le_refl _⟩ (by rw [hPP]; exact ⟨rfl, rfl, (skipF F bn (ta + tl)), (lenQ F bn (skipF F bn (ta + tl))), (tokR F bn (skipF F bn (ta + tl))), va1_1, rfl, (by exact stQ_nx hst hv1)⟩)

set_option maxHeartbeats 1000000 in
set_option maxRecDepth 100000 in
theorem ctX8_spells_0 {E : jE} {h : Nat → va_E} {n : Nat} (i : Nat) (xa : Nat) (xb : Nat) (dt : Nat) (mo : Nat) (bn : Nat) (ta : Nat) (tl : Nat) (tk : Nat) (va : Nat) (BY : Nat → Nat) (F : Nat → Nat) (H0 : h 38 = .inr (7, [.ref (E.1 + 39), .ref (E.1 + 40), .ref (E.1 + 41), .ref (E.1 + 42), .long (lN xa), .long (lN xb), .ref (E.1 + 43), .int (nI dt), .ref (E.1 + 44), .ref (E.1 + 45), .int (nI mo), .ref (E.1 + 46), .ref (E.1 + 47), .int (nI bn), .int (nI ta), .int (nI tl), .int (nI tk), .int (nI va), .ref (E.1 + 48), .ref (E.1 + 49)])) (H1 : h 47 = cI E 150 (nF BY)) (hn : 50 ≤ n) (hBY : ∀ zz, zz < bn → BY zz = F zz ∧ F zz ≤ 127) (hbn : bn ≤ 150) (hst : stQ F bn i ta tl tk va) : jC E mX8_spells (1, 0, 0) [.ref (E.1 + 38), .int (nI 6), .int (nI 115), .int (nI 116), .int (nI 114), .int (nI 101), .int (nI 101), .int (nI 116)] h n (jR (some (.int (jb (kT F bn i = 1)))) h n) := by
  refine J.of (L := [(0, .ref (E.1 + 38)), (1, .int (nI 6)), (2, .int (nI 115)), (3, .int (nI 116)), (4, .int (nI 114)), (5, .int (nI 101)), (6, .int (nI 101)), (7, .int (nI 116))]) rfl (by decide +kernel) (Nat.le_of_ble_eq_true rfl) ?_
  obtain ⟨PP, hPP⟩ : ∃ PP : jPost, PP = (jR (some (.int (jb (kT F bn i = 1)))) h n) := ⟨_, rfl⟩
  rw [← hPP]
  have hl6 := hst.2.2.2.2.2
  have hl5 := hst.2.2.2.2.1
  have sw := spw_0 hst
  refine J_aload_n dX8_spells_0 rfl ?_
  refine J_get 16 dX8_spells_1 jk8 (Nat.le_of_ble_eq_true rfl) jfRX8_211 H0 (by omega) rfl ?_
  refine J_iconst (v := nI 1) dX8_spells_4 (by decide +kernel) ?_
  refine J_icmp_neN (tgt := 20) dX8_spells_5 (by decide) (by omega) (by omega) (fun c1 => ?_) (fun c1 => ?_)
  · skip
    refine J_iconst (v := nI 0) dX8_spells_20 (by decide +kernel) ?_
    refine J_istore dX8_spells_21 (Nat.le_of_ble_eq_true rfl) (L' := [(8, .int (nI 0)), (0, .ref (E.1 + 38)), (1, .int (nI 6)), (2, .int (nI 115)), (3, .int (nI 116)), (4, .int (nI 114)), (5, .int (nI 101)), (6, .int (nI 101)), (7, .int (nI 116))]) rfl ?_
    refine J_iconst (v := nI 0) dX8_spells_23 (by decide +kernel) ?_
    refine J_istore dX8_spells_24 (Nat.le_of_ble_eq_true rfl) (L' := [(9, .int (nI 0)), (8, .int (nI 0)), (0, .ref (E.1 + 38)), (1, .int (nI 6)), (2, .int (nI 115)), (3, .int (nI 116)), (4, .int (nI 114)), (5, .int (nI 101)), (6, .int (nI 101)), (7, .int (nI 116))]) rfl ?_
    refine J_iload dX8_spells_26 rfl ?_
    refine J_iload_n dX8_spells_28 rfl ?_
    refine J_icmp_geN (tgt := 119) dX8_spells_29 (by decide) (by omega) (by omega) (fun z => absurd z (by decide)) (fun _ => ?_)
    refine J_iload dX8_spells_32 rfl ?_
    refine J_if_eqN (tgt := 119) dX8_spells_34 (by decide) (by omega) (fun _ => ?_) (fun z => absurd z (by decide))
    refine J_iload dX8_spells_119 rfl ?_
    exact J_zret dX8_spells_121 rfl rfl ⟨Nat.le_refl _, Nat.le_refl _⟩ (by rw [hPP]; exact ⟨(congrArg some (Option.some.inj (jret_B0 (by omega)))), rfl, rfl⟩)
  · skip
    refine J_aload_n dX8_spells_8 rfl ?_
    refine J_get 15 dX8_spells_9 jk8 (Nat.le_of_ble_eq_true rfl) jfRX8_208 H0 (by omega) rfl ?_
    refine J_iload_n dX8_spells_12 rfl ?_
    refine J_icmp_neN (tgt := 20) dX8_spells_13 (by decide) (by omega) (by omega) (fun c4 => ?_) (fun c4 => ?_)
    · skip
      refine J_iconst (v := nI 0) dX8_spells_20 (by decide +kernel) ?_
      refine J_istore dX8_spells_21 (Nat.le_of_ble_eq_true rfl) (L' := [(8, .int (nI 0)), (0, .ref (E.1 + 38)), (1, .int (nI 6)), (2, .int (nI 115)), (3, .int (nI 116)), (4, .int (nI 114)), (5, .int (nI 101)), (6, .int (nI 101)), (7, .int (nI 116))]) rfl ?_
      refine J_iconst (v := nI 0) dX8_spells_23 (by decide +kernel) ?_
      refine J_istore dX8_spells_24 (Nat.le_of_ble_eq_true rfl) (L' := [(9, .int (nI 0)), (8, .int (nI 0)), (0, .ref (E.1 + 38)), (1, .int (nI 6)), (2, .int (nI 115)), (3, .int (nI 116)), (4, .int (nI 114)), (5, .int (nI 101)), (6, .int (nI 101)), (7, .int (nI 116))]) rfl ?_
      refine J_iload dX8_spells_26 rfl ?_
      refine J_iload_n dX8_spells_28 rfl ?_
      refine J_icmp_geN (tgt := 119) dX8_spells_29 (by decide) (by omega) (by omega) (fun z => absurd z (by decide)) (fun _ => ?_)
      refine J_iload dX8_spells_32 rfl ?_
      refine J_if_eqN (tgt := 119) dX8_spells_34 (by decide) (by omega) (fun _ => ?_) (fun z => absurd z (by decide))
      refine J_iload dX8_spells_119 rfl ?_
      exact J_zret dX8_spells_121 rfl rfl ⟨Nat.le_refl _, Nat.le_refl _⟩ (by rw [hPP]; exact ⟨(congrArg some (Option.some.inj (jret_B0 (by omega)))), rfl, rfl⟩)
    · skip
      refine J_iconst (v := nI 1) dX8_spells_16 (by decide +kernel) ?_
      refine J_goto (tgt := 21) dX8_spells_17 (by decide) ?_
      refine J_istore dX8_spells_21 (Nat.le_of_ble_eq_true rfl) (L' := [(8, .int (nI 1)), (0, .ref (E.1 + 38)), (1, .int (nI 6)), (2, .int (nI 115)), (3, .int (nI 116)), (4, .int (nI 114)), (5, .int (nI 101)), (6, .int (nI 101)), (7, .int (nI 116))]) rfl ?_
      refine J_iconst (v := nI 0) dX8_spells_23 (by decide +kernel) ?_
      refine J_istore dX8_spells_24 (Nat.le_of_ble_eq_true rfl) (L' := [(9, .int (nI 0)), (8, .int (nI 1)), (0, .ref (E.1 + 38)), (1, .int (nI 6)), (2, .int (nI 115)), (3, .int (nI 116)), (4, .int (nI 114)), (5, .int (nI 101)), (6, .int (nI 101)), (7, .int (nI 116))]) rfl ?_
      refine J_iload dX8_spells_26 rfl ?_
      refine J_iload_n dX8_spells_28 rfl ?_
      refine J_icmp_geN (tgt := 119) dX8_spells_29 (by decide) (by omega) (by omega) (fun z => absurd z (by decide)) (fun _ => ?_)
      refine J_iload dX8_spells_32 rfl ?_
      refine J_if_eqN (tgt := 119) dX8_spells_34 (by decide) (by omega) (fun z => absurd z (by decide)) (fun _ => ?_)
      refine J_aload_n dX8_spells_37 rfl ?_
      refine J_get 12 dX8_spells_38 jk8 (Nat.le_of_ble_eq_true rfl) jfRX8_39 H0 (by omega) rfl ?_
      refine J_aload_n dX8_spells_41 rfl ?_
      refine J_get 14 dX8_spells_42 jk8 (Nat.le_of_ble_eq_true rfl) jfRX8_205 H0 (by omega) rfl ?_
      refine J_iload dX8_spells_45 rfl ?_
      refine J_iaddN dX8_spells_47 ?_
      refine J_ialdN (i := ta + 0) dX8_spells_48 H1 (by omega) (by omega) (by omega) ?_
      have hy := hBY (ta + 0) (by omega)
      refine J_iload dX8_spells_49 rfl ?_
      refine J_if_neN (tgt := 58) dX8_spells_51 (by decide) (by omega) (fun z => absurd z (by decide)) (fun _ => ?_)
      refine J_iload_n dX8_spells_54 rfl ?_
      refine J_goto (tgt := 103) dX8_spells_55 (by decide) ?_
      refine J_icmp_neN (tgt := 110) dX8_spells_103 (by decide) (by omega) (by omega) (fun c10 => ?_) (fun c10 => ?_)
      · skip
        refine J_iconst (v := nI 0) dX8_spells_110 (by decide +kernel) ?_
        refine J_istore dX8_spells_111 (Nat.le_of_ble_eq_true rfl) (L' := [(8, .int (nI 0)), (9, .int (nI 0)), (0, .ref (E.1 + 38)), (1, .int (nI 6)), (2, .int (nI 115)), (3, .int (nI 116)), (4, .int (nI 114)), (5, .int (nI 101)), (6, .int (nI 101)), (7, .int (nI 116))]) rfl ?_
        refine J_iincN (q := 1) (a := 0) (m := 1) dX8_spells_113 rfl (by decide +kernel) (Nat.le_of_ble_eq_true rfl) (L' := [(9, .int (nI 1)), (8, .int (nI 0)), (0, .ref (E.1 + 38)), (1, .int (nI 6)), (2, .int (nI 115)), (3, .int (nI 116)), (4, .int (nI 114)), (5, .int (nI 101)), (6, .int (nI 101)), (7, .int (nI 116))]) rfl ?_
        refine J_goto (tgt := 26) dX8_spells_116 (by decide) ?_
        refine J_iload dX8_spells_26 rfl ?_
        refine J_iload_n dX8_spells_28 rfl ?_
        refine J_icmp_geN (tgt := 119) dX8_spells_29 (by decide) (by omega) (by omega) (fun z => absurd z (by decide)) (fun _ => ?_)
        refine J_iload dX8_spells_32 rfl ?_
        refine J_if_eqN (tgt := 119) dX8_spells_34 (by decide) (by omega) (fun _ => ?_) (fun z => absurd z (by decide))
        refine J_iload dX8_spells_119 rfl ?_
        exact J_zret dX8_spells_121 rfl rfl ⟨Nat.le_refl _, Nat.le_refl _⟩ (by rw [hPP]; exact ⟨(congrArg some (Option.some.inj (jret_B0 (by omega)))), rfl, rfl⟩)
      · skip
        refine J_iconst (v := nI 1) dX8_spells_106 (by decide +kernel) ?_
        refine J_goto (tgt := 111) dX8_spells_107 (by decide) ?_
        refine J_istore dX8_spells_111 (Nat.le_of_ble_eq_true rfl) (L' := [(8, .int (nI 1)), (9, .int (nI 0)), (0, .ref (E.1 + 38)), (1, .int (nI 6)), (2, .int (nI 115)), (3, .int (nI 116)), (4, .int (nI 114)), (5, .int (nI 101)), (6, .int (nI 101)), (7, .int (nI 116))]) rfl ?_
        refine J_iincN (q := 1) (a := 0) (m := 1) dX8_spells_113 rfl (by decide +kernel) (Nat.le_of_ble_eq_true rfl) (L' := [(9, .int (nI 1)), (8, .int (nI 1)), (0, .ref (E.1 + 38)), (1, .int (nI 6)), (2, .int (nI 115)), (3, .int (nI 116)), (4, .int (nI 114)), (5, .int (nI 101)), (6, .int (nI 101)), (7, .int (nI 116))]) rfl ?_
        refine J_goto (tgt := 26) dX8_spells_116 (by decide) ?_
        refine J_iload dX8_spells_26 rfl ?_
        refine J_iload_n dX8_spells_28 rfl ?_
        refine J_icmp_geN (tgt := 119) dX8_spells_29 (by decide) (by omega) (by omega) (fun z => absurd z (by decide)) (fun _ => ?_)
        refine J_iload dX8_spells_32 rfl ?_
        refine J_if_eqN (tgt := 119) dX8_spells_34 (by decide) (by omega) (fun z => absurd z (by decide)) (fun _ => ?_)
        refine J_aload_n dX8_spells_37 rfl ?_
        refine J_get 12 dX8_spells_38 jk8 (Nat.le_of_ble_eq_true rfl) jfRX8_39 H0 (by omega) rfl ?_
        refine J_aload_n dX8_spells_41 rfl ?_
        refine J_get 14 dX8_spells_42 jk8 (Nat.le_of_ble_eq_true rfl) jfRX8_205 H0 (by omega) rfl ?_
        refine J_iload dX8_spells_45 rfl ?_
        refine J_iaddN dX8_spells_47 ?_
        refine J_ialdN (i := ta + 1) dX8_spells_48 H1 (by omega) (by omega) (by omega) ?_
        have hy := hBY (ta + 1) (by omega)
        refine J_iload dX8_spells_49 rfl ?_
        refine J_if_neN (tgt := 58) dX8_spells_51 (by decide) (by omega) (fun _ => ?_) (fun z => absurd z (by decide))
        refine J_iload dX8_spells_58 rfl ?_
        refine J_iconst (v := nI 1) dX8_spells_60 (by decide +kernel) ?_
        refine J_icmp_neN (tgt := 68) dX8_spells_61 (by decide) (by omega) (by omega) (fun z => absurd z (by decide)) (fun _ => ?_)
        refine J_iload_n dX8_spells_64 rfl ?_
        refine J_goto (tgt := 103) dX8_spells_65 (by decide) ?_
        refine J_icmp_neN (tgt := 110) dX8_spells_103 (by decide) (by omega) (by omega) (fun c17 => ?_) (fun c17 => ?_)
        · skip
          refine J_iconst (v := nI 0) dX8_spells_110 (by decide +kernel) ?_
          refine J_istore dX8_spells_111 (Nat.le_of_ble_eq_true rfl) (L' := [(8, .int (nI 0)), (9, .int (nI 1)), (0, .ref (E.1 + 38)), (1, .int (nI 6)), (2, .int (nI 115)), (3, .int (nI 116)), (4, .int (nI 114)), (5, .int (nI 101)), (6, .int (nI 101)), (7, .int (nI 116))]) rfl ?_
          refine J_iincN (q := 1) (a := 1) (m := 1) dX8_spells_113 rfl (by decide +kernel) (Nat.le_of_ble_eq_true rfl) (L' := [(9, .int (nI 2)), (8, .int (nI 0)), (0, .ref (E.1 + 38)), (1, .int (nI 6)), (2, .int (nI 115)), (3, .int (nI 116)), (4, .int (nI 114)), (5, .int (nI 101)), (6, .int (nI 101)), (7, .int (nI 116))]) rfl ?_
          refine J_goto (tgt := 26) dX8_spells_116 (by decide) ?_
          refine J_iload dX8_spells_26 rfl ?_
          refine J_iload_n dX8_spells_28 rfl ?_
          refine J_icmp_geN (tgt := 119) dX8_spells_29 (by decide) (by omega) (by omega) (fun z => absurd z (by decide)) (fun _ => ?_)
          refine J_iload dX8_spells_32 rfl ?_
          refine J_if_eqN (tgt := 119) dX8_spells_34 (by decide) (by omega) (fun _ => ?_) (fun z => absurd z (by decide))
          refine J_iload dX8_spells_119 rfl ?_
          exact J_zret dX8_spells_121 rfl rfl ⟨Nat.le_refl _, Nat.le_refl _⟩ (by rw [hPP]; exact ⟨(congrArg some (Option.some.inj (jret_B0 (by omega)))), rfl, rfl⟩)
        · skip
          refine J_iconst (v := nI 1) dX8_spells_106 (by decide +kernel) ?_
          refine J_goto (tgt := 111) dX8_spells_107 (by decide) ?_
          refine J_istore dX8_spells_111 (Nat.le_of_ble_eq_true rfl) (L' := [(8, .int (nI 1)), (9, .int (nI 1)), (0, .ref (E.1 + 38)), (1, .int (nI 6)), (2, .int (nI 115)), (3, .int (nI 116)), (4, .int (nI 114)), (5, .int (nI 101)), (6, .int (nI 101)), (7, .int (nI 116))]) rfl ?_
          refine J_iincN (q := 1) (a := 1) (m := 1) dX8_spells_113 rfl (by decide +kernel) (Nat.le_of_ble_eq_true rfl) (L' := [(9, .int (nI 2)), (8, .int (nI 1)), (0, .ref (E.1 + 38)), (1, .int (nI 6)), (2, .int (nI 115)), (3, .int (nI 116)), (4, .int (nI 114)), (5, .int (nI 101)), (6, .int (nI 101)), (7, .int (nI 116))]) rfl ?_
          refine J_goto (tgt := 26) dX8_spells_116 (by decide) ?_
          refine J_iload dX8_spells_26 rfl ?_
          refine J_iload_n dX8_spells_28 rfl ?_
          refine J_icmp_geN (tgt := 119) dX8_spells_29 (by decide) (by omega) (by omega) (fun z => absurd z (by decide)) (fun _ => ?_)
          refine J_iload dX8_spells_32 rfl ?_
          refine J_if_eqN (tgt := 119) dX8_spells_34 (by decide) (by omega) (fun z => absurd z (by decide)) (fun _ => ?_)
          refine J_aload_n dX8_spells_37 rfl ?_
          refine J_get 12 dX8_spells_38 jk8 (Nat.le_of_ble_eq_true rfl) jfRX8_39 H0 (by omega) rfl ?_
          refine J_aload_n dX8_spells_41 rfl ?_
          refine J_get 14 dX8_spells_42 jk8 (Nat.le_of_ble_eq_true rfl) jfRX8_205 H0 (by omega) rfl ?_
          refine J_iload dX8_spells_45 rfl ?_
          refine J_iaddN dX8_spells_47 ?_
          refine J_ialdN (i := ta + 2) dX8_spells_48 H1 (by omega) (by omega) (by omega) ?_
          have hy := hBY (ta + 2) (by omega)
          refine J_iload dX8_spells_49 rfl ?_
          refine J_if_neN (tgt := 58) dX8_spells_51 (by decide) (by omega) (fun _ => ?_) (fun z => absurd z (by decide))
          refine J_iload dX8_spells_58 rfl ?_
          refine J_iconst (v := nI 1) dX8_spells_60 (by decide +kernel) ?_
          refine J_icmp_neN (tgt := 68) dX8_spells_61 (by decide) (by omega) (by omega) (fun _ => ?_) (fun z => absurd z (by decide))
          refine J_iload dX8_spells_68 rfl ?_
          refine J_iconst (v := nI 2) dX8_spells_70 (by decide +kernel) ?_
          refine J_icmp_neN (tgt := 79) dX8_spells_71 (by decide) (by omega) (by omega) (fun z => absurd z (by decide)) (fun _ => ?_)
          refine J_iload dX8_spells_74 rfl ?_
          refine J_goto (tgt := 103) dX8_spells_76 (by decide) ?_
          refine J_icmp_neN (tgt := 110) dX8_spells_103 (by decide) (by omega) (by omega) (fun c25 => ?_) (fun c25 => ?_)
          · skip
            refine J_iconst (v := nI 0) dX8_spells_110 (by decide +kernel) ?_
            refine J_istore dX8_spells_111 (Nat.le_of_ble_eq_true rfl) (L' := [(8, .int (nI 0)), (9, .int (nI 2)), (0, .ref (E.1 + 38)), (1, .int (nI 6)), (2, .int (nI 115)), (3, .int (nI 116)), (4, .int (nI 114)), (5, .int (nI 101)), (6, .int (nI 101)), (7, .int (nI 116))]) rfl ?_
            refine J_iincN (q := 1) (a := 2) (m := 1) dX8_spells_113 rfl (by decide +kernel) (Nat.le_of_ble_eq_true rfl) (L' := [(9, .int (nI 3)), (8, .int (nI 0)), (0, .ref (E.1 + 38)), (1, .int (nI 6)), (2, .int (nI 115)), (3, .int (nI 116)), (4, .int (nI 114)), (5, .int (nI 101)), (6, .int (nI 101)), (7, .int (nI 116))]) rfl ?_
            refine J_goto (tgt := 26) dX8_spells_116 (by decide) ?_
            refine J_iload dX8_spells_26 rfl ?_
            refine J_iload_n dX8_spells_28 rfl ?_
            refine J_icmp_geN (tgt := 119) dX8_spells_29 (by decide) (by omega) (by omega) (fun z => absurd z (by decide)) (fun _ => ?_)
            refine J_iload dX8_spells_32 rfl ?_
            refine J_if_eqN (tgt := 119) dX8_spells_34 (by decide) (by omega) (fun _ => ?_) (fun z => absurd z (by decide))
            refine J_iload dX8_spells_119 rfl ?_
            exact J_zret dX8_spells_121 rfl rfl ⟨Nat.le_refl _, Nat.le_refl _⟩ (by rw [hPP]; exact ⟨(congrArg some (Option.some.inj (jret_B0 (by omega)))), rfl, rfl⟩)
          · skip
            refine J_iconst (v := nI 1) dX8_spells_106 (by decide +kernel) ?_
            refine J_goto (tgt := 111) dX8_spells_107 (by decide) ?_
            refine J_istore dX8_spells_111 (Nat.le_of_ble_eq_true rfl) (L' := [(8, .int (nI 1)), (9, .int (nI 2)), (0, .ref (E.1 + 38)), (1, .int (nI 6)), (2, .int (nI 115)), (3, .int (nI 116)), (4, .int (nI 114)), (5, .int (nI 101)), (6, .int (nI 101)), (7, .int (nI 116))]) rfl ?_
            refine J_iincN (q := 1) (a := 2) (m := 1) dX8_spells_113 rfl (by decide +kernel) (Nat.le_of_ble_eq_true rfl) (L' := [(9, .int (nI 3)), (8, .int (nI 1)), (0, .ref (E.1 + 38)), (1, .int (nI 6)), (2, .int (nI 115)), (3, .int (nI 116)), (4, .int (nI 114)), (5, .int (nI 101)), (6, .int (nI 101)), (7, .int (nI 116))]) rfl ?_
            refine J_goto (tgt := 26) dX8_spells_116 (by decide) ?_
            refine J_iload dX8_spells_26 rfl ?_
            refine J_iload_n dX8_spells_28 rfl ?_
            refine J_icmp_geN (tgt := 119) dX8_spells_29 (by decide) (by omega) (by omega) (fun z => absurd z (by decide)) (fun _ => ?_)
            refine J_iload dX8_spells_32 rfl ?_
            refine J_if_eqN (tgt := 119) dX8_spells_34 (by decide) (by omega) (fun z => absurd z (by decide)) (fun _ => ?_)
            refine J_aload_n dX8_spells_37 rfl ?_
            refine J_get 12 dX8_spells_38 jk8 (Nat.le_of_ble_eq_true rfl) jfRX8_39 H0 (by omega) rfl ?_
            refine J_aload_n dX8_spells_41 rfl ?_
            refine J_get 14 dX8_spells_42 jk8 (Nat.le_of_ble_eq_true rfl) jfRX8_205 H0 (by omega) rfl ?_
            refine J_iload dX8_spells_45 rfl ?_
            refine J_iaddN dX8_spells_47 ?_
            refine J_ialdN (i := ta + 3) dX8_spells_48 H1 (by omega) (by omega) (by omega) ?_
            have hy := hBY (ta + 3) (by omega)
            refine J_iload dX8_spells_49 rfl ?_
            refine J_if_neN (tgt := 58) dX8_spells_51 (by decide) (by omega) (fun _ => ?_) (fun z => absurd z (by decide))
            refine J_iload dX8_spells_58 rfl ?_
            refine J_iconst (v := nI 1) dX8_spells_60 (by decide +kernel) ?_
            refine J_icmp_neN (tgt := 68) dX8_spells_61 (by decide) (by omega) (by omega) (fun _ => ?_) (fun z => absurd z (by decide))
            refine J_iload dX8_spells_68 rfl ?_
            refine J_iconst (v := nI 2) dX8_spells_70 (by decide +kernel) ?_
            refine J_icmp_neN (tgt := 79) dX8_spells_71 (by decide) (by omega) (by omega) (fun _ => ?_) (fun z => absurd z (by decide))
            refine J_iload dX8_spells_79 rfl ?_
            refine J_iconst (v := nI 3) dX8_spells_81 (by decide +kernel) ?_
            refine J_icmp_neN (tgt := 90) dX8_spells_82 (by decide) (by omega) (by omega) (fun z => absurd z (by decide)) (fun _ => ?_)
            refine J_iload dX8_spells_85 rfl ?_
            refine J_goto (tgt := 103) dX8_spells_87 (by decide) ?_
            refine J_icmp_neN (tgt := 110) dX8_spells_103 (by decide) (by omega) (by omega) (fun c34 => ?_) (fun c34 => ?_)
            · skip
              refine J_iconst (v := nI 0) dX8_spells_110 (by decide +kernel) ?_
              refine J_istore dX8_spells_111 (Nat.le_of_ble_eq_true rfl) (L' := [(8, .int (nI 0)), (9, .int (nI 3)), (0, .ref (E.1 + 38)), (1, .int (nI 6)), (2, .int (nI 115)), (3, .int (nI 116)), (4, .int (nI 114)), (5, .int (nI 101)), (6, .int (nI 101)), (7, .int (nI 116))]) rfl ?_
              refine J_iincN (q := 1) (a := 3) (m := 1) dX8_spells_113 rfl (by decide +kernel) (Nat.le_of_ble_eq_true rfl) (L' := [(9, .int (nI 4)), (8, .int (nI 0)), (0, .ref (E.1 + 38)), (1, .int (nI 6)), (2, .int (nI 115)), (3, .int (nI 116)), (4, .int (nI 114)), (5, .int (nI 101)), (6, .int (nI 101)), (7, .int (nI 116))]) rfl ?_
              refine J_goto (tgt := 26) dX8_spells_116 (by decide) ?_
              refine J_iload dX8_spells_26 rfl ?_
              refine J_iload_n dX8_spells_28 rfl ?_
              refine J_icmp_geN (tgt := 119) dX8_spells_29 (by decide) (by omega) (by omega) (fun z => absurd z (by decide)) (fun _ => ?_)
              refine J_iload dX8_spells_32 rfl ?_
              refine J_if_eqN (tgt := 119) dX8_spells_34 (by decide) (by omega) (fun _ => ?_) (fun z => absurd z (by decide))
              refine J_iload dX8_spells_119 rfl ?_
              exact J_zret dX8_spells_121 rfl rfl ⟨Nat.le_refl _, Nat.le_refl _⟩ (by rw [hPP]; exact ⟨(congrArg some (Option.some.inj (jret_B0 (by omega)))), rfl, rfl⟩)
            · skip
              refine J_iconst (v := nI 1) dX8_spells_106 (by decide +kernel) ?_
              refine J_goto (tgt := 111) dX8_spells_107 (by decide) ?_
              refine J_istore dX8_spells_111 (Nat.le_of_ble_eq_true rfl) (L' := [(8, .int (nI 1)), (9, .int (nI 3)), (0, .ref (E.1 + 38)), (1, .int (nI 6)), (2, .int (nI 115)), (3, .int (nI 116)), (4, .int (nI 114)), (5, .int (nI 101)), (6, .int (nI 101)), (7, .int (nI 116))]) rfl ?_
              refine J_iincN (q := 1) (a := 3) (m := 1) dX8_spells_113 rfl (by decide +kernel) (Nat.le_of_ble_eq_true rfl) (L' := [(9, .int (nI 4)), (8, .int (nI 1)), (0, .ref (E.1 + 38)), (1, .int (nI 6)), (2, .int (nI 115)), (3, .int (nI 116)), (4, .int (nI 114)), (5, .int (nI 101)), (6, .int (nI 101)), (7, .int (nI 116))]) rfl ?_
              refine J_goto (tgt := 26) dX8_spells_116 (by decide) ?_
              refine J_iload dX8_spells_26 rfl ?_
              refine J_iload_n dX8_spells_28 rfl ?_
              refine J_icmp_geN (tgt := 119) dX8_spells_29 (by decide) (by omega) (by omega) (fun z => absurd z (by decide)) (fun _ => ?_)
              refine J_iload dX8_spells_32 rfl ?_
              refine J_if_eqN (tgt := 119) dX8_spells_34 (by decide) (by omega) (fun z => absurd z (by decide)) (fun _ => ?_)
              refine J_aload_n dX8_spells_37 rfl ?_
              refine J_get 12 dX8_spells_38 jk8 (Nat.le_of_ble_eq_true rfl) jfRX8_39 H0 (by omega) rfl ?_
              refine J_aload_n dX8_spells_41 rfl ?_
              refine J_get 14 dX8_spells_42 jk8 (Nat.le_of_ble_eq_true rfl) jfRX8_205 H0 (by omega) rfl ?_
              refine J_iload dX8_spells_45 rfl ?_
              refine J_iaddN dX8_spells_47 ?_
              refine J_ialdN (i := ta + 4) dX8_spells_48 H1 (by omega) (by omega) (by omega) ?_
              have hy := hBY (ta + 4) (by omega)
              refine J_iload dX8_spells_49 rfl ?_
              refine J_if_neN (tgt := 58) dX8_spells_51 (by decide) (by omega) (fun _ => ?_) (fun z => absurd z (by decide))
              refine J_iload dX8_spells_58 rfl ?_
              refine J_iconst (v := nI 1) dX8_spells_60 (by decide +kernel) ?_
              refine J_icmp_neN (tgt := 68) dX8_spells_61 (by decide) (by omega) (by omega) (fun _ => ?_) (fun z => absurd z (by decide))
              refine J_iload dX8_spells_68 rfl ?_
              refine J_iconst (v := nI 2) dX8_spells_70 (by decide +kernel) ?_
              refine J_icmp_neN (tgt := 79) dX8_spells_71 (by decide) (by omega) (by omega) (fun _ => ?_) (fun z => absurd z (by decide))
              refine J_iload dX8_spells_79 rfl ?_
              refine J_iconst (v := nI 3) dX8_spells_81 (by decide +kernel) ?_
              refine J_icmp_neN (tgt := 90) dX8_spells_82 (by decide) (by omega) (by omega) (fun _ => ?_) (fun z => absurd z (by decide))
              refine J_iload dX8_spells_90 rfl ?_
              refine J_iconst (v := nI 4) dX8_spells_92 (by decide +kernel) ?_
              refine J_icmp_neN (tgt := 101) dX8_spells_93 (by decide) (by omega) (by omega) (fun z => absurd z (by decide)) (fun _ => ?_)
              refine J_iload dX8_spells_96 rfl ?_
              refine J_goto (tgt := 103) dX8_spells_98 (by decide) ?_
              refine J_icmp_neN (tgt := 110) dX8_spells_103 (by decide) (by omega) (by omega) (fun c44 => ?_) (fun c44 => ?_)
              · skip
                refine J_iconst (v := nI 0) dX8_spells_110 (by decide +kernel) ?_
                refine J_istore dX8_spells_111 (Nat.le_of_ble_eq_true rfl) (L' := [(8, .int (nI 0)), (9, .int (nI 4)), (0, .ref (E.1 + 38)), (1, .int (nI 6)), (2, .int (nI 115)), (3, .int (nI 116)), (4, .int (nI 114)), (5, .int (nI 101)), (6, .int (nI 101)), (7, .int (nI 116))]) rfl ?_
                refine J_iincN (q := 1) (a := 4) (m := 1) dX8_spells_113 rfl (by decide +kernel) (Nat.le_of_ble_eq_true rfl) (L' := [(9, .int (nI 5)), (8, .int (nI 0)), (0, .ref (E.1 + 38)), (1, .int (nI 6)), (2, .int (nI 115)), (3, .int (nI 116)), (4, .int (nI 114)), (5, .int (nI 101)), (6, .int (nI 101)), (7, .int (nI 116))]) rfl ?_
                refine J_goto (tgt := 26) dX8_spells_116 (by decide) ?_
                refine J_iload dX8_spells_26 rfl ?_
                refine J_iload_n dX8_spells_28 rfl ?_
                refine J_icmp_geN (tgt := 119) dX8_spells_29 (by decide) (by omega) (by omega) (fun z => absurd z (by decide)) (fun _ => ?_)
                refine J_iload dX8_spells_32 rfl ?_
                refine J_if_eqN (tgt := 119) dX8_spells_34 (by decide) (by omega) (fun _ => ?_) (fun z => absurd z (by decide))
                refine J_iload dX8_spells_119 rfl ?_
                exact J_zret dX8_spells_121 rfl rfl ⟨Nat.le_refl _, Nat.le_refl _⟩ (by rw [hPP]; exact ⟨(congrArg some (Option.some.inj (jret_B0 (by omega)))), rfl, rfl⟩)
              · skip
                refine J_iconst (v := nI 1) dX8_spells_106 (by decide +kernel) ?_
                refine J_goto (tgt := 111) dX8_spells_107 (by decide) ?_
                refine J_istore dX8_spells_111 (Nat.le_of_ble_eq_true rfl) (L' := [(8, .int (nI 1)), (9, .int (nI 4)), (0, .ref (E.1 + 38)), (1, .int (nI 6)), (2, .int (nI 115)), (3, .int (nI 116)), (4, .int (nI 114)), (5, .int (nI 101)), (6, .int (nI 101)), (7, .int (nI 116))]) rfl ?_
                refine J_iincN (q := 1) (a := 4) (m := 1) dX8_spells_113 rfl (by decide +kernel) (Nat.le_of_ble_eq_true rfl) (L' := [(9, .int (nI 5)), (8, .int (nI 1)), (0, .ref (E.1 + 38)), (1, .int (nI 6)), (2, .int (nI 115)), (3, .int (nI 116)), (4, .int (nI 114)), (5, .int (nI 101)), (6, .int (nI 101)), (7, .int (nI 116))]) rfl ?_
                refine J_goto (tgt := 26) dX8_spells_116 (by decide) ?_
                refine J_iload dX8_spells_26 rfl ?_
                refine J_iload_n dX8_spells_28 rfl ?_
                refine J_icmp_geN (tgt := 119) dX8_spells_29 (by decide) (by omega) (by omega) (fun z => absurd z (by decide)) (fun _ => ?_)
                refine J_iload dX8_spells_32 rfl ?_
                refine J_if_eqN (tgt := 119) dX8_spells_34 (by decide) (by omega) (fun z => absurd z (by decide)) (fun _ => ?_)
                refine J_aload_n dX8_spells_37 rfl ?_
                refine J_get 12 dX8_spells_38 jk8 (Nat.le_of_ble_eq_true rfl) jfRX8_39 H0 (by omega) rfl ?_
                refine J_aload_n dX8_spells_41 rfl ?_
                refine J_get 14 dX8_spells_42 jk8 (Nat.le_of_ble_eq_true rfl) jfRX8_205 H0 (by omega) rfl ?_
                refine J_iload dX8_spells_45 rfl ?_
                refine J_iaddN dX8_spells_47 ?_
                refine J_ialdN (i := ta + 5) dX8_spells_48 H1 (by omega) (by omega) (by omega) ?_
                have hy := hBY (ta + 5) (by omega)
                refine J_iload dX8_spells_49 rfl ?_
                refine J_if_neN (tgt := 58) dX8_spells_51 (by decide) (by omega) (fun _ => ?_) (fun z => absurd z (by decide))
                refine J_iload dX8_spells_58 rfl ?_
                refine J_iconst (v := nI 1) dX8_spells_60 (by decide +kernel) ?_
                refine J_icmp_neN (tgt := 68) dX8_spells_61 (by decide) (by omega) (by omega) (fun _ => ?_) (fun z => absurd z (by decide))
                refine J_iload dX8_spells_68 rfl ?_
                refine J_iconst (v := nI 2) dX8_spells_70 (by decide +kernel) ?_
                refine J_icmp_neN (tgt := 79) dX8_spells_71 (by decide) (by omega) (by omega) (fun _ => ?_) (fun z => absurd z (by decide))
                refine J_iload dX8_spells_79 rfl ?_
                refine J_iconst (v := nI 3) dX8_spells_81 (by decide +kernel) ?_
                refine J_icmp_neN (tgt := 90) dX8_spells_82 (by decide) (by omega) (by omega) (fun _ => ?_) (fun z => absurd z (by decide))
                refine J_iload dX8_spells_90 rfl ?_
                refine J_iconst (v := nI 4) dX8_spells_92 (by decide +kernel) ?_
                refine J_icmp_neN (tgt := 101) dX8_spells_93 (by decide) (by omega) (by omega) (fun _ => ?_) (fun z => absurd z (by decide))
                refine J_iload dX8_spells_101 rfl ?_
                refine J_icmp_neN (tgt := 110) dX8_spells_103 (by decide) (by omega) (by omega) (fun c54 => ?_) (fun c54 => ?_)
                · skip
                  refine J_iconst (v := nI 0) dX8_spells_110 (by decide +kernel) ?_
                  refine J_istore dX8_spells_111 (Nat.le_of_ble_eq_true rfl) (L' := [(8, .int (nI 0)), (9, .int (nI 5)), (0, .ref (E.1 + 38)), (1, .int (nI 6)), (2, .int (nI 115)), (3, .int (nI 116)), (4, .int (nI 114)), (5, .int (nI 101)), (6, .int (nI 101)), (7, .int (nI 116))]) rfl ?_
                  refine J_iincN (q := 1) (a := 5) (m := 1) dX8_spells_113 rfl (by decide +kernel) (Nat.le_of_ble_eq_true rfl) (L' := [(9, .int (nI 6)), (8, .int (nI 0)), (0, .ref (E.1 + 38)), (1, .int (nI 6)), (2, .int (nI 115)), (3, .int (nI 116)), (4, .int (nI 114)), (5, .int (nI 101)), (6, .int (nI 101)), (7, .int (nI 116))]) rfl ?_
                  refine J_goto (tgt := 26) dX8_spells_116 (by decide) ?_
                  refine J_iload dX8_spells_26 rfl ?_
                  refine J_iload_n dX8_spells_28 rfl ?_
                  refine J_icmp_geN (tgt := 119) dX8_spells_29 (by decide) (by omega) (by omega) (fun _ => ?_) (fun z => absurd z (by decide))
                  refine J_iload dX8_spells_119 rfl ?_
                  exact J_zret dX8_spells_121 rfl rfl ⟨Nat.le_refl _, Nat.le_refl _⟩ (by rw [hPP]; exact ⟨(congrArg some (Option.some.inj (jret_B0 (by omega)))), rfl, rfl⟩)
                · skip
                  refine J_iconst (v := nI 1) dX8_spells_106 (by decide +kernel) ?_
                  refine J_goto (tgt := 111) dX8_spells_107 (by decide) ?_
                  refine J_istore dX8_spells_111 (Nat.le_of_ble_eq_true rfl) (L' := [(8, .int (nI 1)), (9, .int (nI 5)), (0, .ref (E.1 + 38)), (1, .int (nI 6)), (2, .int (nI 115)), (3, .int (nI 116)), (4, .int (nI 114)), (5, .int (nI 101)), (6, .int (nI 101)), (7, .int (nI 116))]) rfl ?_
                  refine J_iincN (q := 1) (a := 5) (m := 1) dX8_spells_113 rfl (by decide +kernel) (Nat.le_of_ble_eq_true rfl) (L' := [(9, .int (nI 6)), (8, .int (nI 1)), (0, .ref (E.1 + 38)), (1, .int (nI 6)), (2, .int (nI 115)), (3, .int (nI 116)), (4, .int (nI 114)), (5, .int (nI 101)), (6, .int (nI 101)), (7, .int (nI 116))]) rfl ?_
                  refine J_goto (tgt := 26) dX8_spells_116 (by decide) ?_
                  refine J_iload dX8_spells_26 rfl ?_
                  refine J_iload_n dX8_spells_28 rfl ?_
                  refine J_icmp_geN (tgt := 119) dX8_spells_29 (by decide) (by omega) (by omega) (fun _ => ?_) (fun z => absurd z (by decide))
                  refine J_iload dX8_spells_119 rfl ?_
                  exact J_zret dX8_spells_121 rfl rfl ⟨Nat.le_refl _, Nat.le_refl _⟩ (by rw [hPP]; exact ⟨(congrArg some (Option.some.inj (jret_B1 (by omega)))), rfl, rfl⟩)

set_option maxHeartbeats 1000000 in
set_option maxRecDepth 100000 in
theorem ctX8_spells_1 {E : jE} {h : Nat → va_E} {n : Nat} (i : Nat) (xa : Nat) (xb : Nat) (dt : Nat) (mo : Nat) (bn : Nat) (ta : Nat) (tl : Nat) (tk : Nat) (va : Nat) (BY : Nat → Nat) (F : Nat → Nat) (H0 : h 38 = .inr (7, [.ref (E.1 + 39), .ref (E.1 + 40), .ref (E.1 + 41), .ref (E.1 + 42), .long (lN xa), .long (lN xb), .ref (E.1 + 43), .int (nI dt), .ref (E.1 + 44), .ref (E.1 + 45), .int (nI mo), .ref (E.1 + 46), .ref (E.1 + 47), .int (nI bn), .int (nI ta), .int (nI tl), .int (nI tk), .int (nI va), .ref (E.1 + 48), .ref (E.1 + 49)])) (H1 : h 47 = cI E 150 (nF BY)) (hn : 50 ≤ n) (hBY : ∀ zz, zz < bn → BY zz = F zz ∧ F zz ≤ 127) (hbn : bn ≤ 150) (hst : stQ F bn i ta tl tk va) : jC E mX8_spells (1, 0, 0) [.ref (E.1 + 38), .int (nI 5), .int (nI 97), .int (nI 110), .int (nI 118), .int (nI 105), .int (nI 108), .int (nI 0)] h n (jR (some (.int (jb (kT F bn i = 2)))) h n) := by
  refine J.of (L := [(0, .ref (E.1 + 38)), (1, .int (nI 5)), (2, .int (nI 97)), (3, .int (nI 110)), (4, .int (nI 118)), (5, .int (nI 105)), (6, .int (nI 108)), (7, .int (nI 0))]) rfl (by decide +kernel) (Nat.le_of_ble_eq_true rfl) ?_
  obtain ⟨PP, hPP⟩ : ∃ PP : jPost, PP = (jR (some (.int (jb (kT F bn i = 2)))) h n) := ⟨_, rfl⟩
  rw [← hPP]
  have hl6 := hst.2.2.2.2.2
  have hl5 := hst.2.2.2.2.1
  have sw := spw_1 hst
  refine J_aload_n dX8_spells_0 rfl ?_
  refine J_get 16 dX8_spells_1 jk8 (Nat.le_of_ble_eq_true rfl) jfRX8_211 H0 (by omega) rfl ?_
  refine J_iconst (v := nI 1) dX8_spells_4 (by decide +kernel) ?_
  refine J_icmp_neN (tgt := 20) dX8_spells_5 (by decide) (by omega) (by omega) (fun c1 => ?_) (fun c1 => ?_)
  · skip
    refine J_iconst (v := nI 0) dX8_spells_20 (by decide +kernel) ?_
    refine J_istore dX8_spells_21 (Nat.le_of_ble_eq_true rfl) (L' := [(8, .int (nI 0)), (0, .ref (E.1 + 38)), (1, .int (nI 5)), (2, .int (nI 97)), (3, .int (nI 110)), (4, .int (nI 118)), (5, .int (nI 105)), (6, .int (nI 108)), (7, .int (nI 0))]) rfl ?_
    refine J_iconst (v := nI 0) dX8_spells_23 (by decide +kernel) ?_
    refine J_istore dX8_spells_24 (Nat.le_of_ble_eq_true rfl) (L' := [(9, .int (nI 0)), (8, .int (nI 0)), (0, .ref (E.1 + 38)), (1, .int (nI 5)), (2, .int (nI 97)), (3, .int (nI 110)), (4, .int (nI 118)), (5, .int (nI 105)), (6, .int (nI 108)), (7, .int (nI 0))]) rfl ?_
    refine J_iload dX8_spells_26 rfl ?_
    refine J_iload_n dX8_spells_28 rfl ?_
    refine J_icmp_geN (tgt := 119) dX8_spells_29 (by decide) (by omega) (by omega) (fun z => absurd z (by decide)) (fun _ => ?_)
    refine J_iload dX8_spells_32 rfl ?_
    refine J_if_eqN (tgt := 119) dX8_spells_34 (by decide) (by omega) (fun _ => ?_) (fun z => absurd z (by decide))
    refine J_iload dX8_spells_119 rfl ?_
    exact J_zret dX8_spells_121 rfl rfl ⟨Nat.le_refl _, Nat.le_refl _⟩ (by rw [hPP]; exact ⟨(congrArg some (Option.some.inj (jret_B0 (by omega)))), rfl, rfl⟩)
  · skip
    refine J_aload_n dX8_spells_8 rfl ?_
    refine J_get 15 dX8_spells_9 jk8 (Nat.le_of_ble_eq_true rfl) jfRX8_208 H0 (by omega) rfl ?_
    refine J_iload_n dX8_spells_12 rfl ?_
    refine J_icmp_neN (tgt := 20) dX8_spells_13 (by decide) (by omega) (by omega) (fun c4 => ?_) (fun c4 => ?_)
    · skip
      refine J_iconst (v := nI 0) dX8_spells_20 (by decide +kernel) ?_
      refine J_istore dX8_spells_21 (Nat.le_of_ble_eq_true rfl) (L' := [(8, .int (nI 0)), (0, .ref (E.1 + 38)), (1, .int (nI 5)), (2, .int (nI 97)), (3, .int (nI 110)), (4, .int (nI 118)), (5, .int (nI 105)), (6, .int (nI 108)), (7, .int (nI 0))]) rfl ?_
      refine J_iconst (v := nI 0) dX8_spells_23 (by decide +kernel) ?_
      refine J_istore dX8_spells_24 (Nat.le_of_ble_eq_true rfl) (L' := [(9, .int (nI 0)), (8, .int (nI 0)), (0, .ref (E.1 + 38)), (1, .int (nI 5)), (2, .int (nI 97)), (3, .int (nI 110)), (4, .int (nI 118)), (5, .int (nI 105)), (6, .int (nI 108)), (7, .int (nI 0))]) rfl ?_
      refine J_iload dX8_spells_26 rfl ?_
      refine J_iload_n dX8_spells_28 rfl ?_
      refine J_icmp_geN (tgt := 119) dX8_spells_29 (by decide) (by omega) (by omega) (fun z => absurd z (by decide)) (fun _ => ?_)
      refine J_iload dX8_spells_32 rfl ?_
      refine J_if_eqN (tgt := 119) dX8_spells_34 (by decide) (by omega) (fun _ => ?_) (fun z => absurd z (by decide))
      refine J_iload dX8_spells_119 rfl ?_
      exact J_zret dX8_spells_121 rfl rfl ⟨Nat.le_refl _, Nat.le_refl _⟩ (by rw [hPP]; exact ⟨(congrArg some (Option.some.inj (jret_B0 (by omega)))), rfl, rfl⟩)
    · skip
      refine J_iconst (v := nI 1) dX8_spells_16 (by decide +kernel) ?_
      refine J_goto (tgt := 21) dX8_spells_17 (by decide) ?_
      refine J_istore dX8_spells_21 (Nat.le_of_ble_eq_true rfl) (L' := [(8, .int (nI 1)), (0, .ref (E.1 + 38)), (1, .int (nI 5)), (2, .int (nI 97)), (3, .int (nI 110)), (4, .int (nI 118)), (5, .int (nI 105)), (6, .int (nI 108)), (7, .int (nI 0))]) rfl ?_
      refine J_iconst (v := nI 0) dX8_spells_23 (by decide +kernel) ?_
      refine J_istore dX8_spells_24 (Nat.le_of_ble_eq_true rfl) (L' := [(9, .int (nI 0)), (8, .int (nI 1)), (0, .ref (E.1 + 38)), (1, .int (nI 5)), (2, .int (nI 97)), (3, .int (nI 110)), (4, .int (nI 118)), (5, .int (nI 105)), (6, .int (nI 108)), (7, .int (nI 0))]) rfl ?_
      refine J_iload dX8_spells_26 rfl ?_
      refine J_iload_n dX8_spells_28 rfl ?_
      refine J_icmp_geN (tgt := 119) dX8_spells_29 (by decide) (by omega) (by omega) (fun z => absurd z (by decide)) (fun _ => ?_)
      refine J_iload dX8_spells_32 rfl ?_
      refine J_if_eqN (tgt := 119) dX8_spells_34 (by decide) (by omega) (fun z => absurd z (by decide)) (fun _ => ?_)
      refine J_aload_n dX8_spells_37 rfl ?_
      refine J_get 12 dX8_spells_38 jk8 (Nat.le_of_ble_eq_true rfl) jfRX8_39 H0 (by omega) rfl ?_
      refine J_aload_n dX8_spells_41 rfl ?_
      refine J_get 14 dX8_spells_42 jk8 (Nat.le_of_ble_eq_true rfl) jfRX8_205 H0 (by omega) rfl ?_
      refine J_iload dX8_spells_45 rfl ?_
      refine J_iaddN dX8_spells_47 ?_
      refine J_ialdN (i := ta + 0) dX8_spells_48 H1 (by omega) (by omega) (by omega) ?_
      have hy := hBY (ta + 0) (by omega)
      refine J_iload dX8_spells_49 rfl ?_
      refine J_if_neN (tgt := 58) dX8_spells_51 (by decide) (by omega) (fun z => absurd z (by decide)) (fun _ => ?_)
      refine J_iload_n dX8_spells_54 rfl ?_
      refine J_goto (tgt := 103) dX8_spells_55 (by decide) ?_
      refine J_icmp_neN (tgt := 110) dX8_spells_103 (by decide) (by omega) (by omega) (fun c10 => ?_) (fun c10 => ?_)
      · skip
        refine J_iconst (v := nI 0) dX8_spells_110 (by decide +kernel) ?_
        refine J_istore dX8_spells_111 (Nat.le_of_ble_eq_true rfl) (L' := [(8, .int (nI 0)), (9, .int (nI 0)), (0, .ref (E.1 + 38)), (1, .int (nI 5)), (2, .int (nI 97)), (3, .int (nI 110)), (4, .int (nI 118)), (5, .int (nI 105)), (6, .int (nI 108)), (7, .int (nI 0))]) rfl ?_
        refine J_iincN (q := 1) (a := 0) (m := 1) dX8_spells_113 rfl (by decide +kernel) (Nat.le_of_ble_eq_true rfl) (L' := [(9, .int (nI 1)), (8, .int (nI 0)), (0, .ref (E.1 + 38)), (1, .int (nI 5)), (2, .int (nI 97)), (3, .int (nI 110)), (4, .int (nI 118)), (5, .int (nI 105)), (6, .int (nI 108)), (7, .int (nI 0))]) rfl ?_
        refine J_goto (tgt := 26) dX8_spells_116 (by decide) ?_
        refine J_iload dX8_spells_26 rfl ?_
        refine J_iload_n dX8_spells_28 rfl ?_
        refine J_icmp_geN (tgt := 119) dX8_spells_29 (by decide) (by omega) (by omega) (fun z => absurd z (by decide)) (fun _ => ?_)
        refine J_iload dX8_spells_32 rfl ?_
        refine J_if_eqN (tgt := 119) dX8_spells_34 (by decide) (by omega) (fun _ => ?_) (fun z => absurd z (by decide))
        refine J_iload dX8_spells_119 rfl ?_
        exact J_zret dX8_spells_121 rfl rfl ⟨Nat.le_refl _, Nat.le_refl _⟩ (by rw [hPP]; exact ⟨(congrArg some (Option.some.inj (jret_B0 (by omega)))), rfl, rfl⟩)
      · skip
        refine J_iconst (v := nI 1) dX8_spells_106 (by decide +kernel) ?_
        refine J_goto (tgt := 111) dX8_spells_107 (by decide) ?_
        refine J_istore dX8_spells_111 (Nat.le_of_ble_eq_true rfl) (L' := [(8, .int (nI 1)), (9, .int (nI 0)), (0, .ref (E.1 + 38)), (1, .int (nI 5)), (2, .int (nI 97)), (3, .int (nI 110)), (4, .int (nI 118)), (5, .int (nI 105)), (6, .int (nI 108)), (7, .int (nI 0))]) rfl ?_
        refine J_iincN (q := 1) (a := 0) (m := 1) dX8_spells_113 rfl (by decide +kernel) (Nat.le_of_ble_eq_true rfl) (L' := [(9, .int (nI 1)), (8, .int (nI 1)), (0, .ref (E.1 + 38)), (1, .int (nI 5)), (2, .int (nI 97)), (3, .int (nI 110)), (4, .int (nI 118)), (5, .int (nI 105)), (6, .int (nI 108)), (7, .int (nI 0))]) rfl ?_
        refine J_goto (tgt := 26) dX8_spells_116 (by decide) ?_
        refine J_iload dX8_spells_26 rfl ?_
        refine J_iload_n dX8_spells_28 rfl ?_
        refine J_icmp_geN (tgt := 119) dX8_spells_29 (by decide) (by omega) (by omega) (fun z => absurd z (by decide)) (fun _ => ?_)
        refine J_iload dX8_spells_32 rfl ?_
        refine J_if_eqN (tgt := 119) dX8_spells_34 (by decide) (by omega) (fun z => absurd z (by decide)) (fun _ => ?_)
        refine J_aload_n dX8_spells_37 rfl ?_
        refine J_get 12 dX8_spells_38 jk8 (Nat.le_of_ble_eq_true rfl) jfRX8_39 H0 (by omega) rfl ?_
        refine J_aload_n dX8_spells_41 rfl ?_
        refine J_get 14 dX8_spells_42 jk8 (Nat.le_of_ble_eq_true rfl) jfRX8_205 H0 (by omega) rfl ?_
        refine J_iload dX8_spells_45 rfl ?_
        refine J_iaddN dX8_spells_47 ?_
        refine J_ialdN (i := ta + 1) dX8_spells_48 H1 (by omega) (by omega) (by omega) ?_
        have hy := hBY (ta + 1) (by omega)
        refine J_iload dX8_spells_49 rfl ?_
        refine J_if_neN (tgt := 58) dX8_spells_51 (by decide) (by omega) (fun _ => ?_) (fun z => absurd z (by decide))
        refine J_iload dX8_spells_58 rfl ?_
        refine J_iconst (v := nI 1) dX8_spells_60 (by decide +kernel) ?_
        refine J_icmp_neN (tgt := 68) dX8_spells_61 (by decide) (by omega) (by omega) (fun z => absurd z (by decide)) (fun _ => ?_)
        refine J_iload_n dX8_spells_64 rfl ?_
        refine J_goto (tgt := 103) dX8_spells_65 (by decide) ?_
        refine J_icmp_neN (tgt := 110) dX8_spells_103 (by decide) (by omega) (by omega) (fun c17 => ?_) (fun c17 => ?_)
        · skip
          refine J_iconst (v := nI 0) dX8_spells_110 (by decide +kernel) ?_
          refine J_istore dX8_spells_111 (Nat.le_of_ble_eq_true rfl) (L' := [(8, .int (nI 0)), (9, .int (nI 1)), (0, .ref (E.1 + 38)), (1, .int (nI 5)), (2, .int (nI 97)), (3, .int (nI 110)), (4, .int (nI 118)), (5, .int (nI 105)), (6, .int (nI 108)), (7, .int (nI 0))]) rfl ?_
          refine J_iincN (q := 1) (a := 1) (m := 1) dX8_spells_113 rfl (by decide +kernel) (Nat.le_of_ble_eq_true rfl) (L' := [(9, .int (nI 2)), (8, .int (nI 0)), (0, .ref (E.1 + 38)), (1, .int (nI 5)), (2, .int (nI 97)), (3, .int (nI 110)), (4, .int (nI 118)), (5, .int (nI 105)), (6, .int (nI 108)), (7, .int (nI 0))]) rfl ?_
          refine J_goto (tgt := 26) dX8_spells_116 (by decide) ?_
          refine J_iload dX8_spells_26 rfl ?_
          refine J_iload_n dX8_spells_28 rfl ?_
          refine J_icmp_geN (tgt := 119) dX8_spells_29 (by decide) (by omega) (by omega) (fun z => absurd z (by decide)) (fun _ => ?_)
          refine J_iload dX8_spells_32 rfl ?_
          refine J_if_eqN (tgt := 119) dX8_spells_34 (by decide) (by omega) (fun _ => ?_) (fun z => absurd z (by decide))
          refine J_iload dX8_spells_119 rfl ?_
          exact J_zret dX8_spells_121 rfl rfl ⟨Nat.le_refl _, Nat.le_refl _⟩ (by rw [hPP]; exact ⟨(congrArg some (Option.some.inj (jret_B0 (by omega)))), rfl, rfl⟩)
        · skip
          refine J_iconst (v := nI 1) dX8_spells_106 (by decide +kernel) ?_
          refine J_goto (tgt := 111) dX8_spells_107 (by decide) ?_
          refine J_istore dX8_spells_111 (Nat.le_of_ble_eq_true rfl) (L' := [(8, .int (nI 1)), (9, .int (nI 1)), (0, .ref (E.1 + 38)), (1, .int (nI 5)), (2, .int (nI 97)), (3, .int (nI 110)), (4, .int (nI 118)), (5, .int (nI 105)), (6, .int (nI 108)), (7, .int (nI 0))]) rfl ?_
          refine J_iincN (q := 1) (a := 1) (m := 1) dX8_spells_113 rfl (by decide +kernel) (Nat.le_of_ble_eq_true rfl) (L' := [(9, .int (nI 2)), (8, .int (nI 1)), (0, .ref (E.1 + 38)), (1, .int (nI 5)), (2, .int (nI 97)), (3, .int (nI 110)), (4, .int (nI 118)), (5, .int (nI 105)), (6, .int (nI 108)), (7, .int (nI 0))]) rfl ?_
          refine J_goto (tgt := 26) dX8_spells_116 (by decide) ?_
          refine J_iload dX8_spells_26 rfl ?_
          refine J_iload_n dX8_spells_28 rfl ?_
          refine J_icmp_geN (tgt := 119) dX8_spells_29 (by decide) (by omega) (by omega) (fun z => absurd z (by decide)) (fun _ => ?_)
          refine J_iload dX8_spells_32 rfl ?_
          refine J_if_eqN (tgt := 119) dX8_spells_34 (by decide) (by omega) (fun z => absurd z (by decide)) (fun _ => ?_)
          refine J_aload_n dX8_spells_37 rfl ?_
          refine J_get 12 dX8_spells_38 jk8 (Nat.le_of_ble_eq_true rfl) jfRX8_39 H0 (by omega) rfl ?_
          refine J_aload_n dX8_spells_41 rfl ?_
          refine J_get 14 dX8_spells_42 jk8 (Nat.le_of_ble_eq_true rfl) jfRX8_205 H0 (by omega) rfl ?_
          refine J_iload dX8_spells_45 rfl ?_
          refine J_iaddN dX8_spells_47 ?_
          refine J_ialdN (i := ta + 2) dX8_spells_48 H1 (by omega) (by omega) (by omega) ?_
          have hy := hBY (ta + 2) (by omega)
          refine J_iload dX8_spells_49 rfl ?_
          refine J_if_neN (tgt := 58) dX8_spells_51 (by decide) (by omega) (fun _ => ?_) (fun z => absurd z (by decide))
          refine J_iload dX8_spells_58 rfl ?_
          refine J_iconst (v := nI 1) dX8_spells_60 (by decide +kernel) ?_
          refine J_icmp_neN (tgt := 68) dX8_spells_61 (by decide) (by omega) (by omega) (fun _ => ?_) (fun z => absurd z (by decide))
          refine J_iload dX8_spells_68 rfl ?_
          refine J_iconst (v := nI 2) dX8_spells_70 (by decide +kernel) ?_
          refine J_icmp_neN (tgt := 79) dX8_spells_71 (by decide) (by omega) (by omega) (fun z => absurd z (by decide)) (fun _ => ?_)
          refine J_iload dX8_spells_74 rfl ?_
          refine J_goto (tgt := 103) dX8_spells_76 (by decide) ?_
          refine J_icmp_neN (tgt := 110) dX8_spells_103 (by decide) (by omega) (by omega) (fun c25 => ?_) (fun c25 => ?_)
          · skip
            refine J_iconst (v := nI 0) dX8_spells_110 (by decide +kernel) ?_
            refine J_istore dX8_spells_111 (Nat.le_of_ble_eq_true rfl) (L' := [(8, .int (nI 0)), (9, .int (nI 2)), (0, .ref (E.1 + 38)), (1, .int (nI 5)), (2, .int (nI 97)), (3, .int (nI 110)), (4, .int (nI 118)), (5, .int (nI 105)), (6, .int (nI 108)), (7, .int (nI 0))]) rfl ?_
            refine J_iincN (q := 1) (a := 2) (m := 1) dX8_spells_113 rfl (by decide +kernel) (Nat.le_of_ble_eq_true rfl) (L' := [(9, .int (nI 3)), (8, .int (nI 0)), (0, .ref (E.1 + 38)), (1, .int (nI 5)), (2, .int (nI 97)), (3, .int (nI 110)), (4, .int (nI 118)), (5, .int (nI 105)), (6, .int (nI 108)), (7, .int (nI 0))]) rfl ?_
            refine J_goto (tgt := 26) dX8_spells_116 (by decide) ?_
            refine J_iload dX8_spells_26 rfl ?_
            refine J_iload_n dX8_spells_28 rfl ?_
            refine J_icmp_geN (tgt := 119) dX8_spells_29 (by decide) (by omega) (by omega) (fun z => absurd z (by decide)) (fun _ => ?_)
            refine J_iload dX8_spells_32 rfl ?_
            refine J_if_eqN (tgt := 119) dX8_spells_34 (by decide) (by omega) (fun _ => ?_) (fun z => absurd z (by decide))
            refine J_iload dX8_spells_119 rfl ?_
            exact J_zret dX8_spells_121 rfl rfl ⟨Nat.le_refl _, Nat.le_refl _⟩ (by rw [hPP]; exact ⟨(congrArg some (Option.some.inj (jret_B0 (by omega)))), rfl, rfl⟩)
          · skip
            refine J_iconst (v := nI 1) dX8_spells_106 (by decide +kernel) ?_
            refine J_goto (tgt := 111) dX8_spells_107 (by decide) ?_
            refine J_istore dX8_spells_111 (Nat.le_of_ble_eq_true rfl) (L' := [(8, .int (nI 1)), (9, .int (nI 2)), (0, .ref (E.1 + 38)), (1, .int (nI 5)), (2, .int (nI 97)), (3, .int (nI 110)), (4, .int (nI 118)), (5, .int (nI 105)), (6, .int (nI 108)), (7, .int (nI 0))]) rfl ?_
            refine J_iincN (q := 1) (a := 2) (m := 1) dX8_spells_113 rfl (by decide +kernel) (Nat.le_of_ble_eq_true rfl) (L' := [(9, .int (nI 3)), (8, .int (nI 1)), (0, .ref (E.1 + 38)), (1, .int (nI 5)), (2, .int (nI 97)), (3, .int (nI 110)), (4, .int (nI 118)), (5, .int (nI 105)), (6, .int (nI 108)), (7, .int (nI 0))]) rfl ?_
            refine J_goto (tgt := 26) dX8_spells_116 (by decide) ?_
            refine J_iload dX8_spells_26 rfl ?_
            refine J_iload_n dX8_spells_28 rfl ?_
            refine J_icmp_geN (tgt := 119) dX8_spells_29 (by decide) (by omega) (by omega) (fun z => absurd z (by decide)) (fun _ => ?_)
            refine J_iload dX8_spells_32 rfl ?_
            refine J_if_eqN (tgt := 119) dX8_spells_34 (by decide) (by omega) (fun z => absurd z (by decide)) (fun _ => ?_)
            refine J_aload_n dX8_spells_37 rfl ?_
            refine J_get 12 dX8_spells_38 jk8 (Nat.le_of_ble_eq_true rfl) jfRX8_39 H0 (by omega) rfl ?_
            refine J_aload_n dX8_spells_41 rfl ?_
            refine J_get 14 dX8_spells_42 jk8 (Nat.le_of_ble_eq_true rfl) jfRX8_205 H0 (by omega) rfl ?_
            refine J_iload dX8_spells_45 rfl ?_
            refine J_iaddN dX8_spells_47 ?_
            refine J_ialdN (i := ta + 3) dX8_spells_48 H1 (by omega) (by omega) (by omega) ?_
            have hy := hBY (ta + 3) (by omega)
            refine J_iload dX8_spells_49 rfl ?_
            refine J_if_neN (tgt := 58) dX8_spells_51 (by decide) (by omega) (fun _ => ?_) (fun z => absurd z (by decide))
            refine J_iload dX8_spells_58 rfl ?_
            refine J_iconst (v := nI 1) dX8_spells_60 (by decide +kernel) ?_
            refine J_icmp_neN (tgt := 68) dX8_spells_61 (by decide) (by omega) (by omega) (fun _ => ?_) (fun z => absurd z (by decide))
            refine J_iload dX8_spells_68 rfl ?_
            refine J_iconst (v := nI 2) dX8_spells_70 (by decide +kernel) ?_
            refine J_icmp_neN (tgt := 79) dX8_spells_71 (by decide) (by omega) (by omega) (fun _ => ?_) (fun z => absurd z (by decide))
            refine J_iload dX8_spells_79 rfl ?_
            refine J_iconst (v := nI 3) dX8_spells_81 (by decide +kernel) ?_
            refine J_icmp_neN (tgt := 90) dX8_spells_82 (by decide) (by omega) (by omega) (fun z => absurd z (by decide)) (fun _ => ?_)
            refine J_iload dX8_spells_85 rfl ?_
            refine J_goto (tgt := 103) dX8_spells_87 (by decide) ?_
            refine J_icmp_neN (tgt := 110) dX8_spells_103 (by decide) (by omega) (by omega) (fun c34 => ?_) (fun c34 => ?_)
            · skip
              refine J_iconst (v := nI 0) dX8_spells_110 (by decide +kernel) ?_
              refine J_istore dX8_spells_111 (Nat.le_of_ble_eq_true rfl) (L' := [(8, .int (nI 0)), (9, .int (nI 3)), (0, .ref (E.1 + 38)), (1, .int (nI 5)), (2, .int (nI 97)), (3, .int (nI 110)), (4, .int (nI 118)), (5, .int (nI 105)), (6, .int (nI 108)), (7, .int (nI 0))]) rfl ?_
              refine J_iincN (q := 1) (a := 3) (m := 1) dX8_spells_113 rfl (by decide +kernel) (Nat.le_of_ble_eq_true rfl) (L' := [(9, .int (nI 4)), (8, .int (nI 0)), (0, .ref (E.1 + 38)), (1, .int (nI 5)), (2, .int (nI 97)), (3, .int (nI 110)), (4, .int (nI 118)), (5, .int (nI 105)), (6, .int (nI 108)), (7, .int (nI 0))]) rfl ?_
              refine J_goto (tgt := 26) dX8_spells_116 (by decide) ?_
              refine J_iload dX8_spells_26 rfl ?_
              refine J_iload_n dX8_spells_28 rfl ?_
              refine J_icmp_geN (tgt := 119) dX8_spells_29 (by decide) (by omega) (by omega) (fun z => absurd z (by decide)) (fun _ => ?_)
              refine J_iload dX8_spells_32 rfl ?_
              refine J_if_eqN (tgt := 119) dX8_spells_34 (by decide) (by omega) (fun _ => ?_) (fun z => absurd z (by decide))
              refine J_iload dX8_spells_119 rfl ?_
              exact J_zret dX8_spells_121 rfl rfl ⟨Nat.le_refl _, Nat.le_refl _⟩ (by rw [hPP]; exact ⟨(congrArg some (Option.some.inj (jret_B0 (by omega)))), rfl, rfl⟩)
            · skip
              refine J_iconst (v := nI 1) dX8_spells_106 (by decide +kernel) ?_
              refine J_goto (tgt := 111) dX8_spells_107 (by decide) ?_
              refine J_istore dX8_spells_111 (Nat.le_of_ble_eq_true rfl) (L' := [(8, .int (nI 1)), (9, .int (nI 3)), (0, .ref (E.1 + 38)), (1, .int (nI 5)), (2, .int (nI 97)), (3, .int (nI 110)), (4, .int (nI 118)), (5, .int (nI 105)), (6, .int (nI 108)), (7, .int (nI 0))]) rfl ?_
              refine J_iincN (q := 1) (a := 3) (m := 1) dX8_spells_113 rfl (by decide +kernel) (Nat.le_of_ble_eq_true rfl) (L' := [(9, .int (nI 4)), (8, .int (nI 1)), (0, .ref (E.1 + 38)), (1, .int (nI 5)), (2, .int (nI 97)), (3, .int (nI 110)), (4, .int (nI 118)), (5, .int (nI 105)), (6, .int (nI 108)), (7, .int (nI 0))]) rfl ?_
              refine J_goto (tgt := 26) dX8_spells_116 (by decide) ?_
              refine J_iload dX8_spells_26 rfl ?_
              refine J_iload_n dX8_spells_28 rfl ?_
              refine J_icmp_geN (tgt := 119) dX8_spells_29 (by decide) (by omega) (by omega) (fun z => absurd z (by decide)) (fun _ => ?_)
              refine J_iload dX8_spells_32 rfl ?_
              refine J_if_eqN (tgt := 119) dX8_spells_34 (by decide) (by omega) (fun z => absurd z (by decide)) (fun _ => ?_)
              refine J_aload_n dX8_spells_37 rfl ?_
              refine J_get 12 dX8_spells_38 jk8 (Nat.le_of_ble_eq_true rfl) jfRX8_39 H0 (by omega) rfl ?_
              refine J_aload_n dX8_spells_41 rfl ?_
              refine J_get 14 dX8_spells_42 jk8 (Nat.le_of_ble_eq_true rfl) jfRX8_205 H0 (by omega) rfl ?_
              refine J_iload dX8_spells_45 rfl ?_
              refine J_iaddN dX8_spells_47 ?_
              refine J_ialdN (i := ta + 4) dX8_spells_48 H1 (by omega) (by omega) (by omega) ?_
              have hy := hBY (ta + 4) (by omega)
              refine J_iload dX8_spells_49 rfl ?_
              refine J_if_neN (tgt := 58) dX8_spells_51 (by decide) (by omega) (fun _ => ?_) (fun z => absurd z (by decide))
              refine J_iload dX8_spells_58 rfl ?_
              refine J_iconst (v := nI 1) dX8_spells_60 (by decide +kernel) ?_
              refine J_icmp_neN (tgt := 68) dX8_spells_61 (by decide) (by omega) (by omega) (fun _ => ?_) (fun z => absurd z (by decide))
              refine J_iload dX8_spells_68 rfl ?_
              refine J_iconst (v := nI 2) dX8_spells_70 (by decide +kernel) ?_
              refine J_icmp_neN (tgt := 79) dX8_spells_71 (by decide) (by omega) (by omega) (fun _ => ?_) (fun z => absurd z (by decide))
              refine J_iload dX8_spells_79 rfl ?_
              refine J_iconst (v := nI 3) dX8_spells_81 (by decide +kernel) ?_
              refine J_icmp_neN (tgt := 90) dX8_spells_82 (by decide) (by omega) (by omega) (fun _ => ?_) (fun z => absurd z (by decide))
              refine J_iload dX8_spells_90 rfl ?_
              refine J_iconst (v := nI 4) dX8_spells_92 (by decide +kernel) ?_
              refine J_icmp_neN (tgt := 101) dX8_spells_93 (by decide) (by omega) (by omega) (fun z => absurd z (by decide)) (fun _ => ?_)
              refine J_iload dX8_spells_96 rfl ?_
              refine J_goto (tgt := 103) dX8_spells_98 (by decide) ?_
              refine J_icmp_neN (tgt := 110) dX8_spells_103 (by decide) (by omega) (by omega) (fun c44 => ?_) (fun c44 => ?_)
              · skip
                refine J_iconst (v := nI 0) dX8_spells_110 (by decide +kernel) ?_
                refine J_istore dX8_spells_111 (Nat.le_of_ble_eq_true rfl) (L' := [(8, .int (nI 0)), (9, .int (nI 4)), (0, .ref (E.1 + 38)), (1, .int (nI 5)), (2, .int (nI 97)), (3, .int (nI 110)), (4, .int (nI 118)), (5, .int (nI 105)), (6, .int (nI 108)), (7, .int (nI 0))]) rfl ?_
                refine J_iincN (q := 1) (a := 4) (m := 1) dX8_spells_113 rfl (by decide +kernel) (Nat.le_of_ble_eq_true rfl) (L' := [(9, .int (nI 5)), (8, .int (nI 0)), (0, .ref (E.1 + 38)), (1, .int (nI 5)), (2, .int (nI 97)), (3, .int (nI 110)), (4, .int (nI 118)), (5, .int (nI 105)), (6, .int (nI 108)), (7, .int (nI 0))]) rfl ?_
                refine J_goto (tgt := 26) dX8_spells_116 (by decide) ?_
                refine J_iload dX8_spells_26 rfl ?_
                refine J_iload_n dX8_spells_28 rfl ?_
                refine J_icmp_geN (tgt := 119) dX8_spells_29 (by decide) (by omega) (by omega) (fun _ => ?_) (fun z => absurd z (by decide))
                refine J_iload dX8_spells_119 rfl ?_
                exact J_zret dX8_spells_121 rfl rfl ⟨Nat.le_refl _, Nat.le_refl _⟩ (by rw [hPP]; exact ⟨(congrArg some (Option.some.inj (jret_B0 (by omega)))), rfl, rfl⟩)
              · skip
                refine J_iconst (v := nI 1) dX8_spells_106 (by decide +kernel) ?_
                refine J_goto (tgt := 111) dX8_spells_107 (by decide) ?_
                refine J_istore dX8_spells_111 (Nat.le_of_ble_eq_true rfl) (L' := [(8, .int (nI 1)), (9, .int (nI 4)), (0, .ref (E.1 + 38)), (1, .int (nI 5)), (2, .int (nI 97)), (3, .int (nI 110)), (4, .int (nI 118)), (5, .int (nI 105)), (6, .int (nI 108)), (7, .int (nI 0))]) rfl ?_
                refine J_iincN (q := 1) (a := 4) (m := 1) dX8_spells_113 rfl (by decide +kernel) (Nat.le_of_ble_eq_true rfl) (L' := [(9, .int (nI 5)), (8, .int (nI 1)), (0, .ref (E.1 + 38)), (1, .int (nI 5)), (2, .int (nI 97)), (3, .int (nI 110)), (4, .int (nI 118)), (5, .int (nI 105)), (6, .int (nI 108)), (7, .int (nI 0))]) rfl ?_
                refine J_goto (tgt := 26) dX8_spells_116 (by decide) ?_
                refine J_iload dX8_spells_26 rfl ?_
                refine J_iload_n dX8_spells_28 rfl ?_
                refine J_icmp_geN (tgt := 119) dX8_spells_29 (by decide) (by omega) (by omega) (fun _ => ?_) (fun z => absurd z (by decide))
                refine J_iload dX8_spells_119 rfl ?_
                exact J_zret dX8_spells_121 rfl rfl ⟨Nat.le_refl _, Nat.le_refl _⟩ (by rw [hPP]; exact ⟨(congrArg some (Option.some.inj (jret_B1 (by omega)))), rfl, rfl⟩)

set_option maxHeartbeats 1000000 in
set_option maxRecDepth 100000 in
theorem ctX8_spells_2 {E : jE} {h : Nat → va_E} {n : Nat} (i : Nat) (xa : Nat) (xb : Nat) (dt : Nat) (mo : Nat) (bn : Nat) (ta : Nat) (tl : Nat) (tk : Nat) (va : Nat) (BY : Nat → Nat) (F : Nat → Nat) (H0 : h 38 = .inr (7, [.ref (E.1 + 39), .ref (E.1 + 40), .ref (E.1 + 41), .ref (E.1 + 42), .long (lN xa), .long (lN xb), .ref (E.1 + 43), .int (nI dt), .ref (E.1 + 44), .ref (E.1 + 45), .int (nI mo), .ref (E.1 + 46), .ref (E.1 + 47), .int (nI bn), .int (nI ta), .int (nI tl), .int (nI tk), .int (nI va), .ref (E.1 + 48), .ref (E.1 + 49)])) (H1 : h 47 = cI E 150 (nF BY)) (hn : 50 ≤ n) (hBY : ∀ zz, zz < bn → BY zz = F zz ∧ F zz ≤ 127) (hbn : bn ≤ 150) (hst : stQ F bn i ta tl tk va) : jC E mX8_spells (1, 0, 0) [.ref (E.1 + 38), .int (nI 4), .int (nI 119), .int (nI 111), .int (nI 114), .int (nI 107), .int (nI 0), .int (nI 0)] h n (jR (some (.int (jb (kT F bn i = 3)))) h n) := by
  refine J.of (L := [(0, .ref (E.1 + 38)), (1, .int (nI 4)), (2, .int (nI 119)), (3, .int (nI 111)), (4, .int (nI 114)), (5, .int (nI 107)), (6, .int (nI 0)), (7, .int (nI 0))]) rfl (by decide +kernel) (Nat.le_of_ble_eq_true rfl) ?_
  obtain ⟨PP, hPP⟩ : ∃ PP : jPost, PP = (jR (some (.int (jb (kT F bn i = 3)))) h n) := ⟨_, rfl⟩
  rw [← hPP]
  have hl6 := hst.2.2.2.2.2
  have hl5 := hst.2.2.2.2.1
  have sw := spw_2 hst
  refine J_aload_n dX8_spells_0 rfl ?_
  refine J_get 16 dX8_spells_1 jk8 (Nat.le_of_ble_eq_true rfl) jfRX8_211 H0 (by omega) rfl ?_
  refine J_iconst (v := nI 1) dX8_spells_4 (by decide +kernel) ?_
  refine J_icmp_neN (tgt := 20) dX8_spells_5 (by decide) (by omega) (by omega) (fun c1 => ?_) (fun c1 => ?_)
  · skip
    refine J_iconst (v := nI 0) dX8_spells_20 (by decide +kernel) ?_
    refine J_istore dX8_spells_21 (Nat.le_of_ble_eq_true rfl) (L' := [(8, .int (nI 0)), (0, .ref (E.1 + 38)), (1, .int (nI 4)), (2, .int (nI 119)), (3, .int (nI 111)), (4, .int (nI 114)), (5, .int (nI 107)), (6, .int (nI 0)), (7, .int (nI 0))]) rfl ?_
    refine J_iconst (v := nI 0) dX8_spells_23 (by decide +kernel) ?_
    refine J_istore dX8_spells_24 (Nat.le_of_ble_eq_true rfl) (L' := [(9, .int (nI 0)), (8, .int (nI 0)), (0, .ref (E.1 + 38)), (1, .int (nI 4)), (2, .int (nI 119)), (3, .int (nI 111)), (4, .int (nI 114)), (5, .int (nI 107)), (6, .int (nI 0)), (7, .int (nI 0))]) rfl ?_
    refine J_iload dX8_spells_26 rfl ?_
    refine J_iload_n dX8_spells_28 rfl ?_
    refine J_icmp_geN (tgt := 119) dX8_spells_29 (by decide) (by omega) (by omega) (fun z => absurd z (by decide)) (fun _ => ?_)
    refine J_iload dX8_spells_32 rfl ?_
    refine J_if_eqN (tgt := 119) dX8_spells_34 (by decide) (by omega) (fun _ => ?_) (fun z => absurd z (by decide))
    refine J_iload dX8_spells_119 rfl ?_
    exact J_zret dX8_spells_121 rfl rfl ⟨Nat.le_refl _, Nat.le_refl _⟩ (by rw [hPP]; exact ⟨(congrArg some (Option.some.inj (jret_B0 (by omega)))), rfl, rfl⟩)
  · skip
    refine J_aload_n dX8_spells_8 rfl ?_
    refine J_get 15 dX8_spells_9 jk8 (Nat.le_of_ble_eq_true rfl) jfRX8_208 H0 (by omega) rfl ?_
    refine J_iload_n dX8_spells_12 rfl ?_
    refine J_icmp_neN (tgt := 20) dX8_spells_13 (by decide) (by omega) (by omega) (fun c4 => ?_) (fun c4 => ?_)
    · skip
      refine J_iconst (v := nI 0) dX8_spells_20 (by decide +kernel) ?_
      refine J_istore dX8_spells_21 (Nat.le_of_ble_eq_true rfl) (L' := [(8, .int (nI 0)), (0, .ref (E.1 + 38)), (1, .int (nI 4)), (2, .int (nI 119)), (3, .int (nI 111)), (4, .int (nI 114)), (5, .int (nI 107)), (6, .int (nI 0)), (7, .int (nI 0))]) rfl ?_
      refine J_iconst (v := nI 0) dX8_spells_23 (by decide +kernel) ?_
      refine J_istore dX8_spells_24 (Nat.le_of_ble_eq_true rfl) (L' := [(9, .int (nI 0)), (8, .int (nI 0)), (0, .ref (E.1 + 38)), (1, .int (nI 4)), (2, .int (nI 119)), (3, .int (nI 111)), (4, .int (nI 114)), (5, .int (nI 107)), (6, .int (nI 0)), (7, .int (nI 0))]) rfl ?_
      refine J_iload dX8_spells_26 rfl ?_
      refine J_iload_n dX8_spells_28 rfl ?_
      refine J_icmp_geN (tgt := 119) dX8_spells_29 (by decide) (by omega) (by omega) (fun z => absurd z (by decide)) (fun _ => ?_)
      refine J_iload dX8_spells_32 rfl ?_
      refine J_if_eqN (tgt := 119) dX8_spells_34 (by decide) (by omega) (fun _ => ?_) (fun z => absurd z (by decide))
      refine J_iload dX8_spells_119 rfl ?_
      exact J_zret dX8_spells_121 rfl rfl ⟨Nat.le_refl _, Nat.le_refl _⟩ (by rw [hPP]; exact ⟨(congrArg some (Option.some.inj (jret_B0 (by omega)))), rfl, rfl⟩)
    · skip
      refine J_iconst (v := nI 1) dX8_spells_16 (by decide +kernel) ?_
      refine J_goto (tgt := 21) dX8_spells_17 (by decide) ?_
      refine J_istore dX8_spells_21 (Nat.le_of_ble_eq_true rfl) (L' := [(8, .int (nI 1)), (0, .ref (E.1 + 38)), (1, .int (nI 4)), (2, .int (nI 119)), (3, .int (nI 111)), (4, .int (nI 114)), (5, .int (nI 107)), (6, .int (nI 0)), (7, .int (nI 0))]) rfl ?_
      refine J_iconst (v := nI 0) dX8_spells_23 (by decide +kernel) ?_
      refine J_istore dX8_spells_24 (Nat.le_of_ble_eq_true rfl) (L' := [(9, .int (nI 0)), (8, .int (nI 1)), (0, .ref (E.1 + 38)), (1, .int (nI 4)), (2, .int (nI 119)), (3, .int (nI 111)), (4, .int (nI 114)), (5, .int (nI 107)), (6, .int (nI 0)), (7, .int (nI 0))]) rfl ?_
      refine J_iload dX8_spells_26 rfl ?_
      refine J_iload_n dX8_spells_28 rfl ?_
      refine J_icmp_geN (tgt := 119) dX8_spells_29 (by decide) (by omega) (by omega) (fun z => absurd z (by decide)) (fun _ => ?_)
      refine J_iload dX8_spells_32 rfl ?_
      refine J_if_eqN (tgt := 119) dX8_spells_34 (by decide) (by omega) (fun z => absurd z (by decide)) (fun _ => ?_)
      refine J_aload_n dX8_spells_37 rfl ?_
      refine J_get 12 dX8_spells_38 jk8 (Nat.le_of_ble_eq_true rfl) jfRX8_39 H0 (by omega) rfl ?_
      refine J_aload_n dX8_spells_41 rfl ?_
      refine J_get 14 dX8_spells_42 jk8 (Nat.le_of_ble_eq_true rfl) jfRX8_205 H0 (by omega) rfl ?_
      refine J_iload dX8_spells_45 rfl ?_
      refine J_iaddN dX8_spells_47 ?_
      refine J_ialdN (i := ta + 0) dX8_spells_48 H1 (by omega) (by omega) (by omega) ?_
      have hy := hBY (ta + 0) (by omega)
      refine J_iload dX8_spells_49 rfl ?_
      refine J_if_neN (tgt := 58) dX8_spells_51 (by decide) (by omega) (fun z => absurd z (by decide)) (fun _ => ?_)
      refine J_iload_n dX8_spells_54 rfl ?_
      refine J_goto (tgt := 103) dX8_spells_55 (by decide) ?_
      refine J_icmp_neN (tgt := 110) dX8_spells_103 (by decide) (by omega) (by omega) (fun c10 => ?_) (fun c10 => ?_)
      · skip
        refine J_iconst (v := nI 0) dX8_spells_110 (by decide +kernel) ?_
        refine J_istore dX8_spells_111 (Nat.le_of_ble_eq_true rfl) (L' := [(8, .int (nI 0)), (9, .int (nI 0)), (0, .ref (E.1 + 38)), (1, .int (nI 4)), (2, .int (nI 119)), (3, .int (nI 111)), (4, .int (nI 114)), (5, .int (nI 107)), (6, .int (nI 0)), (7, .int (nI 0))]) rfl ?_
        refine J_iincN (q := 1) (a := 0) (m := 1) dX8_spells_113 rfl (by decide +kernel) (Nat.le_of_ble_eq_true rfl) (L' := [(9, .int (nI 1)), (8, .int (nI 0)), (0, .ref (E.1 + 38)), (1, .int (nI 4)), (2, .int (nI 119)), (3, .int (nI 111)), (4, .int (nI 114)), (5, .int (nI 107)), (6, .int (nI 0)), (7, .int (nI 0))]) rfl ?_
        refine J_goto (tgt := 26) dX8_spells_116 (by decide) ?_
        refine J_iload dX8_spells_26 rfl ?_
        refine J_iload_n dX8_spells_28 rfl ?_
        refine J_icmp_geN (tgt := 119) dX8_spells_29 (by decide) (by omega) (by omega) (fun z => absurd z (by decide)) (fun _ => ?_)
        refine J_iload dX8_spells_32 rfl ?_
        refine J_if_eqN (tgt := 119) dX8_spells_34 (by decide) (by omega) (fun _ => ?_) (fun z => absurd z (by decide))
        refine J_iload dX8_spells_119 rfl ?_
        exact J_zret dX8_spells_121 rfl rfl ⟨Nat.le_refl _, Nat.le_refl _⟩ (by rw [hPP]; exact ⟨(congrArg some (Option.some.inj (jret_B0 (by omega)))), rfl, rfl⟩)
      · skip
        refine J_iconst (v := nI 1) dX8_spells_106 (by decide +kernel) ?_
        refine J_goto (tgt := 111) dX8_spells_107 (by decide) ?_
        refine J_istore dX8_spells_111 (Nat.le_of_ble_eq_true rfl) (L' := [(8, .int (nI 1)), (9, .int (nI 0)), (0, .ref (E.1 + 38)), (1, .int (nI 4)), (2, .int (nI 119)), (3, .int (nI 111)), (4, .int (nI 114)), (5, .int (nI 107)), (6, .int (nI 0)), (7, .int (nI 0))]) rfl ?_
        refine J_iincN (q := 1) (a := 0) (m := 1) dX8_spells_113 rfl (by decide +kernel) (Nat.le_of_ble_eq_true rfl) (L' := [(9, .int (nI 1)), (8, .int (nI 1)), (0, .ref (E.1 + 38)), (1, .int (nI 4)), (2, .int (nI 119)), (3, .int (nI 111)), (4, .int (nI 114)), (5, .int (nI 107)), (6, .int (nI 0)), (7, .int (nI 0))]) rfl ?_
        refine J_goto (tgt := 26) dX8_spells_116 (by decide) ?_
        refine J_iload dX8_spells_26 rfl ?_
        refine J_iload_n dX8_spells_28 rfl ?_
        refine J_icmp_geN (tgt := 119) dX8_spells_29 (by decide) (by omega) (by omega) (fun z => absurd z (by decide)) (fun _ => ?_)
        refine J_iload dX8_spells_32 rfl ?_
        refine J_if_eqN (tgt := 119) dX8_spells_34 (by decide) (by omega) (fun z => absurd z (by decide)) (fun _ => ?_)
        refine J_aload_n dX8_spells_37 rfl ?_
        refine J_get 12 dX8_spells_38 jk8 (Nat.le_of_ble_eq_true rfl) jfRX8_39 H0 (by omega) rfl ?_
        refine J_aload_n dX8_spells_41 rfl ?_
        refine J_get 14 dX8_spells_42 jk8 (Nat.le_of_ble_eq_true rfl) jfRX8_205 H0 (by omega) rfl ?_
        refine J_iload dX8_spells_45 rfl ?_
        refine J_iaddN dX8_spells_47 ?_
        refine J_ialdN (i := ta + 1) dX8_spells_48 H1 (by omega) (by omega) (by omega) ?_
        have hy := hBY (ta + 1) (by omega)
        refine J_iload dX8_spells_49 rfl ?_
        refine J_if_neN (tgt := 58) dX8_spells_51 (by decide) (by omega) (fun _ => ?_) (fun z => absurd z (by decide))
        refine J_iload dX8_spells_58 rfl ?_
        refine J_iconst (v := nI 1) dX8_spells_60 (by decide +kernel) ?_
        refine J_icmp_neN (tgt := 68) dX8_spells_61 (by decide) (by omega) (by omega) (fun z => absurd z (by decide)) (fun _ => ?_)
        refine J_iload_n dX8_spells_64 rfl ?_
        refine J_goto (tgt := 103) dX8_spells_65 (by decide) ?_
        refine J_icmp_neN (tgt := 110) dX8_spells_103 (by decide) (by omega) (by omega) (fun c17 => ?_) (fun c17 => ?_)
        · skip
          refine J_iconst (v := nI 0) dX8_spells_110 (by decide +kernel) ?_
          refine J_istore dX8_spells_111 (Nat.le_of_ble_eq_true rfl) (L' := [(8, .int (nI 0)), (9, .int (nI 1)), (0, .ref (E.1 + 38)), (1, .int (nI 4)), (2, .int (nI 119)), (3, .int (nI 111)), (4, .int (nI 114)), (5, .int (nI 107)), (6, .int (nI 0)), (7, .int (nI 0))]) rfl ?_
          refine J_iincN (q := 1) (a := 1) (m := 1) dX8_spells_113 rfl (by decide +kernel) (Nat.le_of_ble_eq_true rfl) (L' := [(9, .int (nI 2)), (8, .int (nI 0)), (0, .ref (E.1 + 38)), (1, .int (nI 4)), (2, .int (nI 119)), (3, .int (nI 111)), (4, .int (nI 114)), (5, .int (nI 107)), (6, .int (nI 0)), (7, .int (nI 0))]) rfl ?_
          refine J_goto (tgt := 26) dX8_spells_116 (by decide) ?_
          refine J_iload dX8_spells_26 rfl ?_
          refine J_iload_n dX8_spells_28 rfl ?_
          refine J_icmp_geN (tgt := 119) dX8_spells_29 (by decide) (by omega) (by omega) (fun z => absurd z (by decide)) (fun _ => ?_)
          refine J_iload dX8_spells_32 rfl ?_
          refine J_if_eqN (tgt := 119) dX8_spells_34 (by decide) (by omega) (fun _ => ?_) (fun z => absurd z (by decide))
          refine J_iload dX8_spells_119 rfl ?_
          exact J_zret dX8_spells_121 rfl rfl ⟨Nat.le_refl _, Nat.le_refl _⟩ (by rw [hPP]; exact ⟨(congrArg some (Option.some.inj (jret_B0 (by omega)))), rfl, rfl⟩)
        · skip
          refine J_iconst (v := nI 1) dX8_spells_106 (by decide +kernel) ?_
          refine J_goto (tgt := 111) dX8_spells_107 (by decide) ?_
          refine J_istore dX8_spells_111 (Nat.le_of_ble_eq_true rfl) (L' := [(8, .int (nI 1)), (9, .int (nI 1)), (0, .ref (E.1 + 38)), (1, .int (nI 4)), (2, .int (nI 119)), (3, .int (nI 111)), (4, .int (nI 114)), (5, .int (nI 107)), (6, .int (nI 0)), (7, .int (nI 0))]) rfl ?_
          refine J_iincN (q := 1) (a := 1) (m := 1) dX8_spells_113 rfl (by decide +kernel) (Nat.le_of_ble_eq_true rfl) (L' := [(9, .int (nI 2)), (8, .int (nI 1)), (0, .ref (E.1 + 38)), (1, .int (nI 4)), (2, .int (nI 119)), (3, .int (nI 111)), (4, .int (nI 114)), (5, .int (nI 107)), (6, .int (nI 0)), (7, .int (nI 0))]) rfl ?_
          refine J_goto (tgt := 26) dX8_spells_116 (by decide) ?_
          refine J_iload dX8_spells_26 rfl ?_
          refine J_iload_n dX8_spells_28 rfl ?_
          refine J_icmp_geN (tgt := 119) dX8_spells_29 (by decide) (by omega) (by omega) (fun z => absurd z (by decide)) (fun _ => ?_)
          refine J_iload dX8_spells_32 rfl ?_
          refine J_if_eqN (tgt := 119) dX8_spells_34 (by decide) (by omega) (fun z => absurd z (by decide)) (fun _ => ?_)
          refine J_aload_n dX8_spells_37 rfl ?_
          refine J_get 12 dX8_spells_38 jk8 (Nat.le_of_ble_eq_true rfl) jfRX8_39 H0 (by omega) rfl ?_
          refine J_aload_n dX8_spells_41 rfl ?_
          refine J_get 14 dX8_spells_42 jk8 (Nat.le_of_ble_eq_true rfl) jfRX8_205 H0 (by omega) rfl ?_
          refine J_iload dX8_spells_45 rfl ?_
          refine J_iaddN dX8_spells_47 ?_
          refine J_ialdN (i := ta + 2) dX8_spells_48 H1 (by omega) (by omega) (by omega) ?_
          have hy := hBY (ta + 2) (by omega)
          refine J_iload dX8_spells_49 rfl ?_
          refine J_if_neN (tgt := 58) dX8_spells_51 (by decide) (by omega) (fun _ => ?_) (fun z => absurd z (by decide))
          refine J_iload dX8_spells_58 rfl ?_
          refine J_iconst (v := nI 1) dX8_spells_60 (by decide +kernel) ?_
          refine J_icmp_neN (tgt := 68) dX8_spells_61 (by decide) (by omega) (by omega) (fun _ => ?_) (fun z => absurd z (by decide))
          refine J_iload dX8_spells_68 rfl ?_
          refine J_iconst (v := nI 2) dX8_spells_70 (by decide +kernel) ?_
          refine J_icmp_neN (tgt := 79) dX8_spells_71 (by decide) (by omega) (by omega) (fun z => absurd z (by decide)) (fun _ => ?_)
          refine J_iload dX8_spells_74 rfl ?_
          refine J_goto (tgt := 103) dX8_spells_76 (by decide) ?_
          refine J_icmp_neN (tgt := 110) dX8_spells_103 (by decide) (by omega) (by omega) (fun c25 => ?_) (fun c25 => ?_)
          · skip
            refine J_iconst (v := nI 0) dX8_spells_110 (by decide +kernel) ?_
            refine J_istore dX8_spells_111 (Nat.le_of_ble_eq_true rfl) (L' := [(8, .int (nI 0)), (9, .int (nI 2)), (0, .ref (E.1 + 38)), (1, .int (nI 4)), (2, .int (nI 119)), (3, .int (nI 111)), (4, .int (nI 114)), (5, .int (nI 107)), (6, .int (nI 0)), (7, .int (nI 0))]) rfl ?_
            refine J_iincN (q := 1) (a := 2) (m := 1) dX8_spells_113 rfl (by decide +kernel) (Nat.le_of_ble_eq_true rfl) (L' := [(9, .int (nI 3)), (8, .int (nI 0)), (0, .ref (E.1 + 38)), (1, .int (nI 4)), (2, .int (nI 119)), (3, .int (nI 111)), (4, .int (nI 114)), (5, .int (nI 107)), (6, .int (nI 0)), (7, .int (nI 0))]) rfl ?_
            refine J_goto (tgt := 26) dX8_spells_116 (by decide) ?_
            refine J_iload dX8_spells_26 rfl ?_
            refine J_iload_n dX8_spells_28 rfl ?_
            refine J_icmp_geN (tgt := 119) dX8_spells_29 (by decide) (by omega) (by omega) (fun z => absurd z (by decide)) (fun _ => ?_)
            refine J_iload dX8_spells_32 rfl ?_
            refine J_if_eqN (tgt := 119) dX8_spells_34 (by decide) (by omega) (fun _ => ?_) (fun z => absurd z (by decide))
            refine J_iload dX8_spells_119 rfl ?_
            exact J_zret dX8_spells_121 rfl rfl ⟨Nat.le_refl _, Nat.le_refl _⟩ (by rw [hPP]; exact ⟨(congrArg some (Option.some.inj (jret_B0 (by omega)))), rfl, rfl⟩)
          · skip
            refine J_iconst (v := nI 1) dX8_spells_106 (by decide +kernel) ?_
            refine J_goto (tgt := 111) dX8_spells_107 (by decide) ?_
            refine J_istore dX8_spells_111 (Nat.le_of_ble_eq_true rfl) (L' := [(8, .int (nI 1)), (9, .int (nI 2)), (0, .ref (E.1 + 38)), (1, .int (nI 4)), (2, .int (nI 119)), (3, .int (nI 111)), (4, .int (nI 114)), (5, .int (nI 107)), (6, .int (nI 0)), (7, .int (nI 0))]) rfl ?_
            refine J_iincN (q := 1) (a := 2) (m := 1) dX8_spells_113 rfl (by decide +kernel) (Nat.le_of_ble_eq_true rfl) (L' := [(9, .int (nI 3)), (8, .int (nI 1)), (0, .ref (E.1 + 38)), (1, .int (nI 4)), (2, .int (nI 119)), (3, .int (nI 111)), (4, .int (nI 114)), (5, .int (nI 107)), (6, .int (nI 0)), (7, .int (nI 0))]) rfl ?_
            refine J_goto (tgt := 26) dX8_spells_116 (by decide) ?_
            refine J_iload dX8_spells_26 rfl ?_
            refine J_iload_n dX8_spells_28 rfl ?_
            refine J_icmp_geN (tgt := 119) dX8_spells_29 (by decide) (by omega) (by omega) (fun z => absurd z (by decide)) (fun _ => ?_)
            refine J_iload dX8_spells_32 rfl ?_
            refine J_if_eqN (tgt := 119) dX8_spells_34 (by decide) (by omega) (fun z => absurd z (by decide)) (fun _ => ?_)
            refine J_aload_n dX8_spells_37 rfl ?_
            refine J_get 12 dX8_spells_38 jk8 (Nat.le_of_ble_eq_true rfl) jfRX8_39 H0 (by omega) rfl ?_
            refine J_aload_n dX8_spells_41 rfl ?_
            refine J_get 14 dX8_spells_42 jk8 (Nat.le_of_ble_eq_true rfl) jfRX8_205 H0 (by omega) rfl ?_
            refine J_iload dX8_spells_45 rfl ?_
            refine J_iaddN dX8_spells_47 ?_
            refine J_ialdN (i := ta + 3) dX8_spells_48 H1 (by omega) (by omega) (by omega) ?_
            have hy := hBY (ta + 3) (by omega)
            refine J_iload dX8_spells_49 rfl ?_
            refine J_if_neN (tgt := 58) dX8_spells_51 (by decide) (by omega) (fun _ => ?_) (fun z => absurd z (by decide))
            refine J_iload dX8_spells_58 rfl ?_
            refine J_iconst (v := nI 1) dX8_spells_60 (by decide +kernel) ?_
            refine J_icmp_neN (tgt := 68) dX8_spells_61 (by decide) (by omega) (by omega) (fun _ => ?_) (fun z => absurd z (by decide))
            refine J_iload dX8_spells_68 rfl ?_
            refine J_iconst (v := nI 2) dX8_spells_70 (by decide +kernel) ?_
            refine J_icmp_neN (tgt := 79) dX8_spells_71 (by decide) (by omega) (by omega) (fun _ => ?_) (fun z => absurd z (by decide))
            refine J_iload dX8_spells_79 rfl ?_
            refine J_iconst (v := nI 3) dX8_spells_81 (by decide +kernel) ?_
            refine J_icmp_neN (tgt := 90) dX8_spells_82 (by decide) (by omega) (by omega) (fun z => absurd z (by decide)) (fun _ => ?_)
            refine J_iload dX8_spells_85 rfl ?_
            refine J_goto (tgt := 103) dX8_spells_87 (by decide) ?_
            refine J_icmp_neN (tgt := 110) dX8_spells_103 (by decide) (by omega) (by omega) (fun c34 => ?_) (fun c34 => ?_)
            · skip
              refine J_iconst (v := nI 0) dX8_spells_110 (by decide +kernel) ?_
              refine J_istore dX8_spells_111 (Nat.le_of_ble_eq_true rfl) (L' := [(8, .int (nI 0)), (9, .int (nI 3)), (0, .ref (E.1 + 38)), (1, .int (nI 4)), (2, .int (nI 119)), (3, .int (nI 111)), (4, .int (nI 114)), (5, .int (nI 107)), (6, .int (nI 0)), (7, .int (nI 0))]) rfl ?_
              refine J_iincN (q := 1) (a := 3) (m := 1) dX8_spells_113 rfl (by decide +kernel) (Nat.le_of_ble_eq_true rfl) (L' := [(9, .int (nI 4)), (8, .int (nI 0)), (0, .ref (E.1 + 38)), (1, .int (nI 4)), (2, .int (nI 119)), (3, .int (nI 111)), (4, .int (nI 114)), (5, .int (nI 107)), (6, .int (nI 0)), (7, .int (nI 0))]) rfl ?_
              refine J_goto (tgt := 26) dX8_spells_116 (by decide) ?_
              refine J_iload dX8_spells_26 rfl ?_
              refine J_iload_n dX8_spells_28 rfl ?_
              refine J_icmp_geN (tgt := 119) dX8_spells_29 (by decide) (by omega) (by omega) (fun _ => ?_) (fun z => absurd z (by decide))
              refine J_iload dX8_spells_119 rfl ?_
              exact J_zret dX8_spells_121 rfl rfl ⟨Nat.le_refl _, Nat.le_refl _⟩ (by rw [hPP]; exact ⟨(congrArg some (Option.some.inj (jret_B0 (by omega)))), rfl, rfl⟩)
            · skip
              refine J_iconst (v := nI 1) dX8_spells_106 (by decide +kernel) ?_
              refine J_goto (tgt := 111) dX8_spells_107 (by decide) ?_
              refine J_istore dX8_spells_111 (Nat.le_of_ble_eq_true rfl) (L' := [(8, .int (nI 1)), (9, .int (nI 3)), (0, .ref (E.1 + 38)), (1, .int (nI 4)), (2, .int (nI 119)), (3, .int (nI 111)), (4, .int (nI 114)), (5, .int (nI 107)), (6, .int (nI 0)), (7, .int (nI 0))]) rfl ?_
              refine J_iincN (q := 1) (a := 3) (m := 1) dX8_spells_113 rfl (by decide +kernel) (Nat.le_of_ble_eq_true rfl) (L' := [(9, .int (nI 4)), (8, .int (nI 1)), (0, .ref (E.1 + 38)), (1, .int (nI 4)), (2, .int (nI 119)), (3, .int (nI 111)), (4, .int (nI 114)), (5, .int (nI 107)), (6, .int (nI 0)), (7, .int (nI 0))]) rfl ?_
              refine J_goto (tgt := 26) dX8_spells_116 (by decide) ?_
              refine J_iload dX8_spells_26 rfl ?_
              refine J_iload_n dX8_spells_28 rfl ?_
              refine J_icmp_geN (tgt := 119) dX8_spells_29 (by decide) (by omega) (by omega) (fun _ => ?_) (fun z => absurd z (by decide))
              refine J_iload dX8_spells_119 rfl ?_
              exact J_zret dX8_spells_121 rfl rfl ⟨Nat.le_refl _, Nat.le_refl _⟩ (by rw [hPP]; exact ⟨(congrArg some (Option.some.inj (jret_B1 (by omega)))), rfl, rfl⟩)

set_option maxHeartbeats 1000000 in
set_option maxRecDepth 100000 in
theorem ctX8_spells_3 {E : jE} {h : Nat → va_E} {n : Nat} (i : Nat) (xa : Nat) (xb : Nat) (dt : Nat) (mo : Nat) (bn : Nat) (ta : Nat) (tl : Nat) (tk : Nat) (va : Nat) (BY : Nat → Nat) (F : Nat → Nat) (H0 : h 38 = .inr (7, [.ref (E.1 + 39), .ref (E.1 + 40), .ref (E.1 + 41), .ref (E.1 + 42), .long (lN xa), .long (lN xb), .ref (E.1 + 43), .int (nI dt), .ref (E.1 + 44), .ref (E.1 + 45), .int (nI mo), .ref (E.1 + 46), .ref (E.1 + 47), .int (nI bn), .int (nI ta), .int (nI tl), .int (nI tk), .int (nI va), .ref (E.1 + 48), .ref (E.1 + 49)])) (H1 : h 47 = cI E 150 (nF BY)) (hn : 50 ≤ n) (hBY : ∀ zz, zz < bn → BY zz = F zz ∧ F zz ≤ 127) (hbn : bn ≤ 150) (hst : stQ F bn i ta tl tk va) : jC E mX8_spells (1, 0, 0) [.ref (E.1 + 38), .int (nI 3), .int (nI 100), .int (nI 97), .int (nI 121), .int (nI 0), .int (nI 0), .int (nI 0)] h n (jR (some (.int (jb (kT F bn i = 4)))) h n) := by
  refine J.of (L := [(0, .ref (E.1 + 38)), (1, .int (nI 3)), (2, .int (nI 100)), (3, .int (nI 97)), (4, .int (nI 121)), (5, .int (nI 0)), (6, .int (nI 0)), (7, .int (nI 0))]) rfl (by decide +kernel) (Nat.le_of_ble_eq_true rfl) ?_
  obtain ⟨PP, hPP⟩ : ∃ PP : jPost, PP = (jR (some (.int (jb (kT F bn i = 4)))) h n) := ⟨_, rfl⟩
  rw [← hPP]
  have hl6 := hst.2.2.2.2.2
  have hl5 := hst.2.2.2.2.1
  have sw := spw_3 hst
  refine J_aload_n dX8_spells_0 rfl ?_
  refine J_get 16 dX8_spells_1 jk8 (Nat.le_of_ble_eq_true rfl) jfRX8_211 H0 (by omega) rfl ?_
  refine J_iconst (v := nI 1) dX8_spells_4 (by decide +kernel) ?_
  refine J_icmp_neN (tgt := 20) dX8_spells_5 (by decide) (by omega) (by omega) (fun c1 => ?_) (fun c1 => ?_)
  · skip
    refine J_iconst (v := nI 0) dX8_spells_20 (by decide +kernel) ?_
    refine J_istore dX8_spells_21 (Nat.le_of_ble_eq_true rfl) (L' := [(8, .int (nI 0)), (0, .ref (E.1 + 38)), (1, .int (nI 3)), (2, .int (nI 100)), (3, .int (nI 97)), (4, .int (nI 121)), (5, .int (nI 0)), (6, .int (nI 0)), (7, .int (nI 0))]) rfl ?_
    refine J_iconst (v := nI 0) dX8_spells_23 (by decide +kernel) ?_
    refine J_istore dX8_spells_24 (Nat.le_of_ble_eq_true rfl) (L' := [(9, .int (nI 0)), (8, .int (nI 0)), (0, .ref (E.1 + 38)), (1, .int (nI 3)), (2, .int (nI 100)), (3, .int (nI 97)), (4, .int (nI 121)), (5, .int (nI 0)), (6, .int (nI 0)), (7, .int (nI 0))]) rfl ?_
    refine J_iload dX8_spells_26 rfl ?_
    refine J_iload_n dX8_spells_28 rfl ?_
    refine J_icmp_geN (tgt := 119) dX8_spells_29 (by decide) (by omega) (by omega) (fun z => absurd z (by decide)) (fun _ => ?_)
    refine J_iload dX8_spells_32 rfl ?_
    refine J_if_eqN (tgt := 119) dX8_spells_34 (by decide) (by omega) (fun _ => ?_) (fun z => absurd z (by decide))
    refine J_iload dX8_spells_119 rfl ?_
    exact J_zret dX8_spells_121 rfl rfl ⟨Nat.le_refl _, Nat.le_refl _⟩ (by rw [hPP]; exact ⟨(congrArg some (Option.some.inj (jret_B0 (by omega)))), rfl, rfl⟩)
  · skip
    refine J_aload_n dX8_spells_8 rfl ?_
    refine J_get 15 dX8_spells_9 jk8 (Nat.le_of_ble_eq_true rfl) jfRX8_208 H0 (by omega) rfl ?_
    refine J_iload_n dX8_spells_12 rfl ?_
    refine J_icmp_neN (tgt := 20) dX8_spells_13 (by decide) (by omega) (by omega) (fun c4 => ?_) (fun c4 => ?_)
    · skip
      refine J_iconst (v := nI 0) dX8_spells_20 (by decide +kernel) ?_
      refine J_istore dX8_spells_21 (Nat.le_of_ble_eq_true rfl) (L' := [(8, .int (nI 0)), (0, .ref (E.1 + 38)), (1, .int (nI 3)), (2, .int (nI 100)), (3, .int (nI 97)), (4, .int (nI 121)), (5, .int (nI 0)), (6, .int (nI 0)), (7, .int (nI 0))]) rfl ?_
      refine J_iconst (v := nI 0) dX8_spells_23 (by decide +kernel) ?_
      refine J_istore dX8_spells_24 (Nat.le_of_ble_eq_true rfl) (L' := [(9, .int (nI 0)), (8, .int (nI 0)), (0, .ref (E.1 + 38)), (1, .int (nI 3)), (2, .int (nI 100)), (3, .int (nI 97)), (4, .int (nI 121)), (5, .int (nI 0)), (6, .int (nI 0)), (7, .int (nI 0))]) rfl ?_
      refine J_iload dX8_spells_26 rfl ?_
      refine J_iload_n dX8_spells_28 rfl ?_
      refine J_icmp_geN (tgt := 119) dX8_spells_29 (by decide) (by omega) (by omega) (fun z => absurd z (by decide)) (fun _ => ?_)
      refine J_iload dX8_spells_32 rfl ?_
      refine J_if_eqN (tgt := 119) dX8_spells_34 (by decide) (by omega) (fun _ => ?_) (fun z => absurd z (by decide))
      refine J_iload dX8_spells_119 rfl ?_
      exact J_zret dX8_spells_121 rfl rfl ⟨Nat.le_refl _, Nat.le_refl _⟩ (by rw [hPP]; exact ⟨(congrArg some (Option.some.inj (jret_B0 (by omega)))), rfl, rfl⟩)
    · skip
      refine J_iconst (v := nI 1) dX8_spells_16 (by decide +kernel) ?_
      refine J_goto (tgt := 21) dX8_spells_17 (by decide) ?_
      refine J_istore dX8_spells_21 (Nat.le_of_ble_eq_true rfl) (L' := [(8, .int (nI 1)), (0, .ref (E.1 + 38)), (1, .int (nI 3)), (2, .int (nI 100)), (3, .int (nI 97)), (4, .int (nI 121)), (5, .int (nI 0)), (6, .int (nI 0)), (7, .int (nI 0))]) rfl ?_
      refine J_iconst (v := nI 0) dX8_spells_23 (by decide +kernel) ?_
      refine J_istore dX8_spells_24 (Nat.le_of_ble_eq_true rfl) (L' := [(9, .int (nI 0)), (8, .int (nI 1)), (0, .ref (E.1 + 38)), (1, .int (nI 3)), (2, .int (nI 100)), (3, .int (nI 97)), (4, .int (nI 121)), (5, .int (nI 0)), (6, .int (nI 0)), (7, .int (nI 0))]) rfl ?_
      refine J_iload dX8_spells_26 rfl ?_
      refine J_iload_n dX8_spells_28 rfl ?_
      refine J_icmp_geN (tgt := 119) dX8_spells_29 (by decide) (by omega) (by omega) (fun z => absurd z (by decide)) (fun _ => ?_)
      refine J_iload dX8_spells_32 rfl ?_
      refine J_if_eqN (tgt := 119) dX8_spells_34 (by decide) (by omega) (fun z => absurd z (by decide)) (fun _ => ?_)
      refine J_aload_n dX8_spells_37 rfl ?_
      refine J_get 12 dX8_spells_38 jk8 (Nat.le_of_ble_eq_true rfl) jfRX8_39 H0 (by omega) rfl ?_
      refine J_aload_n dX8_spells_41 rfl ?_
      refine J_get 14 dX8_spells_42 jk8 (Nat.le_of_ble_eq_true rfl) jfRX8_205 H0 (by omega) rfl ?_
      refine J_iload dX8_spells_45 rfl ?_
      refine J_iaddN dX8_spells_47 ?_
      refine J_ialdN (i := ta + 0) dX8_spells_48 H1 (by omega) (by omega) (by omega) ?_
      have hy := hBY (ta + 0) (by omega)
      refine J_iload dX8_spells_49 rfl ?_
      refine J_if_neN (tgt := 58) dX8_spells_51 (by decide) (by omega) (fun z => absurd z (by decide)) (fun _ => ?_)
      refine J_iload_n dX8_spells_54 rfl ?_
      refine J_goto (tgt := 103) dX8_spells_55 (by decide) ?_
      refine J_icmp_neN (tgt := 110) dX8_spells_103 (by decide) (by omega) (by omega) (fun c10 => ?_) (fun c10 => ?_)
      · skip
        refine J_iconst (v := nI 0) dX8_spells_110 (by decide +kernel) ?_
        refine J_istore dX8_spells_111 (Nat.le_of_ble_eq_true rfl) (L' := [(8, .int (nI 0)), (9, .int (nI 0)), (0, .ref (E.1 + 38)), (1, .int (nI 3)), (2, .int (nI 100)), (3, .int (nI 97)), (4, .int (nI 121)), (5, .int (nI 0)), (6, .int (nI 0)), (7, .int (nI 0))]) rfl ?_
        refine J_iincN (q := 1) (a := 0) (m := 1) dX8_spells_113 rfl (by decide +kernel) (Nat.le_of_ble_eq_true rfl) (L' := [(9, .int (nI 1)), (8, .int (nI 0)), (0, .ref (E.1 + 38)), (1, .int (nI 3)), (2, .int (nI 100)), (3, .int (nI 97)), (4, .int (nI 121)), (5, .int (nI 0)), (6, .int (nI 0)), (7, .int (nI 0))]) rfl ?_
        refine J_goto (tgt := 26) dX8_spells_116 (by decide) ?_
        refine J_iload dX8_spells_26 rfl ?_
        refine J_iload_n dX8_spells_28 rfl ?_
        refine J_icmp_geN (tgt := 119) dX8_spells_29 (by decide) (by omega) (by omega) (fun z => absurd z (by decide)) (fun _ => ?_)
        refine J_iload dX8_spells_32 rfl ?_
        refine J_if_eqN (tgt := 119) dX8_spells_34 (by decide) (by omega) (fun _ => ?_) (fun z => absurd z (by decide))
        refine J_iload dX8_spells_119 rfl ?_
        exact J_zret dX8_spells_121 rfl rfl ⟨Nat.le_refl _, Nat.le_refl _⟩ (by rw [hPP]; exact ⟨(congrArg some (Option.some.inj (jret_B0 (by omega)))), rfl, rfl⟩)
      · skip
        refine J_iconst (v := nI 1) dX8_spells_106 (by decide +kernel) ?_
        refine J_goto (tgt := 111) dX8_spells_107 (by decide) ?_
        refine J_istore dX8_spells_111 (Nat.le_of_ble_eq_true rfl) (L' := [(8, .int (nI 1)), (9, .int (nI 0)), (0, .ref (E.1 + 38)), (1, .int (nI 3)), (2, .int (nI 100)), (3, .int (nI 97)), (4, .int (nI 121)), (5, .int (nI 0)), (6, .int (nI 0)), (7, .int (nI 0))]) rfl ?_
        refine J_iincN (q := 1) (a := 0) (m := 1) dX8_spells_113 rfl (by decide +kernel) (Nat.le_of_ble_eq_true rfl) (L' := [(9, .int (nI 1)), (8, .int (nI 1)), (0, .ref (E.1 + 38)), (1, .int (nI 3)), (2, .int (nI 100)), (3, .int (nI 97)), (4, .int (nI 121)), (5, .int (nI 0)), (6, .int (nI 0)), (7, .int (nI 0))]) rfl ?_
        refine J_goto (tgt := 26) dX8_spells_116 (by decide) ?_
        refine J_iload dX8_spells_26 rfl ?_
        refine J_iload_n dX8_spells_28 rfl ?_
        refine J_icmp_geN (tgt := 119) dX8_spells_29 (by decide) (by omega) (by omega) (fun z => absurd z (by decide)) (fun _ => ?_)
        refine J_iload dX8_spells_32 rfl ?_
        refine J_if_eqN (tgt := 119) dX8_spells_34 (by decide) (by omega) (fun z => absurd z (by decide)) (fun _ => ?_)
        refine J_aload_n dX8_spells_37 rfl ?_
        refine J_get 12 dX8_spells_38 jk8 (Nat.le_of_ble_eq_true rfl) jfRX8_39 H0 (by omega) rfl ?_
        refine J_aload_n dX8_spells_41 rfl ?_
        refine J_get 14 dX8_spells_42 jk8 (Nat.le_of_ble_eq_true rfl) jfRX8_205 H0 (by omega) rfl ?_
        refine J_iload dX8_spells_45 rfl ?_
        refine J_iaddN dX8_spells_47 ?_
        refine J_ialdN (i := ta + 1) dX8_spells_48 H1 (by omega) (by omega) (by omega) ?_
        have hy := hBY (ta + 1) (by omega)
        refine J_iload dX8_spells_49 rfl ?_
        refine J_if_neN (tgt := 58) dX8_spells_51 (by decide) (by omega) (fun _ => ?_) (fun z => absurd z (by decide))
        refine J_iload dX8_spells_58 rfl ?_
        refine J_iconst (v := nI 1) dX8_spells_60 (by decide +kernel) ?_
        refine J_icmp_neN (tgt := 68) dX8_spells_61 (by decide) (by omega) (by omega) (fun z => absurd z (by decide)) (fun _ => ?_)
        refine J_iload_n dX8_spells_64 rfl ?_
        refine J_goto (tgt := 103) dX8_spells_65 (by decide) ?_
        refine J_icmp_neN (tgt := 110) dX8_spells_103 (by decide) (by omega) (by omega) (fun c17 => ?_) (fun c17 => ?_)
        · skip
          refine J_iconst (v := nI 0) dX8_spells_110 (by decide +kernel) ?_
          refine J_istore dX8_spells_111 (Nat.le_of_ble_eq_true rfl) (L' := [(8, .int (nI 0)), (9, .int (nI 1)), (0, .ref (E.1 + 38)), (1, .int (nI 3)), (2, .int (nI 100)), (3, .int (nI 97)), (4, .int (nI 121)), (5, .int (nI 0)), (6, .int (nI 0)), (7, .int (nI 0))]) rfl ?_
          refine J_iincN (q := 1) (a := 1) (m := 1) dX8_spells_113 rfl (by decide +kernel) (Nat.le_of_ble_eq_true rfl) (L' := [(9, .int (nI 2)), (8, .int (nI 0)), (0, .ref (E.1 + 38)), (1, .int (nI 3)), (2, .int (nI 100)), (3, .int (nI 97)), (4, .int (nI 121)), (5, .int (nI 0)), (6, .int (nI 0)), (7, .int (nI 0))]) rfl ?_
          refine J_goto (tgt := 26) dX8_spells_116 (by decide) ?_
          refine J_iload dX8_spells_26 rfl ?_
          refine J_iload_n dX8_spells_28 rfl ?_
          refine J_icmp_geN (tgt := 119) dX8_spells_29 (by decide) (by omega) (by omega) (fun z => absurd z (by decide)) (fun _ => ?_)
          refine J_iload dX8_spells_32 rfl ?_
          refine J_if_eqN (tgt := 119) dX8_spells_34 (by decide) (by omega) (fun _ => ?_) (fun z => absurd z (by decide))
          refine J_iload dX8_spells_119 rfl ?_
          exact J_zret dX8_spells_121 rfl rfl ⟨Nat.le_refl _, Nat.le_refl _⟩ (by rw [hPP]; exact ⟨(congrArg some (Option.some.inj (jret_B0 (by omega)))), rfl, rfl⟩)
        · skip
          refine J_iconst (v := nI 1) dX8_spells_106 (by decide +kernel) ?_
          refine J_goto (tgt := 111) dX8_spells_107 (by decide) ?_
          refine J_istore dX8_spells_111 (Nat.le_of_ble_eq_true rfl) (L' := [(8, .int (nI 1)), (9, .int (nI 1)), (0, .ref (E.1 + 38)), (1, .int (nI 3)), (2, .int (nI 100)), (3, .int (nI 97)), (4, .int (nI 121)), (5, .int (nI 0)), (6, .int (nI 0)), (7, .int (nI 0))]) rfl ?_
          refine J_iincN (q := 1) (a := 1) (m := 1) dX8_spells_113 rfl (by decide +kernel) (Nat.le_of_ble_eq_true rfl) (L' := [(9, .int (nI 2)), (8, .int (nI 1)), (0, .ref (E.1 + 38)), (1, .int (nI 3)), (2, .int (nI 100)), (3, .int (nI 97)), (4, .int (nI 121)), (5, .int (nI 0)), (6, .int (nI 0)), (7, .int (nI 0))]) rfl ?_
          refine J_goto (tgt := 26) dX8_spells_116 (by decide) ?_
          refine J_iload dX8_spells_26 rfl ?_
          refine J_iload_n dX8_spells_28 rfl ?_
          refine J_icmp_geN (tgt := 119) dX8_spells_29 (by decide) (by omega) (by omega) (fun z => absurd z (by decide)) (fun _ => ?_)
          refine J_iload dX8_spells_32 rfl ?_
          refine J_if_eqN (tgt := 119) dX8_spells_34 (by decide) (by omega) (fun z => absurd z (by decide)) (fun _ => ?_)
          refine J_aload_n dX8_spells_37 rfl ?_
          refine J_get 12 dX8_spells_38 jk8 (Nat.le_of_ble_eq_true rfl) jfRX8_39 H0 (by omega) rfl ?_
          refine J_aload_n dX8_spells_41 rfl ?_
          refine J_get 14 dX8_spells_42 jk8 (Nat.le_of_ble_eq_true rfl) jfRX8_205 H0 (by omega) rfl ?_
          refine J_iload dX8_spells_45 rfl ?_
          refine J_iaddN dX8_spells_47 ?_
          refine J_ialdN (i := ta + 2) dX8_spells_48 H1 (by omega) (by omega) (by omega) ?_
          have hy := hBY (ta + 2) (by omega)
          refine J_iload dX8_spells_49 rfl ?_
          refine J_if_neN (tgt := 58) dX8_spells_51 (by decide) (by omega) (fun _ => ?_) (fun z => absurd z (by decide))
          refine J_iload dX8_spells_58 rfl ?_
          refine J_iconst (v := nI 1) dX8_spells_60 (by decide +kernel) ?_
          refine J_icmp_neN (tgt := 68) dX8_spells_61 (by decide) (by omega) (by omega) (fun _ => ?_) (fun z => absurd z (by decide))
          refine J_iload dX8_spells_68 rfl ?_
          refine J_iconst (v := nI 2) dX8_spells_70 (by decide +kernel) ?_
          refine J_icmp_neN (tgt := 79) dX8_spells_71 (by decide) (by omega) (by omega) (fun z => absurd z (by decide)) (fun _ => ?_)
          refine J_iload dX8_spells_74 rfl ?_
          refine J_goto (tgt := 103) dX8_spells_76 (by decide) ?_
          refine J_icmp_neN (tgt := 110) dX8_spells_103 (by decide) (by omega) (by omega) (fun c25 => ?_) (fun c25 => ?_)
          · skip
            refine J_iconst (v := nI 0) dX8_spells_110 (by decide +kernel) ?_
            refine J_istore dX8_spells_111 (Nat.le_of_ble_eq_true rfl) (L' := [(8, .int (nI 0)), (9, .int (nI 2)), (0, .ref (E.1 + 38)), (1, .int (nI 3)), (2, .int (nI 100)), (3, .int (nI 97)), (4, .int (nI 121)), (5, .int (nI 0)), (6, .int (nI 0)), (7, .int (nI 0))]) rfl ?_
            refine J_iincN (q := 1) (a := 2) (m := 1) dX8_spells_113 rfl (by decide +kernel) (Nat.le_of_ble_eq_true rfl) (L' := [(9, .int (nI 3)), (8, .int (nI 0)), (0, .ref (E.1 + 38)), (1, .int (nI 3)), (2, .int (nI 100)), (3, .int (nI 97)), (4, .int (nI 121)), (5, .int (nI 0)), (6, .int (nI 0)), (7, .int (nI 0))]) rfl ?_
            refine J_goto (tgt := 26) dX8_spells_116 (by decide) ?_
            refine J_iload dX8_spells_26 rfl ?_
            refine J_iload_n dX8_spells_28 rfl ?_
            refine J_icmp_geN (tgt := 119) dX8_spells_29 (by decide) (by omega) (by omega) (fun _ => ?_) (fun z => absurd z (by decide))
            refine J_iload dX8_spells_119 rfl ?_
            exact J_zret dX8_spells_121 rfl rfl ⟨Nat.le_refl _, Nat.le_refl _⟩ (by rw [hPP]; exact ⟨(congrArg some (Option.some.inj (jret_B0 (by omega)))), rfl, rfl⟩)
          · skip
            refine J_iconst (v := nI 1) dX8_spells_106 (by decide +kernel) ?_
            refine J_goto (tgt := 111) dX8_spells_107 (by decide) ?_
            refine J_istore dX8_spells_111 (Nat.le_of_ble_eq_true rfl) (L' := [(8, .int (nI 1)), (9, .int (nI 2)), (0, .ref (E.1 + 38)), (1, .int (nI 3)), (2, .int (nI 100)), (3, .int (nI 97)), (4, .int (nI 121)), (5, .int (nI 0)), (6, .int (nI 0)), (7, .int (nI 0))]) rfl ?_
            refine J_iincN (q := 1) (a := 2) (m := 1) dX8_spells_113 rfl (by decide +kernel) (Nat.le_of_ble_eq_true rfl) (L' := [(9, .int (nI 3)), (8, .int (nI 1)), (0, .ref (E.1 + 38)), (1, .int (nI 3)), (2, .int (nI 100)), (3, .int (nI 97)), (4, .int (nI 121)), (5, .int (nI 0)), (6, .int (nI 0)), (7, .int (nI 0))]) rfl ?_
            refine J_goto (tgt := 26) dX8_spells_116 (by decide) ?_
            refine J_iload dX8_spells_26 rfl ?_
            refine J_iload_n dX8_spells_28 rfl ?_
            refine J_icmp_geN (tgt := 119) dX8_spells_29 (by decide) (by omega) (by omega) (fun _ => ?_) (fun z => absurd z (by decide))
            refine J_iload dX8_spells_119 rfl ?_
            exact J_zret dX8_spells_121 rfl rfl ⟨Nat.le_refl _, Nat.le_refl _⟩ (by rw [hPP]; exact ⟨(congrArg some (Option.some.inj (jret_B1 (by omega)))), rfl, rfl⟩)

set_option maxHeartbeats 1000000 in
set_option maxRecDepth 100000 in
theorem ctX8_takes {E : jE} {h : Nat → va_E} {n : Nat} (kk : Nat) (lo : Nat) (hi : Nat) (i : Nat) (xa : Nat) (xb : Nat) (dt : Nat) (mo : Nat) (bn : Nat) (ta : Nat) (tl : Nat) (tk : Nat) (va : Nat) (BY : Nat → Nat) (F : Nat → Nat) (VA : Nat → Nat) (H0 : h 38 = .inr (7, [.ref (E.1 + 39), .ref (E.1 + 40), .ref (E.1 + 41), .ref (E.1 + 42), .long (lN xa), .long (lN xb), .ref (E.1 + 43), .int (nI dt), .ref (E.1 + 44), .ref (E.1 + 45), .int (nI mo), .ref (E.1 + 46), .ref (E.1 + 47), .int (nI bn), .int (nI ta), .int (nI tl), .int (nI tk), .int (nI va), .ref (E.1 + 48), .ref (E.1 + 49)])) (H1 : h 47 = cI E 150 (nF BY)) (H2 : h 49 = cI E 5 (nF VA)) (hn : 50 ≤ n) (hBY : ∀ zz, zz < bn → BY zz = F zz ∧ F zz ≤ 127) (hbn : bn ≤ 150) (hst : stQ F bn i ta tl tk va) (hkk : kk < 5) (hlo : lo ≤ 99) (hhi : hi ≤ 99) (hok : kT F bn i = 5 ∧ lo ≤ vT F bn i ∧ vT F bn i ≤ hi) : jC E mX8_takes (5, 0, 0) [.ref (E.1 + 38), .int (nI kk), .int (nI lo), .int (nI hi)] h n (fun v h' n' => v = some (.int (nI 1)) ∧ n' = n ∧ ∃ (ta1 : Nat) (tl1 : Nat) (tk1 : Nat) (va1 : Nat), h' = (hset (hset h 49 (cI E 5 (nF (updN VA kk (vT F bn i))))) 38 (.inr (7, [.ref (E.1 + 39), .ref (E.1 + 40), .ref (E.1 + 41), .ref (E.1 + 42), .long (lN xa), .long (lN xb), .ref (E.1 + 43), .int (nI dt), .ref (E.1 + 44), .ref (E.1 + 45), .int (nI mo), .ref (E.1 + 46), .ref (E.1 + 47), .int (nI bn), .int (nI ta1), .int (nI tl1), .int (nI tk1), .int (nI va1), .ref (E.1 + 48), .ref (E.1 + 49)]))) ∧ (stQ F bn (i + 1) ta1 tl1 tk1 va1)) := by
  refine J.of (L := [(0, .ref (E.1 + 38)), (1, .int (nI kk)), (2, .int (nI lo)), (3, .int (nI hi))]) rfl (by decide +kernel) (Nat.le_of_ble_eq_true rfl) ?_
  obtain ⟨PP, hPP⟩ : ∃ PP : jPost, PP = (fun v h' n' => v = some (.int (nI 1)) ∧ n' = n ∧ ∃ (ta1 : Nat) (tl1 : Nat) (tk1 : Nat) (va1 : Nat), h' = (hset (hset h 49 (cI E 5 (nF (updN VA kk (vT F bn i))))) 38 (.inr (7, [.ref (E.1 + 39), .ref (E.1 + 40), .ref (E.1 + 41), .ref (E.1 + 42), .long (lN xa), .long (lN xb), .ref (E.1 + 43), .int (nI dt), .ref (E.1 + 44), .ref (E.1 + 45), .int (nI mo), .ref (E.1 + 46), .ref (E.1 + 47), .int (nI bn), .int (nI ta1), .int (nI tl1), .int (nI tk1), .int (nI va1), .ref (E.1 + 48), .ref (E.1 + 49)]))) ∧ (stQ F bn (i + 1) ta1 tl1 tk1 va1)) := ⟨_, rfl⟩
  rw [← hPP]
  have h25 := tk_2 hst
  have htk4 := hst.2.2.2.2.1
  refine J_aload_n dX8_takes_0 rfl ?_
  refine J_get 16 dX8_takes_1 jk8 (Nat.le_of_ble_eq_true rfl) jfRX8_211 H0 (by omega) rfl ?_
  refine J_iconst (v := nI 2) dX8_takes_4 (by decide +kernel) ?_
  refine J_icmp_neN (tgt := 23) dX8_takes_5 (by decide) (by omega) (by omega) (fun c1 => (by exfalso; omega)) (fun c1 => ?_)
  have hv := vT_le ((tk_2 hst).mp (by omega))
  have hv2 := hst.2.2.2.1 (by omega)
  refine J_aload_n dX8_takes_8 rfl ?_
  refine J_get 17 dX8_takes_9 jk8 (Nat.le_of_ble_eq_true rfl) jfRX8_214 H0 (by omega) rfl ?_
  refine J_i2lN dX8_takes_12 (by omega) ?_
  refine J_iload_n dX8_takes_13 rfl ?_
  refine J_i2lN dX8_takes_14 (by omega) ?_
  refine J_iload_n dX8_takes_15 rfl ?_
  refine J_i2lN dX8_takes_16 (by omega) ?_
  refine J_callSr (M' := mX8_in) (d' := (1, 0, 0)) (rest := []) dX8_takes_17 jmX8_in jlRX8_56 (ctX8_inM va lo hi   (by first | assumption | omega) (by first | assumption | omega) (by first | assumption | omega)) rfl rfl (Nat.le_of_ble_eq_true rfl) (Nat.le_of_ble_eq_true rfl) ⟨Nat.le_refl _, Nat.le_refl _⟩ ?_
  refine J_if_neB (tgt := 25) dX8_takes_20 (by decide) (fun c2 => ?_) (fun c2 => (by exfalso; omega))
  refine J_aload_n dX8_takes_25 rfl ?_
  refine J_get 19 dX8_takes_26 jk8 (Nat.le_of_ble_eq_true rfl) jfRX8_45 H0 (by omega) rfl ?_
  refine J_iload_n dX8_takes_29 rfl ?_
  refine J_aload_n dX8_takes_30 rfl ?_
  refine J_get 17 dX8_takes_31 jk8 (Nat.le_of_ble_eq_true rfl) jfRX8_214 H0 (by omega) rfl ?_
  refine J_iastN (i := kk) (v := va) dX8_takes_34 H2 (by omega) (by omega) (by omega) ?_
  refine J_aload_n dX8_takes_35 rfl ?_
  refine J_callV (M' := mX8_goBehind) (d' := (4, 0, 0)) (rest := []) dX8_takes_36 jmX8_goBehind jlRX8_227 (ctX8_goBehind i xa xb dt mo bn ta tl tk va BY F ((hset_ne (by omega)).trans H0) ((hset_ne (by omega)).trans H1) (by omega) (by first | assumption | omega) (by first | assumption | omega) (by first | assumption | omega)) ((hset_ne (by omega)).trans H0) (by omega) jk8.1 rfl rfl (Nat.le_of_ble_eq_true rfl) (Nat.le_of_ble_eq_true rfl) (by constructor <;> decide +kernel) (fun v9 h9 n9 q9 => ?_)
  obtain ⟨rfl, hn9, ta1_3, tl1_4, tk1_5, va1_6, rfl, hst1_7⟩ := q9
  replace hn9 := hn9.symm
  subst hn9
  refine J.stk (st' := []) rfl ?_
  have hst9 := hst1_7
  refine J_iconst (v := nI 1) dX8_takes_39 (by decide +kernel) ?_
  exact J_zret dX8_takes_40 rfl rfl ⟨Nat.le_refl _, Nat.le_refl _⟩ (by rw [hPP]; exact ⟨rfl, rfl, ta1_3, tl1_4, tk1_5, va1_6, (hset_cg (hset_cg rfl (cI_cg (by intro z; first | rfl | (rw [hv2])))) rfl), (by exact hst9)⟩)

set_option maxHeartbeats 1000000 in
set_option maxRecDepth 100000 in
theorem ctX8_takes_no {E : jE} {h : Nat → va_E} {n : Nat} (kk : Nat) (lo : Nat) (hi : Nat) (i : Nat) (xa : Nat) (xb : Nat) (dt : Nat) (mo : Nat) (bn : Nat) (ta : Nat) (tl : Nat) (tk : Nat) (va : Nat) (BY : Nat → Nat) (F : Nat → Nat) (VA : Nat → Nat) (H0 : h 38 = .inr (7, [.ref (E.1 + 39), .ref (E.1 + 40), .ref (E.1 + 41), .ref (E.1 + 42), .long (lN xa), .long (lN xb), .ref (E.1 + 43), .int (nI dt), .ref (E.1 + 44), .ref (E.1 + 45), .int (nI mo), .ref (E.1 + 46), .ref (E.1 + 47), .int (nI bn), .int (nI ta), .int (nI tl), .int (nI tk), .int (nI va), .ref (E.1 + 48), .ref (E.1 + 49)])) (H1 : h 47 = cI E 150 (nF BY)) (H2 : h 49 = cI E 5 (nF VA)) (hn : 50 ≤ n) (hBY : ∀ zz, zz < bn → BY zz = F zz ∧ F zz ≤ 127) (hbn : bn ≤ 150) (hst : stQ F bn i ta tl tk va) (hlo : lo ≤ 99) (hhi : hi ≤ 99) (hno : ¬ (kT F bn i = 5 ∧ lo ≤ vT F bn i ∧ vT F bn i ≤ hi)) : jC E mX8_takes (5, 0, 0) [.ref (E.1 + 38), .int (nI kk), .int (nI lo), .int (nI hi)] h n (jR (some (.int (nI 0))) h n) := by
  refine J.of (L := [(0, .ref (E.1 + 38)), (1, .int (nI kk)), (2, .int (nI lo)), (3, .int (nI hi))]) rfl (by decide +kernel) (Nat.le_of_ble_eq_true rfl) ?_
  obtain ⟨PP, hPP⟩ : ∃ PP : jPost, PP = (jR (some (.int (nI 0))) h n) := ⟨_, rfl⟩
  rw [← hPP]
  have h25 := tk_2 hst
  have htk4 := hst.2.2.2.2.1
  refine J_aload_n dX8_takes_0 rfl ?_
  refine J_get 16 dX8_takes_1 jk8 (Nat.le_of_ble_eq_true rfl) jfRX8_211 H0 (by omega) rfl ?_
  refine J_iconst (v := nI 2) dX8_takes_4 (by decide +kernel) ?_
  refine J_icmp_neN (tgt := 23) dX8_takes_5 (by decide) (by omega) (by omega) (fun c1 => ?_) (fun c1 => ?_)
  · skip
    refine J_iconst (v := nI 0) dX8_takes_23 (by decide +kernel) ?_
    exact J_zret dX8_takes_24 rfl rfl ⟨Nat.le_refl _, Nat.le_refl _⟩ (by rw [hPP]; exact ⟨rfl, rfl, rfl⟩)
  · skip
    have hv := vT_le ((tk_2 hst).mp (by omega))
    have hv2 := hst.2.2.2.1 (by omega)
    refine J_aload_n dX8_takes_8 rfl ?_
    refine J_get 17 dX8_takes_9 jk8 (Nat.le_of_ble_eq_true rfl) jfRX8_214 H0 (by omega) rfl ?_
    refine J_i2lN dX8_takes_12 (by omega) ?_
    refine J_iload_n dX8_takes_13 rfl ?_
    refine J_i2lN dX8_takes_14 (by omega) ?_
    refine J_iload_n dX8_takes_15 rfl ?_
    refine J_i2lN dX8_takes_16 (by omega) ?_
    refine J_callSr (M' := mX8_in) (d' := (1, 0, 0)) (rest := []) dX8_takes_17 jmX8_in jlRX8_56 (ctX8_inM va lo hi   (by first | assumption | omega) (by first | assumption | omega) (by first | assumption | omega)) rfl rfl (Nat.le_of_ble_eq_true rfl) (Nat.le_of_ble_eq_true rfl) ⟨Nat.le_refl _, Nat.le_refl _⟩ ?_
    refine J_if_neB (tgt := 25) dX8_takes_20 (by decide) (fun c2 => (by exfalso; omega)) (fun c2 => ?_)
    refine J_iconst (v := nI 0) dX8_takes_23 (by decide +kernel) ?_
    exact J_zret dX8_takes_24 rfl rfl ⟨Nat.le_refl _, Nat.le_refl _⟩ (by rw [hPP]; exact ⟨rfl, rfl, rfl⟩)

set_option maxHeartbeats 1000000 in
set_option maxRecDepth 100000 in
theorem ctX8_takes_neg {E : jE} {h : Nat → va_E} {n : Nat} (e : Int32) (kk : Nat) (i : Nat) (xa : Nat) (xb : Nat) (dt : Nat) (mo : Nat) (bn : Nat) (ta : Nat) (tl : Nat) (tk : Nat) (va : Nat) (BY : Nat → Nat) (F : Nat → Nat) (VA : Nat → Nat) (H0 : h 38 = .inr (7, [.ref (E.1 + 39), .ref (E.1 + 40), .ref (E.1 + 41), .ref (E.1 + 42), .long (lN xa), .long (lN xb), .ref (E.1 + 43), .int (nI dt), .ref (E.1 + 44), .ref (E.1 + 45), .int (nI mo), .ref (E.1 + 46), .ref (E.1 + 47), .int (nI bn), .int (nI ta), .int (nI tl), .int (nI tk), .int (nI va), .ref (E.1 + 48), .ref (E.1 + 49)])) (H1 : h 47 = cI E 150 (nF BY)) (H2 : h 49 = cI E 5 (nF VA)) (hn : 50 ≤ n) (hBY : ∀ zz, zz < bn → BY zz = F zz ∧ F zz ≤ 127) (hbn : bn ≤ 150) (hst : stQ F bn i ta tl tk va) (he : e = -1) : jC E mX8_takes (5, 0, 0) [.ref (E.1 + 38), .int (nI kk), .int (nI 0), .int e] h n (jR (some (.int (nI 0))) h n) := by
  refine J.of (L := [(0, .ref (E.1 + 38)), (1, .int (nI kk)), (2, .int (nI 0)), (3, .int e)]) rfl (by decide +kernel) (Nat.le_of_ble_eq_true rfl) ?_
  obtain ⟨PP, hPP⟩ : ∃ PP : jPost, PP = (jR (some (.int (nI 0))) h n) := ⟨_, rfl⟩
  rw [← hPP]
  have h25 := tk_2 hst
  have htk4 := hst.2.2.2.2.1
  refine J_aload_n dX8_takes_0 rfl ?_
  refine J_get 16 dX8_takes_1 jk8 (Nat.le_of_ble_eq_true rfl) jfRX8_211 H0 (by omega) rfl ?_
  refine J_iconst (v := nI 2) dX8_takes_4 (by decide +kernel) ?_
  refine J_icmp_neN (tgt := 23) dX8_takes_5 (by decide) (by omega) (by omega) (fun c1 => ?_) (fun c1 => ?_)
  · skip
    refine J_iconst (v := nI 0) dX8_takes_23 (by decide +kernel) ?_
    exact J_zret dX8_takes_24 rfl rfl ⟨Nat.le_refl _, Nat.le_refl _⟩ (by rw [hPP]; exact ⟨rfl, rfl, rfl⟩)
  · skip
    have hv := vT_le ((tk_2 hst).mp (by omega))
    have hv2 := hst.2.2.2.1 (by omega)
    refine J_aload_n dX8_takes_8 rfl ?_
    refine J_get 17 dX8_takes_9 jk8 (Nat.le_of_ble_eq_true rfl) jfRX8_214 H0 (by omega) rfl ?_
    refine J_i2lN dX8_takes_12 (by omega) ?_
    refine J_iload_n dX8_takes_13 rfl ?_
    refine J_i2lN dX8_takes_14 (by omega) ?_
    refine J_iload_n dX8_takes_15 rfl ?_
    refine J_i2l (v := Int32.toInt64 e) dX8_takes_16 rfl ?_
    refine J_callSr (M' := mX8_in) (d' := (1, 0, 0)) (rest := []) dX8_takes_17 jmX8_in jlRX8_56 (ctX8_inM_neg va (Int32.toInt64 e)   (by first | assumption | omega) (by rw [he]; decide +kernel)) rfl rfl (Nat.le_of_ble_eq_true rfl) (Nat.le_of_ble_eq_true rfl) ⟨Nat.le_refl _, Nat.le_refl _⟩ ?_
    refine J_if_neN (tgt := 25) dX8_takes_20 (by decide) (by omega) (fun z => absurd z (by decide)) (fun _ => ?_)
    refine J_iconst (v := nI 0) dX8_takes_23 (by decide +kernel) ?_
    exact J_zret dX8_takes_24 rfl rfl ⟨Nat.le_refl _, Nat.le_refl _⟩ (by rw [hPP]; exact ⟨rfl, rfl, rfl⟩)
