set_option maxHeartbeats 1000000 in
theorem law_loop {E : jE} {nm : String} {S : Array Value → State → Prop} {b len : Nat} {xs : Nat → Int32} (hS : ∀ args s, S args s → va_X b len xs s s.heap ∧ b < s.heap.size ∧ s.heap.size = E.1) (hlen : len ≤ 3072) : ∀ (f i : Nat) (h : Nat → va_E) (n k1 k2 : Nat), len < i + 6 * f + 6 → i ≤ 3100 → Inv E h n → k1 + 11 * f ≤ 600000 → k2 + 228 * f ≤ 7302250 → J E (mLaw nm) (40, 600000, 7302250) S (fun v _ _ => v = some (.int 1)) h n (k1, k2) 18 [(3, .int (nI i)), (2, .ref (E.1 + 38)), (1, .ref (E.1 + 0)), (0, .ref b)] [] := by
  intro f
  induction f with
  | zero =>
    intro i h n k1 k2 hf hi hI hk1 hk2
    refine J_iload_n dL_law_18 rfl ?_
    refine J_aload_n dL_law_19 rfl ?_
    refine J_slen hS dL_law_20 ?_
    refine J_bipush (v := nI 6) dL_law_21 (by decide +kernel) ?_
    refine J_isub dL_law_23 ?_
    refine J_icmp_gt (tgt := 1271) dL_law_24 (by decide) (fun _ => ?_) (fun z => absurd ((gt6 hlen (by omega)).mpr (by omega)) z)
    refine J_iconst (v := 1) dL_law_1271 (by decide +kernel) ?_
    exact J_zret dL_law_1272 rfl rfl (by constructor <;> simp only [] <;> omega) rfl
  | succ f ih =>
    intro i h n k1 k2 hf hi hI hk1 hk2
    refine J_iload_n dL_law_18 rfl ?_
    refine J_aload_n dL_law_19 rfl ?_
    refine J_slen hS dL_law_20 ?_
    refine J_bipush (v := nI 6) dL_law_21 (by decide +kernel) ?_
    refine J_isub dL_law_23 ?_
    refine J_icmp_gt (tgt := 1271) dL_law_24 (by decide) (fun _ => ?_) (fun z => ?_)
    · refine J_iconst (v := 1) dL_law_1271 (by decide +kernel) ?_
      exact J_zret dL_law_1272 rfl rfl (by constructor <;> simp only [] <;> omega) rfl
    have hi6 : i + 6 ≤ len := Nat.not_lt.mp (fun q => z ((gt6 hlen (by omega)).mpr q))
    have kont : ∀ (h2 : Nat → va_E) (n2 k1 k2 : Nat), Inv E h2 n2 → k1 + 11 * f ≤ 600000 → k2 + 228 * f ≤ 7302250 → J E (mLaw nm) (40, 600000, 7302250) S (fun v _ _ => v = some (.int 1)) h2 n2 (k1, k2) 1265 [(3, .int (nI i)), (2, .ref (E.1 + 38)), (1, .ref (E.1 + 0)), (0, .ref b)] [] := by
      intro h2 n2 k1 k2 hI2 q1 q2
      refine J_iincN (q := 0) (a := i) (m := 6) dL_law_1265 rfl (by decide +kernel) (Nat.le_of_ble_eq_true rfl) (L' := [(3, .int (nI (i + 6))), (2, .ref (E.1 + 38)), (1, .ref (E.1 + 0)), (0, .ref b)]) rfl ?_
      refine J_goto (tgt := 18) dL_law_1268 (by decide) ?_
      exact ih (i + 6) h2 n2 k1 k2 (by omega) (by omega) hI2 q1 q2
    refine J_aload_n dL_law_27 rfl ?_
    refine J_iload_n dL_law_28 rfl ?_
    refine J_sld hS (i := i) (by omega) (by omega) dL_law_29 ?_
    refine J_bipush (v := nI 63) dL_law_30 (by decide +kernel) ?_
    refine J_iandN 6 dL_law_32 (uX_lt _) (by decide +kernel) ?_
    have sw : ∀ v, v = uX (xs i) % 2 ^ 6 → v < 35 ∨ 35 ≤ v := fun v _ => by omega
    rcases sw _ rfl with sw | sw
    · have sx : uX (xs i) % 2 ^ 6 = 0 ∨ uX (xs i) % 2 ^ 6 = 1 ∨ uX (xs i) % 2 ^ 6 = 2 ∨ uX (xs i) % 2 ^ 6 = 3 ∨ uX (xs i) % 2 ^ 6 = 4 ∨ uX (xs i) % 2 ^ 6 = 5 ∨ uX (xs i) % 2 ^ 6 = 6 ∨ uX (xs i) % 2 ^ 6 = 7 ∨ uX (xs i) % 2 ^ 6 = 8 ∨ uX (xs i) % 2 ^ 6 = 9 ∨ uX (xs i) % 2 ^ 6 = 10 ∨ uX (xs i) % 2 ^ 6 = 11 ∨ uX (xs i) % 2 ^ 6 = 12 ∨ uX (xs i) % 2 ^ 6 = 13 ∨ uX (xs i) % 2 ^ 6 = 14 ∨ uX (xs i) % 2 ^ 6 = 15 ∨ uX (xs i) % 2 ^ 6 = 16 ∨ uX (xs i) % 2 ^ 6 = 17 ∨ uX (xs i) % 2 ^ 6 = 18 ∨ uX (xs i) % 2 ^ 6 = 19 ∨ uX (xs i) % 2 ^ 6 = 20 ∨ uX (xs i) % 2 ^ 6 = 21 ∨ uX (xs i) % 2 ^ 6 = 22 ∨ uX (xs i) % 2 ^ 6 = 23 ∨ uX (xs i) % 2 ^ 6 = 24 ∨ uX (xs i) % 2 ^ 6 = 25 ∨ uX (xs i) % 2 ^ 6 = 26 ∨ uX (xs i) % 2 ^ 6 = 27 ∨ uX (xs i) % 2 ^ 6 = 28 ∨ uX (xs i) % 2 ^ 6 = 29 ∨ uX (xs i) % 2 ^ 6 = 30 ∨ uX (xs i) % 2 ^ 6 = 31 ∨ uX (xs i) % 2 ^ 6 = 32 ∨ uX (xs i) % 2 ^ 6 = 33 ∨ uX (xs i) % 2 ^ 6 = 34 := by omega
      rcases sx with sx | sx | sx | sx | sx | sx | sx | sx | sx | sx | sx | sx | sx | sx | sx | sx | sx | sx | sx | sx | sx | sx | sx | sx | sx | sx | sx | sx | sx | sx | sx | sx | sx | sx | sx
      · refine J_tableInN (tgt := 188) (v := 0) sx dL_law_33 (by decide +kernel) (by decide +kernel) rfl (by decide) ?_
        exact law_c0 hS hlen hi6 kont hI hk1 hk2
      · refine J_tableInN (tgt := 211) (v := 1) sx dL_law_33 (by decide +kernel) (by decide +kernel) rfl (by decide) ?_
        exact law_c1 hS hlen hi6 kont hI hk1 hk2
      · refine J_tableInN (tgt := 274) (v := 2) sx dL_law_33 (by decide +kernel) (by decide +kernel) rfl (by decide) ?_
        exact law_c2 hS hlen hi6 kont hI hk1 hk2
      · refine J_tableInN (tgt := 297) (v := 3) sx dL_law_33 (by decide +kernel) (by decide +kernel) rfl (by decide) ?_
        exact law_c3 hS hlen hi6 kont hI hk1 hk2
      · refine J_tableInN (tgt := 310) (v := 4) sx dL_law_33 (by decide +kernel) (by decide +kernel) rfl (by decide) ?_
        exact law_c4 hS hlen hi6 kont hI hk1 hk2
      · refine J_tableInN (tgt := 323) (v := 5) sx dL_law_33 (by decide +kernel) (by decide +kernel) rfl (by decide) ?_
        exact law_c5 hS hlen hi6 kont hI hk1 hk2
      · refine J_tableInN (tgt := 366) (v := 6) sx dL_law_33 (by decide +kernel) (by decide +kernel) rfl (by decide) ?_
        exact law_c6 hS hlen hi6 kont hI hk1 hk2
      · refine J_tableInN (tgt := 389) (v := 7) sx dL_law_33 (by decide +kernel) (by decide +kernel) rfl (by decide) ?_
        exact law_c7 hS hlen hi6 kont hI hk1 hk2
      · refine J_tableInN (tgt := 422) (v := 8) sx dL_law_33 (by decide +kernel) (by decide +kernel) rfl (by decide) ?_
        exact law_c8 hS hlen hi6 kont hI hk1 hk2
      · refine J_tableInN (tgt := 445) (v := 9) sx dL_law_33 (by decide +kernel) (by decide +kernel) rfl (by decide) ?_
        exact law_c9 hS hlen hi6 kont hI hk1 hk2
      · refine J_tableInN (tgt := 458) (v := 10) sx dL_law_33 (by decide +kernel) (by decide +kernel) rfl (by decide) ?_
        exact law_c10 hS hlen hi6 kont hI hk1 hk2
      · refine J_tableInN (tgt := 491) (v := 11) sx dL_law_33 (by decide +kernel) (by decide +kernel) rfl (by decide) ?_
        exact law_c11 hS hlen hi6 kont hI hk1 hk2
      · refine J_tableInN (tgt := 524) (v := 12) sx dL_law_33 (by decide +kernel) (by decide +kernel) rfl (by decide) ?_
        exact law_c12 hS hlen hi6 kont hI hk1 hk2
      · refine J_tableInN (tgt := 557) (v := 13) sx dL_law_33 (by decide +kernel) (by decide +kernel) rfl (by decide) ?_
        exact law_c13 hS hlen hi6 kont hI hk1 hk2
      · refine J_tableInN (tgt := 600) (v := 14) sx dL_law_33 (by decide +kernel) (by decide +kernel) rfl (by decide) ?_
        exact law_c14 hS hlen hi6 kont hI hk1 hk2
      · refine J_tableInN (tgt := 623) (v := 15) sx dL_law_33 (by decide +kernel) (by decide +kernel) rfl (by decide) ?_
        exact law_c15 hS hlen hi6 kont hI hk1 hk2
      · refine J_tableInN (tgt := 646) (v := 16) sx dL_law_33 (by decide +kernel) (by decide +kernel) rfl (by decide) ?_
        exact law_c16 hS hlen hi6 kont hI hk1 hk2
      · refine J_tableInN (tgt := 669) (v := 17) sx dL_law_33 (by decide +kernel) (by decide +kernel) rfl (by decide) ?_
        exact law_c17 hS hlen hi6 kont hI hk1 hk2
      · refine J_tableInN (tgt := 712) (v := 18) sx dL_law_33 (by decide +kernel) (by decide +kernel) rfl (by decide) ?_
        exact law_c18 hS hlen hi6 kont hI hk1 hk2
      · refine J_tableInN (tgt := 765) (v := 19) sx dL_law_33 (by decide +kernel) (by decide +kernel) rfl (by decide) ?_
        exact law_c19 hS hlen hi6 kont hI hk1 hk2
      · refine J_tableInN (tgt := 818) (v := 20) sx dL_law_33 (by decide +kernel) (by decide +kernel) rfl (by decide) ?_
        exact law_c20 hS hlen hi6 kont hI hk1 hk2
      · refine J_tableInN (tgt := 871) (v := 21) sx dL_law_33 (by decide +kernel) (by decide +kernel) rfl (by decide) ?_
        exact law_c21 hS hlen hi6 kont hI hk1 hk2
      · refine J_tableInN (tgt := 894) (v := 22) sx dL_law_33 (by decide +kernel) (by decide +kernel) rfl (by decide) ?_
        exact law_c22 hS hlen hi6 kont hI hk1 hk2
      · refine J_tableInN (tgt := 917) (v := 23) sx dL_law_33 (by decide +kernel) (by decide +kernel) rfl (by decide) ?_
        exact law_c23 hS hlen hi6 kont hI hk1 hk2
      · refine J_tableInN (tgt := 940) (v := 24) sx dL_law_33 (by decide +kernel) (by decide +kernel) rfl (by decide) ?_
        exact law_c24 hS hlen hi6 kont hI hk1 hk2
      · refine J_tableInN (tgt := 973) (v := 25) sx dL_law_33 (by decide +kernel) (by decide +kernel) rfl (by decide) ?_
        exact law_c25 hS hlen hi6 kont hI hk1 hk2
      · refine J_tableInN (tgt := 1026) (v := 26) sx dL_law_33 (by decide +kernel) (by decide +kernel) rfl (by decide) ?_
        exact law_c26 hS hlen hi6 kont hI hk1 hk2
      · refine J_tableInN (tgt := 1069) (v := 27) sx dL_law_33 (by decide +kernel) (by decide +kernel) rfl (by decide) ?_
        exact law_c27 hS hlen hi6 kont hI hk1 hk2
      · refine J_tableInN (tgt := 1102) (v := 28) sx dL_law_33 (by decide +kernel) (by decide +kernel) rfl (by decide) ?_
        exact law_c28 hS hlen hi6 kont hI hk1 hk2
      · refine J_tableInN (tgt := 1135) (v := 29) sx dL_law_33 (by decide +kernel) (by decide +kernel) rfl (by decide) ?_
        exact law_c29 hS hlen hi6 kont hI hk1 hk2
      · refine J_tableInN (tgt := 1159) (v := 30) sx dL_law_33 (by decide +kernel) (by decide +kernel) rfl (by decide) ?_
        exact law_c30 hS hlen hi6 kont hI hk1 hk2
      · refine J_tableInN (tgt := 1182) (v := 31) sx dL_law_33 (by decide +kernel) (by decide +kernel) rfl (by decide) ?_
        exact law_c31 hS hlen hi6 kont hI hk1 hk2
      · refine J_tableInN (tgt := 1205) (v := 32) sx dL_law_33 (by decide +kernel) (by decide +kernel) rfl (by decide) ?_
        exact law_c32 hS hlen hi6 kont hI hk1 hk2
      · refine J_tableInN (tgt := 1228) (v := 33) sx dL_law_33 (by decide +kernel) (by decide +kernel) rfl (by decide) ?_
        exact law_c33 hS hlen hi6 kont hI hk1 hk2
      · refine J_tableInN (tgt := 1251) (v := 34) sx dL_law_33 (by decide +kernel) (by decide +kernel) rfl (by decide) ?_
        exact law_c34 hS hlen hi6 kont hI hk1 hk2
    · refine J_tableOutG (tgt := 1265) 35 dL_law_33 sw (by omega) rfl rfl (by decide) ?_
      exact kont h n k1 k2 hI (by omega) (by omega)
