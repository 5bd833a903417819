/-! the parse: what the steps need -/
theorem strm_lt {k s v : Nat → Nat} {t z : Nat} {SO ST : Nat → Nat} {VA : Nat → Int32} (h : strm k s v t SO ST VA) (hz : z ≤ t) (h0 : ¬ k z = 0) : z < t := by
  have := h.2.2
  by_cases e : z = t
  · rw [e] at h0; exact absurd this h0
  · omega
theorem anvJ_le {k s v : Nat → Nat} {t i : Nat} {SO ST : Nat → Nat} {VA : Nat → Int32} (h : strm k s v t SO ST VA) (hi : i < t) : anvJ k v i ≤ t := by
  unfold anvJ
  split
  · omega
  · next h1 =>
    have q1 := strm_lt h (z := i + 1) (by omega) (by omega)
    split
    · omega
    · next h2 =>
      have q2 := strm_lt h (z := i + 1 + 1) (by omega) (by omega)
      split
      · omega
      · next h3 =>
        have q3 := strm_lt h (z := i + 1 + 1 + 1) (by omega) (by omega)
        split
        · omega
        · next h4 =>
          have q4 := strm_lt h (z := i + 1 + 1 + 1 + 1) (by omega) (by omega)
          omega
theorem wrkJ_le {k s v : Nat → Nat} {t an i : Nat} {SO ST : Nat → Nat} {VA : Nat → Int32} (h : strm k s v t SO ST VA) (hi : i < t) : wrkJ k v an i ≤ t := by
  unfold wrkJ
  split
  · omega
  · next h1 =>
    have q1 := strm_lt h (z := i + 1) (by omega) (by omega)
    split
    · omega
    · next h2 =>
      have q2 := strm_lt h (z := i + 1 + 1) (by omega) (by omega)
      omega
theorem anvJ_1 {k v : Nat → Nat} {i : Nat} (h : ¬ okn k v (i + 1) 5) : i + 1 = anvJ k v i := by unfold anvJ; rw [if_pos h]
theorem anvJ_2 {k v : Nat → Nat} {i : Nat} (h1 : okn k v (i + 1) 5) (h : ¬ okn k v (i + 1 + 1) 20) : i + 1 + 1 = anvJ k v i := by unfold anvJ; rw [if_neg (fun q => q h1), if_pos h]
theorem anvJ_3 {k v : Nat → Nat} {i : Nat} (h1 : okn k v (i + 1) 5) (h2 : okn k v (i + 1 + 1) 20) (h : ¬ okn k v (i + 1 + 1 + 1) 20) : i + 1 + 1 + 1 = anvJ k v i := by unfold anvJ; rw [if_neg (fun q => q h1), if_neg (fun q => q h2), if_pos h]
theorem anvJ_4 {k v : Nat → Nat} {i : Nat} (h1 : okn k v (i + 1) 5) (h2 : okn k v (i + 1 + 1) 20) (h3 : okn k v (i + 1 + 1 + 1) 20) (h : ¬ okn k v (i + 1 + 1 + 1 + 1) 20) : i + 1 + 1 + 1 + 1 = anvJ k v i := by unfold anvJ; rw [if_neg (fun q => q h1), if_neg (fun q => q h2), if_neg (fun q => q h3), if_pos h]
theorem anvJ_5 {k v : Nat → Nat} {i : Nat} (h1 : okn k v (i + 1) 5) (h2 : okn k v (i + 1 + 1) 20) (h3 : okn k v (i + 1 + 1 + 1) 20) (h4 : okn k v (i + 1 + 1 + 1 + 1) 20) : i + 1 + 1 + 1 + 1 + 1 = anvJ k v i := by unfold anvJ; rw [if_neg (fun q => q h1), if_neg (fun q => q h2), if_neg (fun q => q h3), if_neg (fun q => q h4)]
theorem wrkJ_1 {k v : Nat → Nat} {an i : Nat} (h : ¬ (k (i + 1) = 5 ∧ v (i + 1) < an)) : i + 1 = wrkJ k v an i := by unfold wrkJ; rw [if_pos h]
theorem wrkJ_2 {k v : Nat → Nat} {an i : Nat} (h1 : k (i + 1) = 5 ∧ v (i + 1) < an) (h : ¬ okn k v (i + 1 + 1) 3) : i + 1 + 1 = wrkJ k v an i := by unfold wrkJ; rw [if_neg (fun q => q h1), if_pos h]
theorem wrkJ_3 {k v : Nat → Nat} {an i : Nat} (h1 : k (i + 1) = 5 ∧ v (i + 1) < an) (h2 : okn k v (i + 1 + 1) 3) : i + 1 + 1 + 1 = wrkJ k v an i := by unfold wrkJ; rw [if_neg (fun q => q h1), if_neg (fun q => q h2)]
theorem itm_all {k v : Nat → Nat} {an i : Nat} : (k i = 2 ∧ ¬ an < 4) ∨ (k i = 2 ∧ an < 4 ∧ ¬ anvOK k v i) ∨ (k i = 2 ∧ an < 4 ∧ anvOK k v i) ∨ (k i = 3 ∧ ¬ wrkOK k v an i) ∨ (k i = 3 ∧ wrkOK k v an i) ∨ (k i = 4) ∨ (¬ k i = 2 ∧ ¬ k i = 3 ∧ ¬ k i = 4) := by
  by_cases h2 : k i = 2
  · by_cases h4 : an < 4
    · by_cases hq : anvOK k v i
      · exact .inr (.inr (.inl ⟨h2, h4, hq⟩))
      · exact .inr (.inl ⟨h2, h4, hq⟩)
    · exact .inl ⟨h2, h4⟩
  · by_cases h3 : k i = 3
    · by_cases hq : wrkOK k v an i
      · exact .inr (.inr (.inr (.inr (.inl ⟨h3, hq⟩))))
      · exact .inr (.inr (.inr (.inl ⟨h3, hq⟩)))
    · by_cases h4 : k i = 4
      · exact .inr (.inr (.inr (.inr (.inr (.inl h4)))))
      · exact .inr (.inr (.inr (.inr (.inr (.inr ⟨h2, h3, h4⟩)))))
theorem stp2 {k v K M : Nat → Nat} {i an td : Nat} (h : k i = 2) : stpS k v (i, an, td, K, M) = (i + 1 + 1 + 1 + 1 + 1 + 1 + 1, an + 1, td, updN K an (v (i + 1)), joinM M an (v (i + 1 + 1)) (v (i + 1 + 1 + 1)) (v (i + 1 + 1 + 1 + 1)) (v (i + 1 + 1 + 1 + 1 + 1))) := if_pos h
theorem stp3 {k v K M : Nat → Nat} {i an td : Nat} (h : k i = 3) : stpS k v (i, an, td, K, M) = (i + 1 + 1 + 1 + 1 + 1, an, td, K, addMN K M (v (i + 1)) (v (i + 1 + 1)) (v (i + 1 + 1 + 1))) := by
  unfold stpS; simp only []; rw [if_neg (by omega), if_pos h]
theorem stp4 {k v K M : Nat → Nat} {i an td : Nat} (h : k i = 4) : stpS k v (i, an, td, K, M) = (i + 1 + 1, an, td + 1, K, dayN K M an td) := by
  unfold stpS; simp only []; rw [if_neg (by omega), if_neg (by omega)]
/-- one ITEM of the parse -/
theorem gs_0 {k v K M : Nat → Nat} {g : Nat × Option pS} {f c i an td : Nat} (h : g = goR k v (f + 1) c (i, an, td, K, M)) (h0 : k i = 0) : g = (c, some (i, an, td, K, M)) := h.trans (goR_0 h0)
theorem gs_full {k v K M : Nat → Nat} {g : Nat × Option pS} {f c i an td : Nat} (h : g = goR k v (f + 1) c (i, an, td, K, M)) (h2 : k i = 2) (h4 : ¬ an < 4) : g = (i, none) := by
  rw [h, goR_j (s := (i, an, td, K, M)) (by simp only []; omega) ((itm2 h2).2.1 h4)]
  rw [(itm2 h2).2.2, if_neg h4]
theorem gs_anvN {k v K M : Nat → Nat} {g : Nat × Option pS} {f c i an td : Nat} (h : g = goR k v (f + 1) c (i, an, td, K, M)) (h2 : k i = 2) (h4 : an < 4) (hn : ¬ anvOK k v i) : g = (anvJ k v i, none) := by
  rw [h, goR_j (s := (i, an, td, K, M)) (by simp only []; omega) (fun q => hn (((itm2 h2).1 h4).mp q))]
  rw [(itm2 h2).2.2, if_pos h4]
theorem gs_anvP {k v K M : Nat → Nat} {g : Nat × Option pS} {f c i an td : Nat} (h : g = goR k v (f + 1) c (i, an, td, K, M)) (h2 : k i = 2) (h4 : an < 4) (hn : anvOK k v i) (hp : ¬ k (i + 1 + 1 + 1 + 1 + 1 + 1) = 6) : g = (i + 1 + 1 + 1 + 1 + 1 + 1, none) := by
  have e : itmJ k v an i = i + 1 + 1 + 1 + 1 + 1 := by rw [(itm2 h2).2.2, if_pos h4, anvJ_ok hn]
  rw [h, goR_p (s := (i, an, td, K, M)) (by simp only []; omega) (((itm2 h2).1 h4).mpr hn) (by simp only []; rw [e]; exact hp)]
  rw [e]
theorem gs_anv {k v K M : Nat → Nat} {g : Nat × Option pS} {f c i an td : Nat} (h : g = goR k v (f + 1) c (i, an, td, K, M)) (h2 : k i = 2) (h4 : an < 4) (hn : anvOK k v i) (hp : k (i + 1 + 1 + 1 + 1 + 1 + 1) = 6) : g = goR k v f (c + 1) (i + 1 + 1 + 1 + 1 + 1 + 1 + 1, an + 1, td, updN K an (v (i + 1)), joinM M an (v (i + 1 + 1)) (v (i + 1 + 1 + 1)) (v (i + 1 + 1 + 1 + 1)) (v (i + 1 + 1 + 1 + 1 + 1))) := by
  have e : itmJ k v an i = i + 1 + 1 + 1 + 1 + 1 := by rw [(itm2 h2).2.2, if_pos h4, anvJ_ok hn]
  rw [h, goR_s (s := (i, an, td, K, M)) (by simp only []; omega) (((itm2 h2).1 h4).mpr hn) (by simp only []; rw [e]; exact hp), stp2 h2]
theorem gs_wrkN {k v K M : Nat → Nat} {g : Nat × Option pS} {f c i an td : Nat} (h : g = goR k v (f + 1) c (i, an, td, K, M)) (h3 : k i = 3) (hn : ¬ wrkOK k v an i) : g = (wrkJ k v an i, none) := by
  rw [h, goR_j (s := (i, an, td, K, M)) (by simp only []; omega) (fun q => hn ((itm3 h3).1.mp q))]
  rw [(itm3 h3).2]
theorem gs_wrkP {k v K M : Nat → Nat} {g : Nat × Option pS} {f c i an td : Nat} (h : g = goR k v (f + 1) c (i, an, td, K, M)) (h3 : k i = 3) (hn : wrkOK k v an i) (hp : ¬ k (i + 1 + 1 + 1 + 1) = 6) : g = (i + 1 + 1 + 1 + 1, none) := by
  have e : itmJ k v an i = i + 1 + 1 + 1 := by rw [(itm3 h3).2, wrkJ_ok hn]
  rw [h, goR_p (s := (i, an, td, K, M)) (by simp only []; omega) ((itm3 h3).1.mpr hn) (by simp only []; rw [e]; exact hp)]
  rw [e]
theorem gs_wrk {k v K M : Nat → Nat} {g : Nat × Option pS} {f c i an td : Nat} (h : g = goR k v (f + 1) c (i, an, td, K, M)) (h3 : k i = 3) (hn : wrkOK k v an i) (hp : k (i + 1 + 1 + 1 + 1) = 6) : g = goR k v f (c + 1) (i + 1 + 1 + 1 + 1 + 1, an, td, K, addMN K M (v (i + 1)) (v (i + 1 + 1)) (v (i + 1 + 1 + 1))) := by
  have e : itmJ k v an i = i + 1 + 1 + 1 := by rw [(itm3 h3).2, wrkJ_ok hn]
  rw [h, goR_s (s := (i, an, td, K, M)) (by simp only []; omega) ((itm3 h3).1.mpr hn) (by simp only []; rw [e]; exact hp), stp3 h3]
theorem gs_dayP {k v K M : Nat → Nat} {g : Nat × Option pS} {f c i an td : Nat} (h : g = goR k v (f + 1) c (i, an, td, K, M)) (h4 : k i = 4) (hp : ¬ k (i + 1) = 6) : g = (i + 1, none) := by
  rw [h, goR_p (s := (i, an, td, K, M)) (by simp only []; omega) (itm4 h4).1 (by simp only []; rw [(itm4 h4).2]; exact hp)]
  rw [(itm4 h4).2]
theorem gs_day {k v K M : Nat → Nat} {g : Nat × Option pS} {f c i an td : Nat} (h : g = goR k v (f + 1) c (i, an, td, K, M)) (h4 : k i = 4) (hp : k (i + 1) = 6) : g = goR k v f (c + 1) (i + 1 + 1, an, td + 1, K, dayN K M an td) := by
  rw [h, goR_s (s := (i, an, td, K, M)) (by simp only []; omega) (itm4 h4).1 (by simp only []; rw [(itm4 h4).2]; exact hp), stp4 h4]
theorem gs_no {k v K M : Nat → Nat} {g : Nat × Option pS} {f c i an td : Nat} (h : g = goR k v (f + 1) c (i, an, td, K, M)) (h0 : ¬ k i = 0) (hn : ¬ k i = 2 ∧ ¬ k i = 3 ∧ ¬ k i = 4) : g = (i, none) := by
  rw [h, goR_j (s := (i, an, td, K, M)) h0 (itm0 hn).1]
  rw [(itm0 hn).2]
theorem rd_0 {k v : Nat → Nat} (h : ¬ k 0 = 1) : rdG k v = (0, none) := if_neg h
theorem rd_1 {k v : Nat → Nat} (h : k 0 = 1) (h1 : ¬ (k 1 = 5 ∧ v 1 ≤ 9)) : rdG k v = (1, none) := by unfold rdG; rw [if_pos h, if_neg h1]
theorem rd_2 {k v : Nat → Nat} (h : k 0 = 1) (h1 : k 1 = 5 ∧ v 1 ≤ 9) (h2 : ¬ k 2 = 6) : rdG k v = (2, none) := by unfold rdG; rw [if_pos h, if_pos h1, if_neg h2]
theorem rd_3 {k v : Nat → Nat} (h : k 0 = 1) (h1 : k 1 = 5 ∧ v 1 ≤ 9) (h2 : k 2 = 6) : rdG k v = goR k v 159 1 (3, 0, 0, fun _ => 0, fun _ => 0) := by unfold rdG; rw [if_pos h, if_pos h1, if_pos h2]
theorem flt {s : Nat → Nat} {g : Nat × Option pS} {j : Nat} (h : g = (j, none)) : (-10 : Int32) - nI (s j) = outI s g := by rw [h]; rfl
theorem gon {s : Nat → Nat} {g : Nat × Option pS} {c : Nat} {S : pS} (h : g = (c, some S)) : nI c = outI s g := by rw [h]; rfl
/-- the street of the parse, as the cells have it -/
def relS (an td : Nat) (K M : Nat → Nat) (S : pS) : Prop := an = S.2.1 ∧ td = S.2.2.1 ∧ (∀ z, z < an → K z = S.2.2.2.1 z) ∧ (∀ z, z < 4 * an → M z = S.2.2.2.2 z)
theorem upd_rel {K KS : Nat → Nat} {an x : Nat} (h : ∀ z, z < an → K z = KS z) : ∀ z, z < an + 1 → updN K an x z = updN KS an x z := by
  intro z hz; simp only [updN]; split
  · rfl
  · exact h z (by omega)
theorem join_rel {M MS : Nat → Nat} {an a b c d : Nat} (h : ∀ z, z < 4 * an → M z = MS z) : ∀ z, z < 4 * (an + 1) → joinM M an a b c d z = joinM MS an a b c d z := by
  intro z hz; simp only [joinM, updN]
  (repeat' split) <;> first | rfl | exact h z (by omega)
theorem day_rel {K KS M MS : Nat → Nat} {an td : Nat} (hK : ∀ z, z < an → K z = KS z) (h : ∀ z, z < 4 * an → M z = MS z) : ∀ z, z < 4 * an → dayN K M an td z = dayN KS MS an td z := by
  intro z hz; simp only [dayN]
  rw [if_pos hz, if_pos hz, hK (z / 4) (by omega), h z hz]
theorem joinM_l {M : Nat → Nat} {an a b c d : Nat} (h : ∀ z, M z ≤ 20) (ha : a ≤ 20) (hb : b ≤ 20) (hc : c ≤ 20) (hd : d ≤ 20) (z : Nat) : joinM M an a b c d z ≤ 20 := by
  have := h z
  simp only [joinM, updN]
  (repeat' split) <;> omega
