/-! the answers: what the class' cells give is what the reference's row gives -/
section VAL
variable {an td gr nn cn ps : Nat} {K M NC CC PM PD PG Q : Nat → Nat}
theorem rs_K (h : RS an td gr K M nn NC cn CC ps PM PD PG Q) {a : Nat} (ha : a < an) : K a = KQ Q a := h.2.2.1 a ha
theorem rs_V (h : RS an td gr K M nn NC cn CC ps PM PD PG Q) {z : Nat} (hz : z < 4 * an) : M z = MV Q z := h.2.2.2.1 z hz
theorem rs_M (h : RS an td gr K M nn NC cn CC ps PM PD PG Q) {MM : Nat → Nat} {z : Nat} (hz : z < 4 * an) : M z = handM Q MM 16 z := by
  rw [handM_at (by have := h.2.1.1; omega)]; exact rs_V h hz
theorem rs_hM (h : RS an td gr K M nn NC cn CC ps PM PD PG Q) {MM : Nat → Nat} (hMM : ∀ z, MM z ≤ 20) (z : Nat) : handM Q MM 16 z ≤ 20 := handM_le h.2.2.2.2.2.2.2.2.2.1 hMM z
theorem v_up (h : RS an td gr K M nn NC cn CC ps PM PD PG Q) {MM : Nat → Nat} {a t : Nat} (ha : a < an) (ht : t < 4) : upN (K a) (M (4 * a + t)) gr = upN (KQ Q a) (handM Q MM 16 (4 * a + t)) (Q 21) := by
  rw [rs_K h ha, rs_M h (MM := MM) (by omega), h.1.2.2.1]
theorem v_fgn (h : RS an td gr K M nn NC cn CC ps PM PD PG Q) {MM : Nat → Nat} {a t : Nat} (ha : a < an) : fgnN K M gr a t 4 = fgnN (KQ Q) (handM Q MM 16) (Q 21) a t 4 := by
  rw [h.1.2.2.1]; exact fgnN_cg (rs_K h ha) (fun o ho => rs_M h (by omega)) 4 (by omega)
theorem v_then (h : RS an td gr K M nn NC cn CC ps PM PD PG Q) {MM : Nat → Nat} {a t x : Nat} (ha : a < an) (ht : t < 4) : thenN (K a) (M (4 * a + t)) td x = dayI (KQ Q) (handM Q MM 16) (Q 0) (Q 20) x (4 * a + t) := by
  rw [dayI_then (by rw [← h.1.1]; exact ha) ht, rs_K h ha, rs_M h (MM := MM) (by omega), h.1.2.1]
theorem v_clean (h : RS an td gr K M nn NC cn CC ps PM PD PG Q) {MM : Nat → Nat} {a : Nat} (ha : a < an) : cleanN K M a td = cleanN (KQ Q) (handM Q MM 16) a (Q 20) := by
  unfold cleanN
  refine firstN_cg 91 (fun j hj => ?_)
  unfold clrT
  rw [rs_K h ha, rs_M h (MM := MM) (show 4 * a + 0 < 4 * an by omega), rs_M h (MM := MM) (show 4 * a + 1 < 4 * an by omega), rs_M h (MM := MM) (show 4 * a + 2 < 4 * an by omega), rs_M h (MM := MM) (show 4 * a + 3 < 4 * an by omega), h.1.2.1]
theorem v_keep (h : RS an td gr K M nn NC cn CC ps PM PD PG Q) {a : Nat} (ha : a < an) : keepN K M a = keepN (KQ Q) (MV Q) a := by
  unfold keepN
  refine firstN_cg 10 (fun j hj => ?_)
  unfold keptP
  rw [rs_K h ha, rs_V h (show 4 * a + 0 < 4 * an by omega), rs_V h (show 4 * a + 1 < 4 * an by omega), rs_V h (show 4 * a + 2 < 4 * an by omega), rs_V h (show 4 * a + 3 < 4 * an by omega)]
theorem v_wait (h : RS an td gr K M nn NC cn CC ps PM PD PG Q) {MM : Nat → Nat} {a t x w : Nat} (ha : a < an) (ht : t < 4) : waitN K M gr a t td x w = waitN (KQ Q) (handM Q MM 16) (Q 21) a t (Q 20) x w := by
  unfold waitN
  refine firstN_cg 31 (fun j hj => ?_)
  unfold waitP upT fgnT
  rw [fgnN_cg (K := K) (K' := KQ Q) (M := fun k => thenN (K a) (M k) td j) (M' := fun k => thenN (KQ Q a) (handM Q MM 16 k) (Q 20) j) (rs_K h ha) (fun o ho => by show thenN _ _ _ _ = thenN _ _ _ _; rw [rs_K h ha, rs_M h (MM := MM) (by omega), h.1.2.1]) 4 (by omega), rs_K h ha, rs_M h (MM := MM) (show 4 * a + t < 4 * an by omega), h.1.2.1, h.1.2.2.1]
theorem bestN_lt {F U : Nat → Nat} : ∀ n b, bestN F U n = some b → b < n
  | 0, b, h => by simp [bestN] at h
  | n + 1, b, h => by
    simp only [bestN] at h
    cases e : bestN F U n with
    | none => rw [e] at h; simp at h; omega
    | some c =>
      rw [e] at h
      have := bestN_lt n c e
      simp only [] at h
      split at h <;> (cases h; omega)
theorem bestN_cg {F U F' U' : Nat → Nat} : ∀ n, (∀ i, i < n → F i = F' i ∧ U i = U' i) → bestN F U n = bestN F' U' n
  | 0, _ => rfl
  | n + 1, h => by
    simp only [bestN]
    rw [bestN_cg n (fun i hi => h i (by omega))]
    cases e : bestN F' U' n with
    | none => rfl
    | some b =>
      have hb := bestN_lt n b e
      simp only []
      rw [(h n (by omega)).1, (h n (by omega)).2, (h b (by omega)).1, (h b (by omega)).2]
theorem v_best (h : RS an td gr K M nn NC cn CC ps PM PD PG Q) {MM : Nat → Nat} {t : Nat} (ht : t < 4) : bestN (fun a => fgnN K M gr a t 4) (fun a => upN (K a) (M (4 * a + t)) gr) an = bestN (fun a => fgnN (KQ Q) (handM Q MM 16) (Q 21) a t 4) (fun a => upN (KQ Q a) ((handM Q MM 16) (4 * a + t)) (Q 21)) (Q 0) := by
  rw [← h.1.1]
  exact bestN_cg an (fun i hi => ⟨v_fgn h hi, v_up h hi ht⟩)
theorem v_kinds (h : RS an td gr K M nn NC cn CC ps PM PD PG Q) {a : Nat} : kindsN NC nn a = bitsN (fun kd => noteR Q a kd (Q 1)) 6 := by
  unfold kindsN
  refine bitsN_cg 6 (fun kd _ => ?_)
  have c := h.2.2.2.2.1
  have e := h.1.2.2.2.1
  constructor
  · intro q k hk hq
    have z := q k (by omega)
    rw [c (4 * k + 0) (by omega), c (4 * k + 1) (by omega), c (4 * k + 2) (by omega), c (4 * k + 3) (by omega)] at z
    exact z hq
  · intro q k hk hq
    rw [c (4 * k + 0) (by omega)] at hq
    rw [c (4 * k + 1) (by omega), c (4 * k + 2) (by omega), c (4 * k + 3) (by omega)]
    exact q k (by omega) hq
theorem v_memo (h : RS an td gr K M nn NC cn CC ps PM PD PG Q) {a t : Nat} (ha : a < an) : memoN CC cn (K a) a t = bitsN (fun m => cameR Q a t m (Q 2)) 21 := by
  unfold memoN
  refine bitsN_cg 21 (fun m _ => ?_)
  have c := h.2.2.2.2.2.1
  have e := h.1.2.2.2.2.1
  rw [rs_K h ha]
  constructor
  · intro q k hk hq
    have z := q k (by omega)
    rw [c (4 * k + 0) (by omega), c (4 * k + 1) (by omega), c (4 * k + 2) (by omega), c (4 * k + 3) (by omega)] at z
    exact z hq
  · intro q k hk hq
    rw [c (4 * k + 0) (by omega), c (4 * k + 1) (by omega)] at hq
    rw [c (4 * k + 2) (by omega), c (4 * k + 3) (by omega)]
    exact q k (by omega) hq
theorem v_whose (h : RS an td gr K M nn NC cn CC ps PM PD PG Q) {MM : Nat → Nat} {a b c d : Nat} : whoseN K M gr an a b c d = whoseN (KQ Q) (handM Q MM 16) (Q 21) (Q 0) a b c d := by
  unfold whoseN
  rw [← h.1.1]
  refine bitsN_cg an (fun o ho => ?_)
  unfold whoseP
  rw [v_up h (MM := MM) ho (show 0 < 4 by omega), v_up h (MM := MM) ho (show 1 < 4 by omega), v_up h (MM := MM) ho (show 2 < 4 by omega), v_up h (MM := MM) ho (show 3 < 4 by omega)]
theorem v_two (h : RS an td gr K M nn NC cn CC ps PM PD PG Q) {MM : Nat → Nat} {s t k : Nat} {F1 F2 : Nat → Int32} : allT (fun x1 x2 => rstP (gF K M gr s an F1) (gF K M gr t an F2) x1 x2 an) k an an = allT (fun x1 x2 => rstP (wG (KQ Q) (handM Q MM 16) (Q 21) s) (wG (KQ Q) (handM Q MM 16) (Q 21) t) x1 x2 (Q 0)) k (Q 0) (Q 0) := by
  rw [← h.1.1]
  have w : ∀ {t : Nat} {F : Nat → Int32} (a : Nat), a < an → gF K M gr t an F a = wG (KQ Q) (handM Q MM 16) (Q 21) t a := fun a ha => by
    rw [gF_at ha]; unfold wG; rw [v_fgn h (MM := MM) ha]
  exact allT_cg (fun i j hi hj => rst_cg hi hj w w) an (Nat.le_refl _)
theorem v_frost (h : RS an td gr K M nn NC cn CC ps PM PD PG Q) {MM : Nat → Nat} {a x : Nat} (ha : a < an) : frT M a x = sumM (handM Q MM 16) a * (10 - x) := by
  unfold frT sumM
  rw [rs_M h (MM := MM) (show 4 * a + 0 < 4 * an by omega), rs_M h (MM := MM) (show 4 * a + 1 < 4 * an by omega), rs_M h (MM := MM) (show 4 * a + 2 < 4 * an by omega), rs_M h (MM := MM) (show 4 * a + 3 < 4 * an by omega)]
theorem v_str (h : RS an td gr K M nn NC cn CC ps PM PD PG Q) {MM : Nat → Nat} {x y : Nat} : strS K M gr an td x y = strS (KQ Q) (handM Q MM 16) (Q 21) (Q 0) (Q 20) x y := by
  rw [← h.1.1, ← h.1.2.1, ← h.1.2.2.1]
  exact (strS_cg (fun a ha => rs_K h ha) (fun j hj => rs_M h hj) y).2
theorem v_dig (h : RS an td gr K M nn NC cn CC ps PM PD PG Q) {sz bn ab be xa xb : Nat} (hs : sz = bn) (ha : ab = xa) (hb : be = xb) : digN an td gr nn cn ps sz K M NC CC ab be = digN (Q 0) (Q 20) (Q 21) (Q 1) (Q 2) (Q 3) bn (KQ Q) (MV Q) (fun k => Q (26 + k)) (fun k => Q (50 + k)) xa xb := by
  obtain ⟨⟨a1, a2, a3, a4, a5, a6⟩, -, c1, c2, c3, c4, -⟩ := h
  subst hs ha hb
  unfold digN
  rw [rowsL_cg (4 * cn) c4, rowsL_cg (4 * nn) c3, anvL_cg an c1 c2, a1, a2, a3, a4, a5, a6]
  rfl
theorem dayM_cg {K K' M M' : Nat → Nat} {an td : Nat} (hK : ∀ a, a < an → K a = K' a) (hM : ∀ j, j < 4 * an → M j = M' j) : ∀ i j, j < 4 * an → dayM K M an td i j = dayM K' M' an td i j
  | 0, j, hj => hM j hj
  | i + 1, j, hj => day_rel hK (fun z hz => dayM_cg hK hM i z hz) j hj
theorem lay_at {Q X : Nat → Nat} {z : Nat} (hz : z < 16) : laynQ Q X 16 (4 + z) = X z := by simp only [laynQ]; rw [if_pos (by omega), show 4 + z - 4 = z by omega]
theorem lay_o {Q X : Nat → Nat} {z : Nat} (hz : z < 4 ∨ 20 ≤ z) : laynQ Q X 16 z = Q z := by simp only [laynQ]; rw [if_neg (by omega)]
theorem RS_work (h : RS an td gr K M nn NC cn CC ps PM PD PG Q) {MM : Nat → Nat} (hMM : ∀ z, MM z ≤ 20) {a t bl : Nat} (ha : a < an) (ht : t < 4) : RS an td gr K (addMN K M a t bl) nn NC cn CC ps PM PD PG (laynQ Q (addMN (KQ Q) (handM Q MM 16) a t bl) 16) :=
  RS_mod h (addMN_le h.2.2.2.2.2.2.2.1.2.1) (fun z h1 h2 => lay_o (by omega)) (by rw [lay_o (by omega)]; exact h.1.2.2.2.2.2) (Nat.le_refl _) (by rw [lay_o (by omega)]; exact h.1.2.1) h.2.1.2.1 (by rw [lay_o (by omega)]; exact h.1.2.2.1) h.2.1.2.2.1
    (fun z hz => by rw [lay_at (by have := h.2.1.1; omega)]; exact addMN_cg ha ht (rs_K h ha) (fun j hj => rs_M h hj) z hz) (fun z hz => by rw [lay_at hz]; exact addMN_le (rs_hM h hMM) z)
theorem RS_day (h : RS an td gr K M nn NC cn CC ps PM PD PG Q) {MM : Nat → Nat} (hMM : ∀ z, MM z ≤ 20) {x : Nat} : RS an (dayT td x) gr K (dayM K M an td x) nn NC cn CC ps PM PD PG (updN (laynQ Q (dayM (KQ Q) (handM Q MM 16) (Q 0) (Q 20) x) 16) 20 (dayT (Q 20) x)) := by
  have o : ∀ z, ¬ z = 20 → updN (laynQ Q (dayM (KQ Q) (handM Q MM 16) (Q 0) (Q 20) x) 16) 20 (dayT (Q 20) x) z = laynQ Q (dayM (KQ Q) (handM Q MM 16) (Q 0) (Q 20) x) 16 z := fun z hz => by simp only [updN]; rw [if_neg hz]
  refine RS_mod h (dayM_le h.2.2.2.2.2.2.2.1.2.1 x) (fun z h1 h2 => by rw [o _ (by omega), lay_o (by omega)]) (by rw [o _ (by omega), lay_o (by omega)]; exact h.1.2.2.2.2.2) (Nat.le_refl _) (by simp only [updN, if_true]; rw [h.1.2.1]) (dayT_le td x) (by rw [o _ (by omega), lay_o (by omega)]; exact h.1.2.2.1) h.2.1.2.2.1 (fun z hz => ?_) (fun z hz => by rw [o _ (by omega), lay_at hz]; exact dayM_le (rs_hM h hMM) x z)
  rw [o _ (by have := h.2.1.1; omega), lay_at (by have := h.2.1.1; omega), ← h.1.1, ← h.1.2.1]
  exact dayM_cg (fun a ha => rs_K h ha) (fun j hj => rs_M h hj) x z hz
theorem RS_salt (h : RS an td gr K M nn NC cn CC ps PM PD PG Q) {a t : Nat} (ha : a < an) (ht : t < 4) : RS an td gr K (updN M (4 * a + t) 0) nn NC cn CC ps PM PD PG (updN Q (4 + 4 * a + t) 0) := by
  have h4 := h.2.1.1
  have o : ∀ z, ¬ z = 4 + 4 * a + t → updN Q (4 + 4 * a + t) 0 z = Q z := fun z hz => by simp only [updN]; rw [if_neg hz]
  refine RS_mod h (updN_le h.2.2.2.2.2.2.2.1.2.1 (by omega)) (fun z h1 h2 => o z (by omega)) (by rw [o _ (by omega)]; exact h.1.2.2.2.2.2) (Nat.le_refl _) (by rw [o _ (by omega)]; exact h.1.2.1) h.2.1.2.1 (by rw [o _ (by omega)]; exact h.1.2.2.1) h.2.1.2.2.1 (fun z hz => ?_) (fun z hz => ?_)
  · simp only [updN]
    by_cases e : z = 4 * a + t
    · rw [if_pos e, if_pos (by omega)]
    · rw [if_neg e, if_neg (by omega)]; exact h.2.2.2.1 z hz
  · simp only [updN]; have := h.2.2.2.2.2.2.2.2.2.1 z hz; split <;> omega
theorem RS_hand (h : RS an td gr K M nn NC cn CC ps PM PD PG Q) {x : Nat} (hx : x ≤ 9) : RS an td x K M nn NC cn CC ps PM PD PG (updN Q 21 x) := by
  have o : ∀ z, ¬ z = 21 → updN Q 21 x z = Q z := fun z hz => by simp only [updN]; rw [if_neg hz]
  exact RS_mod h h.2.2.2.2.2.2.2.1.2.1 (fun z h1 h2 => o z (by omega)) (by rw [o _ (by omega)]; exact h.1.2.2.2.2.2) (Nat.le_refl _) (by rw [o _ (by omega)]; exact h.1.2.1) h.2.1.2.1 (by simp [updN]) hx (fun z hz => by rw [o _ (by have := h.2.1.1; omega)]; exact h.2.2.2.1 z hz) (fun z hz => by rw [o _ (by omega)]; exact h.2.2.2.2.2.2.2.2.2.1 z hz)
end VAL
