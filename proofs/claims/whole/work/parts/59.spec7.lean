/-! ORDERS: ways by their codes, four to a digit; what is left behind some, what it costs; the least, the first of those -/
def foldN {α : Type} (f : Nat → α → α) (s : α) : Nat → α
  | 0 => s
  | a + 1 => f a (foldN f s a)
theorem foldN_add {α : Type} {f : Nat → α → α} {s : α} {m : Nat} : ∀ n, foldN f s (m + n) = foldN (fun j => f (m + j)) (foldN f s m) n
  | 0 => rfl
  | n + 1 => by
    show f (m + n) (foldN f s (m + n)) = f (m + n) (foldN (fun j => f (m + j)) (foldN f s m) n)
    rw [foldN_add n]
theorem foldN_cg {α : Type} {f g : Nat → α → α} {s : α} : ∀ n, (∀ a, a < n → ∀ t, f a t = g a t) → foldN f s n = foldN g s n
  | 0, _ => rfl
  | n + 1, h => by
    show f n (foldN f s n) = g n (foldN g s n)
    rw [foldN_cg n (fun a ha => h a (by omega)), h n (by omega)]
theorem foldN_id {α : Type} {f : Nat → α → α} {s : α} : ∀ n, (∀ a, a < n → f a s = s) → foldN f s n = s
  | 0, _ => rfl
  | n + 1, h => by
    show f n (foldN f s n) = s
    rw [foldN_id n (fun a ha => h a (by omega)), h n (by omega)]
theorem foldN_start {α : Type} {f : Nat → α → α} {s t : α} (h : f 0 s = f 0 t) : ∀ n, 0 < n → foldN f s n = foldN f t n
  | 0, h0 => absurd h0 (Nat.lt_irrefl 0)
  | 1, _ => h
  | n + 2, _ => by
    show f (n + 1) (foldN f s (n + 1)) = f (n + 1) (foldN f t (n + 1))
    rw [foldN_start h (n + 1) (by omega)]
abbrev oW : Type := (Nat → Nat) × (Nat → Nat) × (Nat → Nat) × Nat × Nat × Nat
def oW.K (w : oW) : Nat → Nat := w.1
def oW.T (w : oW) : Nat → Nat := w.2.1
def oW.M (w : oW) : Nat → Nat := w.2.2.1
def oW.an (w : oW) : Nat := w.2.2.2.1
def oW.g (w : oW) : Nat := w.2.2.2.2.1
def oW.bl (w : oW) : Nat := w.2.2.2.2.2
/-- the memories behind the first k orders of the way p (of k digits) -/
def PM (w : oW) : Nat → Nat → Nat → Nat
  | 0, _ => w.M
  | k + 1, p => if p % 4 < w.an then addMN w.K (PM w k (p / 4)) (p % 4) (w.T k) w.bl else PM w k (p / 4)
def PS (w : oW) : Nat → Nat → Nat
  | 0, _ => 0
  | k + 1, p => PS w k (p / 4) + (if p % 4 < w.an then fgnN w.K (PM w k (p / 4)) w.g (p % 4) (w.T k) 4 else 1000000)
theorem PM_s {w : oW} {k p a : Nat} (ha : a < w.an) (h4 : a < 4) : PM w (k + 1) (4 * p + a) = addMN w.K (PM w k p) a (w.T k) w.bl := by
  simp only [PM]; rw [show (4 * p + a) % 4 = a by omega, show (4 * p + a) / 4 = p by omega, if_pos ha]
theorem PS_s {w : oW} {k p a : Nat} (ha : a < w.an) (h4 : a < 4) : PS w (k + 1) (4 * p + a) = PS w k p + fgnN w.K (PM w k p) w.g a (w.T k) 4 := by
  simp only [PS]; rw [show (4 * p + a) % 4 = a by omega, show (4 * p + a) / 4 = p by omega, if_pos ha]
theorem PS_x {w : oW} {k p a : Nat} (ha : ¬ a < w.an) (h4 : a < 4) : 1000000 ≤ PS w (k + 1) (4 * p + a) := by
  simp only [PS]; rw [show (4 * p + a) % 4 = a by omega, if_neg ha]; omega
theorem PM_le {w : oW} (hM : ∀ i, w.M i ≤ 20) : ∀ k p i, PM w k p i ≤ 20
  | 0, _, i => hM i
  | k + 1, p, i => by
    simp only [PM]; split
    · exact addMN_le (PM_le hM k (p / 4)) i
    · exact PM_le hM k (p / 4) i
theorem PS_mono {w : oW} {k p x : Nat} : ∀ r, x < 4 ^ r → PS w k p ≤ PS w (k + r) (p * 4 ^ r + x)
  | 0, hx => by rw [show x = 0 by simp at hx; omega]; simp
  | r + 1, hx => by
    rw [Nat.pow_succ] at hx
    have h1 := PS_mono (w := w) (k := k) (p := p) (x := x / 4) r (by omega)
    rw [← Nat.add_assoc]
    simp only [PS]
    rw [show (p * 4 ^ (r + 1) + x) / 4 = p * 4 ^ r + x / 4 by rw [Nat.pow_succ, ← Nat.mul_assoc]; omega]
    omega
def stepO (w : oW) (q c : Nat) (s : Nat × Nat) : Nat × Nat := if PS w q c < s.1 then (PS w q c, c) else s
theorem stepO_le {w : oW} {q c : Nat} {s : Nat × Nat} : (stepO w q c s).1 ≤ s.1 := by
  unfold stepO; split
  · simp only []; omega
  · exact Nat.le_refl _
theorem stepO_id {w : oW} {q c : Nat} {s : Nat × Nat} (h : s.1 ≤ PS w q c) : stepO w q c s = s := by unfold stepO; exact if_neg (by omega)
/-- the search: of r orders more, behind k, from the way p -/
def dfsO (w : oW) : Nat → Nat → Nat → Nat × Nat → Nat × Nat
  | 0, k, p, s => stepO w k p s
  | r + 1, k, p, s => foldN (fun a t => dfsO w r (k + 1) (4 * p + a) t) s w.an
theorem foldN_le1 {f : Nat → Nat × Nat → Nat × Nat} {s : Nat × Nat} (h : ∀ a t, (f a t).1 ≤ t.1) : ∀ n, (foldN f s n).1 ≤ s.1
  | 0 => Nat.le_refl _
  | n + 1 => Nat.le_trans (h n _) (foldN_le1 h n)
theorem dfsO_le {w : oW} : ∀ r k p s, (dfsO w r k p s).1 ≤ s.1
  | 0, _, _, _ => stepO_le
  | r + 1, k, p, s => foldN_le1 (fun a t => dfsO_le r (k + 1) (4 * p + a) t) w.an
theorem PS_up {w : oW} {k p a : Nat} (h4 : a < 4) : PS w k p ≤ PS w (k + 1) (4 * p + a) := by
  simp only [PS]; rw [show (4 * p + a) / 4 = p by omega]; omega
/-- what has as much already finds nothing -/
theorem dfsO_cut {w : oW} (h4 : w.an ≤ 4) : ∀ r k p (s : Nat × Nat), s.1 ≤ PS w k p → dfsO w r k p s = s
  | 0, k, p, s, h => by simp only [dfsO, stepO]; rw [if_neg (by omega)]
  | r + 1, k, p, s, h => by
    simp only [dfsO]
    exact foldN_id w.an (fun a ha => dfsO_cut h4 r (k + 1) (4 * p + a) s (Nat.le_trans h (PS_up (by omega))))
/-- where the least began makes no odds, if it began high enough -/
theorem dfsO_start {w : oW} (h4 : w.an ≤ 4) (h0 : 0 < w.an) (hM : ∀ i, w.M i ≤ 20) : ∀ r k p (s t : Nat × Nat), PS w k p + 168 * r < s.1 → PS w k p + 168 * r < t.1 → dfsO w r k p s = dfsO w r k p t
  | 0, k, p, s, t, h1, h2 => by simp only [dfsO, stepO]; rw [if_pos (by omega), if_pos (by omega)]
  | r + 1, k, p, s, t, h1, h2 => by
    simp only [dfsO]
    refine foldN_start ?_ w.an h0
    have e := PS_s (w := w) (k := k) (p := p) (a := 0) h0 (by omega)
    have f := fgnN_le (K := w.K) (g := w.g) (a := 0) (t := w.T k) (PM_le hM k p) 4
    exact dfsO_start h4 h0 hM r (k + 1) (4 * p + 0) s t (by omega) (by omega)
/-- the search finds what all the codes give -/
theorem dfsO_all {w : oW} (h4 : w.an ≤ 4) : ∀ r k p (s : Nat × Nat), s.1 ≤ 1000000 → dfsO w r k p s = foldN (fun j => stepO w (k + r) (p * 4 ^ r + j)) s (4 ^ r)
  | 0, k, p, s, _ => by simp [dfsO, foldN]
  | r + 1, k, p, s, hs => by
    simp only [dfsO]
    have key : ∀ a, a ≤ 4 → foldN (fun a t => if a < w.an then dfsO w r (k + 1) (4 * p + a) t else t) s a = foldN (fun j => stepO w (k + (r + 1)) (p * 4 ^ (r + 1) + j)) s (a * 4 ^ r) := by
      intro a
      induction a with
      | zero => intro _; simp [foldN]
      | succ a ih =>
        intro ha
        have hle : (foldN (fun j => stepO w (k + (r + 1)) (p * 4 ^ (r + 1) + j)) s (a * 4 ^ r)).1 ≤ 1000000 := Nat.le_trans (foldN_le1 (fun j t => stepO_le) _) hs
        rw [show (a + 1) * 4 ^ r = a * 4 ^ r + 4 ^ r by rw [Nat.add_mul, Nat.one_mul], foldN_add (m := a * 4 ^ r) (4 ^ r)]
        show (if a < w.an then dfsO w r (k + 1) (4 * p + a) (foldN _ s a) else foldN _ s a) = _
        rw [ih (by omega)]
        by_cases h : a < w.an
        · rw [if_pos h, dfsO_all h4 r (k + 1) (4 * p + a) _ hle]
          refine foldN_cg _ (fun j hj t => ?_)
          rw [show k + 1 + r = k + (r + 1) by omega, show (4 * p + a) * 4 ^ r + j = p * 4 ^ (r + 1) + (a * 4 ^ r + j) by rw [Nat.pow_succ, Nat.add_mul, Nat.mul_comm 4 p, Nat.mul_assoc, Nat.mul_comm 4 (4 ^ r)]; omega]
        · rw [if_neg h]
          refine (foldN_id _ (fun j hj => ?_)).symm
          have m := PS_mono (w := w) (k := k + 1) (p := 4 * p + a) (x := j) r hj
          have x := PS_x (w := w) (k := k) (p := p) (a := a) h (by omega)
          rw [show k + 1 + r = k + (r + 1) by omega, show (4 * p + a) * 4 ^ r + j = p * 4 ^ (r + 1) + (a * 4 ^ r + j) by rw [Nat.pow_succ, Nat.add_mul, Nat.mul_comm 4 p, Nat.mul_assoc, Nat.mul_comm 4 (4 ^ r)]; omega] at m
          exact stepO_id (by omega)
    have z := key 4 (Nat.le_refl _)
    rw [show 4 * 4 ^ r = 4 ^ (r + 1) by rw [Nat.pow_succ, Nat.mul_comm]] at z
    rw [← z, show (4 : Nat) = w.an + (4 - w.an) by omega, foldN_add]
    rw [foldN_id (4 - w.an) (fun a ha => by rw [if_neg (by omega)])]
    exact foldN_cg _ (fun a ha t => by rw [if_pos ha])
/-- the places of a code -/
def digO (q c i : Nat) : Nat := c / 4 ^ (q - 1 - i) % 4
/-- how many orders the figures tell, what each is, and whether they are as told -/
def ndig (x : Nat) : Nat := if x = 0 then 0 else if x < 10 then 1 else if x < 100 then 2 else if x < 1000 then 3 else 4
def figT (x k : Nat) : Nat := x / 10 ^ (ndig x - 1 - k) % 10 - 1
abbrev okW (x : Nat) : Prop := x ≤ 4444 ∧ (x / 1000 = 0 ∨ (1 ≤ x / 1000 % 10 ∧ x / 1000 % 10 ≤ 4)) ∧ (x / 100 = 0 ∨ (1 ≤ x / 100 % 10 ∧ x / 100 % 10 ≤ 4)) ∧ (x / 10 = 0 ∨ (1 ≤ x / 10 % 10 ∧ x / 10 % 10 ≤ 4)) ∧ (x = 0 ∨ (1 ≤ x % 10 ∧ x % 10 ≤ 4))
theorem ndig_le (x : Nat) : ndig x ≤ 4 := by unfold ndig; (repeat' split) <;> omega
theorem figT_lt {x k : Nat} (h : okW x) (hk : k < ndig x) : figT x k < 4 := by
  obtain ⟨h0, h1, h2, h3, h4⟩ := h
  unfold figT
  have e : ndig x = 0 ∧ x = 0 ∨ ndig x = 1 ∧ 1 ≤ x ∧ x < 10 ∨ ndig x = 2 ∧ 10 ≤ x ∧ x < 100 ∨ ndig x = 3 ∧ 100 ≤ x ∧ x < 1000 ∨ ndig x = 4 ∧ 1000 ≤ x := by
    unfold ndig; (repeat' split) <;> omega
  rcases e with ⟨e, _⟩ | ⟨e, _, _⟩ | ⟨e, _, _⟩ | ⟨e, _, _⟩ | ⟨e, _⟩ <;> rw [e] at hk ⊢
  · omega
  · rw [show 1 - 1 - k = 0 by omega]; simp; omega
  · rcases (show k = 0 ∨ k = 1 by omega) with rfl | rfl <;> simp <;> omega
  · rcases (show k = 0 ∨ k = 1 ∨ k = 2 by omega) with rfl | rfl | rfl <;> simp <;> omega
  · rcases (show k = 0 ∨ k = 1 ∨ k = 2 ∨ k = 3 by omega) with rfl | rfl | rfl | rfl <;> simp <;> omega
theorem addMN_cg {K K' M M' : Nat → Nat} {a t b n : Nat} (ha : a < n) (ht : t < 4) (hK : K a = K' a) (hM : ∀ j, j < 4 * n → M j = M' j) : ∀ j, j < 4 * n → addMN K M a t b j = addMN K' M' a t b j := by
  intro j hj
  simp only [addMN, updN]
  rw [hK, hM (4 * a + t) (by omega), hM j hj]
theorem unM {K M : Nat → Nat} {a t b : Nat} (z : Nat) : updN (addMN K M a t b) (4 * a + t) (M (4 * a + t)) z = M z := by
  simp only [addMN, updN]; split
  · next h => rw [h]
  · rfl
abbrev oH (w : oW) (an gr lb : Nat) (K T : Nat → Nat) (lz : Nat) : Prop := w.an = an ∧ w.g = gr ∧ w.bl = lb ∧ an ≤ 4 ∧ (∀ a, a < an → K a = w.K a) ∧ (∀ z, z < lz → T z = w.T z ∧ T z < 4)
theorem PS_st {w : oW} {an gr lb lz k p i : Nat} {K T M : Nat → Nat} (H : oH w an gr lb K T lz) (hk : k < lz) (hi : i < an) (hM : ∀ j, j < 4 * an → M j = PM w k p j) : PS w k p + fgnN K M gr i (T k) 4 = PS w (k + 1) (4 * p + i) := by
  obtain ⟨e1, e2, e3, e4, e5, e6⟩ := H
  rw [PS_s (by omega) (by omega), e2, ← (e6 k hk).1]
  congr 1
  exact fgnN_cg (e5 i hi) (fun o ho => hM _ (by omega)) 4 (by omega)
theorem PM_st {w : oW} {an gr lb lz k p i : Nat} {K T M : Nat → Nat} (H : oH w an gr lb K T lz) (hk : k < lz) (hi : i < an) (hM : ∀ j, j < 4 * an → M j = PM w k p j) : ∀ j, j < 4 * an → addMN K M i (T k) lb j = PM w (k + 1) (4 * p + i) j := by
  obtain ⟨e1, e2, e3, e4, e5, e6⟩ := H
  rw [PM_s (by omega) (by omega), e3, ← (e6 k hk).1]
  exact addMN_cg hi (e6 k hk).2 (e5 i hi) hM
theorem dig_pre {k p i z : Nat} (hz : z < k) (hi : i < 4) : digO (k + 1) (4 * p + i) z = digO k p z := by
  unfold digO
  rw [show k + 1 - 1 - z = k - 1 - z + 1 by omega, Nat.pow_succ, Nat.mul_comm (4 ^ (k - 1 - z)) 4, ← Nat.div_div_eq_div_mul, show (4 * p + i) / 4 = p by omega]
theorem dig_last {k p i : Nat} (hi : i < 4) : digO (k + 1) (4 * p + i) k = i := by
  unfold digO
  rw [show k + 1 - 1 - k = 0 by omega]; simp; omega
theorem dig_st {W : Nat → Nat} {k p i : Nat} (h : ∀ z, z < k → W z = digO k p z) (hi : i < 4) : ∀ z, z < k + 1 → updN W k i z = digO (k + 1) (4 * p + i) z := by
  intro z hz
  simp only [updN]; split
  · next e => rw [e, dig_last hi]
  · rw [h z (by omega), dig_pre (by omega) hi]
theorem dig_lt {q c i : Nat} : digO q c i < 4 := Nat.mod_lt _ (by omega)
theorem dig_eq {c m : Nat} : c / 2 ^ (2 * m) % 2 ^ 2 = c / 4 ^ m % 4 := by rw [Nat.pow_mul]
theorem dig_nx {q c k : Nat} (hk : k < q) : 4 * (c / 4 ^ (q - k)) + digO q c k = c / 4 ^ (q - (k + 1)) := by
  unfold digO
  rw [show q - k = q - (k + 1) + 1 by omega, Nat.pow_succ, ← Nat.div_div_eq_div_mul, show q - 1 - k = q - (k + 1) by omega]
  omega
theorem PS_xe {w : oW} {k p a : Nat} (ha : ¬ a < w.an) (h4 : a < 4) : PS w k p + 1000000 = PS w (k + 1) (4 * p + a) := by
  simp only [PS]; rw [show (4 * p + a) % 4 = a by omega, if_neg ha, show (4 * p + a) / 4 = p by omega]
theorem PM_x {w : oW} {k p a : Nat} (ha : ¬ a < w.an) (h4 : a < 4) : PM w (k + 1) (4 * p + a) = PM w k p := by
  simp only [PM]; rw [show (4 * p + a) % 4 = a by omega, if_neg ha, show (4 * p + a) / 4 = p by omega]
theorem dfs_leaf {w : oW} {k p c le B : Nat} (hc : c = PS w k p) (h : c < le) : dfsO w 0 k p (le, B) = (c, p) := by
  simp only [dfsO, stepO]; rw [← hc, if_pos h]
theorem dfsO_lt {w : oW} (h4 : w.an ≤ 4) (h0 : 0 < w.an) (hM : ∀ i, w.M i ≤ 20) {r k p : Nat} {s : Nat × Nat} : (dfsO w r k p s).1 ≤ PS w k p + 168 * r + 1 := by
  by_cases h : s.1 ≤ PS w k p + 168 * r + 1
  · exact Nat.le_trans (dfsO_le r k p s) h
  · rw [dfsO_start h4 h0 hM r k p s (PS w k p + 168 * r + 1, 0) (by omega) (by simp only []; omega)]
    exact dfsO_le r k p _
theorem ord_same {w : oW} {q : Nat} (h4 : w.an ≤ 4) (h0 : 0 < w.an) (hM : ∀ i, w.M i ≤ 20) (hq : q ≤ 4) : dfsO w q 0 0 (1000, 0) = foldN (stepO w q) (1000000, 0) (4 ^ q) := by
  rw [dfsO_start h4 h0 hM q 0 0 (1000, 0) (1000000, 0) (by simp only [PS]; omega) (by simp only [PS]; omega), dfsO_all h4 q 0 0 (1000000, 0) (Nat.le_refl _)]
  simp only [Nat.zero_mul, Nat.zero_add]
theorem tell_0 {x : Nat} {T1 : Nat → Nat} (e : ndig x = 0) : ∀ z, z < ndig x → T1 z = figT x z := by
  intro z hz; rw [e] at hz; omega
theorem tell_1 {x : Nat} {T1 : Nat → Nat} (e : ndig x = 1) (h0 : T1 0 = x / 1 % 10 - 1) : ∀ z, z < ndig x → T1 z = figT x z := by
  intro z hz; unfold figT; rw [e] at hz ⊢
  rcases (show z = 0 by omega) with rfl
  rw [h0]; try simp
theorem tell_2 {x : Nat} {T1 : Nat → Nat} (e : ndig x = 2) (h0 : T1 0 = x / 10 % 10 - 1) (h1 : T1 1 = x / 1 % 10 - 1) : ∀ z, z < ndig x → T1 z = figT x z := by
  intro z hz; unfold figT; rw [e] at hz ⊢
  rcases (show z = 0 ∨ z = 1 by omega) with rfl | rfl
  · rw [h0]
  · rw [h1]; try simp
theorem tell_3 {x : Nat} {T1 : Nat → Nat} (e : ndig x = 3) (h0 : T1 0 = x / 100 % 10 - 1) (h1 : T1 1 = x / 10 % 10 - 1) (h2 : T1 2 = x / 1 % 10 - 1) : ∀ z, z < ndig x → T1 z = figT x z := by
  intro z hz; unfold figT; rw [e] at hz ⊢
  rcases (show z = 0 ∨ z = 1 ∨ z = 2 by omega) with rfl | rfl | rfl
  · rw [h0]
  · rw [h1]
  · rw [h2]; try simp
theorem tell_4 {x : Nat} {T1 : Nat → Nat} (e : ndig x = 4) (h0 : T1 0 = x / 1000 % 10 - 1) (h1 : T1 1 = x / 100 % 10 - 1) (h2 : T1 2 = x / 10 % 10 - 1) (h3 : T1 3 = x / 1 % 10 - 1) : ∀ z, z < ndig x → T1 z = figT x z := by
  intro z hz; unfold figT; rw [e] at hz ⊢
  rcases (show z = 0 ∨ z = 1 ∨ z = 2 ∨ z = 3 by omega) with rfl | rfl | rfl | rfl
  · rw [h0]
  · rw [h1]
  · rw [h2]
  · rw [h3]; try simp
def ordI (w : oW) (q i : Nat) : Int32 := if i < q then nI (digO q (dfsO w q 0 0 (1000, 0)).2 i) else -5
theorem ordI_t {w : oW} {q i v : Nat} (h : i < q) (e : v = digO q (dfsO w q 0 0 (1000, 0)).2 i) : nI v = ordI w q i := by rw [e, ordI, if_pos h]
theorem ordI_f {w : oW} {q i : Nat} (h : ¬ i < q) : (-5 : Int32) = ordI w q i := by rw [ordI, if_neg h]
theorem inm1 {v : Nat} (h : v < 2 ^ 31) (h1 : ¬ ((-1 : Int32) < nI v)) : False := by
  rw [Int32.lt_iff_toInt_lt] at h1
  rw [nI_toInt h, show ((-1 : Int32)).toInt = -1 by decide +kernel] at h1
  omega
theorem oH_of {w : oW} {an gr bl q : Nat} {K K2 T T1 : Nat → Nat} (h : w.an = an ∧ w.g = gr ∧ w.bl = bl) (h4 : an ≤ 4) (hK : ∀ a, a < an → K a = w.K a) (hT : ∀ z, z < q → T z = w.T z) (hT1 : ∀ z, z < q → T1 z = T z) (hT4 : ∀ z, z < q → T z < 4) : oH w an gr bl (va_cpy K K2 0 0 4) T1 q :=
  ⟨h.1, h.2.1, h.2.2, h4, fun a ha => by rw [cpy_at (by omega)]; exact hK a ha, fun z hz => ⟨(hT1 z hz).trans (hT z hz), by rw [hT1 z hz]; exact hT4 z hz⟩⟩
theorem jbv1 {p : Prop} [Decidable p] (h : p) : Value.int (jb p) = Value.int (nI 1) := by rw [jb_t h]; rfl
theorem jbv0 {p : Prop} [Decidable p] (h : ¬ p) : Value.int (jb p) = Value.int (nI 0) := by rw [jb_f h]; rfl
theorem rell_1 {x : Nat} {T1 : Nat → Nat} (e : ndig x = 1) (h0 : T1 0 = x % 10 - 1) : ∀ z, z < ndig x → T1 z = figT x z := tell_1 e (by rw [h0]; omega)
theorem rell_2 {x : Nat} {T1 : Nat → Nat} (e : ndig x = 2) (h0 : T1 0 = x / 10 % 10 - 1) (h1 : T1 1 = x % 10 - 1) : ∀ z, z < ndig x → T1 z = figT x z := tell_2 e h0 (by rw [h1]; omega)
theorem rell_3 {x : Nat} {T1 : Nat → Nat} (e : ndig x = 3) (h0 : T1 0 = x / 10 / 10 % 10 - 1) (h1 : T1 1 = x / 10 % 10 - 1) (h2 : T1 2 = x % 10 - 1) : ∀ z, z < ndig x → T1 z = figT x z := tell_3 e (by rw [h0]; omega) h1 (by rw [h2]; omega)
theorem rell_4 {x : Nat} {T1 : Nat → Nat} (e : ndig x = 4) (h0 : T1 0 = x / 10 / 10 / 10 % 10 - 1) (h1 : T1 1 = x / 10 / 10 % 10 - 1) (h2 : T1 2 = x / 10 % 10 - 1) (h3 : T1 3 = x % 10 - 1) : ∀ z, z < ndig x → T1 z = figT x z := tell_4 e (by rw [h0]; omega) (by rw [h1]; omega) h2 (by rw [h3]; omega)
theorem two_four {m : Nat} : 1 * 2 ^ (2 * m) = 4 ^ m := by
  rw [Nat.one_mul, Nat.pow_mul, show (2 : Nat) ^ 2 = 4 from rfl]
theorem PS_le {w : oW} (hM : ∀ i, w.M i ≤ 20) : ∀ k p, PS w k p ≤ 1000168 * k
  | 0, _ => Nat.le_refl _
  | k + 1, p => by
    have h := PS_le hM k (p / 4)
    have f := fgnN_le (K := w.K) (g := w.g) (a := p % 4) (t := w.T k) (PM_le hM k (p / 4)) 4
    simp only [PS]; split <;> omega
theorem PS_r1 {w : oW} {an gr lb lz k c : Nat} {K T M : Nat → Nat} (H : oH w an gr lb K T lz) (hk : k < lz) (ha : digO lz c k < an) (hM : ∀ j, j < 4 * an → M j = PM w k (c / 4 ^ (lz - k)) j) : PS w k (c / 4 ^ (lz - k)) + fgnN K M gr (digO lz c k) (T k) 4 = PS w (k + 1) (c / 4 ^ (lz - (k + 1))) := by
  rw [← dig_nx hk]; exact PS_st H hk ha hM
theorem PM_r1 {w : oW} {an gr lb lz k c : Nat} {K T M : Nat → Nat} (H : oH w an gr lb K T lz) (hk : k < lz) (ha : digO lz c k < an) (hM : ∀ j, j < 4 * an → M j = PM w k (c / 4 ^ (lz - k)) j) : ∀ j, j < 4 * an → addMN K M (digO lz c k) (T k) lb j = PM w (k + 1) (c / 4 ^ (lz - (k + 1))) j := by
  rw [← dig_nx hk]; exact PM_st H hk ha hM
theorem PS_r2 {w : oW} {lz k c : Nat} (hk : k < lz) (ha : ¬ digO lz c k < w.an) : PS w k (c / 4 ^ (lz - k)) + 1000000 = PS w (k + 1) (c / 4 ^ (lz - (k + 1))) := by
  rw [← dig_nx hk]; exact PS_xe ha dig_lt
theorem PM_r2 {w : oW} {lz k c : Nat} (hk : k < lz) (ha : ¬ digO lz c k < w.an) : PM w k (c / 4 ^ (lz - k)) = PM w (k + 1) (c / 4 ^ (lz - (k + 1))) := by
  rw [← dig_nx hk]; exact (PM_x ha dig_lt).symm
theorem PS_end {w : oW} {q k c : Nat} (h : k = q) : PS w k (c / 4 ^ (q - k)) = PS w q c := by subst h; simp
theorem st_t {w : oW} {q c : Nat} {s : Nat × Nat} (h : PS w q c < (foldN (stepO w q) s c).1) : foldN (stepO w q) s (c + 1) = (PS w q c, c) := by
  show stepO w q c (foldN (stepO w q) s c) = _
  unfold stepO; exact if_pos h
theorem st_f {w : oW} {q c : Nat} {s : Nat × Nat} (h : ¬ PS w q c < (foldN (stepO w q) s c).1) : foldN (stepO w q) s (c + 1) = foldN (stepO w q) s c := by
  show stepO w q c (foldN (stepO w q) s c) = _
  rw [stepO, if_neg h]
theorem ord_lt {w : oW} {q : Nat} (h4 : w.an ≤ 4) (h0 : 0 < w.an) (hM : ∀ i, w.M i ≤ 20) (hq : q ≤ 4) : (foldN (stepO w q) (1000000, 0) (4 ^ q)).1 < 1000000 := by
  rw [← ord_same h4 h0 hM hq]
  have := dfsO_lt h4 h0 hM (r := q) (k := 0) (p := 0) (s := (1000, 0))
  simp only [PS] at this
  omega
theorem dg_st {W : Nat → Nat} {q c j : Nat} (h : ∀ z, z < j → W z = digO q c z) : ∀ z, z < j + 1 → updN W j (digO q c j) z = digO q c z := by
  intro z hz
  simp only [updN]; split
  · next e => rw [e]
  · exact h z (by omega)
