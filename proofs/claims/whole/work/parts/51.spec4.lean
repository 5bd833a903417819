/-! LOOK: the kinds that leave alike -/
abbrev bitP (fit k : Nat) : Prop := fit / 2 ^ k % 2 ^ 1 = 1
def mlF (fit m d : Nat) (LV : Nat → Int32) (i : Nat) : Nat → Int32 := fun k => if k < i then (if bitP fit k then nI (leftN k m d) else -1) else LV k
theorem mlF_0 {fit m d : Nat} {LV : Nat → Int32} : mlF fit m d LV 0 = LV := by
  funext k; simp only [mlF]; rw [if_neg (by omega)]
theorem mlF_t {fit m d i : Nat} {LV : Nat → Int32} (h : bitP fit i) : upd (mlF fit m d LV i) i (nI (leftN i m d)) = mlF fit m d LV (i + 1) := by
  funext k
  by_cases hk : k = i
  · subst hk; simp only [upd, mlF, if_true]; rw [if_pos (by omega), if_pos h]
  · simp only [upd, mlF, if_neg hk]
    by_cases h2 : k < i
    · rw [if_pos h2, if_pos (show k < i + 1 by omega)]
    · rw [if_neg h2, if_neg (show ¬ k < i + 1 by omega)]
theorem mlF_f {fit m d i : Nat} {LV : Nat → Int32} (h : ¬ bitP fit i) : upd (mlF fit m d LV i) i (-1) = mlF fit m d LV (i + 1) := by
  funext k
  by_cases hk : k = i
  · subst hk; simp only [upd, mlF, if_true]; rw [if_pos (by omega), if_neg h]
  · simp only [upd, mlF, if_neg hk]
    by_cases h2 : k < i
    · rw [if_pos h2, if_pos (show k < i + 1 by omega)]
    · rw [if_neg h2, if_neg (show ¬ k < i + 1 by omega)]
theorem nI_nm1 {x : Nat} (hx : x < 2 ^ 31) : ¬ nI x = -1 := by
  intro q
  have z := congrArg Int32.toInt q
  rw [nI_toInt hx, show ((-1 : Int32)).toInt = -1 by decide] at z; omega
theorem mlF_m1 {fit m d i : Nat} {LV : Nat → Int32} (hi : i < 6) (hm : m ≤ 20) : mlF fit m d LV 6 i = -1 ↔ ¬ bitP fit i := by
  simp only [mlF]; rw [if_pos hi]
  have := leftN_le i m d
  by_cases h : bitP fit i
  · rw [if_pos h]; exact ⟨fun q => absurd q (nI_nm1 (by omega)), fun q => absurd h q⟩
  · rw [if_neg h]; exact ⟨fun _ => h, fun _ => rfl⟩
def cntF (L : Nat → Int32) (v : Int32) : Nat → Nat
  | 0 => 0
  | k + 1 => cntF L v k + (if L k = v then 1 else 0)
theorem cntF_le {L : Nat → Int32} {v : Int32} : ∀ k, cntF L v k ≤ k
  | 0 => Nat.le_refl _
  | k + 1 => by have := cntF_le (L := L) (v := v) k; simp only [cntF]; split <;> omega
theorem cntF_t {L : Nat → Int32} {v : Int32} {k : Nat} (h : L k = v) : cntF L v k + 1 = cntF L v (k + 1) := by simp only [cntF, if_pos h]
theorem cntF_f {L : Nat → Int32} {v : Int32} {k : Nat} (h : ¬ L k = v) : cntF L v k = cntF L v (k + 1) := by simp only [cntF, if_neg h, Nat.add_zero]
def cntA (fit m d v : Nat) : Nat → Nat
  | 0 => 0
  | k + 1 => cntA fit m d v k + (if bitP fit k ∧ leftN k m d = v then 1 else 0)
theorem cntA_le {fit m d v : Nat} : ∀ k, cntA fit m d v k ≤ k
  | 0 => Nat.le_refl _
  | k + 1 => by have := cntA_le (fit := fit) (m := m) (d := d) (v := v) k; simp only [cntA]; split <;> omega
theorem cntF_A {fit m d v : Nat} {LV : Nat → Int32} (hm : m ≤ 20) (hv : v ≤ 20) : ∀ k, k ≤ 6 → cntF (mlF fit m d LV 6) (nI v) k = cntA fit m d v k
  | 0, _ => rfl
  | k + 1, hk => by
    simp only [cntF, cntA]
    rw [cntF_A hm hv k (by omega)]
    congr 1
    have hl := leftN_le k m d
    by_cases h : bitP fit k
    · have e : mlF fit m d LV 6 k = nI (leftN k m d) := (if_pos (show k < 6 by omega)).trans (if_pos h)
      by_cases h2 : leftN k m d = v
      · rw [if_pos (show mlF fit m d LV 6 k = nI v by rw [e, h2]), if_pos ⟨h, h2⟩]
      · rw [if_neg (fun q => h2 ((nI_eq (by omega) (by omega)).mp (e.symm.trans q))), if_neg (fun q => h2 q.2)]
    · have e : mlF fit m d LV 6 k = -1 := (if_pos (show k < 6 by omega)).trans (if_neg h)
      rw [if_neg (fun q => nI_nm1 (x := v) (by omega) (q.symm.trans e)), if_neg (fun q => h q.1)]
def mostA (fit m d : Nat) : Nat → Nat
  | 0 => 0
  | k + 1 => if bitP fit k then max (mostA fit m d k) (cntA fit m d (leftN k m d) 6) else mostA fit m d k
theorem mostA_le {fit m d : Nat} : ∀ k, mostA fit m d k ≤ 6
  | 0 => by simp only [mostA]; omega
  | k + 1 => by
    have h1 := mostA_le (fit := fit) (m := m) (d := d) k
    have h2 := cntA_le (fit := fit) (m := m) (d := d) (v := leftN k m d) 6
    simp only [mostA]; split <;> omega
theorem mostA_t {fit m d i : Nat} {LV : Nat → Int32} (hm : m ≤ 20) (hi : i < 6) (h : bitP fit i) : max (mostA fit m d i) (cntF (mlF fit m d LV 6) (mlF fit m d LV 6 i) 6) = mostA fit m d (i + 1) := by
  have e : mlF fit m d LV 6 i = nI (leftN i m d) := by simp only [mlF]; rw [if_pos hi, if_pos h]
  have hl := leftN_le i m d
  rw [e, cntF_A hm (by omega) 6 (by omega)]
  simp only [mostA]; rw [if_pos h]
theorem mostA_f {fit m d i : Nat} (h : ¬ bitP fit i) : mostA fit m d i = mostA fit m d (i + 1) := by simp only [mostA]; rw [if_neg h]
/-- the reference's way: the most so far -/
def mostM (fit m d : Nat) : Nat → Nat
  | 0 => 0
  | k + 1 => if bitP fit k then max (mostM fit m d k) (cntA fit m d (leftN k m d) (k + 1)) else mostM fit m d k
theorem mostM_le {fit m d : Nat} : ∀ k, mostM fit m d k ≤ k
  | 0 => Nat.le_refl _
  | k + 1 => by
    have h1 := mostM_le (fit := fit) (m := m) (d := d) k
    have h2 := cntA_le (fit := fit) (m := m) (d := d) (v := leftN k m d) (k + 1)
    simp only [mostM]; split <;> omega
theorem cntA_mono {fit m d v : Nat} {a : Nat} : ∀ b, a ≤ b → cntA fit m d v a ≤ cntA fit m d v b
  | 0, h => by have : a = 0 := by omega
               rw [this]; exact Nat.le_refl _
  | b + 1, h => by
    by_cases e : a = b + 1
    · rw [e]; exact Nat.le_refl _
    · have := cntA_mono (fit := fit) (m := m) (d := d) (v := v) (a := a) b (by omega)
      simp only [cntA]; omega
theorem mostM_ub {fit m d v : Nat} : ∀ k, cntA fit m d v k ≤ mostM fit m d k
  | 0 => Nat.le_refl _
  | k + 1 => by
    have h1 := mostM_ub (fit := fit) (m := m) (d := d) (v := v) k
    by_cases hb : bitP fit k
    · by_cases hv : leftN k m d = v
      · simp only [mostM]; rw [if_pos hb, hv]; exact Nat.le_max_right _ _
      · simp only [cntA, mostM]; rw [if_neg (fun q => hv q.2), if_pos hb, Nat.add_zero]; exact Nat.le_trans h1 (Nat.le_max_left _ _)
    · simp only [cntA, mostM]; rw [if_neg (fun q => hb q.1), if_neg hb, Nat.add_zero]; exact h1
theorem mostA_ub {fit m d : Nat} {c : Nat} : ∀ k, (∀ j, j < k → bitP fit j → cntA fit m d (leftN j m d) 6 ≤ c) → mostA fit m d k ≤ c
  | 0, _ => Nat.zero_le _
  | k + 1, h => by
    have h1 := mostA_ub (c := c) k (fun j hj hb => h j (by omega) hb)
    simp only [mostA]; split
    · next hb => exact Nat.max_le.mpr ⟨h1, h k (by omega) hb⟩
    · exact h1
theorem mostA_lb {fit m d j : Nat} (hb : bitP fit j) : ∀ k, j < k → cntA fit m d (leftN j m d) 6 ≤ mostA fit m d k
  | 0, h => by omega
  | k + 1, h => by
    by_cases e : j = k
    · subst e; simp only [mostA]; rw [if_pos hb]; exact Nat.le_max_right _ _
    · have := mostA_lb (m := m) (d := d) hb k (by omega)
      simp only [mostA]; split
      · exact Nat.le_trans this (Nat.le_max_left _ _)
      · exact this
theorem mostM_lb {fit m d c : Nat} (h : ∀ j, j < 6 → bitP fit j → cntA fit m d (leftN j m d) 6 ≤ c) : ∀ k, k ≤ 6 → mostM fit m d k ≤ c
  | 0, _ => Nat.zero_le _
  | k + 1, hk => by
    have h1 := mostM_lb h k (by omega)
    simp only [mostM]; split
    · next hb => exact Nat.max_le.mpr ⟨h1, Nat.le_trans (cntA_mono 6 (by omega)) (h k (by omega) hb)⟩
    · exact h1
theorem mostM_A {fit m d : Nat} : mostM fit m d 6 = mostA fit m d 6 := by
  apply Nat.le_antisymm
  · exact mostM_lb (fun j hj hb => mostA_lb hb 6 hj) 6 (by omega)
  · exact mostA_ub 6 (fun j hj hb => mostM_ub 6)
/-- the best of the first codes (10, 11 ..) and how few -/
def lkG (f0 fit : Nat) : Nat → Option Nat × Nat
  | 0 => (none, f0)
  | k + 1 => if (10 + k) % 10 < 3 ∧ mostA fit ((10 + k) / 10) ((10 + k) % 10) 6 < (lkG f0 fit k).2 then (some (10 + k), mostA fit ((10 + k) / 10) ((10 + k) % 10) 6) else lkG f0 fit k
theorem lkG_le {f0 fit : Nat} (h : 6 ≤ f0) : ∀ k, (lkG f0 fit k).2 ≤ f0
  | 0 => Nat.le_refl _
  | k + 1 => by
    have h1 := lkG_le (fit := fit) h k
    simp only [lkG]; split
    · have := mostA_le (fit := fit) (m := (10 + k) / 10) (d := (10 + k) % 10) 6
      omega
    · exact h1
theorem lkG_t {f0 fit m d : Nat} (hm : 1 ≤ m) (hd : d ≤ 2) (h : mostA fit m d 6 < (lkG f0 fit (10 * m + d - 10)).2) : lkG f0 fit (10 * m + (d + 1) - 10) = (some (10 * m + d), mostA fit m d 6) := by
  rw [show 10 * m + (d + 1) - 10 = (10 * m + d - 10) + 1 by omega]
  simp only [lkG]
  rw [show 10 + (10 * m + d - 10) = 10 * m + d by omega, show (10 * m + d) / 10 = m by omega, show (10 * m + d) % 10 = d by omega, if_pos ⟨by omega, h⟩]
theorem lkG_f {f0 fit m d : Nat} (hm : 1 ≤ m) (hd : d ≤ 2) (h : ¬ mostA fit m d 6 < (lkG f0 fit (10 * m + d - 10)).2) : lkG f0 fit (10 * m + (d + 1) - 10) = lkG f0 fit (10 * m + d - 10) := by
  rw [show 10 * m + (d + 1) - 10 = (10 * m + d - 10) + 1 by omega]
  simp only [lkG]
  rw [show 10 + (10 * m + d - 10) = 10 * m + d by omega, show (10 * m + d) / 10 = m by omega, show (10 * m + d) % 10 = d by omega, if_neg (fun q => h q.2)]
theorem lkG_n {f0 fit k : Nat} (h : ¬ (10 + k) % 10 < 3) : lkG f0 fit (k + 1) = lkG f0 fit k := by
  simp only [lkG]; rw [if_neg (fun q => h q.1)]
theorem lkG_s {f0 fit m : Nat} (hm : 1 ≤ m) : lkG f0 fit (10 * (m + 1) + 0 - 10) = lkG f0 fit (10 * m + 3 - 10) := by
  obtain ⟨q, rfl⟩ : ∃ q, m = q + 1 := ⟨m - 1, by omega⟩
  rw [show 10 * (q + 1 + 1) + 0 - 10 = 10 * q + 3 + 1 + 1 + 1 + 1 + 1 + 1 + 1 by omega, show 10 * (q + 1) + 3 - 10 = 10 * q + 3 by omega]
  rw [lkG_n (by omega), lkG_n (by omega), lkG_n (by omega), lkG_n (by omega), lkG_n (by omega), lkG_n (by omega), lkG_n (by omega)]
theorem lkG_1 {f0 fit : Nat} (h : 6 < f0) : lkG f0 fit (0 + 1) = (some (10 + 0), mostA fit ((10 + 0) / 10) ((10 + 0) % 10) 6) := if_pos ⟨show (10 + 0) % 10 < 3 by decide, Nat.lt_of_le_of_lt (mostA_le 6) h⟩
theorem lkG_same {fit : Nat} : ∀ k, lkG 7 fit (k + 1) = lkG 1000000 fit (k + 1)
  | 0 => (lkG_1 (by omega)).trans (lkG_1 (by omega)).symm
  | k + 1 => by
    show lkG 7 fit ((k + 1) + 1) = lkG 1000000 fit ((k + 1) + 1)
    have e := lkG_same (fit := fit) k
    have a1 : ∀ f0, lkG f0 fit ((k + 1) + 1) = if (10 + (k + 1)) % 10 < 3 ∧ mostA fit ((10 + (k + 1)) / 10) ((10 + (k + 1)) % 10) 6 < (lkG f0 fit (k + 1)).2 then (some (10 + (k + 1)), mostA fit ((10 + (k + 1)) / 10) ((10 + (k + 1)) % 10) 6) else lkG f0 fit (k + 1) := fun f0 => rfl
    rw [a1, a1, e]
