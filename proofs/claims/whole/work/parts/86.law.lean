/-! the law: its script, its numbers -/
def uX (x : Int32) : Nat := x.toUInt32.toNat
theorem uX_lt (x : Int32) : uX x < 2 ^ 32 := x.toUInt32.toNat_lt
theorem uX_eq (x : Int32) : nI (uX x) = x := by
  unfold uX nI
  apply Int32.toBitVec.inj
  simp
abbrev mLaw (nm : String) : jM := ((⟨RL, nm, ""⟩ : MethodName), cL_law, 4, ret)
section JLAW
variable {E : jE} {M : jM} {d : jD} {S : Array Value → State → Prop} {P : jPost} {h : Nat → va_E} {n : Nat} {k : Nat × Nat} {pc : Nat} {L : List (Nat × Value)} {st : List Value}
theorem J_sld {b len i : Nat} {xs : Nat → Int32} (hS : ∀ args s, S args s → va_X b len xs s s.heap ∧ b < s.heap.size ∧ s.heap.size = E.1) (hi : i < len) (hl : len < 2 ^ 31) (hd : decode M.2.1 pc = .ok (.iaload, 1)) (kk : J E M d S P h n k (pc + 1) L (.int (nI (uX (xs i))) :: st)) : J E M d S P h n k pc L (.int (nI i) :: .ref b :: st) := by
  intro p l e R s m args below meth c H locs ls F hs hl' hP hz hV
  have q := hS args s hs
  rw [uX_eq] at kk
  exact va_sld F.1 F.2.1 q.1 q.2.1 (by show ¬ (E.1 ≤ b); omega) hV (vp_in_nI hi hl) hd (by rw [nI_clamp (by omega)]; exact kk p l e R s m args below meth c H locs ls F hs hl' hP hz hV)
theorem J_slen {b len : Nat} {xs : Nat → Int32} (hS : ∀ args s, S args s → va_X b len xs s s.heap ∧ b < s.heap.size ∧ s.heap.size = E.1) (hd : decode M.2.1 pc = .ok (.arraylength, 1)) (kk : J E M d S P h n k (pc + 1) L (.int (nI len) :: st)) : J E M d S P h n k pc L (.ref b :: st) := by
  intro p l e R s m args below meth c H locs ls F hs hl' hP hz hV
  have q := hS args s hs
  exact va_slen F.1 F.2.1 q.1 q.2.1 (by show ¬ (E.1 ≤ b); omega) hV hd (kk p l e R s m args below meth c H locs ls F hs hl' hP hz hV)
end JLAW
theorem gt6 {L i : Nat} (hL : L ≤ 3072) (hi : i ≤ 4000) : nI L - nI 6 < nI i ↔ L < i + 6 := by
  rw [Int32.lt_iff_toInt_lt, pk_sub_toInt (by omega) (by omega), nI_toInt (by omega)]; omega
theorem Inv_0 {E : jE} {h : Nat → va_E} {n : Nat} (hI : Inv E h n) : ∃ fs : List Value, h 0 = .inr (6, fs) ∧ 0 < n := by
  refine hI _ (fun ab be bd no fu an td gr K M nn NC cn CC ps PM PD PG an2 td2 gr2 K2 M2 nn2 NC2 cn2 CC2 ps2 PM2 PD2 PG2 IM sz tk cu TX SO ST VL NU lz lb le T W C ka F1 F2 LV xa xb dt mo bn ta tl tq va Q KP IK RF MM TE BE MB BY AN VA hn H0 H1 H2 H3 H4 H5 H6 H7 H8 H9 H10 H11 H12 H13 H14 H15 H16 H17 H18 H19 H20 H21 H22 H23 H24 H25 H26 H27 H28 H29 H30 H31 H32 H33 H34 H35 H36 H37 H38 H39 H40 H41 H42 H43 H44 H45 H46 H47 H48 H49 hRC hRS hBS hRT hMM hIG => ?_)
  exact ⟨_, H0, by omega⟩
