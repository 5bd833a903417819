section JX
variable {E : jE} {M : jM} {d : jD} {S : Array Value → State → Prop} {P : jPost} {h : Nat → va_E} {n : Nat} {k : Nat × Nat} {pc : Nat} {L : List (Nat × Value)} {st : List Value}
theorem J_iincM {i q a : Nat} {z : Int} {L' : List (Nat × Value)} (hd : decode M.2.1 pc = .ok (.iinc i z, 3)) (hq : L[q]? = some (i, .int (nI a))) (hz : Int32.ofInt z = -1 ∧ 1 ≤ a) (hn : i < M.2.2.1) (hL : (i, Value.int (nI (a - 1))) :: L.filter (fun q => !(q.1 == i) && !(q.1 + 1 == i && q.2.category == 2)) = L') (kk : J E M d S P h n k (pc + 3) L' st) : J E M d S P h n k pc L st := by
  obtain ⟨b, rfl⟩ : ∃ b, a = b + 1 := ⟨a - 1, by omega⟩
  exact J_iinc hd hq (by rw [hz.1, pk_m1, Nat.add_sub_cancel]) hn hL kk
theorem J_tableInN {x v : Nat} {dflt lo hi : Int} {offs : Array Int} {len : Nat} {off : Int} {tgt : Nat} (hx : x = v) (hd : decode M.2.1 pc = .ok (.tableswitch dflt lo hi offs, len)) (h1 : ¬ (nI v).toInt < lo) (h2 : ¬ hi < (nI v).toInt) (ho : offs[((nI v).toInt - lo).toNat]? = some off) (ht : (pc : Int) + off = (tgt : Int)) (kk : J E M d S P h n k tgt L st) : J E M d S P h n k pc L (.int (nI x) :: st) := by subst hx; exact J_tableIn hd h1 h2 ho ht kk
theorem J_tableOutN {x v : Nat} {dflt lo hi : Int} {offs : Array Int} {len : Nat} {tgt : Nat} (hx : x = v) (hd : decode M.2.1 pc = .ok (.tableswitch dflt lo hi offs, len)) (h1 : (nI v).toInt < lo ∨ hi < (nI v).toInt) (ht : (pc : Int) + dflt = (tgt : Int)) (kk : J E M d S P h n k tgt L st) : J E M d S P h n k pc L (.int (nI x) :: st) := by subst hx; exact J_tableOut hd h1 ht kk
theorem J_lookupN {x v : Nat} {dflt : Int} {ps : Array (Int × Int)} {len : Nat} {off : Int} {tgt : Nat} (hx : x = v) (hd : decode M.2.1 pc = .ok (.lookupswitch dflt ps, len)) (hp : (ps.toList.zip (ps.toList.drop 1)).all (fun (a, next) => a.1 < next.1) = true) (ho : Op.lookupswitch.offset ps.toList dflt (nI v).toInt = off) (ht : (pc : Int) + off = (tgt : Int)) (kk : J E M d S P h n k tgt L st) : J E M d S P h n k pc L (.int (nI x) :: st) := by subst hx; exact J_lookup hd hp ho ht kk
theorem jn_toIntW (x : Nat) (hx : x < 2 ^ 32) : (nI x).toInt = if x < 2 ^ 31 then (x : Int) else (x : Int) - 2 ^ 32 := by
  split
  · next hlt => exact nI_toInt hlt
  · next hge =>
    show (nI x).toBitVec.toInt = _
    rw [jn_bv, BitVec.toInt_eq_toNat_cond, BitVec.toNat_ofNat, Nat.mod_eq_of_lt hx]
    rw [if_neg (by omega)]
    omega
theorem jn_out {x v : Nat} (hv : v ≤ x) (hx : x < 2 ^ 32) : (nI x).toInt < 0 ∨ (v : Int) - 1 < (nI x).toInt := by
  rw [jn_toIntW x hx]; split <;> omega
theorem J_copyN {idx b0 b1 n0 n1 sp dp c : Nat} {F G : Nat → Nat} (hd : decode M.2.1 pc = .ok (.invokestatic idx, 3)) (hl : Cond.methodLink M.1.cls idx arraycopyName ∈ jw) (hnat : Cond.native arraycopyName ∈ jw) (hstt : Cond.static arraycopyName ∈ jw) (hini : Cond.initialized "java/lang/System" ∈ jw)
    (hc0 : h b0 = cI E n0 (nF F)) (hb0 : b0 < n) (hc1 : h b1 = cI E n1 (nF G)) (hb1 : b1 < n) (hz0 : n0 < 2 ^ 31) (hz1 : n1 < 2 ^ 31) (h4 : sp + c ≤ n0) (h5 : dp + c ≤ n1) (hr : (st.map fun v => v.category).sum ≤ 8) (hdep : 1 ≤ d.1)
    (kk : J E M d S P (hset h b1 (cI E n1 (nF (va_cpy F G sp dp c)))) n k (pc + 3) L st) : J E M d S P h n k pc L (.int (nI c) :: .int (nI dp) :: .ref (E.1 + b1) :: .int (nI sp) :: .ref (E.1 + b0) :: st) := by
  intro p l e R s m args below meth c' H locs ls FF hs' hl' hP hz hV
  obtain ⟨hx, hbb, hml, hrr, hlk, hnm, hown, hts, hK, r1, r2, r3, r4, hE⟩ := id FF
  intro T hT X
  have ha1 : (jlay E.1 h n)[b1]? = some (E.1 + b1, cI E n1 (nF G)) := by rw [jlay_get hb1, hc1]
  have g0 : H[E.1 + b0]? = some (vp_cell E.2.2.1.2.1 (n0, .inl (nF F))) := by
    have z := hP b0 _ (jlay_get hb0)
    rw [hc0] at z; exact z
  have g1 : H[E.1 + b1]? = some (vp_cell E.2.2.1.2.1 (n1, .inl (nF G))) := hP b1 _ ha1
  obtain ⟨-, k0, hk0, cm0, hkk0⟩ := (hK.1.2 1 _ rfl).1 n0 (fun j => .int (nF F j))
  obtain ⟨-, k1, hk1, cm1, hkk1⟩ := (hK.1.2 1 _ rfl).1 n1 (fun j => .int (nF G j))
  have es : (nI sp).toNatClampNeg = sp := nI_clamp (by omega)
  have ed : (nI dp).toNatClampNeg = dp := nI_clamp (by omega)
  have ec : (nI c).toNatClampNeg = c := nI_clamp (by omega)
  obtain ⟨vm', X', step⟩ := X.arraycopy hx hown (hts _ hl) (hts _ hnat) (hts _ hstt) (hts _ hini) (src := E.1 + b0) (dst := E.1 + b1) (cs := vp_cell E.2.2.1.2.1 (n0, .inl (nF F))) (cd := vp_cell E.2.2.1.2.1 (n1, .inl (nF G))) (srcPos := nI sp) (destPos := nI dp) (n := nI c) (by rw [hT]; exact g0) (by rw [hT]; exact g1)
    (fun _ h => by cases h) (fun _ h => by cases h) (fun h => by cases h) (fun h => by cases h) hk0 hk1 hkk0 hkk1 (by simp [refKind]) (nI_pos (by omega)) (nI_pos (by omega)) (nI_pos (by omega))
    (by rw [nI_toInt (by omega), nI_toInt (by omega)]; show ¬ _ > ((arrV E.2.2.1.2.1 n0 (fun j => .int (nF F j))).slots.size : Int); rw [arrV_size]; omega)
    (by rw [nI_toInt (by omega), nI_toInt (by omega)]; show ¬ _ > ((arrV E.2.2.1.2.1 n1 (fun j => .int (nF G j))).slots.size : Int); rw [arrV_size]; omega)
    (fun vm₁ _ i hi => by
      rw [ec] at hi
      have e : (vp_cell E.2.2.1.2.1 (n0, .inl (nF F))).slots.getD ((nI sp).toNatClampNeg + i) .null = .int (nF F (sp + i)) := by
        show (arrV E.2.2.1.2.1 n0 (fun j => .int (nF F j))).slots.getD _ _ = _
        rw [es, Array.getD_eq_getD_getElem?, arrV_read _ _ (by omega)]
        rfl
      refine ⟨?_, ?_⟩
      · rw [e]; rfl
      · rw [e]; exact trivial)
    (g := F0 m pc ls (.int (nI c) :: .int (nI dp) :: .ref (E.1 + b1) :: .int (nI sp) :: .ref (E.1 + b0) :: st)) rfl (by rw [hml]; exact hl'.1) (rest := st) rfl (by rw [hbb]; exact hd) (Nat.le_trans hdep r1) (by show 2 * 0 + _ + _ ≤ _; have z32 : nativeFrameWords "java/lang/System" "arraycopy" 5 + 11 ≤ 32 := (by decide +kernel); omega)
  have e1 : copied (vp_cell E.2.2.1.2.1 (n0, .inl (nF F))) (vp_cell E.2.2.1.2.1 (n1, .inl (nF G))) (nI sp) (nI dp) (nI c) = vp_cell E.2.2.1.2.1 (n1, .inl (nF (va_cpy F G sp dp c))) := by
    have q := va_copied (fun z => Value.int z) E.2.2.1.2.1 E.2.2.1.2.1 (sp := sp) (dp := dp) (n := c) (n0 := n0) (n1 := n1) (nF F) (nF G) h4
    rw [nF_cpy] at q
    rw [← es, ← ed, ← ec] at q
    rw [es, ed, ec] at q
    show Cell.storeRun _ _ _ = _
    rw [es, ed, ec]
    exact q
  rw [e1] at X' step
  have hlt : E.1 + b1 < H.size := (Array.getElem?_eq_some_iff.mp g1).1
  generalize hv : vp_cell E.2.2.1.2.1 (n1, .inl (nF (va_cpy F G sp dp c))) = v1 at X' step
  have hheap : ((T.setVm vm').setCell (E.1 + b1) v1).heap = H.setIfInBounds (E.1 + b1) v1 := by rw [← hT]; rfl
  have oq : ∀ q : Nat, q ≠ E.1 + b1 → (H.setIfInBounds (E.1 + b1) v1)[q]? = H[q]? := fun q hq => by simp [Array.getElem?_setIfInBounds, Ne.symm hq]
  have hat : va_at E.2.1 vwCl (E.1 + b1, cI E n1 (nF (va_cpy F G sp dp c))) (H.setIfInBounds (E.1 + b1) v1) := by
    show (H.setIfInBounds (E.1 + b1) v1)[E.1 + b1]? = some (vp_cell _ _)
    rw [hv]; simp [Array.getElem?_setIfInBounds, hlt]
  obtain ⟨t, a1, b1'⟩ := kk p l e R s m args below meth c' _ _ ls FF hs' hl' (jlay_put hP ha1 hat oq) (by simp; exact hz) ⟨by simp; exact hV.1, fun q g1 g2 => by
      rw [oq q (fun e => g2 (by rw [e]; exact Nat.le_add_right _ _))]
      exact hV.2.1 q g1 g2, fun q hq => by
      rcases List.mem_append.mp hq with h | h
      · exact hV.2.2 q h
      · obtain ⟨z, -, hz⟩ := List.mem_map.mp h
        rw [← hz]
        exact Nat.le_add_right _ _⟩ _ hheap X'
  exact ⟨t, step t a1, b1'⟩
end JX
/-! numbers of the document, both sides' -/
def leftN (kd m d : Nat) : Nat := if kd = 1 ∨ kd = 5 then (if d % 2 = 0 then m - 1 else m) else if kd = 2 then (if d % 3 = 0 then m - 1 else m) else if kd = 3 then (m - 1) / 2 else if kd = 4 then m else m - 1
def upN (kd m g : Nat) : Nat := if kd = 1 then (m - g + 1) / 2 else if kd = 2 then (if 1 ≤ m then m - g + 1 else m - g) else if kd = 4 then 2 * (if 1 ≤ m then m - g + 1 else m - g) else if kd = 5 then (if 10 ≤ m then 0 else (m - g + 1) / 2) else m - g
def moreN (kd b : Nat) : Nat := if kd = 3 then (b + 1) / 2 else if kd = 5 then 2 * b else b
theorem leftN_le (kd m d : Nat) : leftN kd m d ≤ m := by
  unfold leftN; repeat' split <;> try omega
theorem upN_le {kd m g : Nat} (hm : m ≤ 20) : upN kd m g ≤ 42 := by
  unfold upN; repeat' split <;> try omega
theorem moreN_le {kd b : Nat} (hb : b ≤ 5) : moreN kd b ≤ 10 := by
  unfold moreN; repeat' split <;> try omega
section JW
variable {E : jE} {M : jM} {d : jD} {S : Array Value → State → Prop} {P : jPost} {h : Nat → va_E} {n : Nat} {k : Nat × Nat} {pc : Nat} {L : List (Nat × Value)} {st : List Value}
theorem jw_lt {a b : Nat} (ha : a < 2 ^ 32) (hb : b < 2 ^ 32) : nI a < nI b ↔ ((2 ^ 31 ≤ a ∧ b < 2 ^ 31) ∨ (a < b ∧ (a < 2 ^ 31 ∧ b < 2 ^ 31 ∨ 2 ^ 31 ≤ a ∧ 2 ^ 31 ≤ b))) := by
  rw [Int32.lt_iff_toInt_lt, jn_toIntW a ha, jn_toIntW b hb]
  split <;> split <;> omega
theorem jw_le {a b : Nat} (ha : a < 2 ^ 32) (hb : b < 2 ^ 32) : nI a ≤ nI b ↔ ¬ ((2 ^ 31 ≤ b ∧ a < 2 ^ 31) ∨ (b < a ∧ (a < 2 ^ 31 ∧ b < 2 ^ 31 ∨ 2 ^ 31 ≤ a ∧ 2 ^ 31 ≤ b))) := by
  rw [Int32.le_iff_toInt_le, jn_toIntW a ha, jn_toIntW b hb]
  split <;> split <;> omega
theorem jw_eq {a b : Nat} (ha : a < 2 ^ 32) (hb : b < 2 ^ 32) : nI a = nI b ↔ a = b := by
  constructor
  · intro q
    have h1 := congrArg Int32.toInt q
    rw [jn_toIntW a ha, jn_toIntW b hb] at h1
    split at h1 <;> split at h1 <;> omega
  · intro q; rw [q]
theorem jw_0 : (0 : Int32) = nI 0 := rfl
theorem jw_m1 : (-1 : Int32) = nI 4294967295 := by decide +kernel
theorem J_if_ltW {a : Nat} {off : Int} {tgt : Nat} (hd : decode M.2.1 pc = .ok (.ifCond .lt off, 3)) (ht : (pc : Int) + off = (tgt : Int)) (ha : a < 2 ^ 32) (kt : 2 ^ 31 ≤ a → J E M d S P h n k tgt L st) (kf : a < 2 ^ 31 → J E M d S P h n k (pc + 3) L st) : J E M d S P h n k pc L (.int (nI a) :: st) := J_if_lt hd ht (fun q => kt (by rw [jw_0, jw_lt ha (by omega)] at q; omega)) (fun q => kf (by rw [jw_0, jw_lt ha (by omega)] at q; omega))
theorem J_if_geW {a : Nat} {off : Int} {tgt : Nat} (hd : decode M.2.1 pc = .ok (.ifCond .ge off, 3)) (ht : (pc : Int) + off = (tgt : Int)) (ha : a < 2 ^ 32) (kt : a < 2 ^ 31 → J E M d S P h n k tgt L st) (kf : 2 ^ 31 ≤ a → J E M d S P h n k (pc + 3) L st) : J E M d S P h n k pc L (.int (nI a) :: st) := J_if_ge hd ht (fun q => kt (by rw [jw_0, jw_le (by omega) ha] at q; omega)) (fun q => kf (by rw [jw_0, jw_le (by omega) ha] at q; omega))
theorem J_if_eqW {a : Nat} {off : Int} {tgt : Nat} (hd : decode M.2.1 pc = .ok (.ifCond .eq off, 3)) (ht : (pc : Int) + off = (tgt : Int)) (ha : a < 2 ^ 32) (kt : a = 0 → J E M d S P h n k tgt L st) (kf : ¬ a = 0 → J E M d S P h n k (pc + 3) L st) : J E M d S P h n k pc L (.int (nI a) :: st) := J_if_eq hd ht (fun q => kt (by rw [jw_0, jw_eq ha (by omega)] at q; exact q)) (fun q => kf (by rw [jw_0, jw_eq ha (by omega)] at q; exact q))
theorem J_if_neW {a : Nat} {off : Int} {tgt : Nat} (hd : decode M.2.1 pc = .ok (.ifCond .ne off, 3)) (ht : (pc : Int) + off = (tgt : Int)) (ha : a < 2 ^ 32) (kt : ¬ a = 0 → J E M d S P h n k tgt L st) (kf : a = 0 → J E M d S P h n k (pc + 3) L st) : J E M d S P h n k pc L (.int (nI a) :: st) := J_if_ne hd ht (fun q => kt (by rw [jw_0, jw_eq ha (by omega)] at q; exact q)) (fun q => kf (by rw [jw_0, jw_eq ha (by omega)] at q; exact q))
theorem J_icmp_ltW {a b : Nat} {off : Int} {tgt : Nat} (hd : decode M.2.1 pc = .ok (.if_icmp .lt off, 3)) (ht : (pc : Int) + off = (tgt : Int)) (ha : a < 2 ^ 32) (hb : b < 2 ^ 31) (kt : (2 ^ 31 ≤ a ∨ a < b) → J E M d S P h n k tgt L st) (kf : (a < 2 ^ 31 ∧ b ≤ a) → J E M d S P h n k (pc + 3) L st) : J E M d S P h n k pc L (.int (nI b) :: .int (nI a) :: st) := J_icmp_lt hd ht (fun q => kt (by rw [jw_lt ha (by omega)] at q; omega)) (fun q => kf (by rw [jw_lt ha (by omega)] at q; omega))
theorem J_icmp_geW {a b : Nat} {off : Int} {tgt : Nat} (hd : decode M.2.1 pc = .ok (.if_icmp .ge off, 3)) (ht : (pc : Int) + off = (tgt : Int)) (ha : a < 2 ^ 32) (hb : b < 2 ^ 31) (kt : (a < 2 ^ 31 ∧ b ≤ a) → J E M d S P h n k tgt L st) (kf : (2 ^ 31 ≤ a ∨ a < b) → J E M d S P h n k (pc + 3) L st) : J E M d S P h n k pc L (.int (nI b) :: .int (nI a) :: st) := J_icmp_ge hd ht (fun q => kt (by rw [jw_le (by omega) ha] at q; omega)) (fun q => kf (by rw [jw_le (by omega) ha] at q; omega))
theorem J_icmp_gtW {a b : Nat} {off : Int} {tgt : Nat} (hd : decode M.2.1 pc = .ok (.if_icmp .gt off, 3)) (ht : (pc : Int) + off = (tgt : Int)) (ha : a < 2 ^ 32) (hb : b < 2 ^ 31) (kt : (a < 2 ^ 31 ∧ b < a) → J E M d S P h n k tgt L st) (kf : (2 ^ 31 ≤ a ∨ a ≤ b) → J E M d S P h n k (pc + 3) L st) : J E M d S P h n k pc L (.int (nI b) :: .int (nI a) :: st) := J_icmp_gt hd ht (fun q => kt (by rw [jw_lt (by omega) ha] at q; omega)) (fun q => kf (by rw [jw_lt (by omega) ha] at q; omega))
theorem J_icmp_leW {a b : Nat} {off : Int} {tgt : Nat} (hd : decode M.2.1 pc = .ok (.if_icmp .le off, 3)) (ht : (pc : Int) + off = (tgt : Int)) (ha : a < 2 ^ 32) (hb : b < 2 ^ 31) (kt : (2 ^ 31 ≤ a ∨ a ≤ b) → J E M d S P h n k tgt L st) (kf : (a < 2 ^ 31 ∧ b < a) → J E M d S P h n k (pc + 3) L st) : J E M d S P h n k pc L (.int (nI b) :: .int (nI a) :: st) := J_icmp_le hd ht (fun q => kt (by rw [jw_le ha (by omega)] at q; omega)) (fun q => kf (by rw [jw_le ha (by omega)] at q; omega))
theorem J_icmp_eqW {a b : Nat} {off : Int} {tgt : Nat} (hd : decode M.2.1 pc = .ok (.if_icmp .eq off, 3)) (ht : (pc : Int) + off = (tgt : Int)) (ha : a < 2 ^ 32) (hb : b < 2 ^ 32) (kt : a = b → J E M d S P h n k tgt L st) (kf : ¬ a = b → J E M d S P h n k (pc + 3) L st) : J E M d S P h n k pc L (.int (nI b) :: .int (nI a) :: st) := J_icmp_eq hd ht (fun q => kt (by rw [jw_eq ha hb] at q; exact q)) (fun q => kf (by rw [jw_eq ha hb] at q; exact q))
theorem J_icmp_neW {a b : Nat} {off : Int} {tgt : Nat} (hd : decode M.2.1 pc = .ok (.if_icmp .ne off, 3)) (ht : (pc : Int) + off = (tgt : Int)) (ha : a < 2 ^ 32) (hb : b < 2 ^ 32) (kt : ¬ a = b → J E M d S P h n k tgt L st) (kf : a = b → J E M d S P h n k (pc + 3) L st) : J E M d S P h n k pc L (.int (nI b) :: .int (nI a) :: st) := J_icmp_ne hd ht (fun q => kt (by rw [jw_eq ha hb] at q; exact q)) (fun q => kf (by rw [jw_eq ha hb] at q; exact q))
theorem J_icmp_geV {a : Nat} {off : Int} {tgt : Nat} (hd : decode M.2.1 pc = .ok (.if_icmp .ge off, 3)) (ht : (pc : Int) + off = (tgt : Int)) (ha : a < 2 ^ 32) (kt : (a < 2 ^ 31 ∨ a = 4294967295) → J E M d S P h n k tgt L st) (kf : (2 ^ 31 ≤ a ∧ a ≠ 4294967295) → J E M d S P h n k (pc + 3) L st) : J E M d S P h n k pc L (.int (-1) :: .int (nI a) :: st) := J_icmp_ge hd ht (fun q => kt (by rw [jw_m1, jw_le (by omega) ha] at q; omega)) (fun q => kf (by rw [jw_m1, jw_le (by omega) ha] at q; omega))
theorem J_icmp_ltV {a : Nat} {off : Int} {tgt : Nat} (hd : decode M.2.1 pc = .ok (.if_icmp .lt off, 3)) (ht : (pc : Int) + off = (tgt : Int)) (ha : a < 2 ^ 32) (kt : (2 ^ 31 ≤ a ∧ a ≠ 4294967295) → J E M d S P h n k tgt L st) (kf : (a < 2 ^ 31 ∨ a = 4294967295) → J E M d S P h n k (pc + 3) L st) : J E M d S P h n k pc L (.int (-1) :: .int (nI a) :: st) := J_icmp_lt hd ht (fun q => kt (by rw [jw_m1, jw_lt ha (by omega)] at q; omega)) (fun q => kf (by rw [jw_m1, jw_lt ha (by omega)] at q; omega))
theorem J_icmp_neV {a : Nat} {off : Int} {tgt : Nat} (hd : decode M.2.1 pc = .ok (.if_icmp .ne off, 3)) (ht : (pc : Int) + off = (tgt : Int)) (ha : a < 2 ^ 32) (kt : a ≠ 4294967295 → J E M d S P h n k tgt L st) (kf : a = 4294967295 → J E M d S P h n k (pc + 3) L st) : J E M d S P h n k pc L (.int (-1) :: .int (nI a) :: st) := J_icmp_ne hd ht (fun q => kt (by rw [jw_m1, jw_eq ha (by omega)] at q; exact q)) (fun q => kf (by rw [jw_m1, jw_eq ha (by omega)] at q; exact q))
theorem J_icmp_eqV {a : Nat} {off : Int} {tgt : Nat} (hd : decode M.2.1 pc = .ok (.if_icmp .eq off, 3)) (ht : (pc : Int) + off = (tgt : Int)) (ha : a < 2 ^ 32) (kt : a = 4294967295 → J E M d S P h n k tgt L st) (kf : a ≠ 4294967295 → J E M d S P h n k (pc + 3) L st) : J E M d S P h n k pc L (.int (-1) :: .int (nI a) :: st) := J_icmp_eq hd ht (fun q => kt (by rw [jw_m1, jw_eq ha (by omega)] at q; exact q)) (fun q => kf (by rw [jw_m1, jw_eq ha (by omega)] at q; exact q))
end JW
theorem jx_max {a b : Nat} (ha : a < 2 ^ 31) (hb : b < 2 ^ 31) : (if nI a < nI b then nI b else nI a) = nI (max a b) := by
  by_cases h : a < b
  · rw [if_pos ((nI_ltI ha hb).mpr h), Nat.max_eq_right (Nat.le_of_lt h)]
  · rw [if_neg (fun q => h ((nI_ltI ha hb).mp q)), Nat.max_eq_left (Nat.not_lt.mp h)]
section JMM
variable {E : jE} {M : jM} {d : jD} {S : Array Value → State → Prop} {P : jPost} {h : Nat → va_E} {n : Nat} {k : Nat × Nat} {pc : Nat} {L : List (Nat × Value)} {st : List Value}
theorem J_mmaxN {idx a b : Nat} (hd : decode M.2.1 pc = .ok (.invokestatic idx, 3)) (hl : Cond.methodLink M.1.cls idx Lib.Math.max.name ∈ jw) (hs' : Cond.static Lib.Math.max.name ∈ jw) (hi : Cond.initialized "java/lang/Math" ∈ jw) (hc : Cond.code Lib.Math.max.name Lib.Math.max.code 2 (some .int) ∈ jw) (ha : a < 2 ^ 31) (hb : b < 2 ^ 31) (hr : (st.map fun v => v.category).sum ≤ 8) (hdep : 1 ≤ d.1) (hk : k.1 ≤ d.2.1 ∧ k.2 ≤ d.2.2) (kk : J E M d S P h n k (pc + 3) L (.int (nI (max a b)) :: st)) : J E M d S P h n k pc L (.int (nI b) :: .int (nI a) :: st) := by
  intro p l e R s m args below meth c H locs ls F hs hl' hP hz hV
  have hts := F.2.2.2.2.2.2.2.1
  have r1 := F.2.2.2.2.2.2.2.2.2.1
  have r2 := F.2.2.2.2.2.2.2.2.2.2.1
  have r3 := F.2.2.2.2.2.2.2.2.2.2.2.1
  have r4 := F.2.2.2.2.2.2.2.2.2.2.2.2.1
  refine va_mmax F.1 F.2.1 (F.2.2.1.trans hl'.1.symm) F.2.2.2.2.2.2.1 (hts _ hl) (hts _ hs') (hts _ hi) (hts _ hc) (Nat.le_trans hdep r1) (by omega) (by omega) (by omega) hd ?_
  rw [jx_max ha hb]
  exact kk p l e R s m args below meth c H locs ls F hs hl' hP hz hV
theorem J_mminN {idx a b : Nat} (hd : decode M.2.1 pc = .ok (.invokestatic idx, 3)) (hl : Cond.methodLink M.1.cls idx Lib.Math.min.name ∈ jw) (hs' : Cond.static Lib.Math.min.name ∈ jw) (hi : Cond.initialized "java/lang/Math" ∈ jw) (hc : Cond.code Lib.Math.min.name Lib.Math.min.code 2 (some .int) ∈ jw) (ha : a < 2 ^ 31) (hb : b < 2 ^ 31) (hr : (st.map fun v => v.category).sum ≤ 8) (hdep : 1 ≤ d.1) (hk : k.1 ≤ d.2.1 ∧ k.2 ≤ d.2.2) (kk : J E M d S P h n k (pc + 3) L (.int (nI (min a b)) :: st)) : J E M d S P h n k pc L (.int (nI b) :: .int (nI a) :: st) := by
  intro p l e R s m args below meth c H locs ls F hs hl' hP hz hV
  have hts := F.2.2.2.2.2.2.2.1
  have r1 := F.2.2.2.2.2.2.2.2.2.1
  have r2 := F.2.2.2.2.2.2.2.2.2.2.1
  have r3 := F.2.2.2.2.2.2.2.2.2.2.2.1
  have r4 := F.2.2.2.2.2.2.2.2.2.2.2.2.1
  refine va_mmin F.1 F.2.1 (F.2.2.1.trans hl'.1.symm) F.2.2.2.2.2.2.1 (hts _ hl) (hts _ hs') (hts _ hi) (hts _ hc) (Nat.le_trans hdep r1) (by omega) (by omega) (by omega) hd ?_
  have e0 : (if nI b < nI a then nI b else nI a) = nI (min a b) := by
    by_cases q : b < a
    · rw [if_pos ((nI_ltI hb ha).mpr q), Nat.min_eq_right (Nat.le_of_lt q)]
    · rw [if_neg (fun z => q ((nI_ltI hb ha).mp z)), Nat.min_eq_left (Nat.not_lt.mp q)]
  rw [e0]
  exact kk p l e R s m args below meth c H locs ls F hs hl' hP hz hV
end JMM
theorem jx_l {x : Nat} (hx : x < 2 ^ 32) : ((nI x).toInt64).toInt = if x < 2 ^ 31 then (x : Int) else (x : Int) - 2 ^ 32 := by
  rw [Int32.toInt_toInt64]; exact jn_toIntW x hx
theorem jx_clt (x y : Int64) : lg_cmp x y < 0 ↔ x < y := lg_cmp_lt x y
theorem jx_cgt (x y : Int64) : 0 < lg_cmp x y ↔ y < x := lg_cmp_gt x y
theorem jx_ceq (x y : Int64) : lg_cmp x y = 0 ↔ x = y := lg_cmp_eq x y
theorem jx_Xlt {x c : Nat} (hx : x < 2 ^ 32) (hc : c < 2 ^ 31) : lg_cmp ((nI x).toInt64) (lN c) < 0 ↔ (2 ^ 31 ≤ x ∨ x < c) := by
  rw [jx_clt, Int64.lt_iff_toInt_lt, jx_l hx, lN_toInt hc]; split <;> omega
theorem jx_Xgt {x c : Nat} (hx : x < 2 ^ 32) (hc : c < 2 ^ 31) : 0 < lg_cmp ((nI x).toInt64) (lN c) ↔ (x < 2 ^ 31 ∧ c < x) := by
  rw [jx_cgt, Int64.lt_iff_toInt_lt, jx_l hx, lN_toInt hc]; split <;> omega
theorem jx_Mlt {x c : Nat} (hx : x < 2 ^ 31) (hc : c < 2 ^ 31) : lg_cmp (lN x) (lN c) < 0 ↔ x < c := by
  rw [jx_clt]; exact lN_lt hx hc
theorem jx_Mgt {x c : Nat} (hx : x < 2 ^ 31) (hc : c < 2 ^ 31) : 0 < lg_cmp (lN x) (lN c) ↔ c < x := by
  rw [jx_cgt]; exact lN_lt hc hx
theorem jx_Meq {x c : Nat} (hx : x < 2 ^ 31) (hc : c < 2 ^ 31) : lg_cmp (lN x) (lN c) = 0 ↔ x = c := by
  rw [jx_ceq]; exact lN_eq hx hc
theorem jx_Xgtm {x : Nat} (hx : x < 2 ^ 32) (e : Int64) (he : e = -1) : 0 < lg_cmp ((nI x).toInt64) e ↔ x < 2 ^ 31 := by
  rw [jx_cgt, Int64.lt_iff_toInt_lt, jx_l hx, he, show ((-1 : Int64)).toInt = -1 by decide]; split <;> omega
theorem jx_m1 : (nI 0 - nI 1).toInt64 = (-1 : Int64) := by decide +kernel
section JTG
variable {E : jE} {M : jM} {d : jD} {S : Array Value → State → Prop} {P : jPost} {h : Nat → va_E} {n : Nat} {k : Nat × Nat} {pc : Nat} {L : List (Nat × Value)} {st : List Value}
theorem J_tableOutG {x : Nat} (v : Nat) {dflt lo hi : Int} {offs : Array Int} {len tgt : Nat} (hd : decode M.2.1 pc = .ok (.tableswitch dflt lo hi offs, len)) (hv : v ≤ x) (hx : x < 2 ^ 32) (hlo : lo = 0) (hhi : hi = (v : Int) - 1) (ht : (pc : Int) + dflt = (tgt : Int)) (kk : J E M d S P h n k tgt L st) : J E M d S P h n k pc L (.int (nI x) :: st) := by
  subst hlo; subst hhi
  exact J_tableOut hd (jn_out hv hx) ht kk
end JTG
