/-! the rules in numbers: nI of a Nat -/
section JN
variable {E : jE} {M : jM} {d : jD} {S : Array Value → State → Prop} {P : jPost} {h : Nat → va_E} {n : Nat} {k : Nat × Nat} {pc : Nat} {L : List (Nat × Value)} {st : List Value}
theorem jn_bv (a : Nat) : (nI a).toBitVec = BitVec.ofNat 32 a := rfl
theorem jn_or (a b : Nat) : nI a ||| nI b = nI (a ||| b) := by
  apply Int32.toBitVec_inj.mp
  rw [Int32.toBitVec_or, jn_bv, jn_bv, jn_bv]
  apply BitVec.eq_of_toNat_eq
  simp [BitVec.toNat_or, BitVec.toNat_ofNat, Nat.or_mod_two_pow]
theorem jn_a31 {s : Nat} (hs : s < 32) : nI s &&& 31 = nI s := by
  rw [pk_andN (n := s) (by omega) 5 (by decide)]
  rw [Nat.mod_eq_of_lt (by omega)]
theorem jn_sm {s : Nat} (hs : s < 32) : ((nI s).toBitVec.smod 32).toNat = s := by
  revert s; decide +kernel
theorem jn_shl {a s : Nat} (hs : s < 32) (h : a * 2 ^ s < 2 ^ 32) : nI a <<< (nI s &&& 31) = nI (a * 2 ^ s) := by
  rw [jn_a31 hs]; exact pk_shlN (nI s) s (jn_sm hs) h
theorem jn_shr {a s : Nat} (hs : s < 32) (h : a < 2 ^ 31) : nI a >>> (nI s &&& 31) = nI (a / 2 ^ s) := by
  rw [jn_a31 hs]; exact pk_shrN h (nI s) s (jn_sm hs)
theorem J_iaddN {a b : Nat} (hd : decode M.2.1 pc = .ok (.iadd, 1)) (kk : J E M d S P h n k (pc + 1) L (.int (nI (a + b)) :: st)) : J E M d S P h n k pc L (.int (nI b) :: .int (nI a) :: st) := J_iadd hd (by rw [nI_add]; exact kk)
theorem J_isubN {a b : Nat} (hd : decode M.2.1 pc = .ok (.isub, 1)) (hab : b ≤ a) (kk : J E M d S P h n k (pc + 1) L (.int (nI (a - b)) :: st)) : J E M d S P h n k pc L (.int (nI b) :: .int (nI a) :: st) := J_isub hd (by rw [pk_sub hab]; exact kk)
theorem J_imulN {a b : Nat} (hd : decode M.2.1 pc = .ok (.imul, 1)) (kk : J E M d S P h n k (pc + 1) L (.int (nI (a * b)) :: st)) : J E M d S P h n k pc L (.int (nI b) :: .int (nI a) :: st) := J_imul hd (by rw [pk_mul]; exact kk)
theorem J_idivN {a b : Nat} (hd : decode M.2.1 pc = .ok (.idiv, 1)) (ha : a < 2 ^ 31) (h0 : 0 < b) (hb : b < 2 ^ 31) (kk : J E M d S P h n k (pc + 1) L (.int (nI (a / b)) :: st)) : J E M d S P h n k pc L (.int (nI b) :: .int (nI a) :: st) := J_idiv hd (nI_ne0 h0 hb) (by rw [pk_div ha h0 hb]; exact kk)
theorem J_iremN {a b : Nat} (hd : decode M.2.1 pc = .ok (.irem, 1)) (ha : a < 2 ^ 31) (h0 : 0 < b) (hb : b < 2 ^ 31) (kk : J E M d S P h n k (pc + 1) L (.int (nI (a % b)) :: st)) : J E M d S P h n k pc L (.int (nI b) :: .int (nI a) :: st) := J_irem hd (nI_ne0 h0 hb) (by rw [pk_rem ha h0 hb]; exact kk)
theorem J_iorN {a b : Nat} (hd : decode M.2.1 pc = .ok (.ior, 1)) (kk : J E M d S P h n k (pc + 1) L (.int (nI (a ||| b)) :: st)) : J E M d S P h n k pc L (.int (nI b) :: .int (nI a) :: st) := J_ior hd (by rw [jn_or]; exact kk)
theorem J_ishlN {a s : Nat} (hd : decode M.2.1 pc = .ok (.ishl, 1)) (hs : s < 32) (ha : a * 2 ^ s < 2 ^ 32) (kk : J E M d S P h n k (pc + 1) L (.int (nI (a * 2 ^ s)) :: st)) : J E M d S P h n k pc L (.int (nI s) :: .int (nI a) :: st) := J_ishl hd (by rw [jn_shl hs ha]; exact kk)
theorem J_ishrN {a s : Nat} (hd : decode M.2.1 pc = .ok (.ishr, 1)) (hs : s < 32) (ha : a < 2 ^ 31) (kk : J E M d S P h n k (pc + 1) L (.int (nI (a / 2 ^ s)) :: st)) : J E M d S P h n k pc L (.int (nI s) :: .int (nI a) :: st) := J_ishr hd (by rw [jn_shr hs ha]; exact kk)
theorem J_iandN {a m : Nat} (j : Nat) (hd : decode M.2.1 pc = .ok (.iand, 1)) (ha : a < 2 ^ 32) (hm : (nI m).toBitVec.toNat = 2 ^ j - 1) (kk : J E M d S P h n k (pc + 1) L (.int (nI (a % 2 ^ j)) :: st)) : J E M d S P h n k pc L (.int (nI m) :: .int (nI a) :: st) := J_iand hd (by rw [pk_andN ha j hm]; exact kk)
theorem J_iincN {i q a m : Nat} {z : Int} {L' : List (Nat × Value)} (hd : decode M.2.1 pc = .ok (.iinc i z, 3)) (hq : L[q]? = some (i, .int (nI a))) (hz : Int32.ofInt z = nI m) (hn : i < M.2.2.1) (hL : (i, Value.int (nI (a + m))) :: L.filter (fun q => !(q.1 == i) && !(q.1 + 1 == i && q.2.category == 2)) = L') (kk : J E M d S P h n k (pc + 3) L' st) : J E M d S P h n k pc L st := J_iinc hd hq (by rw [hz, nI_add]) hn hL kk
theorem jn_in {i len : Nat} (hi : i < len) (hlen : len < 2 ^ 31) : vp_in (nI i) len := vp_in_nI hi hlen
theorem J_ialdN {b len i : Nat} {F : Nat → Nat} (hd : decode M.2.1 pc = .ok (.iaload, 1)) (hc : h b = cI E len (nF F)) (hb : b < n) (hlen : len < 2 ^ 31) (hi : i < len) (kk : J E M d S P h n k (pc + 1) L (.int (nI (F i)) :: st)) : J E M d S P h n k pc L (.int (nI i) :: .ref (E.1 + b) :: st) := J_iald hd hc hb (jn_in hi hlen) (by rw [nI_clamp (by omega)]; exact kk)
theorem J_ialdF {b len i : Nat} {f : Nat → Int32} (hd : decode M.2.1 pc = .ok (.iaload, 1)) (hc : h b = cI E len f) (hb : b < n) (hlen : len < 2 ^ 31) (hi : i < len) (kk : J E M d S P h n k (pc + 1) L (.int (f i) :: st)) : J E M d S P h n k pc L (.int (nI i) :: .ref (E.1 + b) :: st) := J_iald hd hc hb (jn_in hi hlen) (by rw [nI_clamp (by omega)]; exact kk)
theorem J_zaldN {b len i : Nat} {F : Nat → Nat} (hd : decode M.2.1 pc = .ok (.baload, 1)) (hc : h b = cZ E len (nF F)) (hb : b < n) (hlen : len < 2 ^ 31) (hi : i < len) (kk : J E M d S P h n k (pc + 1) L (.int (nI (F i)) :: st)) : J E M d S P h n k pc L (.int (nI i) :: .ref (E.1 + b) :: st) := J_zald hd hc hb (jn_in hi hlen) (by rw [nI_clamp (by omega)]; exact kk)
theorem J_baldN {b len i : Nat} {F : Nat → Nat} (hd : decode M.2.1 pc = .ok (.baload, 1)) (hc : h b = cB E len (nF F)) (hb : b < n) (hlen : len < 2 ^ 31) (hi : i < len) (kk : J E M d S P h n k (pc + 1) L (.int (nI (F i)) :: st)) : J E M d S P h n k pc L (.int (nI i) :: .ref (E.1 + b) :: st) := J_bald hd hc hb (jn_in hi hlen) (by rw [nI_clamp (by omega)]; exact kk)
theorem J_aaldN {b len i : Nat} {f : Nat → Option Nat} (hd : decode M.2.1 pc = .ok (.aaload, 1)) (hc : h b = cO E len f) (hb : b < n) (hlen : len < 2 ^ 31) (hi : i < len) (kk : J E M d S P h n k (pc + 1) L (va_rf (f i) :: st)) : J E M d S P h n k pc L (.int (nI i) :: .ref (E.1 + b) :: st) := J_aald hd hc hb (jn_in hi hlen) (by rw [nI_clamp (by omega)]; exact kk)
theorem J_iastN {b len i v : Nat} {F : Nat → Nat} (hd : decode M.2.1 pc = .ok (.iastore, 1)) (hc : h b = cI E len (nF F)) (hb : b < n) (hlen : len < 2 ^ 31) (hi : i < len) (kk : J E M d S P (hset h b (cI E len (nF (updN F i v)))) n k (pc + 1) L st) : J E M d S P h n k pc L (.int (nI v) :: .int (nI i) :: .ref (E.1 + b) :: st) := J_iast hd hc hb (jn_in hi hlen) (by rw [nI_clamp (by omega), nF_upd]; exact kk)
theorem J_iastF {b len i : Nat} {x : Int32} {f : Nat → Int32} (hd : decode M.2.1 pc = .ok (.iastore, 1)) (hc : h b = cI E len f) (hb : b < n) (hlen : len < 2 ^ 31) (hi : i < len) (kk : J E M d S P (hset h b (cI E len (upd f i x))) n k (pc + 1) L st) : J E M d S P h n k pc L (.int x :: .int (nI i) :: .ref (E.1 + b) :: st) := J_iast hd hc hb (jn_in hi hlen) (by rw [nI_clamp (by omega)]; exact kk)
theorem J_zastN {b len i v : Nat} {F : Nat → Nat} (hd : decode M.2.1 pc = .ok (.bastore, 1)) (hc : h b = cZ E len (nF F)) (hb : b < n) (hlen : len < 2 ^ 31) (hi : i < len) (hv : vp_nar .boolean (nI v) = nI v) (kk : J E M d S P (hset h b (cZ E len (nF (updN F i v)))) n k (pc + 1) L st) : J E M d S P h n k pc L (.int (nI v) :: .int (nI i) :: .ref (E.1 + b) :: st) := J_zast hd hc hb (jn_in hi hlen) (by rw [nI_clamp (by omega), hv, nF_upd]; exact kk)
theorem jn_byte {v : Nat} (hv : v < 128) : (nI v).toInt8.toInt32 = nI v := by revert v; decide +kernel
theorem J_bastN {b len i v : Nat} {F : Nat → Nat} (hd : decode M.2.1 pc = .ok (.bastore, 1)) (hc : h b = cB E len (nF F)) (hb : b < n) (hlen : len < 2 ^ 31) (hi : i < len) (hv : v < 128) (kk : J E M d S P (hset h b (cB E len (nF (updN F i v)))) n k (pc + 1) L st) : J E M d S P h n k pc L (.int (nI v) :: .int (nI i) :: .ref (E.1 + b) :: st) := J_bast hd hc hb (jn_in hi hlen) (by rw [nI_clamp (by omega), vp_nar_byte, jn_byte hv, nF_upd]; exact kk)
theorem J_alenN {b len : Nat} {f : Nat → Int32} (hd : decode M.2.1 pc = .ok (.arraylength, 1)) (hc : h b = cI E len f) (hb : b < n) (kk : J E M d S P h n k (pc + 1) L (.int (nI len) :: st)) : J E M d S P h n k pc L (.ref (E.1 + b) :: st) := J_alen hd hc hb rfl kk
theorem J_i2lN {a : Nat} (hd : decode M.2.1 pc = .ok (.i2l, 1)) (ha : a < 2 ^ 31) (kk : J E M d S P h n k (pc + 1) L (.long (lN a) :: st)) : J E M d S P h n k pc L (.int (nI a) :: st) := J_i2l hd (nI_l ha) kk
theorem J_l2iN {a : Nat} (hd : decode M.2.1 pc = .ok (.l2i, 1)) (kk : J E M d S P h n k (pc + 1) L (.int (nI a) :: st)) : J E M d S P h n k pc L (.long (lN a) :: st) := J_l2i hd (lN_i a) kk
theorem J_laddN {a b : Nat} (hd : decode M.2.1 pc = .ok (.ladd, 1)) (kk : J E M d S P h n k (pc + 1) L (.long (lN (a + b)) :: st)) : J E M d S P h n k pc L (.long (lN b) :: .long (lN a) :: st) := J_ladd hd (by rw [lN_add]; exact kk)
theorem J_lmulN {a b : Nat} (hd : decode M.2.1 pc = .ok (.lmul, 1)) (kk : J E M d S P h n k (pc + 1) L (.long (lN (a * b)) :: st)) : J E M d S P h n k pc L (.long (lN b) :: .long (lN a) :: st) := J_lmul hd (by rw [lN_mul]; exact kk)
theorem jn_l0 {b : Nat} (h0 : 0 < b) (hb : b < 2 ^ 63) : ¬ lN b = 0 := by
  intro q
  have := (pk_lEQ (a := b) (b := 0) hb (by omega)).mp (q.trans rfl)
  omega
theorem J_ldivN {a b : Nat} (hd : decode M.2.1 pc = .ok (.ldiv, 1)) (ha : a < 2 ^ 63) (h0 : 0 < b) (hb : b < 2 ^ 63) (kk : J E M d S P h n k (pc + 1) L (.long (lN (a / b)) :: st)) : J E M d S P h n k pc L (.long (lN b) :: .long (lN a) :: st) := J_ldiv hd (jn_l0 h0 hb) (by rw [pk_lDiv ha h0 hb]; exact kk)
theorem J_lremN {a b : Nat} (hd : decode M.2.1 pc = .ok (.lrem, 1)) (ha : a < 2 ^ 63) (h0 : 0 < b) (hb : b < 2 ^ 63) (kk : J E M d S P h n k (pc + 1) L (.long (lN (a % b)) :: st)) : J E M d S P h n k pc L (.long (lN b) :: .long (lN a) :: st) := J_lrem hd (jn_l0 h0 hb) (by rw [pk_lRem ha h0 hb]; exact kk)
theorem jn_e0 {a : Nat} (ha : a < 2 ^ 31) : nI a = 0 ↔ a = 0 := by
  rw [show (0 : Int32) = nI 0 from rfl]; exact nI_eq ha (by omega)
theorem J_if_eqN {a : Nat} {off : Int} {tgt : Nat} (hd : decode M.2.1 pc = .ok (.ifCond .eq off, 3)) (ht : (pc : Int) + off = (tgt : Int)) (ha : a < 2 ^ 31) (kt : a = 0 → J E M d S P h n k tgt L st) (kf : ¬ a = 0 → J E M d S P h n k (pc + 3) L st) : J E M d S P h n k pc L (.int (nI a) :: st) := J_if_eq hd ht (fun q => kt ((jn_e0 ha).mp q)) (fun q => kf (fun z => q ((jn_e0 ha).mpr z)))
theorem J_if_neN {a : Nat} {off : Int} {tgt : Nat} (hd : decode M.2.1 pc = .ok (.ifCond .ne off, 3)) (ht : (pc : Int) + off = (tgt : Int)) (ha : a < 2 ^ 31) (kt : ¬ a = 0 → J E M d S P h n k tgt L st) (kf : a = 0 → J E M d S P h n k (pc + 3) L st) : J E M d S P h n k pc L (.int (nI a) :: st) := J_if_ne hd ht (fun q => kt (fun z => q ((jn_e0 ha).mpr z))) (fun q => kf ((jn_e0 ha).mp q))
theorem J_if_ltN {a : Nat} {off : Int} {tgt : Nat} (hd : decode M.2.1 pc = .ok (.ifCond .lt off, 3)) (ht : (pc : Int) + off = (tgt : Int)) (ha : a < 2 ^ 31) (kf : J E M d S P h n k (pc + 3) L st) : J E M d S P h n k pc L (.int (nI a) :: st) := J_if_lt hd ht (fun q => absurd q (nI_pos ha)) (fun _ => kf)
theorem J_if_geN {a : Nat} {off : Int} {tgt : Nat} (hd : decode M.2.1 pc = .ok (.ifCond .ge off, 3)) (ht : (pc : Int) + off = (tgt : Int)) (ha : a < 2 ^ 31) (kt : J E M d S P h n k tgt L st) : J E M d S P h n k pc L (.int (nI a) :: st) := J_if_ge hd ht (fun _ => kt) (fun q => absurd (nI_pos' ha) q)
theorem jn_gt0 {a : Nat} (ha : a < 2 ^ 31) : (0 : Int32) < nI a ↔ 0 < a := by
  rw [show (0 : Int32) = nI 0 from rfl]; exact nI_ltI (by omega) ha
theorem jn_le0 {a : Nat} (ha : a < 2 ^ 31) : nI a ≤ (0 : Int32) ↔ a = 0 := by
  rw [show (0 : Int32) = nI 0 from rfl, nI_leI ha (by omega)]; omega
theorem J_if_gtN {a : Nat} {off : Int} {tgt : Nat} (hd : decode M.2.1 pc = .ok (.ifCond .gt off, 3)) (ht : (pc : Int) + off = (tgt : Int)) (ha : a < 2 ^ 31) (kt : 0 < a → J E M d S P h n k tgt L st) (kf : a = 0 → J E M d S P h n k (pc + 3) L st) : J E M d S P h n k pc L (.int (nI a) :: st) := J_if_gt hd ht (fun q => kt ((jn_gt0 ha).mp q)) (fun q => kf (Nat.eq_zero_of_not_pos (fun z => q ((jn_gt0 ha).mpr z))))
theorem J_if_leN {a : Nat} {off : Int} {tgt : Nat} (hd : decode M.2.1 pc = .ok (.ifCond .le off, 3)) (ht : (pc : Int) + off = (tgt : Int)) (ha : a < 2 ^ 31) (kt : a = 0 → J E M d S P h n k tgt L st) (kf : 0 < a → J E M d S P h n k (pc + 3) L st) : J E M d S P h n k pc L (.int (nI a) :: st) := J_if_le hd ht (fun q => kt ((jn_le0 ha).mp q)) (fun q => kf (Nat.pos_of_ne_zero (fun z => q ((jn_le0 ha).mpr z))))
theorem J_icmp_eqN {a b : Nat} {off : Int} {tgt : Nat} (hd : decode M.2.1 pc = .ok (.if_icmp .eq off, 3)) (ht : (pc : Int) + off = (tgt : Int)) (ha : a < 2 ^ 31) (hb : b < 2 ^ 31) (kt : a = b → J E M d S P h n k tgt L st) (kf : ¬ a = b → J E M d S P h n k (pc + 3) L st) : J E M d S P h n k pc L (.int (nI b) :: .int (nI a) :: st) := J_icmp_eq hd ht (fun q => kt ((nI_eq ha hb).mp q)) (fun q => kf (fun z => q ((nI_eq ha hb).mpr z)))
theorem J_icmp_neN {a b : Nat} {off : Int} {tgt : Nat} (hd : decode M.2.1 pc = .ok (.if_icmp .ne off, 3)) (ht : (pc : Int) + off = (tgt : Int)) (ha : a < 2 ^ 31) (hb : b < 2 ^ 31) (kt : ¬ a = b → J E M d S P h n k tgt L st) (kf : a = b → J E M d S P h n k (pc + 3) L st) : J E M d S P h n k pc L (.int (nI b) :: .int (nI a) :: st) := J_icmp_ne hd ht (fun q => kt (fun z => q ((nI_eq ha hb).mpr z))) (fun q => kf ((nI_eq ha hb).mp q))
theorem J_icmp_ltN {a b : Nat} {off : Int} {tgt : Nat} (hd : decode M.2.1 pc = .ok (.if_icmp .lt off, 3)) (ht : (pc : Int) + off = (tgt : Int)) (ha : a < 2 ^ 31) (hb : b < 2 ^ 31) (kt : a < b → J E M d S P h n k tgt L st) (kf : b ≤ a → J E M d S P h n k (pc + 3) L st) : J E M d S P h n k pc L (.int (nI b) :: .int (nI a) :: st) := J_icmp_lt hd ht (fun q => kt ((nI_ltI ha hb).mp q)) (fun q => kf (Nat.not_lt.mp (fun z => q ((nI_ltI ha hb).mpr z))))
theorem J_icmp_geN {a b : Nat} {off : Int} {tgt : Nat} (hd : decode M.2.1 pc = .ok (.if_icmp .ge off, 3)) (ht : (pc : Int) + off = (tgt : Int)) (ha : a < 2 ^ 31) (hb : b < 2 ^ 31) (kt : b ≤ a → J E M d S P h n k tgt L st) (kf : a < b → J E M d S P h n k (pc + 3) L st) : J E M d S P h n k pc L (.int (nI b) :: .int (nI a) :: st) := J_icmp_ge hd ht (fun q => kt ((nI_leI hb ha).mp q)) (fun q => kf (Nat.not_le.mp (fun z => q ((nI_leI hb ha).mpr z))))
theorem J_icmp_gtN {a b : Nat} {off : Int} {tgt : Nat} (hd : decode M.2.1 pc = .ok (.if_icmp .gt off, 3)) (ht : (pc : Int) + off = (tgt : Int)) (ha : a < 2 ^ 31) (hb : b < 2 ^ 31) (kt : b < a → J E M d S P h n k tgt L st) (kf : a ≤ b → J E M d S P h n k (pc + 3) L st) : J E M d S P h n k pc L (.int (nI b) :: .int (nI a) :: st) := J_icmp_gt hd ht (fun q => kt ((nI_ltI hb ha).mp q)) (fun q => kf (Nat.not_lt.mp (fun z => q ((nI_ltI hb ha).mpr z))))
theorem J_icmp_leN {a b : Nat} {off : Int} {tgt : Nat} (hd : decode M.2.1 pc = .ok (.if_icmp .le off, 3)) (ht : (pc : Int) + off = (tgt : Int)) (ha : a < 2 ^ 31) (hb : b < 2 ^ 31) (kt : a ≤ b → J E M d S P h n k tgt L st) (kf : b < a → J E M d S P h n k (pc + 3) L st) : J E M d S P h n k pc L (.int (nI b) :: .int (nI a) :: st) := J_icmp_le hd ht (fun q => kt ((nI_leI ha hb).mp q)) (fun q => kf (Nat.not_le.mp (fun z => q ((nI_leI ha hb).mpr z))))
theorem J_if_eqB {p : Prop} [Decidable p] {off : Int} {tgt : Nat} (hd : decode M.2.1 pc = .ok (.ifCond .eq off, 3)) (ht : (pc : Int) + off = (tgt : Int)) (kt : ¬ p → J E M d S P h n k tgt L st) (kf : p → J E M d S P h n k (pc + 3) L st) : J E M d S P h n k pc L (.int (jb p) :: st) := J_if_eq hd ht (fun q => kt (fun z => by rw [jb_t z] at q; exact absurd q (by decide))) (fun q => kf (Classical.byContradiction fun z => q (jb_f z)))
theorem J_if_neB {p : Prop} [Decidable p] {off : Int} {tgt : Nat} (hd : decode M.2.1 pc = .ok (.ifCond .ne off, 3)) (ht : (pc : Int) + off = (tgt : Int)) (kt : p → J E M d S P h n k tgt L st) (kf : ¬ p → J E M d S P h n k (pc + 3) L st) : J E M d S P h n k pc L (.int (jb p) :: st) := J_if_ne hd ht (fun q => kt (Classical.byContradiction fun z => q (jb_f z))) (fun q => kf (fun z => by rw [jb_t z] at q; exact absurd q (by decide)))
theorem J.eqs {h' : Nat → va_E} {L' : List (Nat × Value)} {st' : List Value} (e1 : h = h') (e2 : L = L') (e3 : st = st') (kk : J E M d S P h' n k pc L' st') : J E M d S P h n k pc L st := by subst e1; subst e2; subst e3; exact kk
end JN
theorem jv_N {a b : Nat} (e : a = b) : Value.int (nI a) = Value.int (nI b) := by rw [e]
theorem jv_I {a b : Int32} (e : a = b) : Value.int a = Value.int b := by rw [e]
theorem jv_M {a b : Nat} (e : a = b) : Value.long (lN a) = Value.long (lN b) := by rw [e]
theorem jv_L {a b : Int64} (e : a = b) : Value.long a = Value.long b := by rw [e]
theorem jL_c {i : Nat} {v w : Value} {l l' : List (Nat × Value)} (e1 : v = w) (e2 : l = l') : (i, v) :: l = (i, w) :: l' := by rw [e1, e2]
theorem jS_c {v w : Value} {l l' : List Value} (e1 : v = w) (e2 : l = l') : v :: l = w :: l' := by rw [e1, e2]
theorem hset_cg {h h' : Nat → va_E} {i : Nat} {e e' : va_E} (e1 : h = h') (e2 : e = e') : hset h i e = hset h' i e' := by rw [e1, e2]
theorem cI_cg {E : jE} {len : Nat} {F G : Nat → Nat} (e : ∀ k, F k = G k) : cI E len (nF F) = cI E len (nF G) := by rw [nF_ext e]
theorem cB_cg {E : jE} {len : Nat} {F G : Nat → Nat} (e : ∀ k, F k = G k) : cB E len (nF F) = cB E len (nF G) := by rw [nF_ext e]
theorem cZ_cg {E : jE} {len : Nat} {F G : Nat → Nat} (e : ∀ k, F k = G k) : cZ E len (nF F) = cZ E len (nF G) := by rw [nF_ext e]
theorem jret_B1 {p : Prop} [Decidable p] (hp : p) : (some (Value.int (nI 1))) = some (Value.int (jb p)) := by rw [jb_t hp]; rfl
theorem jret_B0 {p : Prop} [Decidable p] (hp : ¬ p) : (some (Value.int (nI 0))) = some (Value.int (jb p)) := by rw [jb_f hp]; rfl
theorem jb_cg {p q : Prop} [Decidable p] [Decidable q] (e : p ↔ q) : jb p = jb q := by
  by_cases hq : q
  · rw [jb_t hq, jb_t (e.mpr hq)]
  · rw [jb_f hq, jb_f (fun z => hq (e.mp z))]
