section JR1
variable {E : jE} {M : jM} {d : jD} {S : Array Value → State → Prop} {P : jPost} {h : Nat → va_E} {n : Nat} {k : Nat × Nat} {pc : Nat} {L : List (Nat × Value)} {st : List Value}
theorem J.cast {h' : Nat → va_E} (e : h = h') (kk : J E M d S P h' n k pc L st) : J E M d S P h n k pc L st := by subst e; exact kk
theorem J.sub {L' : List (Nat × Value)} (ps : List Nat) (hp : lv_pick L ps = L') (kk : J E M d S P h n k pc L' st) : J E M d S P h n k pc L st := by
  intro p l e R s m args below meth c H locs ls F hs hl hP hz hV
  exact kk p l e R s m args below meth c H locs ls F hs (lv_sub hl ps hp) hP hz hV
theorem J.stk {st' : List Value} (e : st = st') (kk : J E M d S P h n k pc L st') : J E M d S P h n k pc L st := by subst e; exact kk
theorem J.at {pc' : Nat} (e : pc = pc') (kk : J E M d S P h n k pc' L st) : J E M d S P h n k pc L st := by subst e; exact kk
def jget : List (Nat × Value) → Nat → Option Value
  | [], _ => none
  | (j, v) :: l, i => if j = i then some v else jget l i
theorem jget_mem {l : List (Nat × Value)} {i : Nat} {v : Value} (hg : jget l i = some v) : (i, v) ∈ l := by
  induction l with
  | nil => cases hg
  | cons q l ih =>
    obtain ⟨j, w⟩ := q
    simp only [jget] at hg
    split at hg
    · next he => cases hg; subst he; exact List.mem_cons_self
    · exact List.mem_cons_of_mem _ (ih hg)
def jb (p : Prop) [Decidable p] : Int32 := if p then 1 else 0
theorem jb_t {p : Prop} [Decidable p] (hp : p) : jb p = 1 := if_pos hp
theorem jb_f {p : Prop} [Decidable p] (hp : ¬ p) : jb p = 0 := if_neg hp
theorem jb_nar {p : Prop} [Decidable p] : narrow .boolean (.int (jb p)) = .int (jb p) := by
  by_cases hp : p
  · rw [jb_t hp]; rfl
  · rw [jb_f hp]; rfl
theorem J_iadd {x y : Int32} (hd : decode M.2.1 pc = .ok (.iadd, 1)) (kk : J E M d S P h n k (pc + 1) L (.int (x + y) :: st)) : J E M d S P h n k pc L (.int y :: .int x :: st) := by
  intro p l e R s m args below meth c H locs ls F hs hl hP hz hV
  exact lv_iadd F.1 F.2.1 hd (kk p l e R s m args below meth c H locs ls F hs hl hP hz hV)
theorem J_isub {x y : Int32} (hd : decode M.2.1 pc = .ok (.isub, 1)) (kk : J E M d S P h n k (pc + 1) L (.int (x - y) :: st)) : J E M d S P h n k pc L (.int y :: .int x :: st) := by
  intro p l e R s m args below meth c H locs ls F hs hl hP hz hV
  exact lv_isub F.1 F.2.1 hd (kk p l e R s m args below meth c H locs ls F hs hl hP hz hV)
theorem J_imul {x y : Int32} (hd : decode M.2.1 pc = .ok (.imul, 1)) (kk : J E M d S P h n k (pc + 1) L (.int (x * y) :: st)) : J E M d S P h n k pc L (.int y :: .int x :: st) := by
  intro p l e R s m args below meth c H locs ls F hs hl hP hz hV
  exact lv_imul F.1 F.2.1 hd (kk p l e R s m args below meth c H locs ls F hs hl hP hz hV)
theorem J_iand {x y : Int32} (hd : decode M.2.1 pc = .ok (.iand, 1)) (kk : J E M d S P h n k (pc + 1) L (.int (x &&& y) :: st)) : J E M d S P h n k pc L (.int y :: .int x :: st) := by
  intro p l e R s m args below meth c H locs ls F hs hl hP hz hV
  exact lv_iand F.1 F.2.1 hd (kk p l e R s m args below meth c H locs ls F hs hl hP hz hV)
theorem J_ior {x y : Int32} (hd : decode M.2.1 pc = .ok (.ior, 1)) (kk : J E M d S P h n k (pc + 1) L (.int (x ||| y) :: st)) : J E M d S P h n k pc L (.int y :: .int x :: st) := by
  intro p l e R s m args below meth c H locs ls F hs hl hP hz hV
  exact lv_ior F.1 F.2.1 hd (kk p l e R s m args below meth c H locs ls F hs hl hP hz hV)
theorem J_idiv {x y : Int32} (hd : decode M.2.1 pc = .ok (.idiv, 1)) (hne : ¬ y = 0) (kk : J E M d S P h n k (pc + 1) L (.int (x / y) :: st)) : J E M d S P h n k pc L (.int y :: .int x :: st) := by
  intro p l e R s m args below meth c H locs ls F hs hl hP hz hV
  exact lv_idiv F.1 F.2.1 hd hne (kk p l e R s m args below meth c H locs ls F hs hl hP hz hV)
theorem J_irem {x y : Int32} (hd : decode M.2.1 pc = .ok (.irem, 1)) (hne : ¬ y = 0) (kk : J E M d S P h n k (pc + 1) L (.int (x - x / y * y) :: st)) : J E M d S P h n k pc L (.int y :: .int x :: st) := by
  intro p l e R s m args below meth c H locs ls F hs hl hP hz hV
  exact lv_irem F.1 F.2.1 hd hne (kk p l e R s m args below meth c H locs ls F hs hl hP hz hV)
theorem J_ishl {x y : Int32} (hd : decode M.2.1 pc = .ok (.ishl, 1)) (kk : J E M d S P h n k (pc + 1) L (.int (x <<< (y &&& 31)) :: st)) : J E M d S P h n k pc L (.int y :: .int x :: st) := by
  intro p l e R s m args below meth c H locs ls F hs hl hP hz hV
  exact lv_ishl F.1 F.2.1 hd (kk p l e R s m args below meth c H locs ls F hs hl hP hz hV)
theorem J_ishr {x y : Int32} (hd : decode M.2.1 pc = .ok (.ishr, 1)) (kk : J E M d S P h n k (pc + 1) L (.int (x >>> (y &&& 31)) :: st)) : J E M d S P h n k pc L (.int y :: .int x :: st) := by
  intro p l e R s m args below meth c H locs ls F hs hl hP hz hV
  exact lv_ishr F.1 F.2.1 hd (kk p l e R s m args below meth c H locs ls F hs hl hP hz hV)
theorem J_ladd {x y : Int64} (hd : decode M.2.1 pc = .ok (.ladd, 1)) (kk : J E M d S P h n k (pc + 1) L (.long (x + y) :: st)) : J E M d S P h n k pc L (.long y :: .long x :: st) := by
  intro p l e R s m args below meth c H locs ls F hs hl hP hz hV
  exact lv_ladd F.1 F.2.1 hd (kk p l e R s m args below meth c H locs ls F hs hl hP hz hV)
theorem J_lsub {x y : Int64} (hd : decode M.2.1 pc = .ok (.lsub, 1)) (kk : J E M d S P h n k (pc + 1) L (.long (x - y) :: st)) : J E M d S P h n k pc L (.long y :: .long x :: st) := by
  intro p l e R s m args below meth c H locs ls F hs hl hP hz hV
  exact lv_lsub F.1 F.2.1 hd (kk p l e R s m args below meth c H locs ls F hs hl hP hz hV)
theorem J_lmul {x y : Int64} (hd : decode M.2.1 pc = .ok (.lmul, 1)) (kk : J E M d S P h n k (pc + 1) L (.long (x * y) :: st)) : J E M d S P h n k pc L (.long y :: .long x :: st) := by
  intro p l e R s m args below meth c H locs ls F hs hl hP hz hV
  exact lv_lmul F.1 F.2.1 hd (kk p l e R s m args below meth c H locs ls F hs hl hP hz hV)
theorem J_ldiv {x y : Int64} (hd : decode M.2.1 pc = .ok (.ldiv, 1)) (hne : ¬ y = 0) (kk : J E M d S P h n k (pc + 1) L (.long (x / y) :: st)) : J E M d S P h n k pc L (.long y :: .long x :: st) := by
  intro p l e R s m args below meth c H locs ls F hs hl hP hz hV
  exact lv_ldiv F.1 F.2.1 hd hne (kk p l e R s m args below meth c H locs ls F hs hl hP hz hV)
theorem J_lrem {x y : Int64} (hd : decode M.2.1 pc = .ok (.lrem, 1)) (hne : ¬ y = 0) (kk : J E M d S P h n k (pc + 1) L (.long (x - x / y * y) :: st)) : J E M d S P h n k pc L (.long y :: .long x :: st) := by
  intro p l e R s m args below meth c H locs ls F hs hl hP hz hV
  exact lv_lrem F.1 F.2.1 hd hne (kk p l e R s m args below meth c H locs ls F hs hl hP hz hV)
theorem J_lcmp {x y : Int64} (hd : decode M.2.1 pc = .ok (.lcmp, 1)) (kk : J E M d S P h n k (pc + 1) L (.int (lg_cmp x y) :: st)) : J E M d S P h n k pc L (.long y :: .long x :: st) := by
  intro p l e R s m args below meth c H locs ls F hs hl hP hz hV
  exact W.lcmp F.1 F.2.1 hd (kk p l e R s m args below meth c H locs ls F hs hl hP hz hV)
theorem J_i2l {x : Int32} {v : Int64} (hd : decode M.2.1 pc = .ok (.i2l, 1)) (hv : x.toInt64 = v) (kk : J E M d S P h n k (pc + 1) L (.long v :: st)) : J E M d S P h n k pc L (.int x :: st) := by
  intro p l e R s m args below meth c H locs ls F hs hl hP hz hV
  exact lv_i2l F.1 F.2.1 hd hv (kk p l e R s m args below meth c H locs ls F hs hl hP hz hV)
theorem J_l2i {x : Int64} {v : Int32} (hd : decode M.2.1 pc = .ok (.l2i, 1)) (hv : x.toInt32 = v) (kk : J E M d S P h n k (pc + 1) L (.int v :: st)) : J E M d S P h n k pc L (.long x :: st) := by
  intro p l e R s m args below meth c H locs ls F hs hl hP hz hV
  exact lv_l2i F.1 F.2.1 hd hv (kk p l e R s m args below meth c H locs ls F hs hl hP hz hV)
theorem J_i2b {x : Int32} {v : Int32} (hd : decode M.2.1 pc = .ok (.i2b, 1)) (hv : x.toInt8.toInt32 = v) (kk : J E M d S P h n k (pc + 1) L (.int v :: st)) : J E M d S P h n k pc L (.int x :: st) := by
  intro p l e R s m args below meth c H locs ls F hs hl hP hz hV
  exact lv_i2b F.1 F.2.1 hd hv (kk p l e R s m args below meth c H locs ls F hs hl hP hz hV)
theorem J_iconst {z : Int} {v : Int32} (hd : decode M.2.1 pc = .ok (.iconst z, 1)) (hv : Int32.ofInt z = v) (kk : J E M d S P h n k (pc + 1) L (.int v :: st)) : J E M d S P h n k pc L (st) := by
  intro p l e R s m args below meth c H locs ls F hs hl hP hz hV
  exact lv_iconst F.1 F.2.1 hd hv (kk p l e R s m args below meth c H locs ls F hs hl hP hz hV)
theorem J_bipush {z : Int} {v : Int32} (hd : decode M.2.1 pc = .ok (.bipush z, 2)) (hv : (Int8.ofInt z).toInt32 = v) (kk : J E M d S P h n k (pc + 2) L (.int v :: st)) : J E M d S P h n k pc L (st) := by
  intro p l e R s m args below meth c H locs ls F hs hl hP hz hV
  exact lv_bipush F.1 F.2.1 hd hv (kk p l e R s m args below meth c H locs ls F hs hl hP hz hV)
theorem J_sipush {z : Int} {v : Int32} (hd : decode M.2.1 pc = .ok (.sipush z, 3)) (hv : (Int16.ofInt z).toInt32 = v) (kk : J E M d S P h n k (pc + 3) L (.int v :: st)) : J E M d S P h n k pc L (st) := by
  intro p l e R s m args below meth c H locs ls F hs hl hP hz hV
  exact lv_sipush F.1 F.2.1 hd hv (kk p l e R s m args below meth c H locs ls F hs hl hP hz hV)
theorem J_lconst {z : Fin 2} {v : Int64} (hd : decode M.2.1 pc = .ok (.lconst z, 1)) (hv : Int64.ofNat (z : Nat) = v) (kk : J E M d S P h n k (pc + 1) L (.long v :: st)) : J E M d S P h n k pc L (st) := by
  intro p l e R s m args below meth c H locs ls F hs hl hP hz hV
  exact lv_lconst F.1 F.2.1 hd hv (kk p l e R s m args below meth c H locs ls F hs hl hP hz hV)
theorem J_dup {v : Value} (hd : decode M.2.1 pc = .ok (.dup, 1)) (hv : v.category = 1) (kk : J E M d S P h n k (pc + 1) L (v :: v :: st)) : J E M d S P h n k pc L (v :: st) := by
  intro p l e R s m args below meth c H locs ls F hs hl hP hz hV
  exact lv_dup F.1 F.2.1 hd hv (kk p l e R s m args below meth c H locs ls F hs hl hP hz hV)
theorem J_pop {v : Value} (hd : decode M.2.1 pc = .ok (.pop, 1)) (hv : v.category = 1) (kk : J E M d S P h n k (pc + 1) L (st)) : J E M d S P h n k pc L (v :: st) := by
  intro p l e R s m args below meth c H locs ls F hs hl hP hz hV
  exact lv_pop F.1 F.2.1 hd hv (kk p l e R s m args below meth c H locs ls F hs hl hP hz hV)
theorem J_dup2 {v w : Value} (hd : decode M.2.1 pc = .ok (.dup2, 1)) (hv : v.category = 1) (hw : w.category = 1) (kk : J E M d S P h n k (pc + 1) L (v :: w :: v :: w :: st)) : J E M d S P h n k pc L (v :: w :: st) := by
  intro p l e R s m args below meth c H locs ls F hs hl hP hz hV
  exact lv_dup2_11 F.1 F.2.1 hd hv hw (kk p l e R s m args below meth c H locs ls F hs hl hP hz hV)
theorem J_iload {i : Nat} {x : Int32} (hd : decode M.2.1 pc = .ok (.iload i, 2)) (hi : jget L i = some (.int x)) (kk : J E M d S P h n k (pc + 2) L (.int x :: st)) : J E M d S P h n k pc L (st) := by
  intro p l e R s m args below meth c H locs ls F hs hl hP hz hV
  exact lv_iload F.1 F.2.1 hd (hl.2.2 _ (jget_mem hi)) (kk p l e R s m args below meth c H locs ls F hs hl hP hz hV)
theorem J_iload_n {q : Fin 4} {x : Int32} (hd : decode M.2.1 pc = .ok (.iload_n q, 1)) (hi : jget L (q : Nat) = some (.int x)) (kk : J E M d S P h n k (pc + 1) L (.int x :: st)) : J E M d S P h n k pc L (st) := by
  intro p l e R s m args below meth c H locs ls F hs hl hP hz hV
  exact lv_iload_n F.1 F.2.1 hd rfl (hl.2.2 _ (jget_mem hi)) (kk p l e R s m args below meth c H locs ls F hs hl hP hz hV)
theorem J_lload {i : Nat} {x : Int64} (hd : decode M.2.1 pc = .ok (.lload i, 2)) (hi : jget L i = some (.long x)) (kk : J E M d S P h n k (pc + 2) L (.long x :: st)) : J E M d S P h n k pc L (st) := by
  intro p l e R s m args below meth c H locs ls F hs hl hP hz hV
  exact lv_lload F.1 F.2.1 hd (hl.2.2 _ (jget_mem hi)) (kk p l e R s m args below meth c H locs ls F hs hl hP hz hV)
theorem J_lload_n {q : Fin 4} {x : Int64} (hd : decode M.2.1 pc = .ok (.lload_n q, 1)) (hi : jget L (q : Nat) = some (.long x)) (kk : J E M d S P h n k (pc + 1) L (.long x :: st)) : J E M d S P h n k pc L (st) := by
  intro p l e R s m args below meth c H locs ls F hs hl hP hz hV
  exact lv_lload_n F.1 F.2.1 hd rfl (hl.2.2 _ (jget_mem hi)) (kk p l e R s m args below meth c H locs ls F hs hl hP hz hV)
theorem J_aload {i : Nat} {x : Nat} (hd : decode M.2.1 pc = .ok (.aload i, 2)) (hi : jget L i = some (.ref x)) (kk : J E M d S P h n k (pc + 2) L (.ref x :: st)) : J E M d S P h n k pc L (st) := by
  intro p l e R s m args below meth c H locs ls F hs hl hP hz hV
  exact lv_aload F.1 F.2.1 hd (hl.2.2 _ (jget_mem hi)) (kk p l e R s m args below meth c H locs ls F hs hl hP hz hV)
theorem J_aload_n {q : Fin 4} {x : Nat} (hd : decode M.2.1 pc = .ok (.aload_n q, 1)) (hi : jget L (q : Nat) = some (.ref x)) (kk : J E M d S P h n k (pc + 1) L (.ref x :: st)) : J E M d S P h n k pc L (st) := by
  intro p l e R s m args below meth c H locs ls F hs hl hP hz hV
  exact lv_aload_n F.1 F.2.1 hd rfl (hl.2.2 _ (jget_mem hi)) (kk p l e R s m args below meth c H locs ls F hs hl hP hz hV)
theorem J_aload_nN {q : Fin 4} (hd : decode M.2.1 pc = .ok (.aload_n q, 1)) (hi : jget L (q : Nat) = some .null) (kk : J E M d S P h n k (pc + 1) L (.null :: st)) : J E M d S P h n k pc L (st) := by
  intro p l e R s m args below meth c H locs ls F hs hl hP hz hV
  exact lv_aload_nN F.1 F.2.1 hd rfl (hl.2.2 _ (jget_mem hi)) (kk p l e R s m args below meth c H locs ls F hs hl hP hz hV)
theorem J_istore {i : Nat} {x : Int32} {L' : List (Nat × Value)} (hd : decode M.2.1 pc = .ok (.istore i, 2)) (hn : i < M.2.2.1) (hL : (i, Value.int x) :: L.filter (fun q => !(q.1 == i) && !(q.1 + 1 == i && q.2.category == 2)) = L') (kk : J E M d S P h n k (pc + 2) L' st) : J E M d S P h n k pc L (.int x :: st) := by
  intro p l e R s m args below meth c H locs ls F hs hl hP hz hV
  exact lv_istore F.1 F.2.1 hd hl hn hL (fun ls' hl' => kk p l e R s m args below meth c H locs ls' F hs hl' hP hz hV)
theorem J_istore_n {w : Fin 4} {x : Int32} {L' : List (Nat × Value)} (hd : decode M.2.1 pc = .ok (.istore_n w, 1)) (hn : (w : Nat) < M.2.2.1) (hL : ((w : Nat), Value.int x) :: L.filter (fun q => !(q.1 == (w : Nat)) && !(q.1 + 1 == (w : Nat) && q.2.category == 2)) = L') (kk : J E M d S P h n k (pc + 1) L' st) : J E M d S P h n k pc L (.int x :: st) := by
  intro p l e R s m args below meth c H locs ls F hs hl hP hz hV
  exact lv_istore_n F.1 F.2.1 hd rfl hl hn hL (fun ls' hl' => kk p l e R s m args below meth c H locs ls' F hs hl' hP hz hV)
theorem J_lstore {i : Nat} {x : Int64} {L' : List (Nat × Value)} (hd : decode M.2.1 pc = .ok (.lstore i, 2)) (hn : i + 1 < M.2.2.1) (hL : (i, Value.long x) :: L.filter (fun q => !(q.1 == i) && (!(q.1 == i + 1) && !(q.1 + 1 == i && q.2.category == 2))) = L') (kk : J E M d S P h n k (pc + 2) L' st) : J E M d S P h n k pc L (.long x :: st) := by
  intro p l e R s m args below meth c H locs ls F hs hl hP hz hV
  exact lv_lstore F.1 F.2.1 hd hl hn hL (fun ls' hl' => kk p l e R s m args below meth c H locs ls' F hs hl' hP hz hV)
theorem J_lstore_n {w : Fin 4} {x : Int64} {L' : List (Nat × Value)} (hd : decode M.2.1 pc = .ok (.lstore_n w, 1)) (hn : (w : Nat) + 1 < M.2.2.1) (hL : ((w : Nat), Value.long x) :: L.filter (fun q => !(q.1 == (w : Nat)) && (!(q.1 == (w : Nat) + 1) && !(q.1 + 1 == (w : Nat) && q.2.category == 2))) = L') (kk : J E M d S P h n k (pc + 1) L' st) : J E M d S P h n k pc L (.long x :: st) := by
  intro p l e R s m args below meth c H locs ls F hs hl hP hz hV
  exact lv_lstore_n F.1 F.2.1 hd rfl hl hn hL (fun ls' hl' => kk p l e R s m args below meth c H locs ls' F hs hl' hP hz hV)
theorem J_astore {i : Nat} {x : Nat} {L' : List (Nat × Value)} (hd : decode M.2.1 pc = .ok (.astore i, 2)) (hn : i < M.2.2.1) (hL : (i, Value.ref x) :: L.filter (fun q => !(q.1 == i) && !(q.1 + 1 == i && q.2.category == 2)) = L') (kk : J E M d S P h n k (pc + 2) L' st) : J E M d S P h n k pc L (.ref x :: st) := by
  intro p l e R s m args below meth c H locs ls F hs hl hP hz hV
  exact lv_astore F.1 F.2.1 hd hl hn hL (fun ls' hl' => kk p l e R s m args below meth c H locs ls' F hs hl' hP hz hV)
theorem J_astore_n {w : Fin 4} {x : Nat} {L' : List (Nat × Value)} (hd : decode M.2.1 pc = .ok (.astore_n w, 1)) (hn : (w : Nat) < M.2.2.1) (hL : ((w : Nat), Value.ref x) :: L.filter (fun q => !(q.1 == (w : Nat)) && !(q.1 + 1 == (w : Nat) && q.2.category == 2)) = L') (kk : J E M d S P h n k (pc + 1) L' st) : J E M d S P h n k pc L (.ref x :: st) := by
  intro p l e R s m args below meth c H locs ls F hs hl hP hz hV
  exact lv_astore_n F.1 F.2.1 hd rfl hl hn hL (fun ls' hl' => kk p l e R s m args below meth c H locs ls' F hs hl' hP hz hV)
theorem J_astore_nN {w : Fin 4} {L' : List (Nat × Value)} (hd : decode M.2.1 pc = .ok (.astore_n w, 1)) (hn : (w : Nat) < M.2.2.1) (hL : ((w : Nat), Value.null) :: L.filter (fun q => !(q.1 == (w : Nat)) && !(q.1 + 1 == (w : Nat) && q.2.category == 2)) = L') (kk : J E M d S P h n k (pc + 1) L' st) : J E M d S P h n k pc L (.null :: st) := by
  intro p l e R s m args below meth c H locs ls F hs hl hP hz hV
  exact lv_astore_nN F.1 F.2.1 hd rfl hl hn hL (fun ls' hl' => kk p l e R s m args below meth c H locs ls' F hs hl' hP hz hV)
theorem J_iinc {i q : Nat} {z : Int} {x v : Int32} {L' : List (Nat × Value)} (hd : decode M.2.1 pc = .ok (.iinc i z, 3)) (hq : L[q]? = some (i, .int x)) (hv : x + Int32.ofInt z = v) (hn : i < M.2.2.1) (hL : (i, Value.int v) :: L.filter (fun q => !(q.1 == i) && !(q.1 + 1 == i && q.2.category == 2)) = L') (kk : J E M d S P h n k (pc + 3) L' st) : J E M d S P h n k pc L st := by
  intro p l e R s m args below meth c H locs ls F hs hl hP hz hV
  exact lv_iinc F.1 F.2.1 hd hl hq hv hn hL (fun ls' hl' => kk p l e R s m args below meth c H locs ls' F hs hl' hP hz hV)
theorem J_goto {off : Int} {tgt : Nat} (hd : decode M.2.1 pc = .ok (.goto off, 3)) (ht : (pc : Int) + off = (tgt : Int)) (kk : J E M d S P h n k tgt L st) : J E M d S P h n k pc L st := by
  intro p l e R s m args below meth c H locs ls F hs hl hP hz hV
  exact lv_goto F.1 F.2.1 hd ht (kk p l e R s m args below meth c H locs ls F hs hl hP hz hV)
theorem J_if_eq {x : Int32} {off : Int} {tgt : Nat} (hd : decode M.2.1 pc = .ok (.ifCond .eq off, 3)) (ht : (pc : Int) + off = (tgt : Int)) (kt : x = 0 → J E M d S P h n k tgt L st) (kf : ¬ (x = 0) → J E M d S P h n k (pc + 3) L st) : J E M d S P h n k pc L (.int x :: st) := by
  intro p l e R s m args below meth c H locs ls F hs hl hP hz hV
  refine lv_if_eq F.1 F.2.1 hd ht (fun q => kt ?_ p l e R s m args below meth c H locs ls F hs hl hP hz hV) (fun q => kf ?_ p l e R s m args below meth c H locs ls F hs hl hP hz hV)
  all_goals first | exact q | simpa using q | (simp only [ne_eq, not_not, Decidable.not_not] at q; exact q) | (intro q2; exact absurd q2 q)
theorem J_icmp_eq {x y : Int32} {off : Int} {tgt : Nat} (hd : decode M.2.1 pc = .ok (.if_icmp .eq off, 3)) (ht : (pc : Int) + off = (tgt : Int)) (kt : x = y → J E M d S P h n k tgt L st) (kf : ¬ (x = y) → J E M d S P h n k (pc + 3) L st) : J E M d S P h n k pc L (.int y :: .int x :: st) := by
  intro p l e R s m args below meth c H locs ls F hs hl hP hz hV
  refine lv_icmp_eq F.1 F.2.1 hd ht (fun q => kt ?_ p l e R s m args below meth c H locs ls F hs hl hP hz hV) (fun q => kf ?_ p l e R s m args below meth c H locs ls F hs hl hP hz hV)
  all_goals first | exact q | simpa using q | (simp only [ne_eq, not_not, Decidable.not_not] at q; exact q) | (intro q2; exact absurd q2 q)
theorem J_if_ne {x : Int32} {off : Int} {tgt : Nat} (hd : decode M.2.1 pc = .ok (.ifCond .ne off, 3)) (ht : (pc : Int) + off = (tgt : Int)) (kt : ¬ x = 0 → J E M d S P h n k tgt L st) (kf : x = 0 → J E M d S P h n k (pc + 3) L st) : J E M d S P h n k pc L (.int x :: st) := by
  intro p l e R s m args below meth c H locs ls F hs hl hP hz hV
  refine lv_if_ne F.1 F.2.1 hd ht (fun q => kt ?_ p l e R s m args below meth c H locs ls F hs hl hP hz hV) (fun q => kf ?_ p l e R s m args below meth c H locs ls F hs hl hP hz hV)
  all_goals first | exact q | simpa using q | (simp only [ne_eq, not_not, Decidable.not_not] at q; exact q) | (intro q2; exact absurd q2 q)
theorem J_icmp_ne {x y : Int32} {off : Int} {tgt : Nat} (hd : decode M.2.1 pc = .ok (.if_icmp .ne off, 3)) (ht : (pc : Int) + off = (tgt : Int)) (kt : ¬ x = y → J E M d S P h n k tgt L st) (kf : x = y → J E M d S P h n k (pc + 3) L st) : J E M d S P h n k pc L (.int y :: .int x :: st) := by
  intro p l e R s m args below meth c H locs ls F hs hl hP hz hV
  refine lv_icmp_ne F.1 F.2.1 hd ht (fun q => kt ?_ p l e R s m args below meth c H locs ls F hs hl hP hz hV) (fun q => kf ?_ p l e R s m args below meth c H locs ls F hs hl hP hz hV)
  all_goals first | exact q | simpa using q | (simp only [ne_eq, not_not, Decidable.not_not] at q; exact q) | (intro q2; exact absurd q2 q)
theorem J_if_lt {x : Int32} {off : Int} {tgt : Nat} (hd : decode M.2.1 pc = .ok (.ifCond .lt off, 3)) (ht : (pc : Int) + off = (tgt : Int)) (kt : x < 0 → J E M d S P h n k tgt L st) (kf : ¬ (x < 0) → J E M d S P h n k (pc + 3) L st) : J E M d S P h n k pc L (.int x :: st) := by
  intro p l e R s m args below meth c H locs ls F hs hl hP hz hV
  refine lv_if_lt F.1 F.2.1 hd ht (fun q => kt ?_ p l e R s m args below meth c H locs ls F hs hl hP hz hV) (fun q => kf ?_ p l e R s m args below meth c H locs ls F hs hl hP hz hV)
  all_goals first | exact q | simpa using q | (simp only [ne_eq, not_not, Decidable.not_not] at q; exact q) | (intro q2; exact absurd q2 q)
theorem J_icmp_lt {x y : Int32} {off : Int} {tgt : Nat} (hd : decode M.2.1 pc = .ok (.if_icmp .lt off, 3)) (ht : (pc : Int) + off = (tgt : Int)) (kt : x < y → J E M d S P h n k tgt L st) (kf : ¬ (x < y) → J E M d S P h n k (pc + 3) L st) : J E M d S P h n k pc L (.int y :: .int x :: st) := by
  intro p l e R s m args below meth c H locs ls F hs hl hP hz hV
  refine lv_icmp_lt F.1 F.2.1 hd ht (fun q => kt ?_ p l e R s m args below meth c H locs ls F hs hl hP hz hV) (fun q => kf ?_ p l e R s m args below meth c H locs ls F hs hl hP hz hV)
  all_goals first | exact q | simpa using q | (simp only [ne_eq, not_not, Decidable.not_not] at q; exact q) | (intro q2; exact absurd q2 q)
theorem J_if_ge {x : Int32} {off : Int} {tgt : Nat} (hd : decode M.2.1 pc = .ok (.ifCond .ge off, 3)) (ht : (pc : Int) + off = (tgt : Int)) (kt : 0 ≤ x → J E M d S P h n k tgt L st) (kf : ¬ (0 ≤ x) → J E M d S P h n k (pc + 3) L st) : J E M d S P h n k pc L (.int x :: st) := by
  intro p l e R s m args below meth c H locs ls F hs hl hP hz hV
  refine lv_if_ge F.1 F.2.1 hd ht (fun q => kt ?_ p l e R s m args below meth c H locs ls F hs hl hP hz hV) (fun q => kf ?_ p l e R s m args below meth c H locs ls F hs hl hP hz hV)
  all_goals first | exact q | simpa using q | (simp only [ne_eq, not_not, Decidable.not_not] at q; exact q) | (intro q2; exact absurd q2 q)
theorem J_icmp_ge {x y : Int32} {off : Int} {tgt : Nat} (hd : decode M.2.1 pc = .ok (.if_icmp .ge off, 3)) (ht : (pc : Int) + off = (tgt : Int)) (kt : y ≤ x → J E M d S P h n k tgt L st) (kf : ¬ (y ≤ x) → J E M d S P h n k (pc + 3) L st) : J E M d S P h n k pc L (.int y :: .int x :: st) := by
  intro p l e R s m args below meth c H locs ls F hs hl hP hz hV
  refine lv_icmp_ge F.1 F.2.1 hd ht (fun q => kt ?_ p l e R s m args below meth c H locs ls F hs hl hP hz hV) (fun q => kf ?_ p l e R s m args below meth c H locs ls F hs hl hP hz hV)
  all_goals first | exact q | simpa using q | (simp only [ne_eq, not_not, Decidable.not_not] at q; exact q) | (intro q2; exact absurd q2 q)
theorem J_if_gt {x : Int32} {off : Int} {tgt : Nat} (hd : decode M.2.1 pc = .ok (.ifCond .gt off, 3)) (ht : (pc : Int) + off = (tgt : Int)) (kt : 0 < x → J E M d S P h n k tgt L st) (kf : ¬ (0 < x) → J E M d S P h n k (pc + 3) L st) : J E M d S P h n k pc L (.int x :: st) := by
  intro p l e R s m args below meth c H locs ls F hs hl hP hz hV
  refine lv_if_gt F.1 F.2.1 hd ht (fun q => kt ?_ p l e R s m args below meth c H locs ls F hs hl hP hz hV) (fun q => kf ?_ p l e R s m args below meth c H locs ls F hs hl hP hz hV)
  all_goals first | exact q | simpa using q | (simp only [ne_eq, not_not, Decidable.not_not] at q; exact q) | (intro q2; exact absurd q2 q)
theorem J_icmp_gt {x y : Int32} {off : Int} {tgt : Nat} (hd : decode M.2.1 pc = .ok (.if_icmp .gt off, 3)) (ht : (pc : Int) + off = (tgt : Int)) (kt : y < x → J E M d S P h n k tgt L st) (kf : ¬ (y < x) → J E M d S P h n k (pc + 3) L st) : J E M d S P h n k pc L (.int y :: .int x :: st) := by
  intro p l e R s m args below meth c H locs ls F hs hl hP hz hV
  refine lv_icmp_gt F.1 F.2.1 hd ht (fun q => kt ?_ p l e R s m args below meth c H locs ls F hs hl hP hz hV) (fun q => kf ?_ p l e R s m args below meth c H locs ls F hs hl hP hz hV)
  all_goals first | exact q | simpa using q | (simp only [ne_eq, not_not, Decidable.not_not] at q; exact q) | (intro q2; exact absurd q2 q)
theorem J_if_le {x : Int32} {off : Int} {tgt : Nat} (hd : decode M.2.1 pc = .ok (.ifCond .le off, 3)) (ht : (pc : Int) + off = (tgt : Int)) (kt : x ≤ 0 → J E M d S P h n k tgt L st) (kf : ¬ (x ≤ 0) → J E M d S P h n k (pc + 3) L st) : J E M d S P h n k pc L (.int x :: st) := by
  intro p l e R s m args below meth c H locs ls F hs hl hP hz hV
  refine lv_if_le F.1 F.2.1 hd ht (fun q => kt ?_ p l e R s m args below meth c H locs ls F hs hl hP hz hV) (fun q => kf ?_ p l e R s m args below meth c H locs ls F hs hl hP hz hV)
  all_goals first | exact q | simpa using q | (simp only [ne_eq, not_not, Decidable.not_not] at q; exact q) | (intro q2; exact absurd q2 q)
theorem J_icmp_le {x y : Int32} {off : Int} {tgt : Nat} (hd : decode M.2.1 pc = .ok (.if_icmp .le off, 3)) (ht : (pc : Int) + off = (tgt : Int)) (kt : x ≤ y → J E M d S P h n k tgt L st) (kf : ¬ (x ≤ y) → J E M d S P h n k (pc + 3) L st) : J E M d S P h n k pc L (.int y :: .int x :: st) := by
  intro p l e R s m args below meth c H locs ls F hs hl hP hz hV
  refine lv_icmp_le F.1 F.2.1 hd ht (fun q => kt ?_ p l e R s m args below meth c H locs ls F hs hl hP hz hV) (fun q => kf ?_ p l e R s m args below meth c H locs ls F hs hl hP hz hV)
  all_goals first | exact q | simpa using q | (simp only [ne_eq, not_not, Decidable.not_not] at q; exact q) | (intro q2; exact absurd q2 q)
theorem J_ifnull_r {x : Nat} {off : Int} (hd : decode M.2.1 pc = .ok (.ifnull off, 3)) (kk : J E M d S P h n k (pc + 3) L st) : J E M d S P h n k pc L (.ref x :: st) := by
  intro p l e R s m args below meth c H locs ls F hs hl hP hz hV
  exact lv_ifnull F.1 F.2.1 hd (kk p l e R s m args below meth c H locs ls F hs hl hP hz hV)
theorem J_ifnull_n {off : Int} {tgt : Nat} (hd : decode M.2.1 pc = .ok (.ifnull off, 3)) (ht : (pc : Int) + off = (tgt : Int)) (kk : J E M d S P h n k tgt L st) : J E M d S P h n k pc L (.null :: st) := by
  intro p l e R s m args below meth c H locs ls F hs hl hP hz hV
  exact lv_ifnullN F.1 F.2.1 hd ht (kk p l e R s m args below meth c H locs ls F hs hl hP hz hV)
theorem J_ifnonnull_r {x : Nat} {off : Int} {tgt : Nat} (hd : decode M.2.1 pc = .ok (.ifnonnull off, 3)) (ht : (pc : Int) + off = (tgt : Int)) (kk : J E M d S P h n k tgt L st) : J E M d S P h n k pc L (.ref x :: st) := by
  intro p l e R s m args below meth c H locs ls F hs hl hP hz hV
  exact lv_ifnonnull F.1 F.2.1 hd ht (kk p l e R s m args below meth c H locs ls F hs hl hP hz hV)
theorem J_ifnonnull_n {off : Int} (hd : decode M.2.1 pc = .ok (.ifnonnull off, 3)) (kk : J E M d S P h n k (pc + 3) L st) : J E M d S P h n k pc L (.null :: st) := by
  intro p l e R s m args below meth c H locs ls F hs hl hP hz hV
  exact lv_ifnonnullN F.1 F.2.1 hd (kk p l e R s m args below meth c H locs ls F hs hl hP hz hV)
theorem J_tableOut {dflt lo hi : Int} {offs : Array Int} {len : Nat} {x : Int32} {tgt : Nat} (hd : decode M.2.1 pc = .ok (.tableswitch dflt lo hi offs, len)) (hx : x.toInt < lo ∨ hi < x.toInt) (ht : (pc : Int) + dflt = (tgt : Int)) (kk : J E M d S P h n k tgt L st) : J E M d S P h n k pc L (.int x :: st) := by
  intro p l e R s m args below meth c H locs ls F hs hl hP hz hV
  exact lv_tableOut F.1 F.2.1 hd hx ht (kk p l e R s m args below meth c H locs ls F hs hl hP hz hV)
theorem J_tableIn {dflt lo hi : Int} {offs : Array Int} {len : Nat} {x : Int32} {off : Int} {tgt : Nat} (hd : decode M.2.1 pc = .ok (.tableswitch dflt lo hi offs, len)) (h1 : ¬ x.toInt < lo) (h2 : ¬ hi < x.toInt) (ho : offs[(x.toInt - lo).toNat]? = some off) (ht : (pc : Int) + off = (tgt : Int)) (kk : J E M d S P h n k tgt L st) : J E M d S P h n k pc L (.int x :: st) := by
  intro p l e R s m args below meth c H locs ls F hs hl hP hz hV
  exact lv_tableIn F.1 F.2.1 hd h1 h2 ho ht (kk p l e R s m args below meth c H locs ls F hs hl hP hz hV)
theorem J_lookup {dflt : Int} {ps : Array (Int × Int)} {len : Nat} {x : Int32} {off : Int} {tgt : Nat} (hd : decode M.2.1 pc = .ok (.lookupswitch dflt ps, len)) (hp : (ps.toList.zip (ps.toList.drop 1)).all (fun (a, next) => a.1 < next.1) = true) (ho : Op.lookupswitch.offset ps.toList dflt x.toInt = off) (ht : (pc : Int) + off = (tgt : Int)) (kk : J E M d S P h n k tgt L st) : J E M d S P h n k pc L (.int x :: st) := by
  intro p l e R s m args below meth c H locs ls F hs hl hP hz hV
  exact lv_lookup F.1 F.2.1 hd hp ho ht (kk p l e R s m args below meth c H locs ls F hs hl hP hz hV)
theorem J_ldc {idx : Nat} {v : Int32} (hd : decode M.2.1 pc = .ok (.ldc idx, 2)) (hc : Jvm.Cond.constant M.1.cls idx v ∈ jw) (kk : J E M d S P h n k (pc + 2) L (.int v :: st)) : J E M d S P h n k pc L st := by
  intro p l e R s m args below meth c H locs ls F hs hl hP hz hV
  exact lv_ldc F.1 F.2.1 F.2.2.2.2.2.2.1 (F.2.2.2.2.2.2.2.1 _ hc) hd (kk p l e R s m args below meth c H locs ls F hs hl hP hz hV)
theorem J_ldc2 {idx : Nat} {v : Int64} (hd : decode M.2.1 pc = .ok (.ldc2_w idx, 3)) (hc : Jvm.Cond.constantLong M.1.cls idx v ∈ jw) (kk : J E M d S P h n k (pc + 3) L (.long v :: st)) : J E M d S P h n k pc L st := by
  intro p l e R s m args below meth c H locs ls F hs hl hP hz hV
  exact lv_ldc2 F.1 F.2.1 F.2.2.2.2.2.2.1 (F.2.2.2.2.2.2.2.1 _ hc) hd (kk p l e R s m args below meth c H locs ls F hs hl hP hz hV)
theorem J_iret {v : Int32} (hd : decode M.2.1 pc = .ok (.ireturn, 1)) (hr : M.2.2.2 = some .int) (hk : k.1 ≤ d.2.1 ∧ k.2 ≤ d.2.2) (hp : P (some (.int v)) h n) : J E M d S P h n k pc L [.int v] := by
  intro p l e R s m args below meth c H locs ls F hs hl hP hz hV
  have hlk : meth.locks = false := F.2.2.2.2.1
  have hE : E.1 ≤ s.heap.size := F.2.2.2.2.2.2.2.2.2.2.2.2.2
  refine W.widen hk.1 hk.2 ?_
  exact W.iret F.1 F.2.1 (F.2.2.2.1.trans hr) (fun t ht hW => ⟨_, h, n, rfl, hp, by rw [ht]; exact hP, by rw [ht]; exact hz, by rw [ht]; exact hV.1, fun q hq => by rw [ht]; exact hV.2.1 q (Nat.lt_of_lt_of_le hq hE) (Nat.not_le.mpr hq)⟩) hV.2.2 hd hlk
theorem J_zret {v : Int32} (hd : decode M.2.1 pc = .ok (.ireturn, 1)) {ty : FieldType} (hr : M.2.2.2 = some ty) (hn : narrow ty (.int v) = .int v) (hk : k.1 ≤ d.2.1 ∧ k.2 ≤ d.2.2) (hp : P (some (.int v)) h n) : J E M d S P h n k pc L [.int v] := by
  intro p l e R s m args below meth c H locs ls F hs hl hP hz hV
  have hlk : meth.locks = false := F.2.2.2.2.1
  have hE : E.1 ≤ s.heap.size := F.2.2.2.2.2.2.2.2.2.2.2.2.2
  refine W.widen hk.1 hk.2 ?_
  exact W.zret F.1 F.2.1 (F.2.2.2.1.trans hr) hn (fun t ht hW => ⟨_, h, n, rfl, hp, by rw [ht]; exact hP, by rw [ht]; exact hz, by rw [ht]; exact hV.1, fun q hq => by rw [ht]; exact hV.2.1 q (Nat.lt_of_lt_of_le hq hE) (Nat.not_le.mpr hq)⟩) hV.2.2 hd hlk
theorem J_lret {v : Int64} (hd : decode M.2.1 pc = .ok (.lreturn, 1)) (hr : M.2.2.2 = some .long) (hk : k.1 ≤ d.2.1 ∧ k.2 ≤ d.2.2) (hp : P (some (.long v)) h n) : J E M d S P h n k pc L [.long v] := by
  intro p l e R s m args below meth c H locs ls F hs hl hP hz hV
  have hlk : meth.locks = false := F.2.2.2.2.1
  have hE : E.1 ≤ s.heap.size := F.2.2.2.2.2.2.2.2.2.2.2.2.2
  refine W.widen hk.1 hk.2 ?_
  exact W.lret F.1 F.2.1 (F.2.2.2.1.trans hr) (fun t ht hW => ⟨_, h, n, rfl, hp, by rw [ht]; exact hP, by rw [ht]; exact hz, by rw [ht]; exact hV.1, fun q hq => by rw [ht]; exact hV.2.1 q (Nat.lt_of_lt_of_le hq hE) (Nat.not_le.mpr hq)⟩) hV.2.2 hd hlk
theorem J_vret (hd : decode M.2.1 pc = .ok (.return_, 1)) (hr : M.2.2.2 = none) (hk : k.1 ≤ d.2.1 ∧ k.2 ≤ d.2.2) (hp : P (none) h n) : J E M d S P h n k pc L [] := by
  intro p l e R s m args below meth c H locs ls F hs hl hP hz hV
  have hlk : meth.locks = false := F.2.2.2.2.1
  have hE : E.1 ≤ s.heap.size := F.2.2.2.2.2.2.2.2.2.2.2.2.2
  refine W.widen hk.1 hk.2 ?_
  exact W.vret F.1 F.2.1 (F.2.2.2.1.trans hr) (fun t ht hW => ⟨_, h, n, rfl, hp, by rw [ht]; exact hP, by rw [ht]; exact hz, by rw [ht]; exact hV.1, fun q hq => by rw [ht]; exact hV.2.1 q (Nat.lt_of_lt_of_le hq hE) (Nat.not_le.mpr hq)⟩) hV.2.2 hd hlk
end JR1
