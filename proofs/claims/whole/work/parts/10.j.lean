/-! J: a logic over W for this claim. All cells that the law makes are one function from places to cells (place k lies at address E.1 + k). -/
abbrev jE : Type := Nat × va_G × (ClassId × ClassId × ClassId × ClassId) × ((Nat → Nat) × (Nat → Nat))
abbrev jM : Type := MethodName × ByteArray × Nat × Option FieldType
def hset (h : Nat → va_E) (i : Nat) (e : va_E) : Nat → va_E := fun j => if j = i then e else h j
theorem hset_eq {h : Nat → va_E} {i : Nat} {e : va_E} : hset h i e i = e := by simp [hset]
theorem hset_ne {h : Nat → va_E} {i j : Nat} {e : va_E} (hij : j ≠ i) : hset h i e j = h j := by simp [hset, hij]
theorem hset_hset {h : Nat → va_E} {i : Nat} {a b : va_E} : hset (hset h i a) i b = hset h i b := by
  funext j; simp only [hset]; split <;> rfl
theorem hset_comm {h : Nat → va_E} {i j : Nat} {a b : va_E} (hij : i ≠ j) : hset (hset h i a) j b = hset (hset h j b) i a := by
  funext z; simp only [hset]; by_cases h1 : z = j <;> by_cases h2 : z = i <;> simp_all
theorem hset_self {h : Nat → va_E} {i : Nat} {a : va_E} (ha : h i = a) : hset h i a = h := by
  funext z; simp only [hset]; split
  · next hz => rw [hz, ha]
  · rfl
theorem hset_23 {h : Nat → va_E} {i j : Nat} {a b c : va_E} (hij : i ≠ j) : hset (hset (hset h i a) j b) i c = hset (hset h i c) j b := by
  rw [hset_comm (i := j) (j := i) (Ne.symm hij), hset_hset]
def jlay (B : Nat) (h : Nat → va_E) (n : Nat) : va_W := (List.range n).map (fun k => (B + k, h k))
theorem jlay_get {B n k : Nat} {h : Nat → va_E} (hk : k < n) : (jlay B h n)[k]? = some (B + k, h k) := by
  simp [jlay, List.getElem?_map, List.getElem?_range hk]
theorem jlay_inv {B n i : Nat} {h : Nat → va_E} {p : Nat × va_E} (hp : (jlay B h n)[i]? = some p) : i < n ∧ p = (B + i, h i) := by
  have hl : i < n := by
    have := (List.getElem?_eq_some_iff.mp hp).1
    simpa [jlay] using this
  rw [jlay_get hl] at hp
  exact ⟨hl, (Option.some.inj hp).symm⟩
theorem jlay_set {B n k : Nat} {h : Nat → va_E} {e : va_E} : (jlay B h n).set k (B + k, e) = jlay B (hset h k e) n := by
  apply List.ext_getElem?
  intro i
  by_cases hi : i < n
  · by_cases hik : i = k
    · subst hik
      rw [List.getElem?_set_self (by simp [jlay]; exact hi), jlay_get hi]; simp [hset]
    · rw [List.getElem?_set_ne (Ne.symm hik), jlay_get hi, jlay_get hi]; simp [hset, hik]
  · rw [List.getElem?_eq_none (by simp [jlay]; omega), List.getElem?_eq_none (by simp [jlay]; omega)]
theorem jlay_push {B n : Nat} {h : Nat → va_E} {e : va_E} : jlay B h n ++ [(B + n, e)] = jlay B (hset h n e) (n + 1) := by
  simp only [jlay, List.range_succ, List.map_append, List.map_cons, List.map_nil]
  congr 1
  · apply List.map_congr_left
    intro k hk
    have hk2 := List.mem_range.mp hk
    rw [hset_ne (by omega)]
  · simp [hset]
theorem jlay_D {B n : Nat} {h : Nat → va_E} : va_D (fun q => B ≤ q) (jlay B h n) := by
  refine ⟨fun i j p q hi hj hpq => ?_, fun k q hk => ?_⟩
  · obtain ⟨_, rfl⟩ := jlay_inv hi
    obtain ⟨_, rfl⟩ := jlay_inv hj
    dsimp only at hpq
    omega
  · obtain ⟨_, rfl⟩ := jlay_inv hk
    show B ≤ B + k
    omega
abbrev cI (E : jE) (n : Nat) (f : Nat → Int32) : va_E := .inl (E.2.2.1.2.1, n, .inl f)
abbrev cB (E : jE) (n : Nat) (f : Nat → Int32) : va_E := .inl (E.2.2.1.1, n, .inl f)
abbrev cZ (E : jE) (n : Nat) (f : Nat → Int32) : va_E := .inl (E.2.2.1.2.2.1, n, .inl f)
abbrev cO (E : jE) (n : Nat) (f : Nat → Option Nat) : va_E := .inl (E.2.2.1.2.2.2, n, .inr (.inr (.inr (.inr f))))
abbrev jtys (E : jE) : List (ClassId × FieldType) := [(E.2.2.1.1, .byte), (E.2.2.1.2.1, .int), (E.2.2.1.2.2.1, .boolean), (E.2.2.1.2.2.2, .object "AnvilStreet$Street")]
def nF (F : Nat → Nat) : Nat → Int32 := fun k => nI (F k)
def updN (F : Nat → Nat) (i v : Nat) : Nat → Nat := fun k => if k = i then v else F k
theorem nF_upd {F : Nat → Nat} {i v : Nat} : upd (nF F) i (nI v) = nF (updN F i v) := by
  funext k; simp only [upd, nF, updN]; split <;> rfl
theorem nF_cpy {F G : Nat → Nat} {a b n : Nat} : va_cpy (nF F) (nF G) a b n = nF (va_cpy F G a b n) := by
  funext k; simp only [va_cpy, nF]; split <;> rfl
theorem nF_ext {F G : Nat → Nat} (h : ∀ k, F k = G k) : nF F = nF G := by
  have : F = G := funext h
  rw [this]
/-! words -/
def jw : List Cond := lw_tbl.filter goodWord
theorem jw_t {w : Cond} (i : Nat) (h : tables_1[i]? = some w) (hg : goodWord w = true) : w ∈ jw :=
  List.mem_filter.mpr ⟨List.mem_append_right _ (List.mem_of_getElem? h), hg⟩
theorem jw_s {y : MethodName} {k : Nat} (i : Nat) (h : lw_privs[i]? = some (y, k)) : Cond.selects y.cls y y ∈ jw :=
  List.mem_filter.mpr ⟨List.mem_append_left _ (List.mem_map.mpr ⟨(y, k), List.mem_of_getElem? h, rfl⟩), by rfl⟩
def jws (M : jM) : List Cond := Cond.code M.1 M.2.1 M.2.2.1 M.2.2.2 :: jw
theorem jws_good {M : jM} (hc : Cond.code M.1 M.2.1 M.2.2.1 M.2.2.2 ∈ jw) : GoodIn jw (jws M) := by
  intro w hw
  rcases List.mem_cons.mp hw with rfl | hw
  · exact ⟨hc, good_of_word (List.mem_filter.mp hc).2⟩
  · exact ⟨hw, good_of_word (List.mem_filter.mp hw).2⟩
def jnest : List (String × Nat × MethodName × String) := [("AnvilStreet", 9, yX6_init, "AnvilStreet"), ("AnvilStreet$Street", 20, yX4_init, "AnvilStreet"), ("AnvilStreet$Street", 30, yX2_init, "AnvilStreet"), ("AnvilStreet", 25, yX5_init, "AnvilStreet"), ("AnvilStreet", 32, yX3_init, "AnvilStreet"), ("AnvilStreet", 39, yX1_init, "AnvilStreet"), ("AnvilStreet$Script", 114, yX7_isWithin, "AnvilStreet")]
def jlen : List Nat := [6, 5, 4, 3]
def jbyt : List (List Int32) := [[115, 116, 114, 101, 101, 116], [97, 110, 118, 105, 108], [119, 111, 114, 107], [100, 97, 121]]
def jKK (E : jE) (U : State) : Prop :=
  va_K E.2.1 vwCl (jtys E) U ∧ (∀ q ∈ jnest, va_Nw (.methodLinkNest q.1 q.2.1 q.2.2.1 q.2.2.2) U) ∧ va_AO "AnvilStreet$Street" U ∧
  vk_S 4 jlen jbyt E.2.2.2.1 E.2.2.2.2 (fun q => E.1 ≤ q) U U.heap ∧
  (vk_R "AnvilStreet$Script" 61 "street" (E.2.2.2.1 0) U ∧ vk_R "AnvilStreet$Script" 67 "anvil" (E.2.2.2.1 1) U ∧ vk_R "AnvilStreet$Script" 69 "work" (E.2.2.2.1 2) U ∧ vk_R "AnvilStreet$Script" 71 "day" (E.2.2.2.1 3) U) ∧
  va_Z "java/lang/String" "COMPACT_STRINGS" "Z" (.int 1) (fun q => E.1 ≤ q) U U.heap ∧
  va_Zq "jdk/internal/util/Preconditions" "SIOOBE_FORMATTER" "Ljava/util/function/BiFunction;" (fun q => E.1 ≤ q) U U.heap
theorem jKK_moved {E : jE} {s U : State} {H : Heap} {locs : List Loc} (hS : va_S (fun q => E.1 ≤ q) s.heap H locs) (hH : U.heap = H) (hW : s.WarmedH U.vm) (h : jKK E s) : jKK E U := by
  obtain ⟨h1, h2, h3, h4, ⟨r1, r2, r3, r4⟩, h6, h7⟩ := h
  have hk : ∀ a : Nat, a < s.heap.size → ¬ (E.1 ≤ a) → U.heap[a]? = s.heap[a]? := fun a ha hb => by rw [hH]; exact hS.2.1 a ha hb
  exact ⟨h1.moved hW.alike, fun q hq => va_Nw.warmM hW (h2 q hq), h3.moved hW.alike, (h4.moved hW.alike).kept hk, ⟨r1.warm hW, r2.warm hW, r3.warm hW, r4.warm hW⟩, (h6.moved hW.alike).kept hk, (h7.moved hW.alike).kept hk⟩
theorem jKK_blind {E : jE} {U : State} {g : JFrame} {mk : MethodId} {a : Array Value} (h : jKK E U) : jKK E (U.calling g mk a) := by
  obtain ⟨h1, h2, h3, h4, ⟨r1, r2, r3, r4⟩, h6, h7⟩ := h
  exact ⟨va_K.moved (u := U) (U := U.calling g mk a) (Vm.Alike.refl U.vm) h1, fun q hq => va_Nw.same rfl (u := U) (U := U.calling g mk a) rfl (h2 q hq), va_AO.moved (u := U) (U := U.calling g mk a) (Vm.Alike.refl U.vm) h3,
    vk_S.moved (u := U) (U := U.calling g mk a) (Vm.Alike.refl U.vm) h4, ⟨vk_R.same (u := U) (U := U.calling g mk a) rfl r1, vk_R.same (u := U) (U := U.calling g mk a) rfl r2, vk_R.same (u := U) (U := U.calling g mk a) rfl r3, vk_R.same (u := U) (U := U.calling g mk a) rfl r4⟩,
    va_Z.moved (u := U) (U := U.calling g mk a) (Vm.Alike.refl U.vm) h6, va_Zq.moved (u := U) (U := U.calling g mk a) (Vm.Alike.refl U.vm) h7⟩
def jPc (E : jE) (av : List Value) (h : Nat → va_E) (n : Nat) : Array Value → State → Prop := fun v U =>
  v = av.toArray ∧ va_P E.2.1 vwCl (jlay E.1 h n) U.heap ∧ U.heap.size = E.1 + n ∧ jKK E U
theorem jPc_blind {E : jE} {av : List Value} {h : Nat → va_E} {n : Nat} : FrameBlind (jPc E av h n) := fun _ _ _ _ q => ⟨q.1, q.2.1, q.2.2.1, jKK_blind q.2.2.2⟩
abbrev jPost : Type := Option Value → (Nat → va_E) → Nat → Prop
def jQc (E : jE) (P : jPost) : Array Value → State → Outcome → State → Prop := fun _ st o t =>
  ∃ (v : Option Value) (h' : Nat → va_E) (n' : Nat), o = .returned v ∧ P v h' n' ∧ va_P E.2.1 vwCl (jlay E.1 h' n') t.heap ∧ t.heap.size = E.1 + n' ∧ st.heap.size ≤ t.heap.size ∧ ∀ q : Nat, q < E.1 → t.heap[q]? = st.heap[q]?
def jrm (dep mc ms : Nat) : Room := { frames := dep, cells := mc, slots := ms, locals := 40 * dep }
abbrev jD : Type := Nat × Nat × Nat
/-- the contract of a method: from these arguments and cells it returns, with P of the answer and the cells -/
def jC (E : jE) (M : jM) (d : jD) (av : List Value) (h : Nat → va_E) (n : Nat) (P : jPost) : Prop :=
  ∀ l : Launch, Met l M.1 (jws M) (jrm d.1 d.2.1 d.2.2) (jPc E av h n) (jQc E P) d.2.1 d.2.2 (fun q => E.1 ≤ q)
def jF (E : jE) (M : jM) (d : jD) (p : Program) (R : Room) (s : State) (m : MethodId) (args : Array Value) (meth : Method) (c : Code) : Prop :=
  p.tables.exec = Jvm.exec ∧ c.code = M.2.1 ∧ c.maxLocals = M.2.2.1 ∧ meth.sig.returnType = M.2.2.2 ∧ meth.locks = false ∧ meth.name = M.1.name ∧ s.vm.findClass M.1.cls = some m.cls ∧
  (∀ w ∈ jw, w.before args s = true) ∧ jKK E s ∧ d.1 ≤ R.frames ∧ 40 * d.1 ≤ R.locals ∧ d.2.1 ≤ R.cells ∧ d.2.2 ≤ R.slots ∧ E.1 ≤ s.heap.size
def J (E : jE) (M : jM) (d : jD) (S : Array Value → State → Prop) (P : jPost) (h : Nat → va_E) (n : Nat) (k : Nat × Nat) (pc : Nat) (L : List (Nat × Value)) (st : List Value) : Prop :=
  ∀ (p : Program) (l : Launch) (e : Env) (R : Room) (s : State) (m : MethodId) (args : Array Value) (below : List Frame) (meth : Method) (c : Code) (H : Heap) (locs : List Loc) (ls : Array Slot),
    jF E M d p R s m args meth c → S args s → lv_has ls M.2.2.1 L → va_P E.2.1 vwCl (jlay E.1 h n) H → H.size = E.1 + n → va_S (fun q => E.1 ≤ q) s.heap H locs →
    W p l e R s m args below meth c H locs k.1 k.2 (MQ below (jQc E P) args s d.2.1 d.2.2 (fun q => E.1 ≤ q)) (F0 m pc ls st)
def jS0 : Array Value → State → Prop := fun _ _ => True
section JR
variable {E : jE} {M : jM} {d : jD} {S : Array Value → State → Prop} {P : jPost} {h : Nat → va_E} {n : Nat} {k : Nat × Nat} {pc : Nat} {L : List (Nat × Value)} {st : List Value}
theorem J.of {av : List Value} (hx : lv_args 0 av = L) (hy : plainName M.1.cls = true) (hlen : (lg_sl av).length ≤ M.2.2.1) (hJ : J E M d jS0 P h n (0, 0) 0 L []) : jC E M d av h n P := by
  intro l
  refine Met.ofW (cc := M.2.1) (maxL := M.2.2.1) (ret := M.2.2.2) hy rfl ?_
  intro p e s m args below meth c s₁ B hml hP
  obtain ⟨rfl, hP1, hz, hK⟩ := hP
  have hts := atoms_spec (ws := jws M) B.pre
  have hown := findClass_of_methodNamed B.named
  have hl := lv_entry av (n := M.2.2.1) hlen
  rw [lg_entry_eq]
  rw [hx] at hl
  have hsz : E.1 ≤ s.heap.size := by omega
  exact hJ p l e _ s m _ below meth c s.heap [] _ ⟨B.exec, B.bytes, hml, B.returns, B.notSynchronized, (name_of_methodNamed B.named B.method).1, hown, fun w hw => hts w (List.mem_cons_of_mem _ hw), hK, Nat.le_refl _, Nat.le_refl _, Nat.le_refl _, Nat.le_refl _, hsz⟩ trivial hl hP1 hz va_S.rf
end JR
