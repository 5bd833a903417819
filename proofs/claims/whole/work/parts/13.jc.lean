section JC
variable {E : jE} {M M' : jM} {d d' : jD} {S : Array Value → State → Prop} {P Q : jPost} {h : Nat → va_E} {n : Nat} {k : Nat × Nat} {pc : Nat} {L : List (Nat × Value)} {st rest as : List Value} {idx np : Nat}
/-- what a call needs of the callee's words: of any, of an instance method, of a static one, of a constructor -/
def jm (M : jM) (np : Nat) : Prop := Cond.code M.1 M.2.1 M.2.2.1 M.2.2.2 ∈ jw ∧ Cond.initialized M.1.cls ∈ jw ∧ (M.1.cls ≠ "java/lang/invoke/MethodHandle" ∧ M.1.cls ≠ "java/lang/invoke/VarHandle" ∧ (parseMethodDescriptor M.1.desc).map (fun d => d.parameters.length) = some np) ∧ M.2.2.1 ≤ 21
def jmV (M : jM) (np : Nat) : Prop := jm M np ∧ Cond.instanceMethod M.1 ∈ jw ∧ Cond.selects M.1.cls M.1 M.1 ∈ jw
def jmS (M : jM) (np : Nat) : Prop := jm M np ∧ Cond.static M.1 ∈ jw
def jmI (M : jM) (np : Nat) : Prop := jm M np ∧ Cond.instanceMethod M.1 ∈ jw ∧ M.1.name = "<init>" ∧ M.2.2.2 = none
abbrev jR (v : Option Value) (h' : Nat → va_E) (n' : Nat) : jPost := fun a b c => a = v ∧ b = h' ∧ c = n'
theorem jC.mono {av : List Value} (hC : jC E M d av h n P) (hPQ : ∀ v h' n', P v h' n' → Q v h' n') : jC E M d av h n Q := by
  intro l p e ha hc hk s m args below hf happ hP hK
  obtain ⟨t, o, a1, b1, b2, ⟨⟨v, h', n', e1, e2, e3⟩, e4⟩⟩ := hC l p e ha hc hk s m args below hf happ hP hK
  exact ⟨t, o, a1, b1, b2, ⟨⟨v, h', n', e1, hPQ _ _ _ e2, e3⟩, e4⟩⟩
theorem j_after {p : Program} {l : Launch} {e : Env} {R : Room} {s : State} {m : MethodId} {args : Array Value} {below : List Frame} {meth : Method} {c : Code} {H : Heap} {locs : List Loc} {ls : Array Slot} {st0 : List Value} {a : Array Value} {k1 k2 mc ms : Nat} {QQ : State → Prop}
    (hr : va_Run p l e R s m args below meth c H locs k1 k2 mc ms (F0 m pc ls st0) rest (jQc E Q a) (fun q => E.1 ≤ q)) (hV : va_S (fun q => E.1 ≤ q) s.heap H locs) (hE : E.1 ≤ s.heap.size)
    (kk : ∀ (v : Option Value) (h' : Nat → va_E) (n' : Nat) (H' : Heap) (locs' : List Loc), Q v h' n' → va_P E.2.1 vwCl (jlay E.1 h' n') H' → H'.size = E.1 + n' → va_S (fun q => E.1 ≤ q) s.heap H' locs' → W p l e R s m args below meth c H' locs' (k1 + mc) (k2 + ms) QQ (F0 m (pc + 3) ls (v.toList ++ rest))) :
    W p l e R s m args below meth c H locs k1 k2 QQ (F0 m pc ls st0) := by
  intro T hT X
  obtain ⟨v, st₀, t, T', L', h0, X', hL, e1, e2, ⟨v', h', n', hv, hq, hP', hz', hg, hk⟩, st⟩ := hr T hT X
  cases hv
  rw [h0] at hg hk
  obtain ⟨t2, a1, b1⟩ := kk v h' n' T'.heap (locs ++ L') hq (by rw [e1]; exact hP') (by rw [e1]; exact hz')
    ⟨Nat.le_trans hV.1 (by rw [e1]; exact hg), fun q h1 h2 => by rw [e1, hk q (Nat.not_le.mp h2)]; exact hV.2.1 q h1 h2, fun q hq => by
      rcases List.mem_append.mp hq with h | h
      · exact hV.2.2 q h
      · exact hL q h⟩ T' rfl X'
  exact ⟨t2, st t2 a1, b1⟩
theorem j_callB {p : Program} {R : Room} {s : State} {m : MethodId} {args : Array Value} {meth : Method} {c : Code} (F : jF E M d p R s m args meth c) (hm : jm M' np) (hl : Cond.methodLink M.1.cls idx M'.1 ∈ jw) (hdep : d'.1 + 1 ≤ d.1) :
    CallB R s args M.1.cls idx M'.1 M'.2.1 M'.2.2.1 M'.2.2.2 (jws M') (jrm d'.1 d'.2.1 d'.2.2) d'.2.1 d'.2.2 np := by
  obtain ⟨hx, hb, hml, hr, hlk, hnm, hown, hts, hK, r1, r2, r3, r4, hE⟩ := F
  exact callB_of np hts (jws_good hm.1) rfl rfl rfl (hts _ hm.2.1) (hts _ hl) hm.2.2.1 ⟨by show d'.1 + 1 ≤ _; omega, by show 8 + (_ + 11) + 40 * d'.1 ≤ _; have := hm.2.2.2; omega⟩
theorem j_callN {p : Program} {R : Room} {s : State} {m : MethodId} {args : Array Value} {meth : Method} {c : Code} {host : String} (F : jF E M d p R s m args meth c) (hm : jm M' np) (hl : (M.1.cls, idx, M'.1, host) ∈ jnest) (hdep : d'.1 + 1 ≤ d.1) :
    va_CN R s args M.1.cls idx M'.1 host M'.2.1 M'.2.2.1 M'.2.2.2 (jws M') (jrm d'.1 d'.2.1 d'.2.2) d'.2.1 d'.2.2 np := by
  obtain ⟨hx, hb, hml, hr, hlk, hnm, hown, hts, hK, r1, r2, r3, r4, hE⟩ := F
  exact va_cnB np hts (jws_good hm.1) rfl rfl rfl (hK.2.1 _ hl) (hts _ hm.2.1) hm.2.2.1 ⟨by show d'.1 + 1 ≤ _; omega, by show 8 + (_ + 11) + 40 * d'.1 ≤ _; have := hm.2.2.2; omega⟩
theorem J_callV {b ci N : Nat} {fs : List Value} {T : u_T} (hd : decode M.2.1 pc = .ok (.invokevirtual idx, 3)) (hm : jmV M' np) (hl : Cond.methodLink M.1.cls idx M'.1 ∈ jw) (hC : jC E M' d' (.ref (E.1 + b) :: as) h n Q) (hc : h b = .inr (ci, fs)) (hb : b < n) (hcl : vwCl[ci]? = some (M'.1.cls, T, N)) (hst : st = as.reverse ++ .ref (E.1 + b) :: rest) (hn : as.length = np) (hr : (rest.map fun v => v.category).sum ≤ 8) (hdep : d'.1 + 1 ≤ d.1) (hks : k.1 + d'.2.1 ≤ d.2.1 ∧ k.2 + d'.2.2 ≤ d.2.2)
    (kk : ∀ v h' n', Q v h' n' → J E M d S P h' n' (k.1 + d'.2.1, k.2 + d'.2.2) (pc + 3) L (v.toList ++ rest)) : J E M d S P h n k pc L st := by
  subst hst
  intro p l e R s m args below meth c H locs ls F hs hl' hP hz hV
  have cb := j_callB (d' := d') F hm.1 hl hdep
  obtain ⟨hx, hbb, hml, hrr, hlk, hnm, hown, hts, hK, r1, r2, r3, r4, hE⟩ := id F
  refine j_after (va_runV (As := as) (rest := rest) ⟨hx, hbb, hml, hown, hts⟩ (hC l) ⟨cb, hts _ hm.2.1, hts _ hm.2.2⟩ ⟨jPc_blind, va_recv (q0 := b) hK.1 hP hcl (by rw [jlay_get hb, hc]), fun U hU hW => ⟨rfl, by rw [hU]; exact hP, by rw [hU]; exact hz, jKK_moved hV hU hW hK⟩⟩ rfl hn hl'.1 rfl (lv_room hr) hd ⟨by omega, by omega⟩) hV hE ?_
  intro v h' n' H' locs' hq hP' hz' hV'
  exact kk v h' n' hq p l e R s m args below meth c H' locs' ls F hs hl' hP' hz' hV'
theorem J_callS (hd : decode M.2.1 pc = .ok (.invokestatic idx, 3)) (hm : jmS M' np) (hl : Cond.methodLink M.1.cls idx M'.1 ∈ jw) (hC : jC E M' d' as h n Q) (hst : st = as.reverse ++ rest) (hn : as.length = np) (hr : (rest.map fun v => v.category).sum ≤ 8) (hdep : d'.1 + 1 ≤ d.1) (hks : k.1 + d'.2.1 ≤ d.2.1 ∧ k.2 + d'.2.2 ≤ d.2.2)
    (kk : ∀ v h' n', Q v h' n' → J E M d S P h' n' (k.1 + d'.2.1, k.2 + d'.2.2) (pc + 3) L (v.toList ++ rest)) : J E M d S P h n k pc L st := by
  subst hst
  intro p l e R s m args below meth c H locs ls F hs hl' hP hz hV
  have cb := j_callB (d' := d') F hm.1 hl hdep
  obtain ⟨hx, hbb, hml, hrr, hlk, hnm, hown, hts, hK, r1, r2, r3, r4, hE⟩ := id F
  refine j_after (va_runS (As := as) (rest := rest) ⟨hx, hbb, hml, hown, hts⟩ (hC l) ⟨cb, hts _ hm.2⟩ ⟨jPc_blind, fun U hU hW => ⟨rfl, by rw [hU]; exact hP, by rw [hU]; exact hz, jKK_moved hV hU hW hK⟩⟩ rfl hn hl'.1 rfl (lv_room hr) hd ⟨by omega, by omega⟩) hV hE ?_
  intro v h' n' H' locs' hq hP' hz' hV'
  exact kk v h' n' hq p l e R s m args below meth c H' locs' ls F hs hl' hP' hz' hV'
theorem J_callSN {host : String} (hd : decode M.2.1 pc = .ok (.invokestatic idx, 3)) (hm : jmS M' np) (hl : (M.1.cls, idx, M'.1, host) ∈ jnest) (hC : jC E M' d' as h n Q) (hst : st = as.reverse ++ rest) (hn : as.length = np) (hr : (rest.map fun v => v.category).sum ≤ 8) (hdep : d'.1 + 1 ≤ d.1) (hks : k.1 + d'.2.1 ≤ d.2.1 ∧ k.2 + d'.2.2 ≤ d.2.2)
    (kk : ∀ v h' n', Q v h' n' → J E M d S P h' n' (k.1 + d'.2.1, k.2 + d'.2.2) (pc + 3) L (v.toList ++ rest)) : J E M d S P h n k pc L st := by
  subst hst
  intro p l e R s m args below meth c H locs ls F hs hl' hP hz hV
  have cb := j_callN (d' := d') F hm.1 hl hdep
  obtain ⟨hx, hbb, hml, hrr, hlk, hnm, hown, hts, hK, r1, r2, r3, r4, hE⟩ := id F
  refine j_after (va_runSN (As := as) (rest := rest) ⟨hx, hbb, hml, hown, hts⟩ (hC l) ⟨cb, hts _ hm.2, trivial⟩ ⟨jPc_blind, fun U hU hW => ⟨rfl, by rw [hU]; exact hP, by rw [hU]; exact hz, jKK_moved hV hU hW hK⟩⟩ rfl hn hl'.1 rfl (lv_room hr) hd ⟨by omega, by omega⟩) hV hE ?_
  intro v h' n' H' locs' hq hP' hz' hV'
  exact kk v h' n' hq p l e R s m args below meth c H' locs' ls F hs hl' hP' hz' hV'
theorem J_callI {b : Nat} (hd : decode M.2.1 pc = .ok (.invokespecial idx, 3)) (hm : jmI M' np) (hl : Cond.methodLink M.1.cls idx M'.1 ∈ jw) (hC : jC E M' d' (.ref (E.1 + b) :: as) h n Q) (hst : st = as.reverse ++ .ref (E.1 + b) :: rest) (hn : as.length = np) (hr : (rest.map fun v => v.category).sum ≤ 8) (hdep : d'.1 + 1 ≤ d.1) (hks : k.1 + d'.2.1 ≤ d.2.1 ∧ k.2 + d'.2.2 ≤ d.2.2)
    (kk : ∀ v h' n', Q v h' n' → J E M d S P h' n' (k.1 + d'.2.1, k.2 + d'.2.2) (pc + 3) L (v.toList ++ rest)) : J E M d S P h n k pc L st := by
  subst hst
  intro p l e R s m args below meth c H locs ls F hs hl' hP hz hV
  have cb := j_callB (d' := d') F hm.1 hl hdep
  rw [hm.2.2.2] at cb
  obtain ⟨hx, hbb, hml, hrr, hlk, hnm, hown, hts, hK, r1, r2, r3, r4, hE⟩ := id F
  refine j_after (va_runI (As := as) (rest := rest) ⟨hx, hbb, hml, hown, hts⟩ (hC l) ⟨cb, hm.2.2.1, hts _ hm.2.1⟩ ⟨jPc_blind, fun U hU hW => ⟨rfl, by rw [hU]; exact hP, by rw [hU]; exact hz, jKK_moved hV hU hW hK⟩⟩ rfl hn hl'.1 rfl (lv_room hr) hd ⟨by omega, by omega⟩) hV hE ?_
  intro v h' n' H' locs' hq hP' hz' hV'
  exact kk v h' n' hq p l e R s m args below meth c H' locs' ls F hs hl' hP' hz' hV'
theorem J_callIN {b : Nat} {host : String} (hd : decode M.2.1 pc = .ok (.invokespecial idx, 3)) (hm : jmI M' np) (hl : (M.1.cls, idx, M'.1, host) ∈ jnest) (hC : jC E M' d' (.ref (E.1 + b) :: as) h n Q) (hst : st = as.reverse ++ .ref (E.1 + b) :: rest) (hn : as.length = np) (hr : (rest.map fun v => v.category).sum ≤ 8) (hdep : d'.1 + 1 ≤ d.1) (hks : k.1 + d'.2.1 ≤ d.2.1 ∧ k.2 + d'.2.2 ≤ d.2.2)
    (kk : ∀ v h' n', Q v h' n' → J E M d S P h' n' (k.1 + d'.2.1, k.2 + d'.2.2) (pc + 3) L (v.toList ++ rest)) : J E M d S P h n k pc L st := by
  subst hst
  intro p l e R s m args below meth c H locs ls F hs hl' hP hz hV
  have cb := j_callN (d' := d') F hm.1 hl hdep
  rw [hm.2.2.2] at cb
  obtain ⟨hx, hbb, hml, hrr, hlk, hnm, hown, hts, hK, r1, r2, r3, r4, hE⟩ := id F
  refine j_after (va_runIN (As := as) (rest := rest) ⟨hx, hbb, hml, hown, hts⟩ (hC l) ⟨cb, hm.2.2.1, hts _ hm.2.1⟩ ⟨jPc_blind, fun U hU hW => ⟨rfl, by rw [hU]; exact hP, by rw [hU]; exact hz, jKK_moved hV hU hW hK⟩⟩ rfl hn hl'.1 rfl (lv_room hr) hd ⟨by omega, by omega⟩) hV hE ?_
  intro v h' n' H' locs' hq hP' hz' hV'
  exact kk v h' n' hq p l e R s m args below meth c H' locs' ls F hs hl' hP' hz' hV'
/-- a call with one outcome, an answer -/
theorem J_callVr {b ci N : Nat} {fs : List Value} {T : u_T} {v : Value} {h' : Nat → va_E} (hd : decode M.2.1 pc = .ok (.invokevirtual idx, 3)) (hm : jmV M' np) (hl : Cond.methodLink M.1.cls idx M'.1 ∈ jw) (hC : jC E M' (d'.1, 0, 0) (.ref (E.1 + b) :: as) h n (jR (some v) h' n)) (hc : h b = .inr (ci, fs)) (hb : b < n) (hcl : vwCl[ci]? = some (M'.1.cls, T, N)) (hst : st = as.reverse ++ .ref (E.1 + b) :: rest) (hn : as.length = np) (hr : (rest.map fun v => v.category).sum ≤ 8) (hdep : d'.1 + 1 ≤ d.1) (hks : k.1 ≤ d.2.1 ∧ k.2 ≤ d.2.2)
    (kk : J E M d S P h' n k (pc + 3) L (v :: rest)) : J E M d S P h n k pc L st :=
  J_callV hd hm hl hC hc hb hcl hst hn hr hdep hks (by rintro _ _ _ ⟨rfl, rfl, rfl⟩; exact kk)
theorem J_callVn {b ci N : Nat} {fs : List Value} {T : u_T} {h' : Nat → va_E} (hd : decode M.2.1 pc = .ok (.invokevirtual idx, 3)) (hm : jmV M' np) (hl : Cond.methodLink M.1.cls idx M'.1 ∈ jw) (hC : jC E M' (d'.1, 0, 0) (.ref (E.1 + b) :: as) h n (jR none h' n)) (hc : h b = .inr (ci, fs)) (hb : b < n) (hcl : vwCl[ci]? = some (M'.1.cls, T, N)) (hst : st = as.reverse ++ .ref (E.1 + b) :: rest) (hn : as.length = np) (hr : (rest.map fun v => v.category).sum ≤ 8) (hdep : d'.1 + 1 ≤ d.1) (hks : k.1 ≤ d.2.1 ∧ k.2 ≤ d.2.2)
    (kk : J E M d S P h' n k (pc + 3) L rest) : J E M d S P h n k pc L st :=
  J_callV hd hm hl hC hc hb hcl hst hn hr hdep hks (by rintro _ _ _ ⟨rfl, rfl, rfl⟩; exact kk)
theorem J_callSr {v : Value} {h' : Nat → va_E} (hd : decode M.2.1 pc = .ok (.invokestatic idx, 3)) (hm : jmS M' np) (hl : Cond.methodLink M.1.cls idx M'.1 ∈ jw) (hC : jC E M' (d'.1, 0, 0) as h n (jR (some v) h' n)) (hst : st = as.reverse ++ rest) (hn : as.length = np) (hr : (rest.map fun v => v.category).sum ≤ 8) (hdep : d'.1 + 1 ≤ d.1) (hks : k.1 ≤ d.2.1 ∧ k.2 ≤ d.2.2)
    (kk : J E M d S P h' n k (pc + 3) L (v :: rest)) : J E M d S P h n k pc L st :=
  J_callS hd hm hl hC hst hn hr hdep hks (by rintro _ _ _ ⟨rfl, rfl, rfl⟩; exact kk)
theorem J_callSn {h' : Nat → va_E} (hd : decode M.2.1 pc = .ok (.invokestatic idx, 3)) (hm : jmS M' np) (hl : Cond.methodLink M.1.cls idx M'.1 ∈ jw) (hC : jC E M' (d'.1, 0, 0) as h n (jR none h' n)) (hst : st = as.reverse ++ rest) (hn : as.length = np) (hr : (rest.map fun v => v.category).sum ≤ 8) (hdep : d'.1 + 1 ≤ d.1) (hks : k.1 ≤ d.2.1 ∧ k.2 ≤ d.2.2)
    (kk : J E M d S P h' n k (pc + 3) L rest) : J E M d S P h n k pc L st :=
  J_callS hd hm hl hC hst hn hr hdep hks (by rintro _ _ _ ⟨rfl, rfl, rfl⟩; exact kk)
theorem J_callSNr {host : String} {v : Value} {h' : Nat → va_E} (hd : decode M.2.1 pc = .ok (.invokestatic idx, 3)) (hm : jmS M' np) (hl : (M.1.cls, idx, M'.1, host) ∈ jnest) (hC : jC E M' (d'.1, 0, 0) as h n (jR (some v) h' n)) (hst : st = as.reverse ++ rest) (hn : as.length = np) (hr : (rest.map fun v => v.category).sum ≤ 8) (hdep : d'.1 + 1 ≤ d.1) (hks : k.1 ≤ d.2.1 ∧ k.2 ≤ d.2.2)
    (kk : J E M d S P h' n k (pc + 3) L (v :: rest)) : J E M d S P h n k pc L st :=
  J_callSN hd hm hl hC hst hn hr hdep hks (by rintro _ _ _ ⟨rfl, rfl, rfl⟩; exact kk)
end JC
