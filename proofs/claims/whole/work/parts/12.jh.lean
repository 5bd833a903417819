section JH
variable {E : jE} {M : jM} {d : jD} {S : Array Value → State → Prop} {P : jPost} {h : Nat → va_E} {n : Nat} {k : Nat × Nat} {pc : Nat} {L : List (Nat × Value)} {st : List Value}
/-- a class of ours by its place among vwCl -/
def jK (ci : Nat) (C : String) (T : u_T) (N : Nat) (ty : Nat → FieldType) : Prop :=
  vwCl[ci]? = some (C, T, N) ∧ (∀ w ∈ u_ws C T N, w ∈ jw) ∧ (∀ j, j < N → parseFieldDescriptor (T j).2.2.1 = some (ty j)) ∧ (∀ a, a < N → ∀ b, b < N → a ≠ b → (T a).2.1 ≠ (T b).2.1)
theorem J_get {idx ci N b : Nat} {C : String} {T : u_T} {ty : Nat → FieldType} {fs : List Value} {v : Value} (j : Nat) (hd : decode M.2.1 pc = .ok (.getfield idx, 3)) (hk : jK ci C T N ty) (hj : j < N) (hl : Cond.fieldLink M.1.cls idx (T j).1 (T j).2.1 (T j).2.2.1 ∈ jw) (hc : h b = .inr (ci, fs)) (hb : b < n) (hv : fs[j]? = some v) (kk : J E M d S P h n k (pc + 3) L (v :: st)) : J E M d S P h n k pc L (.ref (E.1 + b) :: st) := by
  intro p l e R s m args below meth c H locs ls F hs hl' hP hz hV
  have hts := F.2.2.2.2.2.2.2.1
  exact va_get F.1 F.2.1 (T := T) (N := N) hts hk.2.1 F.2.2.2.2.2.2.1 F.2.2.2.2.2.2.2.2.1.1 hP b (by rw [jlay_get hb, hc]) hk.1 j hj (hts _ hl) (fun _ q => q) hv hd (kk p l e R s m args below meth c H locs ls F hs hl' hP hz hV)
theorem J_put {idx ci N b : Nat} {C : String} {T : u_T} {ty0 : Nat → FieldType} {fs : List Value} {v : Value} (j : Nat) (hd : decode M.2.1 pc = .ok (.putfield idx, 3)) (hk : jK ci C T N ty0) (hj : j < N) (hl : Cond.fieldLink M.1.cls idx (T j).1 (T j).2.1 (T j).2.2.1 ∈ jw) (hc : h b = .inr (ci, fs)) (hb : b < n) (hfin : (T j).2.2.2 = false) (hn : narrow (ty0 j) v = v) (hfit : fits (ty0 j) v = true) (hlen : j < fs.length) (kk : J E M d S P (hset h b (.inr (ci, fs.set j v))) n k (pc + 3) L st) : J E M d S P h n k pc L (v :: .ref (E.1 + b) :: st) := by
  intro p l e R s m args below meth c H locs ls F hs hl' hP hz hV
  have hts := F.2.2.2.2.2.2.2.1
  have hown := F.2.2.2.2.2.2.1
  have hK := F.2.2.2.2.2.2.2.2.1.1
  have he : (jlay E.1 h n)[b]? = some (E.1 + b, .inr (ci, fs)) := by rw [jlay_get hb, hc]
  have hap := va_apart (own := M.1.cls) hts hk.2.1 ty0 hk.2.2.1 hk.2.2.2 hK hk.1
  obtain ⟨r, h1, cell, q1, q2, q3, q4⟩ := hP b _ he
  have hr : r = (C, T, N) := Option.some.inj (h1.symm.trans hk.1)
  subst hr
  obtain ⟨hS, hfc, kC, hkC, hkind⟩ := hK.1 ci _ hk.1
  obtain ⟨cf, kf, fi, f, hi, hsl⟩ := hS j hj
  have hlay := hts _ (hk.2.1 _ (u_in_lay hj))
  unfold u_lay at hlay
  rw [if_neg (by rw [hfin]; decide)] at hlay
  have hst := (u_facts hfc hkC (u_lays hts hk.2.1 hj) hi).1
  have h6 := u_store hfc hkC hkind hlay hi (hk.2.2.1 j hj) hn hfit
  refine W.putK F.1 F.2.1 (f := f) ⟨hown, hts _ hl, ⟨_, _, _, hi⟩, hst⟩ (by rw [q2]; exact h6) q1 q3 (by rw [hsl]; exact k2_hasslot (q4 j hj)) rfl rfl hd fun H' e1 e2 e3 => ?_
  rw [hsl] at e1 ⊢
  exact kk p l e R s m args below meth c H' _ ls F hs hl' (by rw [← jlay_set]; exact hP.set jlay_D he ⟨_, hk.1, t_OB.to (V := updV (vp_V fs) j v) ⟨_, e1, q2, q3, t_set q4 hap hj v⟩ (fun i _ => vp_updV_set hlen v i)⟩ e3) (by rw [e2]; exact hz) (hV.put e2 e3 (Nat.le_add_right _ _))
theorem J_putF {idx ci N b : Nat} {C : String} {T : u_T} {ty0 : Nat → FieldType} {fs : List Value} {v : Value} (j : Nat) (hd : decode M.2.1 pc = .ok (.putfield idx, 3)) (hk : jK ci C T N ty0) (hj : j < N) (hl : Cond.fieldLink M.1.cls idx (T j).1 (T j).2.1 (T j).2.2.1 ∈ jw) (hc : h b = .inr (ci, fs)) (hb : b < n) (hfin : (T j).2.2.2 = true) (hin2 : M.1.name = "<init>") (hdecl : (T j).1 = M.1.cls) (hn : narrow (ty0 j) v = v) (hfit : fits (ty0 j) v = true) (hlen : j < fs.length) (kk : J E M d S P (hset h b (.inr (ci, fs.set j v))) n k (pc + 3) L st) : J E M d S P h n k pc L (v :: .ref (E.1 + b) :: st) := by
  intro p l e R s m args below meth c H locs ls F hs hl' hP hz hV
  have hts := F.2.2.2.2.2.2.2.1
  have hown := F.2.2.2.2.2.2.1
  have hK := F.2.2.2.2.2.2.2.2.1.1
  have hnm := F.2.2.2.2.2.1
  have he : (jlay E.1 h n)[b]? = some (E.1 + b, .inr (ci, fs)) := by rw [jlay_get hb, hc]
  have hap := va_apart (own := M.1.cls) hts hk.2.1 ty0 hk.2.2.1 hk.2.2.2 hK hk.1
  obtain ⟨r, h1, cell, q1, q2, q3, q4⟩ := hP b _ he
  have hr : r = (C, T, N) := Option.some.inj (h1.symm.trans hk.1)
  subst hr
  obtain ⟨hS, hfc, kC, hkC, hkind⟩ := hK.1 ci _ hk.1
  obtain ⟨cf, kf, fi, f, hi, hsl⟩ := hS j hj
  have hlay := hts _ (hk.2.1 _ (u_in_lay hj))
  unfold u_lay at hlay
  rw [if_pos hfin] at hlay
  have hst := (u_facts hfc hkC (u_lays hts hk.2.1 hj) hi).1
  have hcf : m.cls = cf := by
    obtain ⟨_, _, c', _, _, _, -, -, hf', -, -, -, hown2, -⟩ := Cond.laysFinal_spec hlay
    have e1 : c' = cf := by have := hi.symm.trans hf'; simp at this; exact this.1.symm
    rw [hdecl] at hown2
    rw [← e1]; exact Option.some.inj (hown.symm.trans hown2)
  have h6 := u_fits hfc hkC hkind (Or.inr hlay) hi (hk.2.2.1 j hj) hn hfit
  refine W.putFinK F.1 F.2.1 hown (hts _ hl) hi hst hcf (hnm.trans hin2) (by rw [q2]; exact h6) q1 q3 (by rw [hsl]; exact k2_hasslot (q4 j hj)) rfl rfl hd fun H' e1 e2 e3 => ?_
  rw [hsl] at e1 ⊢
  exact kk p l e R s m args below meth c H' _ ls F hs hl' (by rw [← jlay_set]; exact hP.set jlay_D he ⟨_, hk.1, t_OB.to (V := updV (vp_V fs) j v) ⟨_, e1, q2, q3, t_set q4 hap hj v⟩ (fun i _ => vp_updV_set hlen v i)⟩ e3) (by rw [e2]; exact hz) (hV.put e2 e3 (Nat.le_add_right _ _))
theorem jlay_put {D : va_G} {cl : List vw_C} {B b : Nat} {e0 e : va_E} {H H1 : Heap} (hP : va_P D cl (jlay B h n) H) (ha : (jlay B h n)[b]? = some (B + b, e0)) (he : va_at D cl (B + b, e) H1) (oq : ∀ q : Nat, q ≠ B + b → H1[q]? = H[q]?) : va_P D cl (jlay B (hset h b e) n) H1 := by
  rw [← jlay_set]; exact hP.set jlay_D ha he oq
theorem J_iald {b len : Nat} {f : Nat → Int32} {i : Int32} (hd : decode M.2.1 pc = .ok (.iaload, 1)) (hc : h b = cI E len f) (hb : b < n) (hin : vp_in i len) (kk : J E M d S P h n k (pc + 1) L (.int (f i.toNatClampNeg) :: st)) : J E M d S P h n k pc L (.int i :: .ref (E.1 + b) :: st) := by
  intro p l e R s m args below meth c H locs ls F hs hl hP hz hV
  exact va_iald F.1 F.2.1 F.2.2.2.2.2.2.2.2.1.1 hP b 1 (by rw [jlay_get hb, hc]) rfl hin hd (kk p l e R s m args below meth c H locs ls F hs hl hP hz hV)
theorem J_bald {b len : Nat} {f : Nat → Int32} {i : Int32} (hd : decode M.2.1 pc = .ok (.baload, 1)) (hc : h b = cB E len f) (hb : b < n) (hin : vp_in i len) (kk : J E M d S P h n k (pc + 1) L (.int (f i.toNatClampNeg) :: st)) : J E M d S P h n k pc L (.int i :: .ref (E.1 + b) :: st) := by
  intro p l e R s m args below meth c H locs ls F hs hl hP hz hV
  exact va_bald F.1 F.2.1 F.2.2.2.2.2.2.2.2.1.1 hP b 0 (by rw [jlay_get hb, hc]) rfl hin hd (kk p l e R s m args below meth c H locs ls F hs hl hP hz hV)
theorem J_zald {b len : Nat} {f : Nat → Int32} {i : Int32} (hd : decode M.2.1 pc = .ok (.baload, 1)) (hc : h b = cZ E len f) (hb : b < n) (hin : vp_in i len) (kk : J E M d S P h n k (pc + 1) L (.int (f i.toNatClampNeg) :: st)) : J E M d S P h n k pc L (.int i :: .ref (E.1 + b) :: st) := by
  intro p l e R s m args below meth c H locs ls F hs hl hP hz hV
  exact va_zald F.1 F.2.1 F.2.2.2.2.2.2.2.2.1.1 hP b 2 (by rw [jlay_get hb, hc]) rfl hin hd (kk p l e R s m args below meth c H locs ls F hs hl hP hz hV)
theorem J_aald {b len : Nat} {f : Nat → Option Nat} {i : Int32} (hd : decode M.2.1 pc = .ok (.aaload, 1)) (hc : h b = cO E len f) (hb : b < n) (hin : vp_in i len) (kk : J E M d S P h n k (pc + 1) L (va_rf (f i.toNatClampNeg) :: st)) : J E M d S P h n k pc L (.int i :: .ref (E.1 + b) :: st) := by
  intro p l e R s m args below meth c H locs ls F hs hl hP hz hV
  exact va_aldq F.1 F.2.1 F.2.2.2.2.2.2.2.2.1.1 hP b 3 (by rw [jlay_get hb, hc]) rfl hin hd (kk p l e R s m args below meth c H locs ls F hs hl hP hz hV)
theorem J_alen {b len : Nat} {f : Nat → Int32} {v : Int32} (hd : decode M.2.1 pc = .ok (.arraylength, 1)) (hc : h b = cI E len f) (hb : b < n) (hv : Int32.ofNat len = v) (kk : J E M d S P h n k (pc + 1) L (.int v :: st)) : J E M d S P h n k pc L (.ref (E.1 + b) :: st) := by
  intro p l e R s m args below meth c H locs ls F hs hl hP hz hV
  exact va_alen F.1 F.2.1 F.2.2.2.2.2.2.2.2.1.1 hP b 1 (by rw [jlay_get hb, hc]) rfl hv hd (kk p l e R s m args below meth c H locs ls F hs hl hP hz hV)
theorem J_iast {b len : Nat} {f : Nat → Int32} {i x : Int32} (hd : decode M.2.1 pc = .ok (.iastore, 1)) (hc : h b = cI E len f) (hb : b < n) (hin : vp_in i len) (kk : J E M d S P (hset h b (cI E len (upd f i.toNatClampNeg x))) n k (pc + 1) L st) : J E M d S P h n k pc L (.int x :: .int i :: .ref (E.1 + b) :: st) := by
  intro p l e R s m args below meth c H locs ls F hs hl hP hz hV
  have ha : (jlay E.1 h n)[b]? = some (E.1 + b, cI E len f) := by rw [jlay_get hb, hc]
  have hK := F.2.2.2.2.2.2.2.2.1.1
  refine W.iast F.1 F.2.1 (hP b _ ha) ((hK.2 1 _ rfl).1 len (fun j => .int (f j))) (fun q => by cases q) (by show ¬ (i < 0 ∨ (arrV _ _ _).slots.size ≤ _); rw [arrV_size]; exact hin) rfl rfl hd fun H1 e1 z oq => ?_
  refine kk p l e R s m args below meth c H1 _ ls F hs hl (jlay_put hP ha ?_ oq) (by rw [z]; exact hz) (hV.put z oq (Nat.le_add_right _ _))
  show H1[E.1 + b]? = some (vp_cell _ _)
  rw [e1]
  rw [vp_cell_i, vp_cell_i, arrV_store]
  congr 2
  funext q
  by_cases hq : q = i.toNatClampNeg
  · subst hq
    simp [updV, upd]
  · simp [updV, upd, hq]
theorem J_bast {b len : Nat} {f : Nat → Int32} {i x : Int32} (hd : decode M.2.1 pc = .ok (.bastore, 1)) (hc : h b = cB E len f) (hb : b < n) (hin : vp_in i len) (kk : J E M d S P (hset h b (cB E len (upd f i.toNatClampNeg (vp_nar .byte x)))) n k (pc + 1) L st) : J E M d S P h n k pc L (.int x :: .int i :: .ref (E.1 + b) :: st) := by
  intro p l e R s m args below meth c H locs ls F hs hl hP hz hV
  have ha : (jlay E.1 h n)[b]? = some (E.1 + b, cB E len f) := by rw [jlay_get hb, hc]
  have hK := F.2.2.2.2.2.2.2.2.1.1
  refine W.bast F.1 F.2.1 (hP b _ ha) ((hK.2 0 _ rfl).1 len (fun j => .int (f j))) (fun q => by cases q) (by show ¬ (i < 0 ∨ (arrV _ _ _).slots.size ≤ _); rw [arrV_size]; exact hin) rfl rfl hd fun H1 e1 z oq => ?_
  refine kk p l e R s m args below meth c H1 _ ls F hs hl (jlay_put hP ha ?_ oq) (by rw [z]; exact hz) (hV.put z oq (Nat.le_add_right _ _))
  show H1[E.1 + b]? = some (vp_cell _ _)
  rw [e1]
  rw [vp_cell_i, vp_cell_i, arrV_store]
  congr 2
  funext q
  by_cases hq : q = i.toNatClampNeg
  · subst hq
    simp [updV, upd, vp_nar]
    try rfl
  · simp [updV, upd, hq]
theorem J_zast {b len : Nat} {f : Nat → Int32} {i x : Int32} (hd : decode M.2.1 pc = .ok (.bastore, 1)) (hc : h b = cZ E len f) (hb : b < n) (hin : vp_in i len) (kk : J E M d S P (hset h b (cZ E len (upd f i.toNatClampNeg (vp_nar .boolean x)))) n k (pc + 1) L st) : J E M d S P h n k pc L (.int x :: .int i :: .ref (E.1 + b) :: st) := by
  intro p l e R s m args below meth c H locs ls F hs hl hP hz hV
  have ha : (jlay E.1 h n)[b]? = some (E.1 + b, cZ E len f) := by rw [jlay_get hb, hc]
  have hK := F.2.2.2.2.2.2.2.2.1.1
  refine W.zast F.1 F.2.1 (hP b _ ha) ((hK.2 2 _ rfl).1 len (fun j => .int (f j))) (fun q => by cases q) (by show ¬ (i < 0 ∨ (arrV _ _ _).slots.size ≤ _); rw [arrV_size]; exact hin) rfl rfl hd fun H1 e1 z oq => ?_
  refine kk p l e R s m args below meth c H1 _ ls F hs hl (jlay_put hP ha ?_ oq) (by rw [z]; exact hz) (hV.put z oq (Nat.le_add_right _ _))
  show H1[E.1 + b]? = some (vp_cell _ _)
  rw [e1]
  rw [vp_cell_i, vp_cell_i, arrV_store]
  congr 2
  funext q
  by_cases hq : q = i.toNatClampNeg
  · subst hq
    simp [updV, upd, vp_nar]
    try rfl
  · simp [updV, upd, hq]
theorem J_aast {b len w : Nat} {f : Nat → Option Nat} {vs : List Value} {i : Int32} (hd : decode M.2.1 pc = .ok (.aastore, 1)) (hc : h b = cO E len f) (hb : b < n) (hw : h w = .inr (5, vs)) (hwn : w < n) (hcl : vwCl[5]? = some ("AnvilStreet$Street", TX6, 8)) (hin : vp_in i len) (kk : J E M d S P (hset h b (cO E len (va_up f i.toNatClampNeg (some (E.1 + w))))) n k (pc + 1) L st) : J E M d S P h n k pc L (.ref (E.1 + w) :: .int i :: .ref (E.1 + b) :: st) := by
  intro p l e R s m args below meth c H locs ls F hs hl hP hz hV
  have ha : (jlay E.1 h n)[b]? = some (E.1 + b, cO E len f) := by rw [jlay_get hb, hc]
  have hv : (jlay E.1 h n)[w]? = some (E.1 + w, .inr (5, vs)) := by rw [jlay_get hwn, hw]
  have hK := F.2.2.2.2.2.2.2.2.1.1
  have hlt : i.toNatClampNeg < len := Nat.not_le.mp fun q => hin (Or.inr q)
  have h0 : ¬ i < 0 := fun q => hin (Or.inl q)
  obtain ⟨r', hr', cellV, g1, g2, g3, -⟩ := hP w _ hv
  have hcls := (hK.1 5 _ hcl).2
  obtain ⟨kA, comp, k1, k2, k3, -⟩ := (hK.2 3 _ rfl).2
  have hcomp : comp = E.2.1.1 5 := Option.some.inj (k3.symm.trans hcls.1)
  subst hcomp
  obtain ⟨kC, hkC, -⟩ := hcls.2
  refine W.aast F.1 F.2.1 (hP b _ ha) (fun q h => by cases h) (fun h => by cases h) k1 k2 rfl hkC ⟨h0, by show _ < (arrV _ _ _).slots.size; rw [arrV_size]; exact hlt⟩ g1 (fun q h => by rw [g3] at h; cases h) (by rw [g2]; exact hkC) (by rw [g2]; exact va_assign hcls) rfl rfl hd fun H1 e1 z oq => ?_
  refine kk p l e R s m args below meth c H1 _ ls F hs hl (jlay_put hP ha ?_ oq) (by rw [z]; exact hz) (hV.put z oq (Nat.le_add_right _ _))
  show H1[E.1 + b]? = some (vp_cell _ _)
  rw [e1, vp_cell_q, vp_cell_q, arrV_store]
  congr 2
  funext q
  by_cases hq : q = i.toNatClampNeg
  · subst hq
    simp [updV, va_up, va_rf]
  · simp [updV, va_up, hq]
theorem J_new {idx ci N : Nat} {C : String} {T : u_T} {ty : Nat → FieldType} {fs : List Value} (hd : decode M.2.1 pc = .ok (.new idx, 3)) (hk : jK ci C T N ty) (hcl : Cond.classLink M.1.cls idx C ∈ jw) (hins : Cond.instantiable C N ∈ jw) (hini : Cond.initialized C ∈ jw) (hfs : ∀ j, j < N → defaultValue (ty j) = vp_V fs j) (hks : k.1 + 1 ≤ d.2.1 ∧ k.2 + N ≤ d.2.2) (kk : J E M d S P (hset h n (.inr (ci, fs))) (n + 1) (k.1 + 1, k.2 + N) (pc + 3) L (.ref (E.1 + n) :: st)) : J E M d S P h n k pc L st := by
  intro p l e R s m args below meth c H locs ls F hs hl hP hz hV
  have hts := F.2.2.2.2.2.2.2.1
  have hown := F.2.2.2.2.2.2.1
  have hK := F.2.2.2.2.2.2.2.2.1.1
  have hR1 := F.2.2.2.2.2.2.2.2.2.2.2.1
  have hR2 := F.2.2.2.2.2.2.2.2.2.2.2.2.1
  have hKn := hK.1 ci _ hk.1
  refine W.newcK F.1 F.2.1 hown (hts _ hcl) (hts _ hins) (hts _ hini) rfl hd (Nat.le_trans hks.1 hR1) (Nat.le_trans hks.2 hR2) hKn.2.1 hz fun H1 kC hkC e1 z1 o1 => ?_
  have hkp : ∀ (j : Nat) (x : Nat × va_E), (jlay E.1 h n)[j]? = some x → H1[x.1]? = H[x.1]? := fun j x hx => o1 x.1 (by have := (hP j x hx).lt; omega)
  refine kk p l e R s m args below meth c H1 _ ls F hs hl ?_ (by rw [z1]; omega) ⟨Nat.le_trans hV.1 (by omega), fun x g1 g2 => (o1 x (by have := hV.1; omega)).trans (hV.2.1 x g1 g2), hV.2.2⟩
  rw [← jlay_push]
  refine (hP.kept hkp).app (fun j x hx => ?_)
  have hz' : j < 1 := (List.getElem?_eq_some_iff.mp hx).1
  rw [show j = 0 by omega] at hx
  cases hx
  exact ⟨_, hk.1, (u_born ty hts hk.2.1 hKn hkC e1 hk.2.2.1).to hfs⟩
theorem j_newa {B : Nat} {D : va_G} {H H1 : Heap} {e : va_E} {h : Nat → va_E} {n : Nat} (hP : va_P D vwCl (jlay B h n) H) (hz : H.size = B + n) (o1 : ∀ q, q < B + n → H1[q]? = H[q]?) (he : va_at D vwCl (B + n, e) H1) : va_P D vwCl (jlay B (hset h n e) (n + 1)) H1 := by
  have hkp : ∀ (j : Nat) (x : Nat × va_E), (jlay B h n)[j]? = some x → H1[x.1]? = H[x.1]? := fun j x hx => o1 x.1 (by have := (hP j x hx).lt; omega)
  rw [← jlay_push]
  refine (hP.kept hkp).app (fun j x hx => ?_)
  have hz' : j < 1 := (List.getElem?_eq_some_iff.mp hx).1
  rw [show j = 0 by omega] at hx
  cases hx
  exact he
theorem J_newi {z : Int32} {N : Nat} (hd : decode M.2.1 pc = .ok (.newarray .int, 2)) (hw : Cond.arrayClass .int ∈ jw) (hn0 : ¬ z < 0) (hN : z.toNatClampNeg = N) (hbytes : N * 4 ≤ 536870912) (hks : k.1 + 1 ≤ d.2.1 ∧ k.2 + N ≤ d.2.2) (kk : J E M d S P (hset h n (cI E N (fun _ => 0))) (n + 1) (k.1 + 1, k.2 + N) (pc + 2) L (.ref (E.1 + n) :: st)) : J E M d S P h n k pc L (.int z :: st) := by
  intro p l e R s m args below meth c H locs ls F hs hl hP hz hV
  have hts := F.2.2.2.2.2.2.2.1
  have hK := F.2.2.2.2.2.2.2.2.1.1
  have hR1 := F.2.2.2.2.2.2.2.2.2.2.2.1
  have hR2 := F.2.2.2.2.2.2.2.2.2.2.2.2.1
  refine va_newaK (atype := .int) F.1 F.2.1 (hts _ hw) rfl hd rfl hn0 hN hbytes (Nat.le_trans hks.1 hR1) (Nat.le_trans hks.2 hR2) hz fun H1 cA e1 z1 o1 hA hc => ?_
  have hcA : cA = E.2.2.1.2.1 := Option.some.inj (hc.symm.trans (hK.2 1 _ rfl).2)
  subst hcA
  exact kk p l e R s m args below meth c H1 _ ls F hs hl (j_newa hP hz o1 e1) (by rw [z1]; omega) ⟨Nat.le_trans hV.1 (by omega), fun x g1 g2 => (o1 x (by have := hV.1; omega)).trans (hV.2.1 x g1 g2), hV.2.2⟩
theorem J_newb {z : Int32} {N : Nat} (hd : decode M.2.1 pc = .ok (.newarray .byte, 2)) (hw : Cond.arrayClass .byte ∈ jw) (hn0 : ¬ z < 0) (hN : z.toNatClampNeg = N) (hbytes : N * 1 ≤ 536870912) (hks : k.1 + 1 ≤ d.2.1 ∧ k.2 + N ≤ d.2.2) (kk : J E M d S P (hset h n (cB E N (fun _ => 0))) (n + 1) (k.1 + 1, k.2 + N) (pc + 2) L (.ref (E.1 + n) :: st)) : J E M d S P h n k pc L (.int z :: st) := by
  intro p l e R s m args below meth c H locs ls F hs hl hP hz hV
  have hts := F.2.2.2.2.2.2.2.1
  have hK := F.2.2.2.2.2.2.2.2.1.1
  have hR1 := F.2.2.2.2.2.2.2.2.2.2.2.1
  have hR2 := F.2.2.2.2.2.2.2.2.2.2.2.2.1
  refine va_newaK (atype := .byte) F.1 F.2.1 (hts _ hw) rfl hd rfl hn0 hN hbytes (Nat.le_trans hks.1 hR1) (Nat.le_trans hks.2 hR2) hz fun H1 cA e1 z1 o1 hA hc => ?_
  have hcA : cA = E.2.2.1.1 := Option.some.inj (hc.symm.trans (hK.2 0 _ rfl).2)
  subst hcA
  exact kk p l e R s m args below meth c H1 _ ls F hs hl (j_newa hP hz o1 e1) (by rw [z1]; omega) ⟨Nat.le_trans hV.1 (by omega), fun x g1 g2 => (o1 x (by have := hV.1; omega)).trans (hV.2.1 x g1 g2), hV.2.2⟩
theorem J_newz {z : Int32} {N : Nat} (hd : decode M.2.1 pc = .ok (.newarray .boolean, 2)) (hw : Cond.arrayClass .boolean ∈ jw) (hn0 : ¬ z < 0) (hN : z.toNatClampNeg = N) (hbytes : N * 1 ≤ 536870912) (hks : k.1 + 1 ≤ d.2.1 ∧ k.2 + N ≤ d.2.2) (kk : J E M d S P (hset h n (cZ E N (fun _ => 0))) (n + 1) (k.1 + 1, k.2 + N) (pc + 2) L (.ref (E.1 + n) :: st)) : J E M d S P h n k pc L (.int z :: st) := by
  intro p l e R s m args below meth c H locs ls F hs hl hP hz hV
  have hts := F.2.2.2.2.2.2.2.1
  have hK := F.2.2.2.2.2.2.2.2.1.1
  have hR1 := F.2.2.2.2.2.2.2.2.2.2.2.1
  have hR2 := F.2.2.2.2.2.2.2.2.2.2.2.2.1
  refine va_newaK (atype := .boolean) F.1 F.2.1 (hts _ hw) rfl hd rfl hn0 hN hbytes (Nat.le_trans hks.1 hR1) (Nat.le_trans hks.2 hR2) hz fun H1 cA e1 z1 o1 hA hc => ?_
  have hcA : cA = E.2.2.1.2.2.1 := Option.some.inj (hc.symm.trans (hK.2 2 _ rfl).2)
  subst hcA
  exact kk p l e R s m args below meth c H1 _ ls F hs hl (j_newa hP hz o1 e1) (by rw [z1]; omega) ⟨Nat.le_trans hV.1 (by omega), fun x g1 g2 => (o1 x (by have := hV.1; omega)).trans (hV.2.1 x g1 g2), hV.2.2⟩
theorem J_newq {idx : Nat} {z : Int32} {N : Nat} (hd : decode M.2.1 pc = .ok (.anewarray idx, 3)) (hcl : Cond.classLink M.1.cls idx "AnvilStreet$Street" ∈ jw) (hn0 : ¬ z < 0) (hN : z.toNatClampNeg = N) (hbytes : N * 4 ≤ 536870912) (hks : k.1 + 1 ≤ d.2.1 ∧ k.2 + N ≤ d.2.2) (kk : J E M d S P (hset h n (cO E N (fun _ => none))) (n + 1) (k.1 + 1, k.2 + N) (pc + 3) L (.ref (E.1 + n) :: st)) : J E M d S P h n k pc L (.int z :: st) := by
  intro p l e R s m args below meth c H locs ls F hs hl hP hz hV
  have hts := F.2.2.2.2.2.2.2.1
  have hown := F.2.2.2.2.2.2.1
  have hK := F.2.2.2.2.2.2.2.2.1.1
  have hAO := F.2.2.2.2.2.2.2.2.1.2.2.1
  have hR1 := F.2.2.2.2.2.2.2.2.2.2.2.1
  have hR2 := F.2.2.2.2.2.2.2.2.2.2.2.2.1
  subst hN
  refine W.anew F.1 F.2.1 hown (hts _ hcl) (va_AO.use hAO) rfl hd rfl hn0 hbytes (Nat.le_trans hks.1 hR1) (Nat.le_trans hks.2 hR2) fun cA kA comp f1 f2 f3 f4 => ?_
  generalize hH1 : H.push ({ cls := cA, slots := Array.replicate z.toNatClampNeg .null, vm := .none } : Cell) = H1
  have z1 : H1.size = H.size + 1 := by rw [← hH1, Array.size_push]
  have e1 : H1[H.size]? = some (arrV cA z.toNatClampNeg (fun _ => .null)) := by rw [← hH1, Array.getElem?_push_size, ← arrV_new]
  have o1 : ∀ q : Nat, q < E.1 + n → H1[q]? = H[q]? := fun q hq => by rw [← hH1, Array.getElem?_push, if_neg (by omega)]
  obtain ⟨kA', comp', k1, k2, k3, k4⟩ := (hK.2 3 _ rfl).2
  have hcA : cA = E.2.2.1.2.2.2 := Option.some.inj (f1.symm.trans k4)
  subst hcA
  rw [hz] at e1 ⊢
  exact kk p l e R s m args below meth c H1 _ ls F hs hl (j_newa hP hz o1 e1) (by rw [z1]; omega) ⟨Nat.le_trans hV.1 (by omega), fun x g1 g2 => (o1 x (by have := hV.1; omega)).trans (hV.2.1 x g1 g2), hV.2.2⟩
theorem J_objInit {idx b : Nat} (hd : decode M.2.1 pc = .ok (.invokespecial idx, 3)) (hl : Cond.methodLink M.1.cls idx Lib.objectInit ∈ jw) (hi : Cond.instanceMethod Lib.objectInit ∈ jw) (hcd : Cond.code Lib.objectInit ⟨#[0xb1]⟩ 1 none ∈ jw) (hr : (st.map fun v => v.category).sum ≤ 8) (hdep : 1 ≤ d.1) (kk : J E M d S P h n k (pc + 3) L st) : J E M d S P h n k pc L (.ref b :: st) := by
  intro p l e R s m args below meth c H locs ls F hs hl' hP hz hV
  have hts := F.2.2.2.2.2.2.2.1
  have hF1 := F.2.2.2.2.2.2.2.2.2.1
  have hF2 := F.2.2.2.2.2.2.2.2.2.2.1
  exact W.objInit F.1 F.2.1 F.2.2.2.2.2.2.1 (hts _ hl) (hts _ hi) (hts _ hcd) rfl (hl'.1.trans F.2.2.1.symm) rfl hd (Nat.le_trans hdep hF1) (by show 2 * 0 + _ + 12 ≤ _; omega) (kk p l e R s m args below meth c H locs ls F hs hl' hP hz hV)
end JH
