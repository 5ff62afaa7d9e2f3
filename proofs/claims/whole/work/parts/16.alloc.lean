/-! CELLS THAT ARE MADE: the cell at the address a gets the number b + a, and 'ad (b + a) = a' is a premise; so 'ad' never changes -/
theorem xa_free {D : va_G} {cl : List vw_C} {tys : List (ClassId × FieldType)} {A : Nat → Prop} {ad : Nat → Nat} {ce : Nat → Option va_E} {s : State} {H0 H : Heap} {locs : List Loc} {b a : Nat} (hw : xm_W D cl tys A ad ce s H0 H locs) (hba : ∀ a, ad (b + a) = a) (ha : H.size ≤ a) : ce (b + a) = none := by
  cases h : ce (b + a) with
  | none => rfl
  | some x =>
    have := (hw.2.1 (b + a) x h).lt
    rw [hba] at this
    exact absurd this (Nat.not_lt.mpr ha)
theorem xa_ne {ce : Nat → Option va_E} {i j : Nat} {x : va_E} (hi : ce i = some x) (hj : ce j = none) : i ≠ j := by
  intro e
  rw [e, hj] at hi
  cases hi
theorem xa_push {D : va_G} {cl : List vw_C} {tys : List (ClassId × FieldType)} {A : Nat → Prop} {ad : Nat → Nat} {ce : Nat → Option va_E} {s : State} {H0 H H1 : Heap} {locs : List Loc} {b : Nat} {x : va_E} (hw : xm_W D cl tys A ad ce s H0 H locs) (hba : ∀ a, ad (b + a) = a) (hz : H1.size = H.size + 1) (ho : ∀ q, q < H.size → H1[q]? = H[q]?) (hx : va_at D cl (H.size, x) H1) : xm_W D cl tys A ad (va_up ce (b + H.size) (some x)) s H0 H1 locs := by
  have hn := xa_free hw hba (Nat.le_refl H.size)
  have hlt : ∀ i y, ce i = some y → ad i < H.size := fun i y h => (hw.2.1 i y h).lt
  have key : ∀ j, va_up ce (b + H.size) (some x) j ≠ none → j = b + H.size ∨ (ce j ≠ none ∧ ad j < H.size) := by
    intro j hj
    by_cases q : j = b + H.size
    · exact Or.inl q
    · rw [va_up_ne _ _ q] at hj
      cases h : ce j with
      | none => exact absurd h hj
      | some y => exact Or.inr ⟨by simp, hlt j y h⟩
  refine ⟨hw.1, ?_, ⟨?_, ?_⟩, ⟨Nat.le_trans hw.2.2.2.1.1 (by omega), fun q h1 h2 => (ho q (Nat.lt_of_lt_of_le h1 hw.2.2.2.1.1)).trans (hw.2.2.2.1.2.1 q h1 h2), hw.2.2.2.1.2.2⟩, hw.2.2.2.2⟩
  · intro j y hj
    by_cases q : j = b + H.size
    · subst q
      rw [va_up_self] at hj
      cases hj
      rw [hba]
      exact hx
    · rw [va_up_ne _ _ q] at hj
      exact (hw.2.1 j y hj).kept (ho _ (hlt j y hj))
  · intro i j hi hj e
    rcases key i hi with rfl | ⟨h1, h2⟩ <;> rcases key j hj with rfl | ⟨h3, h4⟩
    · rfl
    · rw [hba] at e; omega
    · rw [hba] at e; omega
    · exact hw.2.2.1.1 i j h1 h3 e
  · intro i hi
    rcases key i hi with rfl | ⟨h1, h2⟩
    · rw [hba]
      exact hw.2.2.2.2.1 _ hw.2.2.2.1.1
    · exact hw.2.2.1.2 i h1
section XA
variable {p : Program} {l : Launch} {e : Env} {R : Room} {s : State} {m : MethodId} {args : Array Value} {below : List Frame} {meth : Method} {c : Code} {H : Heap} {locs : List Loc} {cells slots : Nat} {Q : State → Prop}
variable {cc : ByteArray} {pc : Nat} {ls : Array Slot} {rest : List Value} {D : va_G} {cl : List vw_C} {A : Nat → Prop} {tys : List (ClassId × FieldType)} {ad : Nat → Nat} {ce : Nat → Option va_E} {H0 : Heap} {b : Nat}
theorem xa_new (hexec : p.tables.exec = Jvm.exec) (hb : c.code = cc) {own C : String} {T : u_T} {N ci index : Nat} {Ts : List Cond} (hts : ∀ w ∈ Ts, w.before args s = true) (hin : ∀ w ∈ u_ws C T N, w ∈ Ts) (ty : Nat → FieldType) (hty : ∀ k, k < N → parseFieldDescriptor (T k).2.2.1 = some (ty k)) (hown : s.vm.findClass own = some m.cls) (hcl : (Cond.classLink own index C).before args s = true) (hinst : (Cond.instantiable C N).before args s = true) (hini : (Cond.initialized C).before args s = true)
    (hw : xm_W D cl tys A ad ce s H0 H locs) (hba : ∀ a, ad (b + a) = a) (hc : cl[ci]? = some (C, T, N)) {fs : List Value} (hfs : ∀ j, j < N → defaultValue (ty j) = vp_V fs j) (hcells : cells + 1 ≤ R.cells) (hslots : slots + N ≤ R.slots) (hdg : decode cc pc = .ok (.new index, 3))
    (kk : ∀ (H1 : Heap), H1.size = H.size + 1 → xm_W D cl tys A ad (va_up ce (b + H.size) (some (.inr (ci, fs)))) s H0 H1 locs →
      W p l e R s m args below meth c H1 locs (cells + 1) (slots + N) Q (F0 m (pc + 3) ls (.ref (ad (b + H.size)) :: rest))) : W p l e R s m args below meth c H locs cells slots Q (F0 m pc ls rest) := by
  have hKn := hw.1.1 ci _ hc
  refine W.newcK hexec hb hown hcl hinst hini rfl hdg hcells hslots hKn.2.1 rfl fun H1 kC hkC e1 z1 o1 => ?_
  have kk := kk H1 z1 (xa_push hw hba z1 o1 ⟨_, hc, (u_born ty hts hin hKn hkC e1 hty).to hfs⟩)
  rw [hba] at kk
  exact kk
theorem xa_newa (hexec : p.tables.exec = Jvm.exec) (hb : c.code = cc) {atype : ArrayType} (harr : (Cond.arrayClass (newarray.typeOf atype)).before args s = true) {ty : FieldType} (hty : newarray.typeOf atype = ty) (hw : xm_W D cl tys A ad ce s H0 H locs) (hba : ∀ a, ad (b + a) = a) (t0 : Nat) {cA : ClassId} (ht : tys[t0]? = some (cA, ty))
    {n : Int32} {N' : Nat} {a0 : vp_A} (ha : ∀ cA : ClassId, vp_cell cA a0 = arrV cA N' (fun _ => defaultValue ty)) (hn : ¬ n < 0) (hN : n.toNatClampNeg = N') (hbytes : N' * componentBytes ty ≤ 536870912) (hcells : cells + 1 ≤ R.cells) (hslots : slots + N' ≤ R.slots) (hdg : decode cc pc = .ok (.newarray atype, 2))
    (kk : ∀ (H1 : Heap), H1.size = H.size + 1 → xm_W D cl tys A ad (va_up ce (b + H.size) (some (.inl (cA, a0)))) s H0 H1 locs →
      W p l e R s m args below meth c H1 locs (cells + 1) (slots + N') Q (F0 m (pc + 2) ls (.ref (ad (b + H.size)) :: rest))) : W p l e R s m args below meth c H locs cells slots Q (F0 m pc ls (.int n :: rest)) := by
  subst hty
  refine va_newaK hexec hb harr rfl hdg rfl hn hN hbytes hcells hslots rfl fun H1 cB e1 z1 o1 hAr hNm => ?_
  have hcc : cB = cA := by
    have h2 := (hw.1.2 t0 _ ht).2
    have h3 : s.vm.findClass ("[" ++ (newarray.typeOf atype).toString) = some cA := by cases atype <;> exact h2
    exact Option.some.inj (hNm.symm.trans h3)
  subst hcc
  have kk := kk H1 z1 (xa_push hw hba z1 o1 (by show H1[H.size]? = some (vp_cell _ _); rw [ha]; exact e1))
  rw [hba] at kk
  exact kk
theorem xa_anew (hexec : p.tables.exec = Jvm.exec) (hb : c.code = cc) {own C : String} {index : Nat} (hown : s.vm.findClass own = some m.cls) (hclink : (Cond.classLink own index C).before args s = true) (hover : va_AO C s) (hw : xm_W D cl tys A ad ce s H0 H locs) (hba : ∀ a, ad (b + a) = a) (t0 : Nat) {cA : ClassId} (ht : tys[t0]? = some (cA, .object C))
    {n : Int32} {N' : Nat} (hn : ¬ n < 0) (hN : n.toNatClampNeg = N') (hbytes : N' * 4 ≤ 536870912) (hcells : cells + 1 ≤ R.cells) (hslots : slots + N' ≤ R.slots) (hdg : decode cc pc = .ok (.anewarray index, 3))
    (kk : ∀ (H1 : Heap), H1.size = H.size + 1 → xm_W D cl tys A ad (va_up ce (b + H.size) (some (.inl (cA, N', .inr (.inr (.inr (.inr (fun _ => none)))))))) s H0 H1 locs →
      W p l e R s m args below meth c H1 locs (cells + 1) (slots + N') Q (F0 m (pc + 3) ls (.ref (ad (b + H.size)) :: rest))) : W p l e R s m args below meth c H locs cells slots Q (F0 m pc ls (.int n :: rest)) := by
  subst hN
  refine W.anew hexec hb hown hclink (va_AO.use hover) rfl hdg rfl hn hbytes hcells hslots fun cB kA comp f1 f2 f3 f4 => ?_
  have hcc : cB = cA := by
    obtain ⟨-, -, -, -, -, h4⟩ := (hw.1.2 t0 _ ht).2
    exact Option.some.inj (f1.symm.trans h4)
  subst hcc
  generalize hH1 : H.push ({ cls := cB, slots := Array.replicate n.toNatClampNeg .null, vm := .none } : Cell) = H1
  have z1 : H1.size = H.size + 1 := by rw [← hH1, Array.size_push]
  have e1 : H1[H.size]? = some (arrV cB n.toNatClampNeg (fun _ => .null)) := by rw [← hH1, Array.getElem?_push_size, ← arrV_new]
  have o1 : ∀ q : Nat, q < H.size → H1[q]? = H[q]? := fun q hq => by rw [← hH1, Array.getElem?_push, if_neg (Nat.ne_of_lt hq)]
  have kk := kk H1 z1 (xa_push hw hba z1 o1 (by show H1[H.size]? = some (vp_cell _ _); rw [vp_cell_q]; exact e1))
  rw [hba] at kk
  exact kk
/-- a field, final (in a constructor of its own class) or not, with the heap's size -/
theorem xa_putF (hexec : p.tables.exec = Jvm.exec) (hb : c.code = cc) {own ref C : String} {T : u_T} {N ci index i : Nat} {Ts : List Cond} (hts : ∀ w ∈ Ts, w.before args s = true) (hin : ∀ w ∈ u_ws C T N, w ∈ Ts) (ty0 : Nat → FieldType) (hty : ∀ k, k < N → parseFieldDescriptor (T k).2.2.1 = some (ty0 k)) (hnm : ∀ a, a < N → ∀ b, b < N → a ≠ b → (T a).2.1 ≠ (T b).2.1) (hown : s.vm.findClass own = some m.cls) (hw : xm_W D cl tys A ad ce s H0 H locs) {fs : List Value} (he : ce i = some (.inr (ci, fs))) (hc : cl[ci]? = some (C, T, N)) (k : Nat) (hk : k < N) (hlink : (Cond.fieldLink own index ref (T k).2.1 (T k).2.2.1).before args s = true) (hsame : ∀ x, s.fieldFound? (T k).1 (T k).2.1 (T k).2.2.1 = some x → s.fieldFound? ref (T k).2.1 (T k).2.2.1 = some x) (hfin : (T k).2.2.2 = true) (hin2 : meth.name = "<init>") (hdecl : (T k).1 = own) {ty : FieldType} {v : Value} (hd : parseFieldDescriptor (T k).2.2.1 = some ty) (hn : narrow ty v = v) (hfit : fits ty v = true) (hl : k < fs.length)
    (hdg : decode cc pc = .ok (.putfield index, 3)) (kk : ∀ (H1 : Heap) (locs1 : List Loc), H1.size = H.size → xm_W D cl tys A ad (va_up ce i (some (.inr (ci, fs.set k v)))) s H0 H1 locs1 → W p l e R s m args below meth c H1 locs1 cells slots Q (F0 m (pc + 3) ls rest)) : W p l e R s m args below meth c H locs cells slots Q (F0 m pc ls (v :: .ref (ad i) :: rest)) := by
  obtain ⟨hK, hP, hD, hS0, hA⟩ := hw
  have hap := va_apart (own := own) hts hin ty0 hty hnm hK hc
  obtain ⟨r, h1, cell, q1, q2, q3, q4⟩ := hP i _ he
  have hr : r = (C, T, N) := Option.some.inj (h1.symm.trans hc)
  subst hr
  obtain ⟨hS, hfc, kC, hkC, hkind⟩ := hK.1 ci _ hc
  obtain ⟨cf, kf, fi, f, hi, hsl⟩ := hS k hk
  have hlay := hts _ (hin _ (u_in_lay hk))
  unfold u_lay at hlay
  rw [if_pos hfin] at hlay
  have hst := (u_facts hfc hkC (u_lays hts hin hk) hi).1
  have hcf : m.cls = cf := by
    obtain ⟨_, _, c', _, _, _, -, -, hf', -, -, -, hown2, -⟩ := Cond.laysFinal_spec hlay
    have e1 : c' = cf := by have := hi.symm.trans hf'; simp at this; exact this.1.symm
    rw [hdecl] at hown2
    rw [← e1]; exact Option.some.inj (hown.symm.trans hown2)
  have h6 := u_fits hfc hkC hkind (Or.inr hlay) hi hd hn hfit
  refine W.putFinK hexec hb hown hlink (hsame _ hi) hst hcf hin2 (by rw [q2]; exact h6) q1 q3 (by rw [hsl]; exact k2_hasslot (q4 k hk)) rfl rfl hdg fun H' e1 e2 e3 => ?_
  rw [hsl] at e1 ⊢
  exact kk H' _ e2 ⟨hK, hP.set hD he ⟨_, hc, t_OB.to (V := updV (vp_V fs) k v) ⟨_, e1, q2, q3, t_set q4 hap hk v⟩ (fun j _ => vp_updV_set hl v j)⟩ e3, hD.set he, hS0.put e2 e3 (hD.2 i (by rw [he]; exact Option.some_ne_none _)), hA⟩
theorem xa_put (hexec : p.tables.exec = Jvm.exec) (hb : c.code = cc) {own ref C : String} {T : u_T} {N ci index i : Nat} {Ts : List Cond} (hts : ∀ w ∈ Ts, w.before args s = true) (hin : ∀ w ∈ u_ws C T N, w ∈ Ts) (ty0 : Nat → FieldType) (hty : ∀ k, k < N → parseFieldDescriptor (T k).2.2.1 = some (ty0 k)) (hnm : ∀ a, a < N → ∀ b, b < N → a ≠ b → (T a).2.1 ≠ (T b).2.1) (hown : s.vm.findClass own = some m.cls) (hw : xm_W D cl tys A ad ce s H0 H locs) {fs : List Value} (he : ce i = some (.inr (ci, fs))) (hc : cl[ci]? = some (C, T, N)) (k : Nat) (hk : k < N) (hlink : (Cond.fieldLink own index ref (T k).2.1 (T k).2.2.1).before args s = true) (hsame : ∀ x, s.fieldFound? (T k).1 (T k).2.1 (T k).2.2.1 = some x → s.fieldFound? ref (T k).2.1 (T k).2.2.1 = some x) (hfin : (T k).2.2.2 = false) {ty : FieldType} {v : Value} (hd : parseFieldDescriptor (T k).2.2.1 = some ty) (hn : narrow ty v = v) (hfit : fits ty v = true) (hl : k < fs.length)
    (hdg : decode cc pc = .ok (.putfield index, 3)) (kk : ∀ (H1 : Heap) (locs1 : List Loc), H1.size = H.size → xm_W D cl tys A ad (va_up ce i (some (.inr (ci, fs.set k v)))) s H0 H1 locs1 → W p l e R s m args below meth c H1 locs1 cells slots Q (F0 m (pc + 3) ls rest)) : W p l e R s m args below meth c H locs cells slots Q (F0 m pc ls (v :: .ref (ad i) :: rest)) := by
  obtain ⟨hK, hP, hD, hS0, hA⟩ := hw
  have hap := va_apart (own := own) hts hin ty0 hty hnm hK hc
  obtain ⟨r, h1, cell, q1, q2, q3, q4⟩ := hP i _ he
  have hr : r = (C, T, N) := Option.some.inj (h1.symm.trans hc)
  subst hr
  obtain ⟨hS, hfc, kC, hkC, hkind⟩ := hK.1 ci _ hc
  obtain ⟨cf, kf, fi, f, hi, hsl⟩ := hS k hk
  have hlay := hts _ (hin _ (u_in_lay hk))
  unfold u_lay at hlay
  rw [if_neg (by rw [hfin]; decide)] at hlay
  have hst := (u_facts hfc hkC (u_lays hts hin hk) hi).1
  have h6 := u_store hfc hkC hkind hlay hi hd hn hfit
  refine W.putK hexec hb (f := f) ⟨hown, hlink, ⟨_, _, _, hsame _ hi⟩, hst⟩ (by rw [q2]; exact h6) q1 q3 (by rw [hsl]; exact k2_hasslot (q4 k hk)) rfl rfl hdg fun H' e1 e2 e3 => ?_
  rw [hsl] at e1 ⊢
  exact kk H' _ e2 ⟨hK, hP.set hD he ⟨_, hc, t_OB.to (V := updV (vp_V fs) k v) ⟨_, e1, q2, q3, t_set q4 hap hk v⟩ (fun j _ => vp_updV_set hl v j)⟩ e3, hD.set he, hS0.put e2 e3 (hD.2 i (by rw [he]; exact Option.some_ne_none _)), hA⟩
theorem xa_oi (hexec : p.tables.exec = Jvm.exec) (hb : c.code = cc) {own : String} (hown : s.vm.findClass own = some m.cls) {idx : Nat}
    (hlink : (Cond.methodLink own idx Lib.objectInit).before args s = true) (hinst : (Cond.instanceMethod Lib.objectInit).before args s = true) (hcode : (Cond.code Lib.objectInit ⟨#[0xb1]⟩ 1 none).before args s = true) (hsize : ls.size = c.maxLocals) {a : Nat} (hd : decode cc pc = .ok (.invokespecial idx, 3))
    (hframes : 1 ≤ R.frames) (hlocals : (rest.map fun v => v.category).sum + 12 ≤ R.locals)
    (kk : W p l e R s m args below meth c H locs cells slots Q (F0 m (pc + 3) ls rest)) : W p l e R s m args below meth c H locs cells slots Q (F0 m pc ls (.ref a :: rest)) :=
  W.objInit hexec hb hown hlink hinst hcode rfl hsize rfl hd hframes (by show 2 * 0 + _ + 12 ≤ _; omega) kk
/-- elements that are references -/
theorem xa_aast (hexec : p.tables.exec = Jvm.exec) (hb : c.code = cc) (hw : xm_W D cl tys A ad ce s H0 H locs) (t0 : Nat) {E : String} {cA : ClassId} {r : vw_C} {n i j ci : Nat} {vs : List Value} {f : Nat → Option Nat} (hi : ce i = some (.inl (cA, n, .inr (.inr (.inr (.inr f)))))) (ht : tys[t0]? = some (cA, .object E)) (hca : va_Nw (.castable r.1 E) s) (hj : ce j = some (.inr (ci, vs))) (hc : cl[ci]? = some r) {x : Int32} (hin : vp_in x n) (hdg : decode cc pc = .ok (.aastore, 1))
    (kk : ∀ (H1 : Heap) (locs1 : List Loc), xm_W D cl tys A ad (va_up ce i (some (.inl (cA, n, .inr (.inr (.inr (.inr (va_up f x.toNatClampNeg (some (ad j)))))))))) s H0 H1 locs1 → W p l e R s m args below meth c H1 locs1 cells slots Q (F0 m (pc + 1) ls rest)) : W p l e R s m args below meth c H locs cells slots Q (F0 m pc ls (.ref (ad j) :: .int x :: .ref (ad i) :: rest)) := by
  have hlt : x.toNatClampNeg < n := Nat.not_le.mp fun q => hin (Or.inr q)
  have h0 : ¬ x < 0 := fun q => hin (Or.inl q)
  obtain ⟨hK, hP, hD, hS, hA⟩ := hw
  obtain ⟨r', hr', cellV, g1, g2, g3, -⟩ := hP j _ hj
  have hcls := (hK.1 ci r hc).2
  obtain ⟨kA, comp, k1, k2, k3, -⟩ := (hK.2 t0 _ ht).2
  obtain ⟨kE, hkE, -⟩ := Vm.findClass_spec k3
  obtain ⟨c0, t1, f1, f2, f3⟩ := Cond.castable_spec (va_Nw.use (A := args) rfl hca)
  cases hcls.1.symm.trans f1
  cases k3.symm.trans f2
  obtain ⟨kC, hkC, -⟩ := hcls.2
  refine W.aast hexec hb (hP i _ hi) (fun q h => by cases h) (fun h => by cases h) k1 k2 rfl hkE ⟨h0, by show _ < (arrV _ _ _).slots.size; rw [arrV_size]; exact hlt⟩ g1 (fun q h => by rw [g3] at h; cases h) (by rw [g2]; exact hkC) (by rw [g2]; exact f3) rfl rfl hdg fun H1 e z oq => ?_
  refine kk H1 _ ⟨hK, hP.set hD hi ?_ oq, hD.set hi, hS.put z oq (hD.2 i (by rw [hi]; exact Option.some_ne_none _)), hA⟩
  show H1[ad i]? = some (vp_cell _ _)
  rw [e]
  rw [vp_cell_q, vp_cell_q, arrV_store]
  congr 2
  funext q
  by_cases hq : q = x.toNatClampNeg
  · subst hq
    simp [updV, va_up, va_rf]
  · simp [updV, va_up, hq]
theorem xa_aastN (hexec : p.tables.exec = Jvm.exec) (hb : c.code = cc) (hw : xm_W D cl tys A ad ce s H0 H locs) (t0 : Nat) {C : String} {cA : ClassId} {n i : Nat} {f : Nat → Option Nat} (hi : ce i = some (.inl (cA, n, .inr (.inr (.inr (.inr f)))))) (ht : tys[t0]? = some (cA, .object C)) {x : Int32} (hin : vp_in x n) (hdg : decode cc pc = .ok (.aastore, 1))
    (kk : ∀ (H1 : Heap) (locs1 : List Loc), xm_W D cl tys A ad (va_up ce i (some (.inl (cA, n, .inr (.inr (.inr (.inr (va_up f x.toNatClampNeg none)))))))) s H0 H1 locs1 → W p l e R s m args below meth c H1 locs1 cells slots Q (F0 m (pc + 1) ls rest)) : W p l e R s m args below meth c H locs cells slots Q (F0 m pc ls (.null :: .int x :: .ref (ad i) :: rest)) := by
  obtain ⟨hK, hP, hD, hS, hA⟩ := hw
  refine va_WaastN (C := C) hexec hb (hP i _ hi) ((hK.2 t0 _ ht).1 n (fun j => va_rf (f j))) (fun h => by cases h) (by show ¬ (x < 0 ∨ (arrV _ _ _).slots.size ≤ _); rw [arrV_size]; exact hin) rfl rfl hdg fun H1 e z oq => ?_
  refine kk H1 _ ⟨hK, hP.set hD hi ?_ oq, hD.set hi, hS.put z oq (hD.2 i (by rw [hi]; exact Option.some_ne_none _)), hA⟩
  show H1[ad i]? = some (vp_cell _ _)
  rw [e]
  rw [vp_cell_q, vp_cell_q, arrV_store]
  congr 2
  funext q
  by_cases hq : q = x.toNatClampNeg
  · subst hq
    simp [updV, va_up, va_rf]
  · simp [updV, va_up, hq]
end XA
theorem xg_cwI {R : Room} {s : State} {args : Array Value} {own : String} {index : Nat} {y : MethodName} {bytes : ByteArray} {maxL mc ms : Nat} {rm : Room} {c0 : Cond} (n : Nat) (ht : ∀ w ∈ c0 :: xg, w.before args s = true) (hcd : Cond.code y bytes maxL none ∈ xg) (hl : Cond.methodLink own index y ∈ xg) (hi : Cond.instanceMethod y ∈ xg) (hin : Cond.initialized y.cls ∈ xg) (hrc : rm.cells = mc) (hrs : rm.slots = ms) (hy1 : y.name = "<init>")
    (hd : y.cls ≠ "java/lang/invoke/MethodHandle" ∧ y.cls ≠ "java/lang/invoke/VarHandle" ∧ (parseMethodDescriptor y.desc).map (fun d => d.parameters.length) = some n) (hR : rm.frames + 1 ≤ R.frames ∧ 8 + (maxL + 11) + rm.locals ≤ R.locals) :
    CallB R s args own index y bytes maxL none (Cond.code y bytes maxL none :: xg) rm mc ms n ∧ y.name = "<init>" ∧ (Cond.instanceMethod y).before args s = true := by
  refine cwI n ht ?_ rfl hrc hrs (ht _ (List.mem_cons_of_mem _ hin)) (ht _ (List.mem_cons_of_mem _ hl)) (ht _ (List.mem_cons_of_mem _ hi)) hy1 hd hR
  intro w hw
  rcases List.mem_cons.mp hw with rfl | h
  · exact xg_in hcd
  · exact xg_in h
theorem xg_cnI {R : Room} {s : State} {args : Array Value} {own host : String} {index : Nat} {y : MethodName} {bytes : ByteArray} {maxL mc ms : Nat} {rm : Room} {c0 : Cond} (n : Nat) (ht : ∀ w ∈ c0 :: xg, w.before args s = true) (hcd : Cond.code y bytes maxL none ∈ xg) (hl : va_Nw (.methodLinkNest own index y host) s) (hi : Cond.instanceMethod y ∈ xg) (hin : Cond.initialized y.cls ∈ xg) (hrc : rm.cells = mc) (hrs : rm.slots = ms) (hy1 : y.name = "<init>")
    (hd : y.cls ≠ "java/lang/invoke/MethodHandle" ∧ y.cls ≠ "java/lang/invoke/VarHandle" ∧ (parseMethodDescriptor y.desc).map (fun d => d.parameters.length) = some n) (hR : rm.frames + 1 ≤ R.frames ∧ 8 + (maxL + 11) + rm.locals ≤ R.locals) :
    va_CN R s args own index y host bytes maxL none (Cond.code y bytes maxL none :: xg) rm mc ms n ∧ y.name = "<init>" ∧ (Cond.instanceMethod y).before args s = true := by
  refine ⟨va_cnB n ht ?_ rfl hrc hrs hl (ht _ (List.mem_cons_of_mem _ hin)) hd hR, hy1, ht _ (List.mem_cons_of_mem _ hi)⟩
  intro w hw
  rcases List.mem_cons.mp hw with rfl | h
  · exact xg_in hcd
  · exact xg_in h
/-! what java.util.ArrayList stands on beside: the static array that it begins with, arrays of Object, its class object -/
def xq_ok (t0 mi : Nat) (A : Nat → Prop) (U : State) (H : Heap) : Prop := va_Z "java/util/ArrayList" "DEFAULTCAPACITY_EMPTY_ELEMENTDATA" "[Ljava/lang/Object;" (.ref t0) A U H ∧ va_T (.object "java/lang/Object") t0 0 (fun _ => .null) A U H ∧ va_AO "java/lang/Object" U ∧ va_Nw (.castable "QuestionDesk$Rule" "java/lang/Object") U ∧ va_Mi "[Ljava/lang/Object;" mi U ∧ va_Dc U
theorem xq_ok.to {t0 mi : Nat} {A B : Nat → Prop} {s U : State} {H H1 : Heap} (h : xq_ok t0 mi A s H) (hW : s.WarmedH U.vm) (hq : ∀ a : Nat, a < H.size → ¬ A a → H1[a]? = H[a]?) (hAB : ∀ q, B q → A q) : xq_ok t0 mi B U H1 := by
  obtain ⟨h1, h2, h3, h4, h5, h6⟩ := h
  exact ⟨((h1.kept hq).narrow hAB).moved hW.alike, ((h2.kept hq).narrow hAB).moved hW.alike, h3.moved hW.alike, h4.warmC hW, h5.moved hW.alike, h6.moved hW.alike⟩
def xq_Pc (t0 mi : Nat) (D : va_G) (cl : List vw_C) (tys : List (ClassId × FieldType)) (ad : Nat → Nat) (ce : Nat → Option va_E) (sz : Nat) (av : List Value) : Array Value → State → Prop := fun a U => xm_Pc D cl tys ad ce sz av a U ∧ xq_ok t0 mi (xm_A ad ce sz) U U.heap
theorem xq_pre {t0 mi : Nat} {D : va_G} {cl : List vw_C} {tys : List (ClassId × FieldType)} {A : Nat → Prop} {ad : Nat → Nat} {ce : Nat → Option va_E} {s : State} {H : Heap} {locs : List Loc} (hw : xm_W D cl tys A ad ce s s.heap H locs) (ht : xq_ok t0 mi A s s.heap) (As : List Value) : PreS s H (xq_Pc t0 mi D cl tys ad ce H.size As) As :=
  ⟨fun a U g mk q => ⟨(xm_pre hw As).1 a U g mk (by obtain ⟨⟨q0, q1, q2⟩, -⟩ := q; exact ⟨q0, q1, q2⟩), q.2.to (U := U.calling g mk a) (State.WarmedH.refl U) (fun _ _ _ => rfl) (fun _ h => h)⟩, fun U hU hW => ⟨(xm_pre hw As).2 U hU hW, by rw [hU]; exact ht.to hW (hw.2.2.2.1.2.1) (hw.free)⟩⟩
theorem xq_preV {t0 mi : Nat} {D : va_G} {cl : List vw_C} {tys : List (ClassId × FieldType)} {A : Nat → Prop} {ad : Nat → Nat} {ce : Nat → Option va_E} {s : State} {H : Heap} {locs : List Loc} (hw : xm_W D cl tys A ad ce s s.heap H locs) (ht : xq_ok t0 mi A s s.heap) {i ci : Nat} {q : vw_C} {fs : List Value} (hi : ce i = some (.inr (ci, fs))) (hc : cl[ci]? = some q) (As : List Value) : PreV s H q.1 (ad i) (xq_Pc t0 mi D cl tys ad ce H.size (.ref (ad i) :: As)) As :=
  ⟨(xq_pre hw ht (.ref (ad i) :: As)).1, va_recv hw.1 (xm_one hw.2.1 hi) hc (q0 := 0) rfl, (xq_pre hw ht (.ref (ad i) :: As)).2⟩
theorem xq_ofW {l : Launch} {y : MethodName} {ws ws' : List Cond} {rm : Room} {mc ms : Nat} {cc : ByteArray} {maxL : Nat} {ret : Option FieldType} {t0 mi : Nat} {D : va_G} {cl : List vw_C} {tys : List (ClassId × FieldType)} {ad : Nat → Nat} {ce : Nat → Option va_E} {av : List Value} {Qc : Nat → Array Value → State → Outcome → State → Prop}
    (hy : plainName y.cls = true) (hwd : ws = Cond.code y cc maxL ret :: ws') (hlen : (lg_sl av).length ≤ maxL)
    (body : ∀ (p : Program) (e : Env) (s : State) (m : MethodId) (args : Array Value) (below : List Frame) (meth : Method) (c : Code) (ls : Array Slot) (QQ : State → Prop), QQ = MQ below (Qc s.heap.size) args s mc ms (xm_A ad ce s.heap.size) → xq_ok t0 mi (xm_A ad ce s.heap.size) s s.heap → p.tables.exec = Jvm.exec → c.code = cc → c.maxLocals = maxL → meth.sig.returnType = ret → s.vm.findClass y.cls = some m.cls → meth.locks = false → meth.name = y.name → (∀ w ∈ ws, w.before args s = true) → lv_has ls maxL (lv_args 0 av) → xm_W D cl tys (xm_A ad ce s.heap.size) ad ce s s.heap s.heap [] →
      W p l e rm s m args below meth c s.heap [] 0 0 QQ (F0 m 0 ls [])) :
    ∀ sz, Met l y ws rm (xq_Pc t0 mi D cl tys ad ce sz av) (Qc sz) mc ms (xm_A ad ce sz) := by
  intro sz
  refine Met.ofW (cc := cc) (maxL := maxL) (ret := ret) hy hwd ?_
  intro p e s m args below meth c s₁ B hml hv
  obtain ⟨⟨hargs, hsz, hP, hK, hD, hN⟩, hT⟩ := hv
  subst hsz
  have hE : entryFrame m args maxL = F0 m 0 ((lg_sl av ++ List.replicate (maxL - (lg_sl av).length) Slot.unset).toArray) [] := by rw [hargs, lg_entry_eq]
  rw [hE]
  exact body p e s m args below meth c _ _ rfl hT B.exec B.bytes hml B.returns (findClass_of_methodNamed B.named) B.notSynchronized (name_of_methodNamed B.named B.method).1 (atoms_spec (ws := ws) B.pre) (lv_entry av hlen) ⟨hK, hP, ⟨hD.1, fun i hi => Or.inl ⟨i, hi, rfl⟩⟩, va_S.rf, fun q h => Or.inr h, hN⟩
theorem xa_uu {α : Type} (f : Nat → α) (k : Nat) (x y : α) : va_up (va_up f k x) k y = va_up f k y := by
  funext j
  unfold va_up
  split <;> rfl
theorem xa_uc {α : Type} (f : Nat → α) {k j : Nat} (h : k ≠ j) (x y : α) : va_up (va_up f k x) j y = va_up (va_up f j y) k x := by
  funext i
  unfold va_up
  split
  · split
    · rename_i a b; exact absurd (b.symm.trans a) h
    · rfl
  · rfl
