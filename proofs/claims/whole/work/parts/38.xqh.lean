/-! a contract of a method with handlers that nothing reaches here, over a list -/
theorem xqh_ofW {l : Launch} {y : MethodName} {ws ws' : List Cond} {rm : Room} {mc ms : Nat} {cc : ByteArray} {maxL : Nat} {ret : Option FieldType} {hh : List (Nat × Nat × Nat × Nat)} {t0 mi : Nat} {D : va_G} {cl : List vw_C} {tys : List (ClassId × FieldType)} {ad : Nat → Nat} {ce : Nat → Option va_E} {av : List Value} {Qc : Nat → Array Value → State → Outcome → State → Prop}
    (hy : plainName y.cls = true) (hwd : ws = Cond.codeWith y cc maxL ret hh :: ws') (hlen : (lg_sl av).length ≤ maxL)
    (body : ∀ (p : Program) (e : Env) (s : State) (m : MethodId) (args : Array Value) (below : List Frame) (meth : Method) (c : Code) (ls : Array Slot) (QQ : State → Prop), QQ = MQ below (Qc s.heap.size) args s mc ms (xm_A ad ce s.heap.size) → xq_ok t0 mi (xm_A ad ce s.heap.size) s s.heap → c.exceptionTable.toList = tableOf hh → p.tables.exec = Jvm.exec → c.code = cc → c.maxLocals = maxL → meth.sig.returnType = ret → s.vm.findClass y.cls = some m.cls → meth.locks = false → meth.name = y.name → (∀ w ∈ ws, w.before args s = true) → lv_has ls maxL (lv_args 0 av) → xm_W D cl tys (xm_A ad ce s.heap.size) ad ce s s.heap s.heap [] →
      W p l e rm s m args below meth c s.heap [] 0 0 QQ (F0 m 0 ls [])) :
    ∀ sz, Met l y ws rm (xq_Pc t0 mi D cl tys ad ce sz av) (Qc sz) mc ms (xm_A ad ce sz) := by
  intro sz
  refine va_MetW (cc := cc) (maxL := maxL) (ret := ret) (hh := hh) hy hwd ?_
  intro p e s m args below meth c s₁ B hml hv
  obtain ⟨⟨hargs, hsz, hP, hK, hD, hN⟩, hT⟩ := hv
  subst hsz
  have hE : entryFrame m args maxL = F0 m 0 ((lg_sl av ++ List.replicate (maxL - (lg_sl av).length) Slot.unset).toArray) [] := by rw [hargs, lg_entry_eq]
  rw [hE]
  have hts := atoms_spec (ws := ws) B.pre
  exact body p e s m args below meth c _ _ rfl hT (vx_table (x := y) B (hts _ (by rw [hwd]; exact List.mem_cons_self))) B.exec B.bytes hml B.returns (findClass_of_methodNamed B.named) B.notSynchronized (name_of_methodNamed B.named B.method).1 hts (lv_entry av hlen) ⟨hK, hP, ⟨hD.1, fun i hi => Or.inl ⟨i, hi, rfl⟩⟩, va_S.rf, fun q h => Or.inr h, hN⟩
section XQ
variable {p : Program} {l : Launch} {e : Env} {R : Room} {s : State} {m : MethodId} {args : Array Value} {below : List Frame} {meth : Method} {c : Code} {H : Heap} {locs : List Loc} {cells slots : Nat} {Q : State → Prop}
variable {cc : ByteArray} {pc : Nat} {ls : Array Slot} {rest : List Value} {D : va_G} {cl : List vw_C} {A : Nat → Prop} {tys : List (ClassId × FieldType)} {ad : Nat → Nat} {ce : Nat → Option va_E} {H0 : Heap}
theorem xa_aret {S : Type} {post : S → Prop} {ua : S → Nat → Nat} {uc : S → Nat → Option va_E} {ix : S → Nat} {ad1 : Nat → Nat} {ce1 : Nat → Option va_E} {a : Nat} {rt : FieldType} (hexec : p.tables.exec = Jvm.exec) (hb : c.code = cc) (hr : meth.sig.returnType = some (.array rt)) (hlocks : meth.locks = false) (hw : xm_W D cl tys (xm_A ad ce s.heap.size) ad1 ce1 s s.heap H locs) (u : S) (hua : ua u = ad1) (huc : uc u = ce1) (hix : a = ad1 (ix u)) (hpost : post u) (hdg : decode cc pc = .ok (.areturn, 1)) :
    W p l e R s m args below meth c H locs cells slots (MQ below (va_Qr post (xm_Br D cl tys (xm_A ad ce s.heap.size) ua uc ix) (xm_A ad ce s.heap.size)) args s cells slots (xm_A ad ce s.heap.size)) (F0 m pc ls [.ref a]) := by
  subst hua; subst huc; subst hix
  exact W.aret (v := .ref (ua u (ix u))) hexec hb hr (Or.inr ⟨_, rfl⟩) (Or.inr ⟨_, rfl⟩) (fun t ht hW => ⟨⟨u, _, rfl, hpost, rfl, by rw [ht]; exact hw.2.1, va_K.moved hW.alike hw.1, hw.2.2.1⟩, hw.2.2.2.1.F ht⟩) hw.2.2.2.1.2.2 hdg
/-- getClass() of an array of Object -/
theorem xa_getC (hexec : p.tables.exec = Jvm.exec) (hb : c.code = cc) (hml : c.maxLocals = ls.size) {own : String} {index mi i n : Nat} {cO : ClassId} {f : Nat → Option Nat} (hown : s.vm.findClass own = some m.cls) (hlink : (Cond.methodLink own index ⟨"java/lang/Object", "getClass", "()Ljava/lang/Class;"⟩).before args s = true) (hdecl : va_Dc s)
    (hsel : (Cond.selects "[Ljava/lang/Object;" ⟨"java/lang/Object", "getClass", "()Ljava/lang/Class;"⟩ ⟨"java/lang/Object", "getClass", "()Ljava/lang/Class;"⟩).before args s = true) (hinst : (Cond.instanceMethod ⟨"java/lang/Object", "getClass", "()Ljava/lang/Class;"⟩).before args s = true) (hnat : (Cond.native ⟨"java/lang/Object", "getClass", "()Ljava/lang/Class;"⟩).before args s = true) (hM : va_Mi "[Ljava/lang/Object;" mi s)
    (hw : xm_W D cl tys A ad ce s H0 H locs) (t0 : Nat) (ht : tys[t0]? = some (cO, .object "java/lang/Object")) (hi : ce i = some (.inl (cO, n, .inr (.inr (.inr (.inr f)))))) (hframes : 1 ≤ R.frames) (hlocals : (rest.map fun v => v.category).sum + 14 ≤ R.locals) (hdg : decode cc pc = .ok (.invokevirtual index, 3))
    (k : W p l e R s m args below meth c H locs cells slots Q (F0 m (pc + 3) ls (.ref mi :: rest))) : W p l e R s m args below meth c H locs cells slots Q (F0 m pc ls (.ref (ad i) :: rest)) :=
  va_getC hexec hb hml hown hlink hdecl.use hsel hinst hnat hM ⟨_, hw.2.1 i _ hi, rfl, va_nmO (hw.1.2 t0 _ ht).2 (by decide)⟩ hframes hlocals hdg k
end XQ
