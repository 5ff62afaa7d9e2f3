/-! a contract of a method with handlers, from a walk of the body -/
def xh_Nc (U : State) : Prop := va_Nc "java/lang/IllegalArgumentException" "java/lang/IllegalStateException" U
def xh_Pc (D : va_G) (cl : List vw_C) (tys : List (ClassId × FieldType)) (ad : Nat → Nat) (ce : Nat → Option va_E) (sz : Nat) (av : List Value) : Array Value → State → Prop := fun a U => xv_Pc D cl tys ad ce sz av a U ∧ xh_Nc U
theorem xh_pre {D : va_G} {cl : List vw_C} {tys : List (ClassId × FieldType)} {A : Nat → Prop} {ad : Nat → Nat} {ce : Nat → Option va_E} {s : State} {H : Heap} {locs : List Loc} (hw : xm_W D cl tys A ad ce s s.heap H locs) (ht : xt_ok A s s.heap) (hn : xh_Nc s) (As : List Value) : PreS s H (xh_Pc D cl tys ad ce H.size As) As :=
  ⟨fun a U g mk q => ⟨(xv_pre hw ht As).1 a U g mk q.1, q.2.moved (u := U) (U := U.calling g mk a) (Vm.Alike.refl U.vm)⟩, fun U hU hW => ⟨(xv_pre hw ht As).2 U hU hW, hn.moved hW.alike⟩⟩
theorem xh_ofW {l : Launch} {y : MethodName} {ws ws' : List Cond} {rm : Room} {mc ms : Nat} {cc : ByteArray} {maxL : Nat} {ret : Option FieldType} {hh : List (Nat × Nat × Nat × Nat)} {D : va_G} {cl : List vw_C} {tys : List (ClassId × FieldType)} {ad : Nat → Nat} {ce : Nat → Option va_E} {av : List Value} {Qc : Nat → Array Value → State → Outcome → State → Prop}
    (hy : plainName y.cls = true) (hwd : ws = Cond.codeWith y cc maxL ret hh :: ws') (hlen : (lg_sl av).length ≤ maxL)
    (body : ∀ (p : Program) (e : Env) (s : State) (m : MethodId) (args : Array Value) (below : List Frame) (meth : Method) (c : Code) (ls : Array Slot) (QQ : State → Prop), QQ = MQ below (Qc s.heap.size) args s mc ms (xm_A ad ce s.heap.size) → xt_ok (xm_A ad ce s.heap.size) s s.heap → xh_Nc s → c.exceptionTable.toList = tableOf hh → p.tables.exec = Jvm.exec → c.code = cc → c.maxLocals = maxL → meth.sig.returnType = ret → s.vm.findClass y.cls = some m.cls → meth.locks = false → meth.name = y.name → (∀ w ∈ ws, w.before args s = true) → lv_has ls maxL (lv_args 0 av) → xm_W D cl tys (xm_A ad ce s.heap.size) ad ce s s.heap s.heap [] →
      W p l e rm s m args below meth c s.heap [] 0 0 QQ (F0 m 0 ls [])) :
    ∀ sz, Met l y ws rm (xh_Pc D cl tys ad ce sz av) (Qc sz) mc ms (xm_A ad ce sz) := by
  intro sz
  refine va_MetW (cc := cc) (maxL := maxL) (ret := ret) (hh := hh) hy hwd ?_
  intro p e s m args below meth c s₁ B hml hv
  obtain ⟨⟨⟨hargs, hsz, hP, hK, hD, hN⟩, hT⟩, hNc⟩ := hv
  subst hsz
  have hE : entryFrame m args maxL = F0 m 0 ((lg_sl av ++ List.replicate (maxL - (lg_sl av).length) Slot.unset).toArray) [] := by rw [hargs, lg_entry_eq]
  rw [hE]
  have hts := atoms_spec (ws := ws) B.pre
  exact body p e s m args below meth c _ _ rfl hT hNc (vx_table (x := y) B (hts _ (by rw [hwd]; exact List.mem_cons_self))) B.exec B.bytes hml B.returns (findClass_of_methodNamed B.named) B.notSynchronized (name_of_methodNamed B.named B.method).1 hts (lv_entry av hlen) ⟨hK, hP, ⟨hD.1, fun i hi => Or.inl ⟨i, hi, rfl⟩⟩, va_S.rf, fun q h => Or.inr h, hN⟩
