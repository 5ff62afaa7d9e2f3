/-! references: elements of arrays, answers -/
def xm_Br {S : Type} (D : va_G) (cl : List vw_C) (tys : List (ClassId × FieldType)) (A : Nat → Prop) (ua : S → Nat → Nat) (uc : S → Nat → Option va_E) (ix : S → Nat) : S → Nat → State → Prop := fun u a t => a = ua u (ix u) ∧ xm_B D cl tys A ua uc u t
section XR
variable {p : Program} {l : Launch} {e : Env} {R : Room} {s : State} {m : MethodId} {args : Array Value} {below : List Frame} {meth : Method} {c : Code} {H : Heap} {locs : List Loc} {cells slots : Nat} {Q : State → Prop}
variable {cc : ByteArray} {pc : Nat} {ls : Array Slot} {rest : List Value} {D : va_G} {cl : List vw_C} {A : Nat → Prop} {tys : List (ClassId × FieldType)} {ad : Nat → Nat} {ce : Nat → Option va_E} {H0 : Heap}
theorem xm_aaldS (hexec : p.tables.exec = Jvm.exec) (hb : c.code = cc) (hw : xm_W D cl tys A ad ce s H0 H locs) (t0 : Nat) {cA : ClassId} {C : String} {n i a : Nat} {f : Nat → Option Nat} (hi : ce i = some (.inl (cA, n, .inr (.inr (.inr (.inr f)))))) (ht : tys[t0]? = some (cA, .object C)) {x : Int32} (hin : vp_in x n) (hv : f x.toNatClampNeg = some a) (hdg : decode cc pc = .ok (.aaload, 1))
    (kk : W p l e R s m args below meth c H locs cells slots Q (F0 m (pc + 1) ls (.ref a :: rest))) : W p l e R s m args below meth c H locs cells slots Q (F0 m pc ls (.int x :: .ref (ad i) :: rest)) := by
  refine xm_aald hexec hb hw t0 hi ht hin hdg ?_
  rw [hv]
  exact kk
theorem xm_callr {S : Type} {post : S → Prop} {ua : S → Nat → Nat} {uc : S → Nat → Option va_E} {ix : S → Nat} {st0 : List Value} {a : Array Value} {mc ms : Nat}
    (hr : va_Run p l e R s m args below meth c H locs cells slots mc ms (F0 m pc ls st0) rest (va_Qr post (xm_Br D cl tys (xm_A ad ce H.size) ua uc ix) (xm_A ad ce H.size) a) (xm_A ad ce H.size)) (hw : xm_W D cl tys A ad ce s H0 H locs)
    (kk : ∀ (u : S) (H1 : Heap) (locs1 : List Loc), post u → xm_W D cl tys A (ua u) (uc u) s H0 H1 locs1 → W p l e R s m args below meth c H1 locs1 (cells + mc) (slots + ms) Q (F0 m (pc + 3) ls (.ref (ua u (ix u)) :: rest))) : W p l e R s m args below meth c H locs cells slots Q (F0 m pc ls st0) := by
  have hF := hw.free
  refine va_callr hr hw.2.2.2.1 (fun q _ h => hF q h) hF (fun u ra t H1 locs1 ht hvm hp hB hz hk hS => ?_)
  obtain ⟨rfl, hP1, hK1, hD1⟩ := hB
  rw [ht] at hP1
  exact kk u H1 locs1 hp ⟨hw.1, hP1, ⟨hD1.1, fun i hi => hF _ (hD1.2 i hi)⟩, hS, hw.2.2.2.2⟩
theorem xm_aret {S : Type} {post : S → Prop} {ua : S → Nat → Nat} {uc : S → Nat → Option va_E} {ix : S → Nat} {ad1 : Nat → Nat} {ce1 : Nat → Option va_E} {a : Nat} {cn : String} (hexec : p.tables.exec = Jvm.exec) (hb : c.code = cc) (hr : meth.sig.returnType = some (.object cn)) (hlocks : meth.locks = false) (hw : xm_W D cl tys (xm_A ad ce s.heap.size) ad1 ce1 s s.heap H locs) (u : S) (hua : ua u = ad1) (huc : uc u = ce1) (hix : a = ad1 (ix u)) (hpost : post u) (hdg : decode cc pc = .ok (.areturn, 1)) :
    W p l e R s m args below meth c H locs cells slots (MQ below (va_Qr post (xm_Br D cl tys (xm_A ad ce s.heap.size) ua uc ix) (xm_A ad ce s.heap.size)) args s cells slots (xm_A ad ce s.heap.size)) (F0 m pc ls [.ref a]) := by
  subst hua; subst huc; subst hix
  exact W.aret (v := .ref (ua u (ix u))) hexec hb hr (Or.inl ⟨_, rfl⟩) (Or.inr ⟨_, rfl⟩) (fun t ht hW => ⟨⟨u, _, rfl, hpost, rfl, by rw [ht]; exact hw.2.1, va_K.moved hW.alike hw.1, hw.2.2.1⟩, hw.2.2.2.1.F ht⟩) hw.2.2.2.1.2.2 hdg
theorem xm_cast (hexec : p.tables.exec = Jvm.exec) (hb : c.code = cc) {own nm : String} {index ci i : Nat} {T : u_T} {N : Nat} {fs : List Value} (hown : s.vm.findClass own = some m.cls) (hlink : (Cond.classLink own index nm).before args s = true) (hw : xm_W D cl tys A ad ce s H0 H locs) (hi : ce i = some (.inr (ci, fs))) (hc : cl[ci]? = some (nm, T, N)) (hdg : decode cc pc = .ok (.checkcast index, 3))
    (k : W p l e R s m args below meth c H locs cells slots Q (F0 m (pc + 3) ls (.ref (ad i) :: rest))) : W p l e R s m args below meth c H locs cells slots Q (F0 m pc ls (.ref (ad i) :: rest)) :=
  va_castE hexec hb hown hlink (va_recv (q := (nm, T, N)) hw.1 (xm_one hw.2.1 hi) hc (q0 := 0) rfl) hdg k
end XR

