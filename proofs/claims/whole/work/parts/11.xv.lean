/-! METHODS THAT MAY THROW, over my worlds: what is thrown is thrown before anything is changed -/
def xt_at1 : List Cond := vx_atS "QuestionDesk" 175 "java/lang/IllegalArgumentException" ["java/lang/RuntimeException", "java/lang/Exception"]
def xt_at2 : List Cond := vx_atS "QuestionDesk" 93 "java/lang/IllegalStateException" ["java/lang/RuntimeException", "java/lang/Exception"]
def xt_dc : Cond → Bool
  | .declares _ => true
  | .castable _ _ => true
  | _ => false
def xt_bad : List Cond := (xt_at1 ++ xt_at2).filter (fun w => !goodWord w)
theorem xt_bad_dc : ∀ w ∈ xt_bad, xt_dc w = true := by decide +kernel
theorem xt_good : ∀ w ∈ (xt_at1 ++ xt_at2).filter goodWord, w ∈ xg := by decide +kernel
theorem xt_warm {w : Cond} {s U : State} (hd : xt_dc w = true) (hW : s.WarmedH U.vm) (h : va_Nw w s) : va_Nw w U := by
  cases w <;> first | exact h.warmD hW | exact h.warmC hW | (cases hd)
theorem xt_tab {w : Cond} (hd : xt_dc w = true) : w.onTables = true := by
  cases w <;> first | rfl | (cases hd)
def xt_ok (A : Nat → Prop) (U : State) (H : Heap) : Prop := (∃ q, vk_R "QuestionDesk" 173 "no such predicate, or not for its places" q U) ∧ (∃ q, vk_R "QuestionDesk" 91 "no rule has begun, or its body is full" q U) ∧ (∃ q, vk_R "QuestionDesk" 99 "no rule has begun" q U) ∧
  vx_Zq Bundle.tN "UNASSIGNED_STACK" Bundle.steD A U H ∧ vx_Zq Bundle.tN "SUPPRESSED_SENTINEL" Bundle.listD A U H ∧ ∀ w ∈ xt_bad, va_Nw w U
theorem xt_ok.to {A B : Nat → Prop} {s U : State} {H H1 : Heap} (h : xt_ok A s H) (hW : s.WarmedH U.vm) (hq : ∀ a : Nat, a < H.size → ¬ A a → H1[a]? = H[a]?) (hAB : ∀ q, B q → A q) : xt_ok B U H1 := by
  obtain ⟨⟨q1, h1⟩, ⟨q2, h2⟩, ⟨q3, h3⟩, h4, h5, h6⟩ := h
  exact ⟨⟨q1, h1.warm hW⟩, ⟨q2, h2.warm hW⟩, ⟨q3, h3.warm hW⟩, ((h4.kept hq).narrow hAB).moved hW.alike, ((h5.kept hq).narrow hAB).moved hW.alike, fun w hw => xt_warm (xt_bad_dc w hw) hW (h6 w hw)⟩
theorem xt_ok.hat {A : Nat → Prop} {s : State} {H : Heap} {args : Array Value} {c0 : Cond} {L : List Cond} (h : xt_ok A s H) (hts : ∀ w ∈ c0 :: xg, w.before args s = true) (h1 : ∀ w ∈ L, w ∈ xt_at1 ++ xt_at2) : ∀ w ∈ L, w.before args s = true := by
  intro w hw
  by_cases g : goodWord w = true
  · exact hts w (List.mem_cons_of_mem _ (xt_good w (List.mem_filter.mpr ⟨h1 w hw, g⟩)))
  · have hb : w ∈ xt_bad := List.mem_filter.mpr ⟨h1 w hw, by cases hg : goodWord w with | true => exact absurd hg g | false => rfl⟩
    exact (h.2.2.2.2.2 w hb).use (xt_tab (xt_bad_dc w hb))
def xv_Pc (D : va_G) (cl : List vw_C) (tys : List (ClassId × FieldType)) (ad : Nat → Nat) (ce : Nat → Option va_E) (sz : Nat) (av : List Value) : Array Value → State → Prop := fun a U => xm_Pc D cl tys ad ce sz av a U ∧ xt_ok (xm_A ad ce sz) U U.heap
abbrev xv_X (D : va_G) (cl : List vw_C) (tys : List (ClassId × FieldType)) (A : Nat → Prop) (ad : Nat → Nat) (ce : Nat → Option va_E) (pex : String → Prop) : String → State → State → Prop := vx_X (fun _ : Unit => True) (fun E _ t => pex E ∧ xm_B D cl tys A (fun _ : Unit => ad) (fun _ => ce) () t) A
theorem xv_pre {D : va_G} {cl : List vw_C} {tys : List (ClassId × FieldType)} {A : Nat → Prop} {ad : Nat → Nat} {ce : Nat → Option va_E} {s : State} {H : Heap} {locs : List Loc} (hw : xm_W D cl tys A ad ce s s.heap H locs) (ht : xt_ok A s s.heap) (As : List Value) : PreS s H (xv_Pc D cl tys ad ce H.size As) As :=
  ⟨fun a U g mk q => ⟨(xm_pre hw As).1 a U g mk (by obtain ⟨⟨q0, q1, q2⟩, -⟩ := q; exact ⟨q0, q1, q2⟩), q.2.to (U := U.calling g mk a) (State.WarmedH.refl U) (fun _ _ _ => rfl) (fun _ h => h)⟩, fun U hU hW => ⟨(xm_pre hw As).2 U hU hW, by rw [hU]; exact ht.to hW (hw.2.2.2.1.2.1) (hw.free)⟩⟩
theorem xv_preV {D : va_G} {cl : List vw_C} {tys : List (ClassId × FieldType)} {A : Nat → Prop} {ad : Nat → Nat} {ce : Nat → Option va_E} {s : State} {H : Heap} {locs : List Loc} (hw : xm_W D cl tys A ad ce s s.heap H locs) (ht : xt_ok A s s.heap) {i ci : Nat} {q : vw_C} {fs : List Value} (hi : ce i = some (.inr (ci, fs))) (hc : cl[ci]? = some q) (As : List Value) : PreV s H q.1 (ad i) (xv_Pc D cl tys ad ce H.size (.ref (ad i) :: As)) As :=
  ⟨(xv_pre hw ht (.ref (ad i) :: As)).1, va_recv hw.1 (xm_one hw.2.1 hi) hc (q0 := 0) rfl, (xv_pre hw ht (.ref (ad i) :: As)).2⟩
theorem xm_P.kept2 {D : va_G} {cl : List vw_C} {ad : Nat → Nat} {ce : Nat → Option va_E} {H H1 : Heap} (h : xm_P D cl ad ce H) (hk : ∀ q : Nat, q < H.size → H1[q]? = H[q]?) : xm_P D cl ad ce H1 := fun i x hi => (h i x hi).kept (hk _ (h i x hi).lt)
section XV
variable {p : Program} {l : Launch} {e : Env} {R : Room} {s : State} {m : MethodId} {args : Array Value} {below : List Frame} {meth : Method} {c : Code} {H : Heap} {locs : List Loc} {cells slots : Nat} {Q : State → Prop}
variable {cc : ByteArray} {pc : Nat} {ls : Array Slot} {rest : List Value} {D : va_G} {cl : List vw_C} {A : Nat → Prop} {tys : List (ClassId × FieldType)} {ad : Nat → Nat} {ce : Nat → Option va_E} {H0 : Heap}
theorem xv_calli {S : Type} {post : Int32 → S → Prop} {pex : String → Prop} {ua : S → Nat → Nat} {uc : S → Nat → Option va_E} {st0 : List Value} {a : Array Value} {mc ms : Nat}
    (hr : vx_Run p l e R s m args below meth c H locs cells slots mc ms (F0 m pc ls st0) rest (va_Qi post (xm_B D cl tys (xm_A ad ce H.size) ua uc) (xm_A ad ce H.size) a) (xv_X D cl tys (xm_A ad ce H.size) ad ce pex) (xm_A ad ce H.size)) (hw : xm_W D cl tys A ad ce s H0 H locs)
    (kx : ∀ (E : String) (c9 : Cell) (q9 : Addr) (H1 : Heap) (locs1 : List Loc), pex E → xm_W D cl tys A ad ce s H0 H1 locs1 → H1[q9]? = some c9 → c9.vm = .none → s.vm.findClass E = some c9.cls → vx_W p l e R s m args below meth c H1 locs1 (cells + mc) (slots + ms) Q (F0 m pc ls rest) q9)
    (kk : ∀ (r : Int32) (u : S) (H1 : Heap) (locs1 : List Loc), post r u → xm_W D cl tys A (ua u) (uc u) s H0 H1 locs1 → W p l e R s m args below meth c H1 locs1 (cells + mc) (slots + ms) Q (F0 m (pc + 3) ls (.int r :: rest))) : W p l e R s m args below meth c H locs cells slots Q (F0 m pc ls st0) := by
  have hF := hw.free
  refine vx_calli hr hw.2.2.2.1 (fun q _ h => hF q h) hF (fun q _ h => hF q h) (fun E c9 q9 u t H1 locs1 ht hvm _ hB hz hk hS h1 h2 h3 => ?_) (fun r u t H1 locs1 ht hvm hp hB hz hk hS => ?_)
  · obtain ⟨hpx, hP1, hK1, hD1⟩ := hB
    rw [ht] at hP1
    exact kx E c9 q9 H1 locs1 hpx ⟨hw.1, hP1, ⟨hD1.1, fun i hi => hF _ (hD1.2 i hi)⟩, hS, hw.2.2.2.2⟩ h1 h2 h3
  · obtain ⟨hP1, hK1, hD1⟩ := hB
    rw [ht] at hP1
    exact kk r u H1 locs1 hp ⟨hw.1, hP1, ⟨hD1.1, fun i hi => hF _ (hD1.2 i hi)⟩, hS, hw.2.2.2.2⟩
theorem xv_callv {S : Type} {post : S → Prop} {pex : String → Prop} {ua : S → Nat → Nat} {uc : S → Nat → Option va_E} {st0 : List Value} {a : Array Value} {mc ms : Nat}
    (hr : vx_Run p l e R s m args below meth c H locs cells slots mc ms (F0 m pc ls st0) rest (va_Qv post (xm_B D cl tys (xm_A ad ce H.size) ua uc) (xm_A ad ce H.size) a) (xv_X D cl tys (xm_A ad ce H.size) ad ce pex) (xm_A ad ce H.size)) (hw : xm_W D cl tys A ad ce s H0 H locs)
    (kx : ∀ (E : String) (c9 : Cell) (q9 : Addr) (H1 : Heap) (locs1 : List Loc), pex E → xm_W D cl tys A ad ce s H0 H1 locs1 → H1[q9]? = some c9 → c9.vm = .none → s.vm.findClass E = some c9.cls → vx_W p l e R s m args below meth c H1 locs1 (cells + mc) (slots + ms) Q (F0 m pc ls rest) q9)
    (kk : ∀ (u : S) (H1 : Heap) (locs1 : List Loc), post u → xm_W D cl tys A (ua u) (uc u) s H0 H1 locs1 → W p l e R s m args below meth c H1 locs1 (cells + mc) (slots + ms) Q (F0 m (pc + 3) ls rest)) : W p l e R s m args below meth c H locs cells slots Q (F0 m pc ls st0) := by
  have hF := hw.free
  refine vx_callv hr hw.2.2.2.1 (fun q _ h => hF q h) hF (fun q _ h => hF q h) (fun E c9 q9 u t H1 locs1 ht hvm _ hB hz hk hS h1 h2 h3 => ?_) (fun u t H1 locs1 ht hvm hp hB hz hk hS => ?_)
  · obtain ⟨hpx, hP1, hK1, hD1⟩ := hB
    rw [ht] at hP1
    exact kx E c9 q9 H1 locs1 hpx ⟨hw.1, hP1, ⟨hD1.1, fun i hi => hF _ (hD1.2 i hi)⟩, hS, hw.2.2.2.2⟩ h1 h2 h3
  · obtain ⟨hP1, hK1, hD1⟩ := hB
    rw [ht] at hP1
    exact kk u H1 locs1 hp ⟨hw.1, hP1, ⟨hD1.1, fun i hi => hF _ (hD1.2 i hi)⟩, hS, hw.2.2.2.2⟩
theorem xv_out {Qc : Array Value → State → Outcome → State → Prop} {pex : String → Prop} {E : String} {c9 : Cell} {q : Addr} {mc ms : Nat} (hout : ∀ x ∈ c.exceptionTable.toList, False) (hlocks : meth.locks = false) (hw : xm_W D cl tys (xm_A ad ce s.heap.size) ad ce s s.heap H locs) (hpx : pex E) (hcell : H[q]? = some c9) (hv : c9.vm = .none) (hcl : s.vm.findClass E = some c9.cls) (hc : cells ≤ mc) (hs : slots ≤ ms) :
    vx_W p l e R s m args below meth c H locs cells slots (vx_MQ below Qc (xv_X D cl tys (xm_A ad ce s.heap.size) ad ce pex) args s mc ms (xm_A ad ce s.heap.size)) (F0 m pc ls rest) q :=
  vx_out (fun x h => (hout x h).elim) hlocks hcell hv hcl (fun t ht hal => ⟨(), trivial, ⟨hpx, by rw [ht]; exact hw.2.1, va_K.moved hal hw.1, hw.2.2.1⟩, hw.2.2.2.1.F ht⟩) hw.2.2.2.1.2.2 hc hs
/-- throw new cls("text") of the desk's own -/
theorem xv_throw {Qc : Array Value → State → Outcome → State → Prop} {pex : String → Prop} {cls text : String} {ik is ic sa : Nat} {c0 : Cond} (hexec : p.tables.exec = Jvm.exec) (hb : c.code = cc) (hl : l.stackTraces = false) (hown : s.vm.findClass "QuestionDesk" = some m.cls) (hts : ∀ w ∈ c0 :: xg, w.before args s = true) (hT : xt_ok (xm_A ad ce s.heap.size) s s.heap)
    (hcls : Bundle.fit cls = true) (hk : Cond.classLink "QuestionDesk" ik cls ∈ xg) (hini : Cond.initialized cls ∈ xg) (hstr : vk_R "QuestionDesk" is text sa s) (hat : ∀ w ∈ vx_atS "QuestionDesk" ic cls ["java/lang/RuntimeException", "java/lang/Exception"], w ∈ xt_at1 ++ xt_at2)
    (hgood : ∀ w ∈ Cond.classLink "QuestionDesk" ik cls :: Cond.initialized cls :: vx_atS "QuestionDesk" ic cls ["java/lang/RuntimeException", "java/lang/Exception"], vx_ot w = true) (hw : xm_W D cl tys (xm_A ad ce s.heap.size) ad ce s s.heap s.heap []) (hsize : ls.size = c.maxLocals)
    (d0 : decode cc pc = .ok (.new ik, 3)) (d3 : decode cc (pc + 3) = .ok (.dup, 1)) (d4 : decode cc (pc + 4) = .ok (.ldc is, 2)) (d6 : decode cc (pc + 6) = .ok (.invokespecial ic, 3)) (d9 : decode cc (pc + 9) = .ok (.athrow, 1))
    (hout : ∀ x ∈ c.exceptionTable.toList, False) (hRframes : 5 < R.frames) (hRlocals : 82 ≤ R.locals) (hRcells : 1 ≤ R.cells) (hRslots : 6 ≤ R.slots) (hlocks : meth.locks = false) (hpx : pex cls) {mc ms : Nat} (hc : 1 ≤ mc) (hs : 6 ≤ ms) :
    W p l e R s m args below meth c s.heap [] 0 0 (vx_MQ below Qc (xv_X D cl tys (xm_A ad ce s.heap.size) ad ce pex) args s mc ms (xm_A ad ce s.heap.size)) (F0 m pc ls []) := by
  refine vx_throwS (names := ["java/lang/RuntimeException", "java/lang/Exception"]) hexec hb hl hown hcls (by decide +kernel) (hts _ (List.mem_cons_of_mem _ hk)) (hts _ (List.mem_cons_of_mem _ hini)) hstr (hT.hat hts hat) hgood hT.2.2.2.1 hT.2.2.2.2.1 hw.2.2.2.1 hsize d0 d3 d4 d6 d9 (fun x h => (hout x h).elim) hRframes hRlocals hRcells hRslots hlocks (fun t hal hz hk => ?_) (fun z hz => nomatch hz) hc hs
  refine ⟨(), trivial, ⟨hpx, hw.2.1.kept2 hk, va_K.moved hal hw.1, hw.2.2.1⟩, hz, fun q h1 _ => hk q h1⟩
end XV
/-- a contract of a method that may throw, from a walk of the body -/
theorem xv_ofW {l : Launch} {y : MethodName} {ws ws' : List Cond} {rm : Room} {mc ms : Nat} {cc : ByteArray} {maxL : Nat} {ret : Option FieldType} {D : va_G} {cl : List vw_C} {tys : List (ClassId × FieldType)} {ad : Nat → Nat} {ce : Nat → Option va_E} {av : List Value} {Qc : Nat → Array Value → State → Outcome → State → Prop} {XC : Nat → String → State → State → Prop}
    (hy : plainName y.cls = true) (hwd : ws = Cond.code y cc maxL ret :: ws') (hlen : (lg_sl av).length ≤ maxL)
    (body : ∀ (p : Program) (e : Env) (s : State) (m : MethodId) (args : Array Value) (below : List Frame) (meth : Method) (c : Code) (ls : Array Slot) (QQ : State → Prop), QQ = vx_MQ below (Qc s.heap.size) (XC s.heap.size) args s mc ms (xm_A ad ce s.heap.size) → xt_ok (xm_A ad ce s.heap.size) s s.heap → (∀ x ∈ c.exceptionTable.toList, False) → p.tables.exec = Jvm.exec → c.code = cc → c.maxLocals = maxL → meth.sig.returnType = ret → s.vm.findClass y.cls = some m.cls → meth.locks = false → meth.name = y.name → (∀ w ∈ ws, w.before args s = true) → lv_has ls maxL (lv_args 0 av) → xm_W D cl tys (xm_A ad ce s.heap.size) ad ce s s.heap s.heap [] →
      W p l e rm s m args below meth c s.heap [] 0 0 QQ (F0 m 0 ls [])) :
    ∀ sz, vx_Met l y ws rm (xv_Pc D cl tys ad ce sz av) (Qc sz) (XC sz) mc ms (xm_A ad ce sz) := by
  intro sz
  refine vx_ofW (cc := cc) (maxL := maxL) (ret := ret) hy hwd ?_
  intro p e s m args below meth c s₁ B hml hout hv
  obtain ⟨⟨hargs, hsz, hP, hK, hD, hN⟩, hT⟩ := hv
  subst hsz
  have hE : entryFrame m args maxL = F0 m 0 ((lg_sl av ++ List.replicate (maxL - (lg_sl av).length) Slot.unset).toArray) [] := by rw [hargs, lg_entry_eq]
  rw [hE]
  exact body p e s m args below meth c _ _ rfl hT hout B.exec B.bytes hml B.returns (findClass_of_methodNamed B.named) B.notSynchronized (name_of_methodNamed B.named B.method).1 (atoms_spec (ws := ws) B.pre) (lv_entry av hlen) ⟨hK, hP, ⟨hD.1, fun i hi => Or.inl ⟨i, hi, rfl⟩⟩, va_S.rf, fun q h => Or.inr h, hN⟩
