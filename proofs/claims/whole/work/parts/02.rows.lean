/-! MY WORLDS: cells by number: 'ad i' says where the cell i lies, 'ce i' what it holds -/
def xm_P (D : va_G) (cl : List vw_C) (ad : Nat → Nat) (ce : Nat → Option va_E) (H : Heap) : Prop := ∀ (i : Nat) (x : va_E), ce i = some x → va_at D cl (ad i, x) H
def xm_D (A : Nat → Prop) (ad : Nat → Nat) (ce : Nat → Option va_E) : Prop := (∀ i j : Nat, ce i ≠ none → ce j ≠ none → ad i = ad j → i = j) ∧ ∀ i : Nat, ce i ≠ none → A (ad i)
def xm_A (ad : Nat → Nat) (ce : Nat → Option va_E) (sz : Nat) : Nat → Prop := fun q => (∃ i : Nat, ce i ≠ none ∧ ad i = q) ∨ sz ≤ q
def xm_W (D : va_G) (cl : List vw_C) (tys : List (ClassId × FieldType)) (A : Nat → Prop) (ad : Nat → Nat) (ce : Nat → Option va_E) (s : State) (H0 H : Heap) (locs : List Loc) : Prop :=
  va_K D cl tys s ∧ xm_P D cl ad ce H ∧ xm_D A ad ce ∧ va_S A H0 H locs ∧ (∀ q, H0.size ≤ q → A q) ∧ xn_ok s
/-- a loop's and a join's predicates -/
def xl {σ : Type} (B : (σ → Prop) → σ → Prop) : Nat → σ → Prop
  | 0, _ => False
  | n + 1, s => B (xl B n) s
def xL {σ : Type} (B : (σ → Prop) → σ → Prop) (s : σ) : Prop := ∃ n, xl B n s
theorem xL_of {σ : Type} {B : (σ → Prop) → σ → Prop} (I : σ → Prop) (μ : σ → Nat) (hs : ∀ s, I s → ∀ K : σ → Prop, (∀ s', I s' → μ s' < μ s → K s') → B K s) {s : σ} (h : I s) : xL B s := by
  have key : ∀ n s, I s → μ s < n → xl B n s := by
    intro n
    induction n with
    | zero => intro s _ h; omega
    | succ n ih => intro s hI hn; exact hs s hI _ (fun s' h1 h2 => ih s' h1 (by omega))
  exact ⟨_, key (μ s + 1) s h (by omega)⟩
theorem xL_use {σ : Type} {B : (σ → Prop) → σ → Prop} {v : σ} (h : xL B v) (G : σ → Prop) (hs : ∀ K : σ → Prop, (∀ v, K v → G v) → ∀ v, B K v → G v) : G v := by
  obtain ⟨n, h⟩ := h
  have key : ∀ n v, xl B n v → G v := by
    intro n
    induction n with
    | zero => intro v h; exact h.elim
    | succ n ih => intro v h; exact hs _ ih v h
  exact key n v h
def xj {σ : Type} (jb : σ → Prop) (b : (σ → Prop) → Prop) : Prop := b jb
theorem xj_use {σ : Type} {jb : σ → Prop} {b : (σ → Prop) → Prop} (h : xj jb b) (G : σ → Prop) (hj : ∀ v, jb v → G v) {R : Prop} (hb : ∀ K : σ → Prop, (∀ v, K v → G v) → b K → R) : R := hb jb hj h
theorem xj_of {σ : Type} {jb : σ → Prop} {b : (σ → Prop) → Prop} (hm : ∀ P Q : σ → Prop, (∀ v, P v → Q v) → b P → b Q) (P : σ → Prop) (h1 : ∀ v, P v → jb v) (h2 : b P) : xj jb b := hm P jb h1 h2
theorem xs_ne {x k : Int32} {z : Int} (h : ¬ x = k) (hk : k.toInt = z) : x.toInt ≠ z := fun e => h (Int32.toInt_inj.mp (e.trans hk.symm))
theorem xm_up_id {α : Type} {f : Nat → α} {k : Nat} {v : α} (h : f k = v) : va_up f k v = f := by
  funext j
  by_cases q : j = k
  · subst q; rw [va_up_self, h]
  · rw [va_up_ne _ _ q]
theorem xm_one {D : va_G} {cl : List vw_C} {ad : Nat → Nat} {ce : Nat → Option va_E} {H : Heap} (h : xm_P D cl ad ce H) {i : Nat} {x : va_E} (hi : ce i = some x) : va_P D cl [(ad i, x)] H := by
  intro k q hk
  have hq : q ∈ [(ad i, x)] := List.mem_of_getElem? hk
  rw [List.mem_singleton] at hq
  subst hq
  exact h i x hi
theorem xm_P.set {D : va_G} {cl : List vw_C} {A : Nat → Prop} {ad : Nat → Nat} {ce : Nat → Option va_E} {H H1 : Heap} {i : Nat} {x0 x : va_E} (h : xm_P D cl ad ce H) (hD : xm_D A ad ce) (hi : ce i = some x0) (he : va_at D cl (ad i, x) H1) (oq : ∀ q : Nat, q ≠ ad i → H1[q]? = H[q]?) : xm_P D cl ad (va_up ce i (some x)) H1 := by
  intro j y hj
  by_cases q : j = i
  · subst q
    rw [va_up_self] at hj
    cases hj
    exact he
  · rw [va_up_ne _ _ q] at hj
    exact (h j y hj).kept (oq _ (fun z => q (hD.1 j i (by rw [hj]; exact Option.some_ne_none _) (by rw [hi]; exact Option.some_ne_none _) z)))
theorem xm_D.set {A : Nat → Prop} {ad : Nat → Nat} {ce : Nat → Option va_E} {i : Nat} {x0 x : va_E} (hD : xm_D A ad ce) (hi : ce i = some x0) : xm_D A ad (va_up ce i (some x)) := by
  have key : ∀ j, va_up ce i (some x) j ≠ none → ce j ≠ none := by
    intro j hj
    by_cases q : j = i
    · subst q; rw [hi]; exact Option.some_ne_none _
    · rw [va_up_ne _ _ q] at hj; exact hj
  exact ⟨fun a b ha hb => hD.1 a b (key a ha) (key b hb), fun a ha => hD.2 a (key a ha)⟩
theorem xm_W.cast {D : va_G} {cl : List vw_C} {tys : List (ClassId × FieldType)} {A : Nat → Prop} {ad : Nat → Nat} {ce ce' : Nat → Option va_E} {s : State} {H0 H : Heap} {locs : List Loc} (e : ce = ce') (hw : xm_W D cl tys A ad ce s H0 H locs) : xm_W D cl tys A ad ce' s H0 H locs := e ▸ hw
theorem xm_W.free {D : va_G} {cl : List vw_C} {tys : List (ClassId × FieldType)} {A : Nat → Prop} {ad : Nat → Nat} {ce : Nat → Option va_E} {s : State} {H0 H : Heap} {locs : List Loc} (hw : xm_W D cl tys A ad ce s H0 H locs) : ∀ q, xm_A ad ce H.size q → A q := by
  intro q h
  rcases h with ⟨i, hi, rfl⟩ | h
  · exact hw.2.2.1.2 i hi
  · exact hw.2.2.2.2.1 q (Nat.le_trans hw.2.2.2.1.1 h)
def xm_Pc (D : va_G) (cl : List vw_C) (tys : List (ClassId × FieldType)) (ad : Nat → Nat) (ce : Nat → Option va_E) (sz : Nat) (av : List Value) : Array Value → State → Prop := va_Pc av (fun U => U.heap.size = sz ∧ xm_P D cl ad ce U.heap ∧ va_K D cl tys U ∧ xm_D (fun _ => True) ad ce ∧ xn_ok U)
def xm_B {S : Type} (D : va_G) (cl : List vw_C) (tys : List (ClassId × FieldType)) (A : Nat → Prop) (ua : S → Nat → Nat) (uc : S → Nat → Option va_E) : S → State → Prop := fun u t => xm_P D cl (ua u) (uc u) t.heap ∧ va_K D cl tys t ∧ xm_D A (ua u) (uc u)
theorem xm_pre {D : va_G} {cl : List vw_C} {tys : List (ClassId × FieldType)} {A : Nat → Prop} {ad : Nat → Nat} {ce : Nat → Option va_E} {s : State} {H0 H : Heap} {locs : List Loc} (hw : xm_W D cl tys A ad ce s H0 H locs) (As : List Value) : PreS s H (xm_Pc D cl tys ad ce H.size As) As :=
  ⟨fun a U g mk q => by obtain ⟨q0, q1, qP, qK, qD⟩ := q; exact ⟨q0, q1, qP, va_K.moved (u := U) (U := U.calling g mk a) (Vm.Alike.refl U.vm) qK, qD.1, xn_ok.same (u := U) (U := U.calling g mk a) rfl qD.2⟩, fun U hU hW => ⟨rfl, by rw [hU], by rw [hU]; exact hw.2.1, va_K.moved hW.alike hw.1, ⟨hw.2.2.1.1, fun _ _ => trivial⟩, hw.2.2.2.2.2.warm hW⟩⟩
theorem xm_W.nst {D : va_G} {cl : List vw_C} {tys : List (ClassId × FieldType)} {A : Nat → Prop} {ad : Nat → Nat} {ce : Nat → Option va_E} {s : State} {H0 H : Heap} {locs : List Loc} (hw : xm_W D cl tys A ad ce s H0 H locs) : va_Nw (.methodLinkNest "QuestionDesk$Rule" 37 ⟨"QuestionDesk", "variableBit", "(I)I"⟩ "QuestionDesk") s ∧ va_Nw (.methodLinkNest "QuestionDesk$Rule" 44 ⟨"QuestionDesk", "isVariable", "(I)Z"⟩ "QuestionDesk") s := ⟨hw.2.2.2.2.2.1, hw.2.2.2.2.2.2.1⟩
theorem xm_preV {D : va_G} {cl : List vw_C} {tys : List (ClassId × FieldType)} {A : Nat → Prop} {ad : Nat → Nat} {ce : Nat → Option va_E} {s : State} {H0 H : Heap} {locs : List Loc} (hw : xm_W D cl tys A ad ce s H0 H locs) {i ci : Nat} {q : vw_C} {fs : List Value} (hi : ce i = some (.inr (ci, fs))) (hc : cl[ci]? = some q) (As : List Value) : PreV s H q.1 (ad i) (xm_Pc D cl tys ad ce H.size (.ref (ad i) :: As)) As :=
  ⟨(xm_pre hw (.ref (ad i) :: As)).1, va_recv hw.1 (xm_one hw.2.1 hi) hc (q0 := 0) rfl, (xm_pre hw (.ref (ad i) :: As)).2⟩
section XM
variable {p : Program} {l : Launch} {e : Env} {R : Room} {s : State} {m : MethodId} {args : Array Value} {below : List Frame} {meth : Method} {c : Code} {H : Heap} {locs : List Loc} {cells slots : Nat} {Q : State → Prop}
variable {cc : ByteArray} {pc : Nat} {ls : Array Slot} {rest : List Value} {D : va_G} {cl : List vw_C} {A : Nat → Prop} {tys : List (ClassId × FieldType)} {ad : Nat → Nat} {ce : Nat → Option va_E} {H0 : Heap}
theorem xm_get (hexec : p.tables.exec = Jvm.exec) (hb : c.code = cc) {own ref C : String} {T : u_T} {N ci index i : Nat} {Ts : List Cond} (hts : ∀ w ∈ Ts, w.before args s = true) (hin : ∀ w ∈ u_ws C T N, w ∈ Ts) (hown : s.vm.findClass own = some m.cls) (hw : xm_W D cl tys A ad ce s H0 H locs) {fs : List Value} (hi : ce i = some (.inr (ci, fs))) (hc : cl[ci]? = some (C, T, N)) (k : Nat) (hk : k < N) (hlink : (Cond.fieldLink own index ref (T k).2.1 (T k).2.2.1).before args s = true) (hsame : ∀ x, s.fieldFound? (T k).1 (T k).2.1 (T k).2.2.1 = some x → s.fieldFound? ref (T k).2.1 (T k).2.2.1 = some x) {v : Value} (hv : fs[k]? = some v) (hdg : decode cc pc = .ok (.getfield index, 3))
    (kk : W p l e R s m args below meth c H locs cells slots Q (F0 m (pc + 3) ls (v :: rest))) : W p l e R s m args below meth c H locs cells slots Q (F0 m pc ls (.ref (ad i) :: rest)) :=
  va_get hexec hb hts hin hown hw.1 (xm_one hw.2.1 hi) 0 rfl hc k hk hlink hsame hv hdg kk
theorem xm_getN (hexec : p.tables.exec = Jvm.exec) (hb : c.code = cc) {own ref C host : String} {T : u_T} {N ci index i : Nat} {Ts : List Cond} (hts : ∀ w ∈ Ts, w.before args s = true) (hin : ∀ w ∈ u_ws C T N, w ∈ Ts) (hown : s.vm.findClass own = some m.cls) (hw : xm_W D cl tys A ad ce s H0 H locs) {fs : List Value} (hi : ce i = some (.inr (ci, fs))) (hc : cl[ci]? = some (C, T, N)) (k : Nat) (hk : k < N) (hlink : (Cond.fieldLinkNest own index ref (T k).2.1 (T k).2.2.1 host).before args s = true) (hsame : ∀ x, s.fieldFound? (T k).1 (T k).2.1 (T k).2.2.1 = some x → s.fieldFound? ref (T k).2.1 (T k).2.2.1 = some x) {v : Value} (hv : fs[k]? = some v) (hdg : decode cc pc = .ok (.getfield index, 3))
    (kk : W p l e R s m args below meth c H locs cells slots Q (F0 m (pc + 3) ls (v :: rest))) : W p l e R s m args below meth c H locs cells slots Q (F0 m pc ls (.ref (ad i) :: rest)) :=
  va_getN hexec hb hts hin hown hw.1 (xm_one hw.2.1 hi) 0 rfl hc k hk hlink hsame hv hdg kk
theorem xm_iald (hexec : p.tables.exec = Jvm.exec) (hb : c.code = cc) (hw : xm_W D cl tys A ad ce s H0 H locs) (t0 : Nat) {cA : ClassId} {n i : Nat} {f : Nat → Int32} (hi : ce i = some (.inl (cA, n, .inl f))) (ht : tys[t0]? = some (cA, .int)) {x : Int32} (hin : vp_in x n) (hdg : decode cc pc = .ok (.iaload, 1))
    (kk : W p l e R s m args below meth c H locs cells slots Q (F0 m (pc + 1) ls (.int (f x.toNatClampNeg) :: rest))) : W p l e R s m args below meth c H locs cells slots Q (F0 m pc ls (.int x :: .ref (ad i) :: rest)) :=
  va_iald hexec hb hw.1 (xm_one hw.2.1 hi) 0 t0 rfl ht hin hdg kk
theorem xm_zald (hexec : p.tables.exec = Jvm.exec) (hb : c.code = cc) (hw : xm_W D cl tys A ad ce s H0 H locs) (t0 : Nat) {cA : ClassId} {n i : Nat} {f : Nat → Int32} (hi : ce i = some (.inl (cA, n, .inl f))) (ht : tys[t0]? = some (cA, .boolean)) {x : Int32} (hin : vp_in x n) (hdg : decode cc pc = .ok (.baload, 1))
    (kk : W p l e R s m args below meth c H locs cells slots Q (F0 m (pc + 1) ls (.int (f x.toNatClampNeg) :: rest))) : W p l e R s m args below meth c H locs cells slots Q (F0 m pc ls (.int x :: .ref (ad i) :: rest)) :=
  va_zald hexec hb hw.1 (xm_one hw.2.1 hi) 0 t0 rfl ht hin hdg kk
theorem xm_lald (hexec : p.tables.exec = Jvm.exec) (hb : c.code = cc) (hw : xm_W D cl tys A ad ce s H0 H locs) (t0 : Nat) {cA : ClassId} {n i : Nat} {f : Nat → Int64} (hi : ce i = some (.inl (cA, n, .inr (.inl f)))) (ht : tys[t0]? = some (cA, .long)) {x : Int32} (hin : vp_in x n) (hdg : decode cc pc = .ok (.laload, 1))
    (kk : W p l e R s m args below meth c H locs cells slots Q (F0 m (pc + 1) ls (.long (f x.toNatClampNeg) :: rest))) : W p l e R s m args below meth c H locs cells slots Q (F0 m pc ls (.int x :: .ref (ad i) :: rest)) :=
  va_lald hexec hb hw.1 (xm_one hw.2.1 hi) 0 t0 rfl ht hin hdg kk
theorem xm_aald (hexec : p.tables.exec = Jvm.exec) (hb : c.code = cc) (hw : xm_W D cl tys A ad ce s H0 H locs) (t0 : Nat) {cA : ClassId} {C : String} {n i : Nat} {f : Nat → Option Nat} (hi : ce i = some (.inl (cA, n, .inr (.inr (.inr (.inr f)))))) (ht : tys[t0]? = some (cA, .object C)) {x : Int32} (hin : vp_in x n) (hdg : decode cc pc = .ok (.aaload, 1))
    (kk : W p l e R s m args below meth c H locs cells slots Q (F0 m (pc + 1) ls (va_rf (f x.toNatClampNeg) :: rest))) : W p l e R s m args below meth c H locs cells slots Q (F0 m pc ls (.int x :: .ref (ad i) :: rest)) :=
  va_aldq hexec hb hw.1 (xm_one hw.2.1 hi) 0 t0 rfl ht hin hdg kk
theorem xm_alen (hexec : p.tables.exec = Jvm.exec) (hb : c.code = cc) (hw : xm_W D cl tys A ad ce s H0 H locs) (t0 : Nat) {cA : ClassId} {x : vp_A} {i : Nat} (hi : ce i = some (.inl (cA, x))) {ty : FieldType} (ht : tys[t0]? = some (cA, ty)) {v : Int32} (hv : Int32.ofNat x.1 = v) (hdg : decode cc pc = .ok (.arraylength, 1))
    (kk : W p l e R s m args below meth c H locs cells slots Q (F0 m (pc + 1) ls (.int v :: rest))) : W p l e R s m args below meth c H locs cells slots Q (F0 m pc ls (.ref (ad i) :: rest)) :=
  va_alen hexec hb hw.1 (xm_one hw.2.1 hi) 0 t0 rfl ht hv hdg kk
theorem xm_iast (hexec : p.tables.exec = Jvm.exec) (hb : c.code = cc) (hw : xm_W D cl tys A ad ce s H0 H locs) (t0 : Nat) {cA : ClassId} {n i : Nat} {f : Nat → Int32} (hi : ce i = some (.inl (cA, n, .inl f))) (ht : tys[t0]? = some (cA, .int)) {x v : Int32} (hin : vp_in x n) (hdg : decode cc pc = .ok (.iastore, 1))
    (kk : ∀ (H1 : Heap) (locs1 : List Loc), xm_W D cl tys A ad (va_up ce i (some (.inl (cA, n, .inl (upd f x.toNatClampNeg v))))) s H0 H1 locs1 → W p l e R s m args below meth c H1 locs1 cells slots Q (F0 m (pc + 1) ls rest)) : W p l e R s m args below meth c H locs cells slots Q (F0 m pc ls (.int v :: .int x :: .ref (ad i) :: rest)) := by
  obtain ⟨hK, hP, hD, hS, hA⟩ := hw
  refine W.iast hexec hb (hP i _ hi) ((hK.2 t0 _ ht).1 n (fun j => .int (f j))) (fun q => by cases q) (by show ¬ (x < 0 ∨ (arrV _ _ _).slots.size ≤ _); rw [arrV_size]; exact hin) rfl rfl hdg fun H1 e1 z oq => ?_
  refine kk H1 _ ⟨hK, hP.set hD hi ?_ oq, hD.set hi, hS.put z oq (hD.2 i (by rw [hi]; exact Option.some_ne_none _)), hA⟩
  show H1[ad i]? = some (vp_cell _ _)
  rw [e1]
  rw [vp_cell_i, vp_cell_i, arrV_store]
  congr 2
  funext q
  by_cases hq : q = x.toNatClampNeg
  · subst hq
    simp [updV, upd]
  · simp [updV, upd, hq]
theorem xm_zast (hexec : p.tables.exec = Jvm.exec) (hb : c.code = cc) (hw : xm_W D cl tys A ad ce s H0 H locs) (t0 : Nat) {cA : ClassId} {n i : Nat} {f : Nat → Int32} (hi : ce i = some (.inl (cA, n, .inl f))) (ht : tys[t0]? = some (cA, .boolean)) {x v : Int32} (hin : vp_in x n) (hdg : decode cc pc = .ok (.bastore, 1))
    (kk : ∀ (H1 : Heap) (locs1 : List Loc), xm_W D cl tys A ad (va_up ce i (some (.inl (cA, n, .inl (upd f x.toNatClampNeg (vp_nar .boolean v)))))) s H0 H1 locs1 → W p l e R s m args below meth c H1 locs1 cells slots Q (F0 m (pc + 1) ls rest)) : W p l e R s m args below meth c H locs cells slots Q (F0 m pc ls (.int v :: .int x :: .ref (ad i) :: rest)) := by
  obtain ⟨hK, hP, hD, hS, hA⟩ := hw
  refine W.zast hexec hb (hP i _ hi) ((hK.2 t0 _ ht).1 n (fun j => .int (f j))) (fun q => by cases q) (by show ¬ (x < 0 ∨ (arrV _ _ _).slots.size ≤ _); rw [arrV_size]; exact hin) rfl rfl hdg fun H1 e1 z oq => ?_
  refine kk H1 _ ⟨hK, hP.set hD hi ?_ oq, hD.set hi, hS.put z oq (hD.2 i (by rw [hi]; exact Option.some_ne_none _)), hA⟩
  show H1[ad i]? = some (vp_cell _ _)
  rw [e1]
  rw [vp_cell_i, vp_cell_i, arrV_store]
  congr 2
  funext q
  by_cases hq : q = x.toNatClampNeg
  · subst hq
    simp [updV, upd, vp_nar]
    try rfl
  · simp [updV, upd, hq]
theorem xm_last (hexec : p.tables.exec = Jvm.exec) (hb : c.code = cc) (hw : xm_W D cl tys A ad ce s H0 H locs) (t0 : Nat) {cA : ClassId} {n i : Nat} {f : Nat → Int64} (hi : ce i = some (.inl (cA, n, .inr (.inl f)))) (ht : tys[t0]? = some (cA, .long)) {x : Int32} {v : Int64} (hin : vp_in x n) (hdg : decode cc pc = .ok (.lastore, 1))
    (kk : ∀ (H1 : Heap) (locs1 : List Loc), xm_W D cl tys A ad (va_up ce i (some (.inl (cA, n, .inr (.inl (vp_updL f x.toNatClampNeg v)))))) s H0 H1 locs1 → W p l e R s m args below meth c H1 locs1 cells slots Q (F0 m (pc + 1) ls rest)) : W p l e R s m args below meth c H locs cells slots Q (F0 m pc ls (.long v :: .int x :: .ref (ad i) :: rest)) := by
  obtain ⟨hK, hP, hD, hS, hA⟩ := hw
  refine W.last hexec hb (hP i _ hi) ((hK.2 t0 _ ht).1 n (fun j => .long (f j))) (fun q => by cases q) (by show ¬ (x < 0 ∨ (arrV _ _ _).slots.size ≤ _); rw [arrV_size]; exact hin) rfl rfl hdg fun H1 e1 z oq => ?_
  refine kk H1 _ ⟨hK, hP.set hD hi ?_ oq, hD.set hi, hS.put z oq (hD.2 i (by rw [hi]; exact Option.some_ne_none _)), hA⟩
  show H1[ad i]? = some (vp_cell _ _)
  rw [e1]
  rw [vp_cell_l, vp_cell_l, arrV_store]
  congr 2
  funext q
  by_cases hq : q = x.toNatClampNeg
  · subst hq
    simp [updV, vp_updL]
  · simp [updV, vp_updL, hq]
theorem xm_put (hexec : p.tables.exec = Jvm.exec) (hb : c.code = cc) {own ref C : String} {T : u_T} {N ci index i : Nat} {Ts : List Cond} (hts : ∀ w ∈ Ts, w.before args s = true) (hin : ∀ w ∈ u_ws C T N, w ∈ Ts) (ty0 : Nat → FieldType) (hty : ∀ k, k < N → parseFieldDescriptor (T k).2.2.1 = some (ty0 k)) (hnm : ∀ a, a < N → ∀ b, b < N → a ≠ b → (T a).2.1 ≠ (T b).2.1) (hown : s.vm.findClass own = some m.cls) (hw : xm_W D cl tys A ad ce s H0 H locs) {fs : List Value} (he : ce i = some (.inr (ci, fs))) (hc : cl[ci]? = some (C, T, N)) (k : Nat) (hk : k < N) (hlink : (Cond.fieldLink own index ref (T k).2.1 (T k).2.2.1).before args s = true) (hsame : ∀ x, s.fieldFound? (T k).1 (T k).2.1 (T k).2.2.1 = some x → s.fieldFound? ref (T k).2.1 (T k).2.2.1 = some x) (hfin : (T k).2.2.2 = false) {ty : FieldType} {v : Value} (hd : parseFieldDescriptor (T k).2.2.1 = some ty) (hn : narrow ty v = v) (hfit : fits ty v = true) (hl : k < fs.length)
    (hdg : decode cc pc = .ok (.putfield index, 3)) (kk : ∀ (H1 : Heap) (locs1 : List Loc), xm_W D cl tys A ad (va_up ce i (some (.inr (ci, fs.set k v)))) s H0 H1 locs1 → W p l e R s m args below meth c H1 locs1 cells slots Q (F0 m (pc + 3) ls rest)) : W p l e R s m args below meth c H locs cells slots Q (F0 m pc ls (v :: .ref (ad i) :: rest)) := by
  obtain ⟨hK, hP, hD, hS0, hA⟩ := hw
  have hap := va_apart (own := own) hts hin ty0 hty hnm hK hc
  obtain ⟨r, h1, cell, q1, q2, q3, q4⟩ := hP i _ he
  have hr : r = (C, T, N) := Option.some.inj (h1.symm.trans hc)
  subst hr
  obtain ⟨hS, hfc, kC, hkC, hkind⟩ := hK.1 ci _ hc
  obtain ⟨cf, kf, fi, f, hi, hsl⟩ := hS k hk
  have hlay := hts _ (hin _ (u_in_lay hk))
  unfold u_lay at hlay
  rw [if_neg (by rw [hfin]; decide)] at hlay
  have hst := (u_facts hfc hkC (u_lays hts hin hk) hi).1
  have h6 := u_store hfc hkC hkind hlay hi hd hn hfit
  refine W.putK hexec hb (f := f) ⟨hown, hlink, ⟨_, _, _, hsame _ hi⟩, hst⟩ (by rw [q2]; exact h6) q1 q3 (by rw [hsl]; exact k2_hasslot (q4 k hk)) rfl rfl hdg fun H' e1 e2 e3 => ?_
  rw [hsl] at e1 ⊢
  exact kk H' _ ⟨hK, hP.set hD he ⟨_, hc, t_OB.to (V := updV (vp_V fs) k v) ⟨_, e1, q2, q3, t_set q4 hap hk v⟩ (fun j _ => vp_updV_set hl v j)⟩ e3, hD.set he, hS0.put e2 e3 (hD.2 i (by rw [he]; exact Option.some_ne_none _)), hA⟩
theorem xm_putN (hexec : p.tables.exec = Jvm.exec) (hb : c.code = cc) {own ref C host : String} {T : u_T} {N ci index i : Nat} {Ts : List Cond} (hts : ∀ w ∈ Ts, w.before args s = true) (hin : ∀ w ∈ u_ws C T N, w ∈ Ts) (ty0 : Nat → FieldType) (hty : ∀ k, k < N → parseFieldDescriptor (T k).2.2.1 = some (ty0 k)) (hnm : ∀ a, a < N → ∀ b, b < N → a ≠ b → (T a).2.1 ≠ (T b).2.1) (hown : s.vm.findClass own = some m.cls) (hw : xm_W D cl tys A ad ce s H0 H locs) {fs : List Value} (he : ce i = some (.inr (ci, fs))) (hc : cl[ci]? = some (C, T, N)) (k : Nat) (hk : k < N) (hlink : (Cond.fieldLinkNest own index ref (T k).2.1 (T k).2.2.1 host).before args s = true) (hsame : ∀ x, s.fieldFound? (T k).1 (T k).2.1 (T k).2.2.1 = some x → s.fieldFound? ref (T k).2.1 (T k).2.2.1 = some x) (hfin : (T k).2.2.2 = false) {ty : FieldType} {v : Value} (hd : parseFieldDescriptor (T k).2.2.1 = some ty) (hn : narrow ty v = v) (hfit : fits ty v = true) (hl : k < fs.length)
    (hdg : decode cc pc = .ok (.putfield index, 3)) (kk : ∀ (H1 : Heap) (locs1 : List Loc), xm_W D cl tys A ad (va_up ce i (some (.inr (ci, fs.set k v)))) s H0 H1 locs1 → W p l e R s m args below meth c H1 locs1 cells slots Q (F0 m (pc + 3) ls rest)) : W p l e R s m args below meth c H locs cells slots Q (F0 m pc ls (v :: .ref (ad i) :: rest)) := by
  obtain ⟨hK, hP, hD, hS0, hA⟩ := hw
  have hap := va_apart (own := own) hts hin ty0 hty hnm hK hc
  obtain ⟨r, h1, cell, q1, q2, q3, q4⟩ := hP i _ he
  have hr : r = (C, T, N) := Option.some.inj (h1.symm.trans hc)
  subst hr
  obtain ⟨hS, hfc, kC, hkC, hkind⟩ := hK.1 ci _ hc
  obtain ⟨cf, kf, fi, f, hi, hsl⟩ := hS k hk
  have hlay := hts _ (hin _ (u_in_lay hk))
  unfold u_lay at hlay
  rw [if_neg (by rw [hfin]; decide)] at hlay
  have hst := (u_facts hfc hkC (u_lays hts hin hk) hi).1
  have h6 := u_store hfc hkC hkind hlay hi hd hn hfit
  refine va_WputK hexec hb (f := f) hown hlink (hsame _ hi) hst (by rw [q2]; exact h6) q1 q3 (by rw [hsl]; exact k2_hasslot (q4 k hk)) rfl rfl hdg fun H' e1 e2 e3 => ?_
  rw [hsl] at e1 ⊢
  exact kk H' _ ⟨hK, hP.set hD he ⟨_, hc, t_OB.to (V := updV (vp_V fs) k v) ⟨_, e1, q2, q3, t_set q4 hap hk v⟩ (fun j _ => vp_updV_set hl v j)⟩ e3, hD.set he, hS0.put e2 e3 (hD.2 i (by rw [he]; exact Option.some_ne_none _)), hA⟩
/-- a call that answers an int, a call without an answer -/
theorem xm_calli {S : Type} {post : Int32 → S → Prop} {ua : S → Nat → Nat} {uc : S → Nat → Option va_E} {st0 : List Value} {a : Array Value} {mc ms : Nat}
    (hr : va_Run p l e R s m args below meth c H locs cells slots mc ms (F0 m pc ls st0) rest (va_Qi post (xm_B D cl tys (xm_A ad ce H.size) ua uc) (xm_A ad ce H.size) a) (xm_A ad ce H.size)) (hw : xm_W D cl tys A ad ce s H0 H locs)
    (kk : ∀ (r : Int32) (u : S) (H1 : Heap) (locs1 : List Loc), post r u → xm_W D cl tys A (ua u) (uc u) s H0 H1 locs1 → W p l e R s m args below meth c H1 locs1 (cells + mc) (slots + ms) Q (F0 m (pc + 3) ls (.int r :: rest))) : W p l e R s m args below meth c H locs cells slots Q (F0 m pc ls st0) := by
  have hF := hw.free
  refine va_calli hr hw.2.2.2.1 (fun q _ h => hF q h) hF (fun r u t H1 locs1 ht hvm hp hB hz hk hS => ?_)
  obtain ⟨hP1, hK1, hD1⟩ := hB
  rw [ht] at hP1
  exact kk r u H1 locs1 hp ⟨hw.1, hP1, ⟨hD1.1, fun i hi => hF _ (hD1.2 i hi)⟩, hS, hw.2.2.2.2⟩
theorem xm_callv {S : Type} {post : S → Prop} {ua : S → Nat → Nat} {uc : S → Nat → Option va_E} {st0 : List Value} {a : Array Value} {mc ms : Nat}
    (hr : va_Run p l e R s m args below meth c H locs cells slots mc ms (F0 m pc ls st0) rest (va_Qv post (xm_B D cl tys (xm_A ad ce H.size) ua uc) (xm_A ad ce H.size) a) (xm_A ad ce H.size)) (hw : xm_W D cl tys A ad ce s H0 H locs)
    (kk : ∀ (u : S) (H1 : Heap) (locs1 : List Loc), post u → xm_W D cl tys A (ua u) (uc u) s H0 H1 locs1 → W p l e R s m args below meth c H1 locs1 (cells + mc) (slots + ms) Q (F0 m (pc + 3) ls rest)) : W p l e R s m args below meth c H locs cells slots Q (F0 m pc ls st0) := by
  have hF := hw.free
  refine va_callv hr hw.2.2.2.1 (fun q _ h => hF q h) hF (fun u t H1 locs1 ht hvm hp hB hz hk hS => ?_)
  obtain ⟨hP1, hK1, hD1⟩ := hB
  rw [ht] at hP1
  exact kk u H1 locs1 hp ⟨hw.1, hP1, ⟨hD1.1, fun i hi => hF _ (hD1.2 i hi)⟩, hS, hw.2.2.2.2⟩
/-- the ends -/
theorem xm_iret {S : Type} {post : Int32 → S → Prop} {ua : S → Nat → Nat} {uc : S → Nat → Option va_E} {ad1 : Nat → Nat} {ce1 : Nat → Option va_E} {v : Int32} (hexec : p.tables.exec = Jvm.exec) (hb : c.code = cc) (hr : meth.sig.returnType = some .int) (hlocks : meth.locks = false) (hw : xm_W D cl tys (xm_A ad ce s.heap.size) ad1 ce1 s s.heap H locs) (u : S) (hua : ua u = ad1) (huc : uc u = ce1) (hpost : post v u) (hdg : decode cc pc = .ok (.ireturn, 1)) :
    W p l e R s m args below meth c H locs cells slots (MQ below (va_Qi post (xm_B D cl tys (xm_A ad ce s.heap.size) ua uc) (xm_A ad ce s.heap.size)) args s cells slots (xm_A ad ce s.heap.size)) (F0 m pc ls [.int v]) := by
  subst hua; subst huc
  exact W.iret (v := v) hexec hb hr (fun t ht hW => ⟨⟨v, u, rfl, hpost, by rw [ht]; exact hw.2.1, va_K.moved hW.alike hw.1, hw.2.2.1⟩, hw.2.2.2.1.F ht⟩) hw.2.2.2.1.2.2 hdg
theorem xm_zret {S : Type} {post : Int32 → S → Prop} {ua : S → Nat → Nat} {uc : S → Nat → Option va_E} {ad1 : Nat → Nat} {ce1 : Nat → Option va_E} {v : Int32} (hexec : p.tables.exec = Jvm.exec) (hb : c.code = cc) (hr : meth.sig.returnType = some .boolean) (hlocks : meth.locks = false) (hn : narrow .boolean (.int v) = .int v) (hw : xm_W D cl tys (xm_A ad ce s.heap.size) ad1 ce1 s s.heap H locs) (u : S) (hua : ua u = ad1) (huc : uc u = ce1) (hpost : post v u) (hdg : decode cc pc = .ok (.ireturn, 1)) :
    W p l e R s m args below meth c H locs cells slots (MQ below (va_Qi post (xm_B D cl tys (xm_A ad ce s.heap.size) ua uc) (xm_A ad ce s.heap.size)) args s cells slots (xm_A ad ce s.heap.size)) (F0 m pc ls [.int v]) := by
  subst hua; subst huc
  exact W.zret (v := v) hexec hb hr hn (fun t ht hW => ⟨⟨v, u, rfl, hpost, by rw [ht]; exact hw.2.1, va_K.moved hW.alike hw.1, hw.2.2.1⟩, hw.2.2.2.1.F ht⟩) hw.2.2.2.1.2.2 hdg
theorem xm_vret {S : Type} {post : S → Prop} {ua : S → Nat → Nat} {uc : S → Nat → Option va_E} {ad1 : Nat → Nat} {ce1 : Nat → Option va_E} (hexec : p.tables.exec = Jvm.exec) (hb : c.code = cc) (hr : meth.sig.returnType = none) (hlocks : meth.locks = false) (hw : xm_W D cl tys (xm_A ad ce s.heap.size) ad1 ce1 s s.heap H locs) (u : S) (hua : ua u = ad1) (huc : uc u = ce1) (hpost : post u) (hdg : decode cc pc = .ok (.return_, 1)) :
    W p l e R s m args below meth c H locs cells slots (MQ below (va_Qv post (xm_B D cl tys (xm_A ad ce s.heap.size) ua uc) (xm_A ad ce s.heap.size)) args s cells slots (xm_A ad ce s.heap.size)) (F0 m pc ls []) := by
  subst hua; subst huc
  exact W.vret hexec hb hr (fun t ht hW => ⟨⟨u, rfl, hpost, by rw [ht]; exact hw.2.1, va_K.moved hW.alike hw.1, hw.2.2.1⟩, hw.2.2.2.1.F ht⟩) hw.2.2.2.1.2.2 hdg
end XM
/-- a contract, from a walk of the body -/
theorem xm_ofW {l : Launch} {y : MethodName} {ws ws' : List Cond} {rm : Room} {mc ms : Nat} {cc : ByteArray} {maxL : Nat} {ret : Option FieldType} {D : va_G} {cl : List vw_C} {tys : List (ClassId × FieldType)} {ad : Nat → Nat} {ce : Nat → Option va_E} {av : List Value} {Qc : Nat → Array Value → State → Outcome → State → Prop}
    (hy : plainName y.cls = true) (hwd : ws = Cond.code y cc maxL ret :: ws') (hlen : (lg_sl av).length ≤ maxL)
    (body : ∀ (p : Program) (e : Env) (s : State) (m : MethodId) (args : Array Value) (below : List Frame) (meth : Method) (c : Code) (ls : Array Slot) (QQ : State → Prop), QQ = MQ below (Qc s.heap.size) args s mc ms (xm_A ad ce s.heap.size) → p.tables.exec = Jvm.exec → c.code = cc → c.maxLocals = maxL → meth.sig.returnType = ret → s.vm.findClass y.cls = some m.cls → meth.locks = false → meth.name = y.name → (∀ w ∈ ws, w.before args s = true) → lv_has ls maxL (lv_args 0 av) → xm_W D cl tys (xm_A ad ce s.heap.size) ad ce s s.heap s.heap [] →
      W p l e rm s m args below meth c s.heap [] 0 0 QQ (F0 m 0 ls [])) :
    ∀ sz, Met l y ws rm (xm_Pc D cl tys ad ce sz av) (Qc sz) mc ms (xm_A ad ce sz) := by
  intro sz
  refine Met.ofW (cc := cc) (maxL := maxL) (ret := ret) hy hwd ?_
  intro p e s m args below meth c s₁ B hml hv
  obtain ⟨hargs, hsz, hP, hK, hD, hN⟩ := hv
  subst hsz
  have hE : entryFrame m args maxL = F0 m 0 ((lg_sl av ++ List.replicate (maxL - (lg_sl av).length) Slot.unset).toArray) [] := by rw [hargs, lg_entry_eq]
  rw [hE]
  exact body p e s m args below meth c _ _ rfl B.exec B.bytes hml B.returns (findClass_of_methodNamed B.named) B.notSynchronized (name_of_methodNamed B.named B.method).1 (atoms_spec (ws := ws) B.pre) (lv_entry av hlen) ⟨hK, hP, ⟨hD.1, fun i hi => Or.inl ⟨i, hi, rfl⟩⟩, va_S.rf, fun q h => Or.inr h, hN⟩

