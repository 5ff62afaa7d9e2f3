/-! a world of mine as a list: so that the kit's rows over lists serve it too -/
theorem xm_list {ad : Nat → Nat} {ce : Nat → Option va_E} : ∀ n : Nat, ∃ ws : va_W, (∀ (k : Nat) (q : Nat × va_E), ws[k]? = some q → q.1 < n ∧ ∃ i, ad i = q.1 ∧ ce i = some q.2) ∧ (∀ (i j : Nat) (p q : Nat × va_E), ws[i]? = some p → ws[j]? = some q → p.1 = q.1 → i = j) ∧ ((∀ i j : Nat, ce i ≠ none → ce j ≠ none → ad i = ad j → i = j) → ∀ (i : Nat) (x : va_E), ce i = some x → ad i < n → ∃ k : Nat, ws[k]? = some (ad i, x)) := by
  intro n
  induction n with
  | zero => exact ⟨[], fun k q h => by simp at h, fun i j p q h => by simp at h, fun _ i x _ h => absurd h (by omega)⟩
  | succ n ih =>
    obtain ⟨ws, h1, h2, h3⟩ := ih
    by_cases hx : ∃ i x, ce i = some x ∧ ad i = n
    · obtain ⟨i0, x0, hc, ha⟩ := hx
      have key : ∀ (k : Nat) (q : Nat × va_E), (ws ++ [(n, x0)])[k]? = some q → (k < ws.length ∧ ws[k]? = some q) ∨ (k = ws.length ∧ q = (n, x0)) := by
        intro k q h
        by_cases hk : k < ws.length
        · rw [List.getElem?_append_left hk] at h
          exact Or.inl ⟨hk, h⟩
        · rw [List.getElem?_append_right (by omega)] at h
          have hz : k - ws.length < 1 := (List.getElem?_eq_some_iff.mp h).1
          rw [show k - ws.length = 0 by omega] at h
          simp at h
          exact Or.inr ⟨by omega, h.symm⟩
      refine ⟨ws ++ [(n, x0)], fun k q h => ?_, fun i j p q hi hj e => ?_, fun hinj i x hi hlt => ?_⟩
      · rcases key k q h with ⟨-, h⟩ | ⟨-, rfl⟩
        · obtain ⟨g1, g2⟩ := h1 k q h
          exact ⟨by omega, g2⟩
        · exact ⟨by show n < n + 1; omega, i0, ha, hc⟩
      · rcases key i p hi with ⟨a1, a2⟩ | ⟨a1, a2⟩ <;> rcases key j q hj with ⟨b1, b2⟩ | ⟨b1, b2⟩
        · exact h2 i j p q a2 b2 e
        · have := (h1 i p a2).1
          rw [e, b2] at this
          exact absurd this (by show ¬ n < n; omega)
        · have := (h1 j q b2).1
          rw [← e, a2] at this
          exact absurd this (by show ¬ n < n; omega)
        · omega
      · by_cases hn : ad i = n
        · have : i = i0 := hinj i i0 (by rw [hi]; simp) (by rw [hc]; simp) (hn.trans ha.symm)
          subst this
          rw [hc] at hi
          cases hi
          exact ⟨ws.length, by rw [hn]; simp⟩
        · obtain ⟨k, hk⟩ := h3 hinj i x hi (by omega)
          exact ⟨k, by rw [List.getElem?_append_left ((List.getElem?_eq_some_iff.mp hk).1)]; exact hk⟩
    · refine ⟨ws, fun k q h => ⟨by have := (h1 k q h).1; omega, (h1 k q h).2⟩, h2, fun hinj i x hi hlt => ?_⟩
      exact h3 hinj i x hi (by
        have : ad i ≠ n := fun e => hx ⟨i, x, hi, e⟩
        omega)
theorem xm_lists {D : va_G} {cl : List vw_C} {tys : List (ClassId × FieldType)} {A : Nat → Prop} {ad : Nat → Nat} {ce : Nat → Option va_E} {s : State} {H0 H : Heap} {locs : List Loc} (hw : xm_W D cl tys A ad ce s H0 H locs) : ∃ ws : va_W, va_P D cl ws H ∧ va_D A ws ∧ ∀ (i : Nat) (x : va_E), ce i = some x → ∃ k : Nat, ws[k]? = some (ad i, x) := by
  obtain ⟨ws, h1, h2, h3⟩ := xm_list (ad := ad) (ce := ce) H.size
  refine ⟨ws, fun k q h => ?_, ⟨h2, fun k q h => ?_⟩, fun i x hi => h3 hw.2.2.1.1 i x hi (hw.2.1 i x hi).lt⟩
  · obtain ⟨-, i, ha, hc⟩ := h1 k q h
    obtain ⟨qa, qx⟩ := q
    have := hw.2.1 i qx hc
    rw [show ad i = qa from ha] at this
    exact this
  · obtain ⟨-, i, ha, hc⟩ := h1 k q h
    rw [← ha]
    exact hw.2.2.1.2 i (by rw [hc]; simp)
theorem xm_W.ofset {D : va_G} {cl : List vw_C} {tys : List (ClassId × FieldType)} {A : Nat → Prop} {ad : Nat → Nat} {ce : Nat → Option va_E} {s : State} {H0 H H1 : Heap} {locs locs1 : List Loc} (hw : xm_W D cl tys A ad ce s H0 H locs) {ws : va_W} (hcov : ∀ (i : Nat) (x : va_E), ce i = some x → ∃ k : Nat, ws[k]? = some (ad i, x)) {i k : Nat} {x0 x1 : va_E} (hi : ce i = some x0) (hk : ws[k]? = some (ad i, x0)) (hP : va_P D cl (ws.set k (ad i, x1)) H1) (hS : va_S A H0 H1 locs1) : xm_W D cl tys A ad (va_up ce i (some x1)) s H0 H1 locs1 := by
  refine ⟨hw.1, fun j y hj => ?_, hw.2.2.1.set hi, hS, hw.2.2.2.2⟩
  by_cases q : j = i
  · subst q
    rw [va_up_self] at hj
    cases hj
    exact hP k _ (by rw [List.getElem?_set_self ((List.getElem?_eq_some_iff.mp hk).1)])
  · rw [va_up_ne _ _ q] at hj
    obtain ⟨k2, hk2⟩ := hcov j y hj
    have hne : k ≠ k2 := by
      intro e
      rw [e, hk2] at hk
      have := congrArg Prod.fst (Option.some.inj hk)
      exact q (hw.2.2.1.1 j i (by rw [hj]; simp) (by rw [hi]; simp) this)
    exact hP k2 _ (by rw [List.getElem?_set_ne hne]; exact hk2)
section XC
variable {p : Program} {l : Launch} {e : Env} {R : Room} {s : State} {m : MethodId} {args : Array Value} {below : List Frame} {meth : Method} {c : Code} {H : Heap} {locs : List Loc} {cells slots : Nat} {Q : State → Prop}
variable {cc : ByteArray} {pc : Nat} {ls : Array Slot} {rest : List Value} {D : va_G} {cl : List vw_C} {A : Nat → Prop} {tys : List (ClassId × FieldType)} {ad : Nat → Nat} {ce : Nat → Option va_E} {H0 : Heap}
/-- System.arraycopy between arrays of Object whose elements are of one class of ours -/
theorem xa_copy (hexec : p.tables.exec = Jvm.exec) (hb : c.code = cc) (hml : c.maxLocals = ls.size) {own : String} {index : Nat} (hown : s.vm.findClass own = some m.cls) (hlink : (Cond.methodLink own index arraycopyName).before args s = true) (hnat : (Cond.native arraycopyName).before args s = true) (hstat : (Cond.static arraycopyName).before args s = true) (hini : (Cond.initialized "java/lang/System").before args s = true)
    (hw : xm_W D cl tys A ad ce s H0 H locs) (t0 : Nat) {i0 i1 ci n0 n1 : Nat} {cA : ClassId} {f g : Nat → Option Nat} {E : String} {r : vw_C} (h0 : ce i0 = some (.inl (cA, n0, .inr (.inr (.inr (.inr f)))))) (h1' : ce i1 = some (.inl (cA, n1, .inr (.inr (.inr (.inr g)))))) (ht : tys[t0]? = some (cA, .object E)) (hc : cl[ci]? = some r) (hca : va_Nw (.castable r.1 E) s)
    {sp dp n : Int32} (h1 : ¬ sp < 0) (h2 : ¬ dp < 0) (h3 : ¬ n < 0) (h4 : sp.toNatClampNeg + n.toNatClampNeg ≤ n0) (h5 : dp.toNatClampNeg + n.toNatClampNeg ≤ n1) (hel : ∀ i : Nat, i < n.toNatClampNeg → ∀ y : Nat, f (sp.toNatClampNeg + i) = some y → ∃ (j : Nat) (vs : List Value), y = ad j ∧ ce j = some (.inr (ci, vs)))
    (hframes : 1 ≤ R.frames) (hlocals : (rest.map fun v => v.category).sum + (nativeFrameWords "java/lang/System" "arraycopy" 5 + 11) ≤ R.locals) (hdg : decode cc pc = .ok (.invokestatic index, 3))
    (kk : ∀ (H1 : Heap) (locs1 : List Loc), xm_W D cl tys A ad (va_up ce i1 (some (.inl (cA, n1, .inr (.inr (.inr (.inr (va_cpy f g sp.toNatClampNeg dp.toNatClampNeg n.toNatClampNeg)))))))) s H0 H1 locs1 → W p l e R s m args below meth c H1 locs1 cells slots Q (F0 m (pc + 3) ls rest)) : W p l e R s m args below meth c H locs cells slots Q (F0 m pc ls (.int n :: .int dp :: .ref (ad i1) :: .int sp :: .ref (ad i0) :: rest)) := by
  obtain ⟨ws, hP, hD, hcov⟩ := xm_lists hw
  obtain ⟨k0, hk0⟩ := hcov i0 _ h0
  obtain ⟨k1, hk1⟩ := hcov i1 _ h1'
  refine va_copyq (C := r.1) hexec hb hml hown hlink hnat hstat hini hw.1 hP hD hw.2.2.2.1 k0 k1 t0 t0 hk0 hk1 ht ht h1 h2 h3 h4 h5 (fun i hi y hy => ?_) (fun comp c0 hE hC => ?_) hframes hlocals hdg (fun H1 locs1 hP1 hD1 hS1 => kk H1 locs1 (hw.ofset hcov h1' hk1 hP1 hS1))
  · obtain ⟨j, vs, rfl, hj⟩ := hel i hi y hy
    exact va_recv hw.1 (xm_one hw.2.1 hj) hc (q0 := 0) rfl
  · obtain ⟨c1, t1, f1, f2, f3⟩ := Cond.castable_spec (va_Nw.use (A := args) rfl hca)
    cases hC.symm.trans f1
    cases hE.symm.trans f2
    exact f3
end XC
