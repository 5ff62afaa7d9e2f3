/-! WHAT HOLDS AT THE LAW'S ENTRY, in my words -/
theorem xt_bad_in : ∀ w ∈ xt_bad, w ∈ lw_tbl := by decide +kernel
theorem lx_str {args : Array Value} {s : State} {own tx : String} {k : Nat} (h1 : (Cond.stringRef own k tx).before args s = true) (h2 : (Cond.exactly (.string own k) "java/lang/String").before args s = true) : ∃ q, vk_R own k tx q s := by
  obtain ⟨a, c, cell, kk, he, -⟩ := Cond.exactly_spec h2
  exact ⟨a, vk_R.of h1 he⟩
theorem lx_xt {args : Array Value} {s : State} (hts : ∀ w ∈ lw_tbl, w.before args s = true) (hgv : (Jvm.Cond.and given_1 narrow_1).before args s = true) : xt_ok (xlA s) s s.heap := by
  have hg := flat_of_before _ hgv
  have hA : ∀ a : Nat, a < s.heap.size → ¬ xlA s a := fun a h => Nat.not_le.mpr h
  exact ⟨lx_str (hts _ (by decide +kernel)) (hg _ (by decide +kernel)), lx_str (hts _ (by decide +kernel)) (hg _ (by decide +kernel)), lx_str (hts _ (by decide +kernel)) (hg _ (by decide +kernel)),
    vx_Zqof (hts _ (by decide +kernel)) (hts _ (by decide +kernel)) (hg _ (by decide +kernel)) hA, vx_Zqof (hts _ (by decide +kernel)) (hts _ (by decide +kernel)) (hg _ (by decide +kernel)) hA, fun w hw => va_Nw.of (xt_tab (xt_bad_dc w hw)) (hts w (xt_bad_in w hw))⟩
theorem lx_nc {args : Array Value} {s : State} (hgv : (Jvm.Cond.and given_1 narrow_1).before args s = true) : xh_Nc s := va_Nc.of (flat_of_before _ hgv _ (by decide +kernel))
theorem lx_xn {args : Array Value} {s : State} (hts : ∀ w ∈ lw_tbl, w.before args s = true) : xn_ok s :=
  ⟨va_Nw.of rfl (hts _ (by decide +kernel)), va_Nw.of rfl (hts _ (by decide +kernel)), va_Nw.of rfl (hts _ (by decide +kernel)), va_Nw.of rfl (hts _ (by decide +kernel))⟩
theorem lx_xq {args : Array Value} {s : State} (hts : ∀ w ∈ lw_tbl, w.before args s = true) (hgv : (Jvm.Cond.and given_1 narrow_1).before args s = true) : ∃ t0 mi, xq_ok t0 mi (xlA s) s s.heap := by
  have hg := flat_of_before _ hgv
  have hA : ∀ a : Nat, a < s.heap.size → ¬ xlA s a := fun a h => Nat.not_le.mpr h
  obtain ⟨t0, h1, h2⟩ := va_Tof (N := 0) (f := fun _ => .null) (A := xlA s) (by decide) (hg (.arrayOf (.static "java/util/ArrayList" "DEFAULTCAPACITY_EMPTY_ELEMENTDATA" "[Ljava/lang/Object;") (.object "java/lang/Object")) (by decide +kernel)) (va_eqt (hg (.eq (.length (.static "java/util/ArrayList" "DEFAULTCAPACITY_EMPTY_ELEMENTDATA" "[Ljava/lang/Object;")) (.int 0)) (by decide +kernel))) (fun j hj => absurd hj (by omega)) hA
  obtain ⟨mi, h3⟩ := va_Mi.of (hg (.isRef (.mirror "[Ljava/lang/Object;")) (by decide +kernel))
  exact ⟨t0, mi, va_Zref (hts _ (by decide +kernel)) (hts _ (by decide +kernel)) h1 hA, h2, va_AO.of (hts _ (by decide +kernel)), va_Nw.of rfl (hts _ (by decide +kernel)), h3, va_Dc.of (hts _ (by decide +kernel))⟩
theorem lx_arr {args : Array Value} {s : State} {ty : FieldType} (h : (Cond.arrayClass ty).before args s = true) : ∃ cA, ArrOfT s cA ty ∧ s.vm.findClass ("[" ++ ty.toString) = some cA := by
  obtain ⟨c, k, comp, h1, h2, h3⟩ := Cond.arrayClass_spec h
  exact ⟨c, fun n z => ⟨fun k h => (by cases h), k, h2, comp, h3⟩, h1⟩
theorem lx_K {args : Array Value} {s : State} (hts : ∀ w ∈ lw_tbl, w.before args s = true) : ∃ (D : va_G) (cI cZ cJ cO : ClassId), va_K D xcl (xT cI cZ cJ cO) s := by
  have ht : ∀ w ∈ xg, w.before args s = true := fun w h => hts w (List.mem_filter.mp h).1
  obtain ⟨c0, i0, h0⟩ := u_known (C := R_Qd) (T := F_Qd) (N := 12) (n := 12) ht i_Qd (hts _ (by decide +kernel))
  obtain ⟨c1, i1, h1⟩ := u_known (C := R_Pr) (T := F_Pr) (N := 1) (n := 1) ht i_Pr (hts _ (by decide +kernel))
  obtain ⟨c2, i2, h2⟩ := u_known (C := R_Mt) (T := F_Mt) (N := 2) (n := 2) ht i_Mt (hts _ (by decide +kernel))
  obtain ⟨c3, i3, h3⟩ := u_known (C := R_Ru) (T := F_Ru) (N := 4) (n := 4) ht i_Ru (hts _ (by decide +kernel))
  obtain ⟨c4, i4, h4⟩ := u_known (C := R_Mo) (T := F_Mo) (N := 28) (n := 28) ht i_Mo (hts _ (by decide +kernel))
  obtain ⟨c5, i5, h5⟩ := u_known (C := R_Al) (T := F_Al) (N := 3) (n := 3) ht i_Al (hts _ (by decide +kernel))
  obtain ⟨cI, a1, b1⟩ := lx_arr (ty := .int) (hts (.arrayClass .int) (by decide +kernel))
  obtain ⟨cZ, a2, b2⟩ := lx_arr (ty := .boolean) (hts (.arrayClass .boolean) (by decide +kernel))
  obtain ⟨cJ, a3, b3⟩ := lx_arr (ty := .long) (hts (.arrayClass .long) (by decide +kernel))
  obtain ⟨comp, cO, kO, d1, -, d2, d3, d4⟩ := Cond.arrayOver_spec (hts (.arrayOver (.object "java/lang/Object")) (by decide +kernel))
  refine ⟨(fun k => if k = 0 then c0 else if k = 1 then c1 else if k = 2 then c2 else if k = 3 then c3 else if k = 4 then c4 else c5, fun k => if k = 0 then i0 else if k = 1 then i1 else if k = 2 then i2 else if k = 3 then i3 else if k = 4 then i4 else i5), cI, cZ, cJ, cO, ?_, ?_⟩
  · intro k q hq
    match k, hq with
    | 0, hq => cases hq; exact h0
    | 1, hq => cases hq; exact h1
    | 2, hq => cases hq; exact h2
    | 3, hq => cases hq; exact h3
    | 4, hq => cases hq; exact h4
    | 5, hq => cases hq; exact h5
    | k + 6, hq => simp at hq
  · intro k q hq
    match k, hq with
    | 0, hq => cases hq; exact ⟨a1, b1⟩
    | 1, hq => cases hq; exact ⟨a2, b2⟩
    | 2, hq => cases hq; exact ⟨a3, b3⟩
    | 3, hq => cases hq; exact ⟨fun n z => ⟨fun k h => (by cases h), kO, d2, comp, d3⟩, kO, comp, d2, d3, d1, d4⟩
    | k + 4, hq => simp at hq
theorem lx_ts {args : Array Value} {s : State} (hts : ∀ w ∈ lw_tbl, w.before args s = true) : ∃ c0, ∀ w ∈ c0 :: xg, w.before args s = true := by
  have h0 : Cond.arrayClass .int ∈ lw_tbl := by decide +kernel
  refine ⟨Cond.arrayClass .int, fun w hw => ?_⟩
  rcases List.mem_cons.mp hw with rfl | h
  · exact hts _ h0
  · exact hts w (List.mem_filter.mp h).1
/-- the same cells by other numbers -/
theorem lw_re {D : va_G} {cl : List vw_C} {tys : List (ClassId × FieldType)} {A : Nat → Prop} {ad0 ad : Nat → Nat} {ce : Nat → Option va_E} {s : State} {H0 H : Heap} {locs : List Loc} {cs : List va_E} (is : List Nat) (hw : xm_W D cl tys A ad0 ce s H0 H locs) (hnd : is.Nodup) (hcs : ∀ k x, cs[k]? = some x → ∃ i, is[k]? = some i ∧ ce i = some x ∧ ad k = ad0 i) : xm_W D cl tys A ad (lw cs (fun _ => none)) s H0 H locs := by
  have key : ∀ k x, lw cs (fun _ => none) k = some x → cs[k]? = some x := by
    intro k x h
    unfold lw at h
    by_cases q : k < 100
    · rw [if_pos q] at h; exact h
    · rw [if_neg q] at h; cases h
  refine ⟨hw.1, fun k x h => ?_, ⟨fun i j hi hj e => ?_, fun i hi => ?_⟩, hw.2.2.2⟩
  · obtain ⟨i, h1, h2, h3⟩ := hcs k x (key k x h)
    rw [h3]
    exact hw.2.1 i x h2
  · obtain ⟨x, hx⟩ := Option.ne_none_iff_exists'.mp hi
    obtain ⟨y, hy⟩ := Option.ne_none_iff_exists'.mp hj
    obtain ⟨a, a1, a2, a3⟩ := hcs i x (key i x hx)
    obtain ⟨b, b1, b2, b3⟩ := hcs j y (key j y hy)
    rw [a3, b3] at e
    have : a = b := hw.2.2.1.1 a b (by rw [a2]; exact Option.some_ne_none _) (by rw [b2]; exact Option.some_ne_none _) e
    subst this
    obtain ⟨hi', ei⟩ := List.getElem?_eq_some_iff.mp a1
    obtain ⟨hj', ej⟩ := List.getElem?_eq_some_iff.mp b1
    have hp := List.pairwise_iff_getElem.mp hnd
    rcases Nat.lt_trichotomy i j with q | q | q
    · exact absurd (ei.trans ej.symm) (hp i j hi' hj' q)
    · exact q
    · exact absurd (ej.trans ei.symm) (hp j i hj' hi' q)
  · obtain ⟨x, hx⟩ := Option.ne_none_iff_exists'.mp hi
    obtain ⟨a, a1, a2, a3⟩ := hcs i x (key i x hx)
    rw [a3]
    exact hw.2.2.1.2 a (by rw [a2]; exact Option.some_ne_none _)
theorem rF_0 : rF (fun _ _ _ => false) = fun _ => 0 := by
  funext i
  rfl
theorem lz_init {cI cO : ClassId} {ad : Nat → Nat} {t0 : Nat} {RS : Nat → RU} {R : RU} {dy : Nat → Option va_E} {oa la ga zz : Nat → Int32} : kA 0 (fun _ => 0) (fun _ => false) (fun _ => 0) (fun _ => 0) ∧ kA 0 (fun _ => 0) (fun _ => false) (fun _ => 0) (fun _ => 0) ∧ J2 0 (fun _ => 0) (fun _ => false) (fun _ _ _ => false) (fun _ => 0) ∧ J3 0 (fun _ => 0) oa la ga zz RS 0 ∧ JL cI cO ad t0 0 (.ref t0) 0 RS dy ∧ JB cI ad 0 (fun _ => 0) 0 false .null R oa la ga zz dy ∧ J6 0 (fun _ => 0) (fun _ => false) (fun _ _ _ => false) (fun _ => false) (fun _ => false) (fun _ => false) 0 1 1 0 false (fun _ => 0) (fun _ => 0) (fun _ => 0) (fun _ => 0) := by
  have hk : kA 0 (fun _ => 0) (fun _ => false) (fun _ => 0) (fun _ => 0) := ⟨by omega, fun _ _ => rfl, fun _ => Nat.zero_le _, fun _ h => absurd h (by omega), fun _ _ => ⟨rfl, rfl⟩, fun _ _ => rfl⟩
  have hr : ∀ o, relM (fun _ => 0) (fun _ => false) (fun _ _ _ => false) o := fun o k hk x y => ⟨fun h => (Bool.false_ne_true h).elim, fun h => (Bool.false_ne_true h.2).elim⟩
  have hv : mV (fun _ => 0) (fun _ => false) := fun f h => (Bool.false_ne_true h).elim
  refine ⟨hk, hk, ⟨hr 20, fun _ _ => rfl, hv, fun f h => (Bool.false_ne_true h).elim⟩, ⟨by omega, fun r h => absurd h (by omega), fun r h => absurd h (by omega), fun r h => absurd h (by omega)⟩, Or.inl ⟨rfl, rfl⟩, JB.no R, hr 0, fun _ _ => rfl, hv, fun _ _ _ _ _ _ => rfl, fun _ _ => rfl, fun c h => (Bool.false_ne_true h).elim, fun _ _ => rfl, fun _ _ => rfl, fun a b => ⟨fun h => (Bool.false_ne_true h).elim, fun h => ?_⟩, fun _ _ _ h => (Bool.false_ne_true h).elim, by omega, ⟨by omega, by omega, by omega, by omega⟩, fun f h => (Bool.false_ne_true h).elim, fun f h => (Bool.false_ne_true h).elim, fun f h => (Bool.false_ne_true h).elim, fun _ => ⟨fun _ => rfl, fun _ => rfl⟩, fun h => (Bool.false_ne_true h).elim⟩
  exact (Bool.false_ne_true (ansB_t.mp h.2).2.1).elim
