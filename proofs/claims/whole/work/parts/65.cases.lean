section LW1
/-! THE COMMANDS OF A SCRIPT, ONE BY ONE: both answer alike -/
theorem tl_int {Q : Prop} {oc : Nat → Int64} {r : Int32} (ho : oc 0 = r.toInt64) (h : Q) : wp_Mo_thrown (fun r17 => ((r17 = 0 → xj (fun (_ : Unit) => Q) (fun (J : Unit → Prop) => ((¬ (0 : Int32) = 0 → J ()) ∧ ((0 : Int32) = 0 → vp_in 0 1 ∧ (oc (Int32.toNatClampNeg 0)) = r.toInt64 ∧ (((0 : Int32) = 0 → J ()) ∧ (¬ (0 : Int32) = 0 → False)))))) ∧ (¬ r17 = 0 → False))) 0 :=
  ⟨fun _ => ⟨fun q => absurd rfl q, fun _ => ⟨in01, ho, fun _ => h, fun q => q rfl⟩⟩, fun q => q rfl⟩
theorem tl_thr {Q : Prop} {X : (Unit → Prop) → Prop} {k : Int32} (hk : ¬ k = 0) (h : Q) : wp_Mo_thrown (fun r17 => ((r17 = k → xj (fun (_ : Unit) => Q) (fun (J : Unit → Prop) => ((¬ k = 0 → J ()) ∧ (k = 0 → X J)))) ∧ (¬ r17 = k → False))) k :=
  ⟨fun _ => ⟨fun _ => h, fun q => absurd q hk⟩, fun q => q rfl⟩
theorem tl_bool {Q : Prop} {oc : Nat → Int64} {r : Int32} {b : Bool} (ho : oc 0 = lI b) (hr : r = bI b) (h : Q) : wp_Mo_thrown (fun r17 => ((r17 = 0 → xj (fun (_ : Unit) => Q) (fun (J : Unit → Prop) => ((¬ (0 : Int32) = 0 → J ()) ∧ ((0 : Int32) = 0 → vp_in 0 1 ∧ xj (fun (v : Int64) => (oc (Int32.toNatClampNeg 0)) = v ∧ (((0 : Int32) = 0 → J ()) ∧ (¬ (0 : Int32) = 0 → False))) (fun (J2 : Int64 → Prop) => ((r = 0 → J2 0) ∧ (¬ r = 0 → J2 1))))))) ∧ (¬ r17 = 0 → False))) 0 := by
  subst hr
  refine ⟨fun _ => ⟨fun q => absurd rfl q, fun _ => ⟨in01, ?_⟩⟩, fun q => q rfl⟩
  cases b with
  | true => exact ⟨fun q => absurd q (by decide), fun _ => ⟨ho, fun _ => h, fun q => q rfl⟩⟩
  | false => exact ⟨fun _ => ⟨ho, fun _ => h, fun q => q rfl⟩, fun q => absurd rfl q⟩
variable {sL : Nat} {sx : Nat → Int32} {i : Int32} {np : Nat} {pl : Nat → Nat} {Ru : Nat → Bool} {qpl qbr mp mr : Nat → Int32} {oc : Nat → Int64} {th : Int32}
theorem zc_pred {E : Int32 × Int32 × (Nat → Int32) × (Nat → Int32) × (Nat → Int64) × Int32 × (Nat → Int32) × (Nat → Int32) × Int32 → Prop} (h1 : vp_in (i + 1) sL) (h2 : vp_in (i + 2) sL) (hk : kA np pl Ru qpl qbr) (hk2 : kA np pl Ru mp mr)
    (hE0 : ∀ oc' th', E (i + 4, nI np, qpl, qbr, oc', th', mp, mr, nI np))
    (hE1 : ∀ v b qpl' qbr' mp' mr' oc' th', (v = 1 ∨ v = 2) → np < 10 → kA (np + 1) (cU pl np v) (fun i => if i = np then b else Ru i) qpl' qbr' → kA (np + 1) (cU pl np v) (fun i => if i = np then b else Ru i) mp' mr' → E (i + 4, nI (np + 1), qpl', qbr', oc', th', mp', mr', nI (np + 1))) :
    wp_Law_pred E sL sx (nI np) qpl qbr oc th mp mr (nI np) i := by
  unfold wp_Law_pred
  refine ⟨h1, h2, ?_⟩
  have dist : ∀ {M : Int32 → Prop} {c : Int32} (b : Bool), (b = true → ¬ c = 0) → (b = false → c = 0) → M (bI b) → (c = 0 → M 0) ∧ (¬ c = 0 → M 1) := by
    intro M c b hb1 hb0 h
    cases b with
    | true => exact ⟨fun q => absurd q (hb1 rfl), fun _ => h⟩
    | false => exact ⟨fun _ => h, fun q => absurd (hb0 rfl) q⟩
  have key : ∀ (b : Bool) (a c : Int32), (b = true → ¬ c = 0) → (b = false → c = 0) → wp_La_predicate (fun r_3 np_5 qpl_6 qbr_7 oc_8 => vp_in (i + 1) sL ∧ vp_in (i + 2) sL ∧ ((c = 0 → wp_Mo_predicate (fun r_11 m_thrown_13 m_places_14 m_ruled_15 m_predicates_16 => wp_Mo_thrown (fun r_17 => ((r_17 = r_3 → xj (fun (v_19 : Unit) => ∀ x_21 : Int32, x_21 = i + 4 → E (x_21, np_5, qpl_6, qbr_7, oc_8, m_thrown_13, m_places_14, m_ruled_15, m_predicates_16)) (fun (J_20 : Unit → Prop) => ((¬ r_3 = 0 → J_20 ()) ∧ (r_3 = 0 → vp_in 0 1 ∧ (oc_8 (Int32.toNatClampNeg 0)) = r_11.toInt64 ∧ (((0 : Int32) = 0 → J_20 ()) ∧ (¬ (0 : Int32) = 0 → False)))))) ∧ (¬ r_17 = r_3 → False))) m_thrown_13) th mp mr (nI np) a 0) ∧ (¬ c = 0 → wp_Mo_predicate (fun r_11 m_thrown_13 m_places_14 m_ruled_15 m_predicates_16 => wp_Mo_thrown (fun r_17 => ((r_17 = r_3 → xj (fun (v_19 : Unit) => ∀ x_21 : Int32, x_21 = i + 4 → E (x_21, np_5, qpl_6, qbr_7, oc_8, m_thrown_13, m_places_14, m_ruled_15, m_predicates_16)) (fun (J_20 : Unit → Prop) => ((¬ r_3 = 0 → J_20 ()) ∧ (r_3 = 0 → vp_in 0 1 ∧ (oc_8 (Int32.toNatClampNeg 0)) = r_11.toInt64 ∧ (((0 : Int32) = 0 → J_20 ()) ∧ (¬ (0 : Int32) = 0 → False)))))) ∧ (¬ r_17 = r_3 → False))) m_thrown_13) th mp mr (nI np) a 1))) (nI np) qpl qbr oc a (bI b) := by
    intro b a c hb1 hb0
    refine lh_pred b hk (fun hn => ⟨h1, h2, dist (M := fun v => wp_Mo_predicate _ _ _ _ _ _ v) b hb1 hb0 ?_⟩) (fun ha e oc' ho => ⟨h1, h2, dist (M := fun v => wp_Mo_predicate _ _ _ _ _ _ v) b hb1 hb0 ?_⟩) (fun v hv ea hlt qpl' qbr' oc' hk' ho => ⟨h1, h2, dist (M := fun v => wp_Mo_predicate _ _ _ _ _ _ v) b hb1 hb0 ?_⟩)
    · refine m_pred b hk2 (fun _ => ?_) (fun q _ => absurd q hn) (fun v hv ea _ => absurd ?_ hn)
      · exact tl_thr (by decide) (fun x e => by subst e; exact hE0 _ _)
      · rcases hv with rfl | rfl
        · exact Or.inl ea
        · exact Or.inr ea
    · refine m_pred b hk2 (fun q => absurd ha q) (fun _ _ => ?_) (fun v hv ea hlt => absurd e (by omega))
      exact tl_int ho (fun x e => by subst e; exact hE0 _ _)
    · refine m_pred b hk2 (fun q => absurd ?_ q) (fun _ q => absurd q (by omega)) (fun v' hv' ea' _ mp' mr' hk2' => ?_)
      · rcases hv with rfl | rfl
        · exact Or.inl ea
        · exact Or.inr ea
      · have : v' = v := by
          rw [ea'] at ea
          exact (nI_eq (by omega) (by omega)).mp ea
        subst this
        exact tl_int ho (fun x e => by subst e; exact hE1 _ _ _ _ _ _ _ _ hv hlt hk' hk2')
  unfold xj
  exact ⟨fun q => key false _ _ (fun z => by cases z) (fun _ => q), fun q => key true _ _ (fun _ => q) (fun z => by cases z)⟩
end LW1
section LW2
variable {sL : Nat} {sx : Nat → Int32} {i : Int32} {np : Nat} {pl : Nat → Nat} {Ru : Nat → Bool} {qpl qbr mp mr td md cl pa qpt : Nat → Int32} {oc : Nat → Int64} {th : Int32} {S : SS} {T M CL P : Nat → Bool}
theorem okF_A {a x y : Int32} {p t u : Nat} {b : Bool} {lo hi : Nat} (hp : p < np) (hr : Ru p = b) (e1 : a = nI p) (e2 : x = xb_t t) (t1 : lo ≤ t) (t2 : t ≤ hi) (e3 : y = xb_t u) (u1 : pl p = 1 → u = 0) (u2 : pl p ≠ 1 → lo ≤ u ∧ u ≤ hi) : okF np pl Ru b lo hi a x y := ⟨p, t, u, e1, hp, hr, e2, t1, t2, e3, u1, u2⟩
theorem not_tells {a x y : Int32} (hnp : np ≤ 10) (h : ¬ okF np pl Ru false 1 10 a x y) : ¬ ∃ p, p < np ∧ a = nI p ∧ Ru p = false ∧ okA np pl 1 10 a x y := by
  rintro ⟨p, hp, ea, hr, p', t, u, e1, hp', e2, t1, t2, e3, u1, u2⟩
  have : p' = p := by
    rw [e1] at ea
    exact (nI_eq (by omega) (by omega)).mp ea
  subst this
  exact h ⟨p', t, u, e1, hp', hr, e2, t1, t2, e3, u1, u2⟩
theorem vd_un {p t u p' t' u' : Nat} {a x y : Int32} (hn : np ≤ 10) (hp : p < np) (hp' : p' < np) (e1 : a = nI p) (e2 : x = xb_t t) (e3 : y = xb_t u) (hv : vd pl p t u) (e1' : a = nI p') (e2' : x = xb_t t') (e3' : y = xb_t u') (hv' : vd pl p' t' u') : p' = p ∧ t' = t ∧ u' = u := by
  have b1 := u10 hv.2.2.1 hv.2.2.2
  have b2 := u10 hv'.2.2.1 hv'.2.2.2
  have c1 := hv.2.1
  have c2 := hv'.2.1
  rw [e1] at e1'; rw [e2] at e2'; rw [e3] at e3'
  exact ⟨((nI_eq (by omega) (by omega)).mp e1').symm, ((xt_un (by omega) (by omega)).mp e2').symm, ((xt_un (by omega) (by omega)).mp e3').symm⟩
theorem put_T {p t u : Nat} (h10 : p < 10) (hv : vd pl p t u) (hT : relM pl T S 20) : relM pl (mC T (ix3 p t u) true) (ms_put S (20 + p) t u) 20 := by
  intro k hk x y
  unfold ms_put mC
  by_cases q : 20 + k = 20 + p ∧ x = t ∧ y = u
  · rw [if_pos q]
    obtain ⟨q1, rfl, rfl⟩ := q
    have : k = p := by omega
    subst this
    rw [if_pos rfl]
    exact ⟨fun _ => ⟨hv, rfl⟩, fun _ => rfl⟩
  · rw [if_neg q, hT k hk x y]
    by_cases z : ix3 k x y = ix3 p t u
    · rw [if_pos z]
      constructor
      · rintro ⟨h1, h2⟩; exact ⟨h1, rfl⟩
      · rintro ⟨h1, -⟩
        exfalso
        apply q
        have a1 := ix_back h1 hk
        have a2 := ix_back hv h10
        rw [z] at a1
        have : k = p := a1.1.symm.trans a2.1
        subst this
        exact ⟨rfl, a1.2.1.symm.trans a2.2.1, a1.2.2.1.symm.trans a2.2.2.1⟩
    · rw [if_neg z]
theorem del_T {p t u : Nat} (h10 : p < 10) (hv : vd pl p t u) (hT : relM pl T S 20) : relM pl (mC T (ix3 p t u) false) (ms_del S (20 + p) t u) 20 := by
  intro k hk x y
  unfold ms_del mC
  by_cases q : 20 + k = 20 + p ∧ x = t ∧ y = u
  · rw [if_pos q]
    obtain ⟨q1, rfl, rfl⟩ := q
    have : k = p := by omega
    subst this
    rw [if_pos rfl]
    exact ⟨fun z => (Bool.false_ne_true z).elim, fun z => (Bool.false_ne_true z.2).elim⟩
  · rw [if_neg q, hT k hk x y]
    by_cases z : ix3 k x y = ix3 p t u
    · rw [if_pos z]
      constructor
      · rintro ⟨h1, -⟩
        exfalso
        apply q
        have a1 := ix_back h1 hk
        have a2 := ix_back hv h10
        rw [z] at a1
        have : k = p := a1.1.symm.trans a2.1
        subst this
        exact ⟨rfl, a1.2.1.symm.trans a2.2.1, a1.2.2.1.symm.trans a2.2.2.1⟩
      · rintro ⟨-, h⟩; cases h
    · rw [if_neg z]
theorem mV_put {p t u : Nat} (h10 : p < 10) (hv : vd pl p t u) (hT : mV pl T) : mV pl (mC T (ix3 p t u) true) := by
  intro f hf
  unfold mC at hf
  by_cases z : f = ix3 p t u
  · subst z
    have a2 := ix_back hv h10
    refine ⟨?_, fun q => ?_⟩
    · have b1 := u10 hv.2.2.1 hv.2.2.2
      have := hv.1; have := hv.2.1
      unfold ix3; omega
    · rw [a2.1] at q
      exact a2.2.2.2.1 q
  · rw [if_neg z] at hf
    exact hT f hf
theorem mV_del {p t u : Nat} (hT : mV pl T) : mV pl (mC T (ix3 p t u) false) := by
  intro f hf
  unfold mC at hf
  by_cases z : f = ix3 p t u
  · rw [if_pos z] at hf; cases hf
  · rw [if_neg z] at hf
    exact hT f hf
/-- the told facts of both -/
abbrev J2 (np : Nat) (pl : Nat → Nat) (T : Nat → Bool) (S : SS) (td : Nat → Int32) : Prop := relM pl T S 20 ∧ mB td T 1000 ∧ mV pl T ∧ ∀ f, T f = true → f / 100 < np
theorem zc_fact {E : Int32 × (Nat → Int32) × (Nat → Int64) × Int32 × (Nat → Int32) → Prop} (h1 : vp_in (i + 1) sL) (h2 : vp_in (i + 2) sL) (h3 : vp_in (i + 3) sL) (hk : kA np pl Ru qpl qbr) (hk2 : kA np pl Ru mp mr) (hT : J2 np pl T S td)
    (hE0 : ∀ oc' th', E (i + 4, rF S, oc', th', td))
    (hE1 : ∀ p t u T' td' oc' th', p < 10 → t ≤ 10 → u ≤ 10 → J2 np pl T' (ms_put S (20 + p) t u) td' → E (i + 4, rF (ms_put S (20 + p) t u), oc', th', td')) :
    wp_Law_fact E sL sx (nI np) qpl qbr mp mr (nI np) (rF S) oc th td i := by
  obtain ⟨k1, k2, k3, k4, k5, k6⟩ := hk2
  unfold wp_Law_fact
  refine ⟨h1, h2, h3, lh_fact hk hT.1 (fun p t u e1 hp hr e2 e3 hv oc' ho => ⟨h1, h2, h3, ?_⟩) (fun hn => ⟨h1, h2, h3, ?_⟩)⟩
  · unfold wp_Mo_fact
    refine q_tells true k1 k2 k3 k6 hT.2.1 (fun p' t' u' e1' hp' hr' e2' e3' hv' td' htd => ⟨bI_nar _, ?_⟩) (fun q => absurd ⟨p, hp, e1, hr, p, t, u, e1, hp, e2, hv.1, hv.2.1, e3, hv.2.2.1, hv.2.2.2⟩ q)
    obtain ⟨rfl, rfl, rfl⟩ := vd_un k1 hp hp' e1 e2 e3 hv e1' e2' e3' hv'
    refine tl_bool ho (by cases T (ix3 p' t' u') <;> rfl) (fun x e => ?_)
    subst e
    refine hE1 p' t' u' _ _ _ _ (by omega) hv.2.1 (u10 hv.2.2.1 hv.2.2.2) ⟨put_T (by omega) hv hT.1, htd, mV_put (by omega) hv hT.2.2.1, fun f hf => ?_⟩
    unfold mC at hf
    by_cases z : f = ix3 p' t' u'
    · rw [z, (ix_back hv (by omega)).1]; exact hp
    · rw [if_neg z] at hf; exact hT.2.2.2 f hf
  · unfold wp_Mo_fact
    refine q_tells true k1 k2 k3 k6 hT.2.1 (fun p t u e1 hp hr e2 e3 hv td' htd => absurd ⟨p, t, u, e1, hp, hr, e2, hv.1, hv.2.1, e3, hv.2.2.1, hv.2.2.2⟩ hn) (fun q => ⟨by rfl, ?_⟩)
    exact tl_thr (by decide) (fun x e => by subst e; exact hE0 _ _)
theorem zc_drop {E : Int32 × (Nat → Int32) × (Nat → Int64) × Int32 × (Nat → Int32) → Prop} (h1 : vp_in (i + 1) sL) (h2 : vp_in (i + 2) sL) (h3 : vp_in (i + 3) sL) (hk : kA np pl Ru qpl qbr) (hk2 : kA np pl Ru mp mr) (hT : J2 np pl T S td)
    (hE0 : ∀ oc' th', E (i + 4, rF S, oc', th', td))
    (hE1 : ∀ p t u T' td' oc' th', p < 10 → J2 np pl T' (ms_del S (20 + p) t u) td' → E (i + 4, rF (ms_del S (20 + p) t u), oc', th', td')) :
    wp_Law_drop E sL sx (nI np) qpl qbr mp mr (nI np) (rF S) oc th td i := by
  obtain ⟨k1, k2, k3, k4, k5, k6⟩ := hk2
  unfold wp_Law_drop
  refine ⟨h1, h2, h3, lh_drop hk hT.1 (fun p t u e1 hp hr e2 e3 hv oc' ho => ⟨h1, h2, h3, ?_⟩) (fun hn => ⟨h1, h2, h3, ?_⟩)⟩
  · unfold wp_Mo_drop
    refine q_tells false k1 k2 k3 k6 hT.2.1 (fun p' t' u' e1' hp' hr' e2' e3' hv' td' htd => ⟨bI_nar _, ?_⟩) (fun q => absurd ⟨p, hp, e1, hr, p, t, u, e1, hp, e2, hv.1, hv.2.1, e3, hv.2.2.1, hv.2.2.2⟩ q)
    obtain ⟨rfl, rfl, rfl⟩ := vd_un k1 hp hp' e1 e2 e3 hv e1' e2' e3' hv'
    refine tl_bool ho (by cases T (ix3 p' t' u') <;> rfl) (fun x e => ?_)
    subst e
    refine hE1 p' t' u' _ _ _ _ (by omega) ⟨del_T (by omega) hv hT.1, htd, mV_del hT.2.2.1, fun f hf => ?_⟩
    unfold mC at hf
    by_cases z : f = ix3 p' t' u'
    · rw [if_pos z] at hf; cases hf
    · rw [if_neg z] at hf; exact hT.2.2.2 f hf
  · unfold wp_Mo_drop
    refine q_tells false k1 k2 k3 k6 hT.2.1 (fun p t u e1 hp hr e2 e3 hv td' htd => absurd ⟨p, t, u, e1, hp, hr, e2, hv.1, hv.2.1, e3, hv.2.2.1, hv.2.2.2⟩ hn) (fun q => ⟨by rfl, ?_⟩)
    exact tl_thr (by decide) (fun x e => by subst e; exact hE0 _ _)
/-- what was asked, in both -/
abbrev J6 (np : Nat) (pl : Nat → Nat) (Ru : Nat → Bool) (S : SS) (M CL P : Nat → Bool) (ao al ar hp : Nat) (aq : Bool) (md cl pa qpt : Nat → Int32) : Prop :=
  relM pl M S 0 ∧ mB md M 1000 ∧ mV pl M ∧ relC CL S ∧ mB cl CL 1210 ∧ cV pl Ru CL ∧ (∀ i, i < 10 → qpt i = nI (pm P i)) ∧ mB pa P 40 ∧ relA pl M ao al ar S ∧ ms_in S ∧ hp ≤ np ∧ (ao < 10 ∧ 1 ≤ al ∧ al ≤ 18 ∧ ar ≤ 18) ∧ (∀ f, M f = true → f / 100 < hp) ∧ (∀ z, CL z = true → z / 121 < hp) ∧ (∀ z, P z = true → z / 4 < hp) ∧ (aq = false → (∀ f, M f = false) ∧ ∀ z, CL z = false) ∧ (aq = true → ao < hp)
variable {ao al ar hp : Nat} {aq : Bool}
theorem aq_M {f : Nat} (h : aq = false → (∀ f, M f = false) ∧ ∀ z, CL z = false) : (aq && M f) = M f := by
  cases aq with
  | true => rfl
  | false => rw [(h rfl).1 f]; rfl
theorem aq_C {f : Nat} (h : aq = false → (∀ f, M f = false) ∧ ∀ z, CL z = false) : (aq && CL f) = CL f := by
  cases aq with
  | true => rfl
  | false => rw [(h rfl).2 f]; rfl
theorem zc_holds {E : Int32 × (Nat → Int64) × Int32 → Prop} (h1 : vp_in (i + 1) sL) (h2 : vp_in (i + 2) sL) (h3 : vp_in (i + 3) sL) (hk : kA np pl Ru qpl qbr) (hk2 : kA np pl Ru mp mr) (hM : relM pl M S 0) (hm : mB md M 1000) (ha : aq = false → (∀ f, M f = false) ∧ ∀ z, CL z = false)
    (hE : ∀ oc' th', E (i + 4, oc', th')) : wp_Law_holds E sL sx (nI np) qpl (rF S) mp (nI np) md (bI aq) oc th i := by
  unfold wp_Law_holds
  refine ⟨h1, h2, h3, lh_holds hk hM (fun p t u e1 hp e2 e3 hv oc' ho => ⟨h1, h2, h3, ?_⟩) (fun hn => ⟨h1, h2, h3, ?_⟩)⟩
  · refine m_holds hk2 hm (fun p' t' u' e1' hp' e2' e3' hv' => ?_) (fun q => absurd ⟨p, t, u, e1, hp, e2, hv.1, hv.2.1, e3, hv.2.2.1, hv.2.2.2⟩ q)
    obtain ⟨rfl, rfl, rfl⟩ := vd_un hk.1 hp hp' e1 e2 e3 hv e1' e2' e3' hv'
    exact tl_bool ho (by rw [aq_M ha]) (fun x e => by subst e; exact hE _ _)
  · refine m_holds hk2 hm (fun p t u e1 hp e2 e3 hv => absurd ⟨p, t, u, e1, hp, e2, hv.1, hv.2.1, e3, hv.2.2.1, hv.2.2.2⟩ hn) (fun q => ?_)
    exact tl_thr (by decide) (fun x e => by subst e; exact hE _ _)
theorem lh_wanted {post : Int32 → (Nat → Int64) → Prop} {a x y : Int32} (hk : kA np pl Ru qpl qbr) (hM : relM pl M S 0) (hC : relC CL S) (hcv : cV pl Ru CL)
    (h1 : ∀ p t u, a = nI p → p < np → x = xb_t t → y = xb_t u → vd pl p t u → ∀ oc', oc' 0 = lI (Ru p && wF M CL (ix3 p t u)) → post 0 oc')
    (h0 : ¬ okA np pl 1 10 a x y → post 1 oc) : wp_La_wanted post (nI np) qpl (rF S) oc a x y := by
  unfold wp_La_wanted wp_Qd_wanted
  refine lh_dem (lo := 1) (hi := 10) hk (by decide) (by decide) (by omega) (by omega) (fun p t u e1 e2 e3 t1 t2 e4 hu1 hu2 => ?_) h0
  have h10 : p < 10 := Nat.lt_of_lt_of_le e2 hk.1
  have hu := u10 hu1 hu2
  have hv : vd pl p t u := ⟨t1, t2, hu1, hu2⟩
  rw [e1, e3, e4]
  refine q_cfRow h10 (by omega) (q_isIn (by omega) ⟨bI_nar _, lh_bool rfl (fun oc' ho => h1 p t u e1 e2 e3 e4 hv oc' ?_)⟩)
  have := (want_rel hM hC hcv).eq h10 hv
  rw [Nat.zero_add] at this
  rw [ho, this, (ix_back hv h10).1]
theorem zc_wanted {E : Int32 × (Nat → Int64) × Int32 → Prop} (h1 : vp_in (i + 1) sL) (h2 : vp_in (i + 2) sL) (h3 : vp_in (i + 3) sL) (hk : kA np pl Ru qpl qbr) (hk2 : kA np pl Ru mp mr) (hM : relM pl M S 0) (hm : mB md M 1000) (hC : relC CL S) (hc : mB cl CL 1210) (hcv : cV pl Ru CL) (ha : aq = false → (∀ f, M f = false) ∧ ∀ z, CL z = false)
    (hE : ∀ oc' th', E (i + 4, oc', th')) : wp_Law_wanted E sL sx (nI np) qpl (rF S) mp mr (nI np) md (bI aq) cl oc th i := by
  unfold wp_Law_wanted
  refine ⟨h1, h2, h3, lh_wanted hk hM hC hcv (fun p t u e1 hp e2 e3 hv oc' ho => ⟨h1, h2, h3, ?_⟩) (fun hn => ⟨h1, h2, h3, ?_⟩)⟩
  · refine m_wanted hk2 hm hc (fun p' t' u' e1' hp' e2' e3' hv' => ?_) (fun q => absurd ⟨p, t, u, e1, hp, e2, hv.1, hv.2.1, e3, hv.2.2.1, hv.2.2.2⟩ q)
    obtain ⟨rfl, rfl, rfl⟩ := vd_un hk.1 hp hp' e1 e2 e3 hv e1' e2' e3' hv'
    refine tl_bool ho ?_ (fun x e => by subst e; exact hE _ _)
    cases aq with
    | true => rfl
    | false =>
      have : wF M CL (ix3 p' t' u') = false := by
        unfold wF
        rw [(ha rfl).1, Bool.and_false]
      rw [this, Bool.and_false]; rfl
  · refine m_wanted hk2 hm hc (fun p t u e1 hp e2 e3 hv => absurd ⟨p, t, u, e1, hp, e2, hv.1, hv.2.1, e3, hv.2.2.1, hv.2.2.2⟩ hn) (fun q => ?_)
    exact tl_thr (by decide) (fun x e => by subst e; exact hE _ _)
theorem zc_called {E : Int32 × (Nat → Int64) × Int32 → Prop} (h1 : vp_in (i + 1) sL) (h2 : vp_in (i + 2) sL) (h3 : vp_in (i + 3) sL) (hk : kA np pl Ru qpl qbr) (hk2 : kA np pl Ru mp mr) (hC : relC CL S) (hc : mB cl CL 1210) (ha : aq = false → (∀ f, M f = false) ∧ ∀ z, CL z = false)
    (hE : ∀ oc' th', E (i + 4, oc', th')) : wp_Law_called E sL sx (nI np) qpl (rF S) mp (nI np) (bI aq) cl oc th i := by
  have hn10 := hk.1
  unfold wp_Law_called
  refine ⟨h1, h2, h3, lh_called hk (fun p t u e1 hp e2 ht e3 hu1 hu oc' ho => ⟨h1, h2, h3, ?_⟩) (fun hn => ⟨h1, h2, h3, ?_⟩)⟩
  · refine m_called hk2 hc (fun p' t' u' e1' hp' e2' ht' e3' hu1' hu' => ?_) (fun q => absurd ⟨p, t, u, e1, hp, e2, Nat.zero_le _, ht, e3, hu1, fun _ => ⟨Nat.zero_le _, hu⟩⟩ q)
    have a1 : p' = p := ((nI_eq (by omega) (by omega)).mp (e1.symm.trans e1')).symm
    have a2 : t' = t := ((xt_un (by omega) (by omega)).mp (e2.symm.trans e2')).symm
    have a3 : u' = u := ((xt_un (by omega) (by omega)).mp (e3.symm.trans e3')).symm
    subst a1 a2 a3
    exact tl_bool ho (by rw [aq_C ha, hC p' (by omega) t' u' (by omega) (by omega)]) (fun x e => by subst e; exact hE _ _)
  · refine m_called hk2 hc (fun p t u e1 hp e2 ht e3 hu1 hu => absurd ⟨p, t, u, e1, hp, e2, Nat.zero_le _, ht, e3, hu1, fun _ => ⟨Nat.zero_le _, hu⟩⟩ hn) (fun q => ?_)
    exact tl_thr (by decide) (fun x e => by subst e; exact hE _ _)
end LW2
section LW3
variable {sL : Nat} {sx : Nat → Int32} {i : Int32} {np : Nat} {pl : Nat → Nat} {Ru : Nat → Bool} {qpl qbr mp mr td md cl pa qpt : Nat → Int32} {oc : Nat → Int64} {th : Int32} {S : SS} {T M CL P : Nat → Bool} {ao al ar hp : Nat} {aq : Bool}
theorem J6.un (h : J6 np pl Ru S M CL P ao al ar hp aq md cl pa qpt) : aq = false → (∀ f, M f = false) ∧ ∀ z, CL z = false := h.2.2.2.2.2.2.2.2.2.2.2.2.2.2.2.1
theorem zc_answer {E : Int32 × Int32 → Prop} (h1 : vp_in (i + 1) sL) (hk2 : kA np pl Ru mp mr) (h : J6 np pl Ru S M CL P ao al ar hp aq md cl pa qpt)
    (hE : ∀ th', E (i + 4, th')) : wp_Law_answer E sL sx (rF S) mp md (bI aq) (nI ao) (xb_t al) (xb_t ar) th i := by
  obtain ⟨q1, q2, q3, q4, q5, q6, q7, q8, q9, q10, q11, ⟨b1, b2, b3, b4⟩, -, -, -, ha, -⟩ := h
  have hno : aq = false → ∀ f, ansB M ao al ar f = true → False := by
    intro e f hf
    have := (ansB_t.mp hf).2.1
    rw [(ha e).1 f] at this; cases this
  unfold wp_Law_answer
  refine ⟨h1, lh_answer q9 q3 b1 (fun f hf hA hi => ⟨h1, ?_⟩) (fun hn => ⟨h1, ?_⟩)⟩
  · refine m_answer hk2.2.1 hk2.2.2.1 q2 b1 b2 b3 b4 (fun _ f' hf' hA' hi' => ?_) (fun q => ?_)
    · have : f = f' := by
        refine cn_uniq hA hA' ?_
        have c1 := cn_le (ansB M ao al ar) f
        have c2 := cn_le (ansB M ao al ar) f'
        exact (nI_eq (by omega) (by omega)).mp (hi.symm.trans hi')
      subst this
      exact ⟨fun _ x e => by subst e; exact hE _, fun q => q rfl⟩
    · rcases q with q | q
      · exact (hno q f hA).elim
      · exact absurd hi (q f hf hA)
  · refine m_answer hk2.2.1 hk2.2.2.1 q2 b1 b2 b3 b4 (fun _ f hf hA hi => absurd hi (hn f hf hA)) (fun q => ?_)
    exact ⟨fun _ x e => by subst e; exact hE _, fun q => q rfl⟩
theorem zc_of {E : Int32 × Int32 → Prop} (h1 : vp_in (i + 1) sL) (h2 : vp_in (i + 2) sL) (hk2 : kA np pl Ru mp mr) (h : J6 np pl Ru S M CL P ao al ar hp aq md cl pa qpt)
    (hE : ∀ th', E (i + 4, th')) : wp_Law_of E sL sx (rF S) qpt (bI aq) (nI hp) mr md (bI aq) (nI hp) cl pa th i := by
  obtain ⟨q1, q2, q3, q4, q5, q6, q7, q8, q9, q10, q11, ⟨b1, b2, b3, b4⟩, -, -, -, ha, -⟩ := h
  have hn := hk2.1
  have fin : ∀ {r : Int32}, ((r = r → ∀ x_6 : Int32, x_6 = i + 4 → ∀ th', E (x_6, th')) ∧ (¬ r = r → False)) := fun {r} => ⟨fun _ x e th' => by subst e; exact hE _, fun q => q rfl⟩
  unfold wp_Law_of
  refine ⟨h1, h2, q_of q7 (by omega) (fun q => ⟨h1, h2, ?_⟩) (fun ea p hp' e1 => ⟨fun e => ⟨h1, h2, ?_⟩, fun e => ⟨h1, h2, ?_⟩, fun e => ⟨h1, h2, ?_⟩, fun e => ⟨h1, h2, ?_⟩⟩)⟩
  · refine m_of hk2.2.2.2.2.2 q2 q5 q8 (by omega) (fun _ => ⟨fun _ x e => by subst e; exact hE _, fun q => q rfl⟩) (fun ea p hp' e1 => ?_)
    have hw : ∀ k : Int32, (0 ≤ k.toInt ∧ k.toInt ≤ 3) → ∀ {X : Prop}, sx (Int32.toNatClampNeg (i + 2)) = k → X := by
      intro k hk X e
      rcases q with q | q | q
      · rw [ea] at q; cases q
      · exact absurd ⟨p, hp', e1⟩ q
      · rw [e] at q; omega
    exact ⟨hw 0 (by decide), hw 1 (by decide), hw 2 (by decide), hw 3 (by decide)⟩
  all_goals
    refine m_of hk2.2.2.2.2.2 q2 q5 q8 (by omega) (fun q => ?_) (fun _ p' hp'' e1' => ?_)
    · exfalso
      rcases q with q | q | q
      · rw [ea] at q; cases q
      · exact q ⟨p, hp', e1⟩
      · rw [e] at q; revert q; decide
    · have : p' = p := ((nI_eq (by omega) (by omega)).mp (e1.symm.trans e1')).symm
      subst this
      have z0 := size_eq q1 q3 (show p' < 10 by omega)
      rw [Nat.zero_add] at z0
      have z1 := want_eq q1 q3 q4 q6 (show p' < 10 by omega)
      have z2 := calls_eq q4 (show p' < 10 by omega)
      unfold cW at z1
      unfold cC at z2
      rw [e]
      refine ⟨fun w => ?_, fun w => ?_, fun w => ?_, fun w => ?_⟩ <;> first | (exact absurd w (by decide)) | ((first | rw [z0] | rw [z1] | rw [z2] | skip); exact ⟨fun _ x e => by subst e; exact hE _, fun q => q rfl⟩)
theorem zc_count {E : Int32 × Int32 → Prop} {nr : Nat} {rw0 : Int32} (h1 : vp_in (i + 1) sL) (hk2 : kA np pl Ru mp mr) (hT : J2 np pl T S td) (h : J6 np pl Ru S M CL P ao al ar hp aq md cl pa qpt)
    (hE : ∀ th', E (i + 4, th')) : wp_Law_count E sL sx (rF S) qpt rw0 (nI np) (bI aq) (nI nr) mr (nI np) td md (nI nr) (bI aq) (nI hp) cl pa rw0 th i := by
  obtain ⟨q1, q2, q3, q4, q5, q6, q7, q8, q9, q10, q11, ⟨b1, b2, b3, b4⟩, hMb, hCb, hPb, ha, -⟩ := h
  have hn := hk2.1
  have z2 := told_eq hT.1 hT.2.2.1
  have z3 : sm (pS P) 10 = sm (pS P) hp := sm_cut (by omega) (fun p h h10 => by
    unfold pS
    refine cn_0 4 (fun k hk => ?_)
    cases w : P (4 * p + k) with
    | false => rfl
    | true => have := hPb _ w; omega)
  have z5 : sm (fun p => szS S (10 + p)) 10 = sm (cC CL) hp := by
    rw [show sm (fun p => szS S (10 + p)) 10 = sm (cC CL) 10 from sm_congr _ (fun p hp => calls_eq q4 hp)]
    refine sm_cut (by omega) (fun p h h10 => ?_)
    unfold cC
    refine cn_0 121 (fun k hk => ?_)
    cases w : CL (121 * p + k) with
    | false => rfl
    | true => have := hCb _ w; omega
  have z6 : sm (wS S) 10 = sm (cW M CL Ru) hp := by
    rw [show sm (wS S) 10 = sm (cW M CL Ru) 10 from sm_congr _ (fun p hp => want_eq q1 q3 q4 q6 hp)]
    refine sm_cut (by omega) (fun p h h10 => ?_)
    unfold cW
    refine cn_0 100 (fun k hk => ?_)
    cases w : M (100 * p + k) with
    | false => unfold wF; rw [w, Bool.and_false, Bool.and_false]
    | true => have := hMb _ w; omega
  have hc : ∀ (k : Int32) {X : Prop}, (0 ≤ k.toInt ∧ k.toInt ≤ 2) → sx (Int32.toNatClampNeg (i + 1)) = k → (sx (Int32.toNatClampNeg (i + 1))).toInt < 0 ∨ 2 < (sx (Int32.toNatClampNeg (i + 1))).toInt → X := by
    intro k X hk e q
    rw [e] at q; omega
  have hd : ∀ (k : Int32) {X : Prop}, (0 ≤ k.toInt ∧ k.toInt ≤ 6) → sx (Int32.toNatClampNeg (i + 1)) = k → aq = true → (aq = false ∨ ((sx (Int32.toNatClampNeg (i + 1))).toInt < 0 ∨ 6 < (sx (Int32.toNatClampNeg (i + 1))).toInt)) → X := by
    intro k X hk e ea q
    rcases q with q | q
    · rw [ea] at q; cases q
    · rw [e] at q; omega
  unfold wp_Law_count
  refine ⟨h1, q_count q7 (fun e => ⟨h1, ?_⟩) (fun e => ⟨h1, ?_⟩) (fun e => ⟨h1, ?_⟩) (fun e ea => ⟨h1, ?_⟩) (fun e ea => ⟨h1, ?_⟩) (fun e ea => ⟨h1, ?_⟩) (fun e ea => ⟨h1, ?_⟩) (fun qa qb => ⟨h1, ?_⟩)⟩
  case refine_8 =>
    refine m_count hk2.2.2.2.2.2 q2 q5 q8 hT.2.1 (by omega) (fun e => hc 0 (by decide) e qa) (fun e => hc 1 (by decide) e qa) (fun e => hc 2 (by decide) e qa) (fun e ea => hd 3 (by decide) e ea qb) (fun e ea => hd 4 (by decide) e ea qb) (fun e ea => hd 5 (by decide) e ea qb) (fun e ea => hd 6 (by decide) e ea qb) (fun _ _ => ⟨fun _ x e => by subst e; exact hE _, fun q => q rfl⟩)
  all_goals
    rw [e]
    try rw [z2]
    try rw [z3]
    try rw [z5]
    try rw [z6]
    refine m_count hk2.2.2.2.2.2 q2 q5 q8 hT.2.1 (by omega) (fun w => ?_) (fun w => ?_) (fun w => ?_) (fun w _ => ?_) (fun w _ => ?_) (fun w _ => ?_) (fun w _ => ?_) (fun wa wb => ?_) <;> first | (exact absurd w (by decide)) | (exact ⟨fun _ x e => by subst e; exact hE _, fun q => q rfl⟩) | (exfalso; revert wa; decide) | (exfalso; revert wb; rw [ea]; decide)
end LW3
