section LW7
/-! THE RULES THAT WERE MADE: cells of the number 100 and up -/
def gI (dy : Nat → Option va_E) (i : Nat) : Nat → Int32 := match dy i with
  | some (.inl (_, _, .inl f)) => f
  | _ => fun _ => 0
def gN (dy : Nat → Option va_E) (i : Nat) : Int32 := match dy i with
  | some (.inr (_, [_, _, _, .int n])) => n
  | _ => 0
abbrev R4 (cI : ClassId) (ad : Nat → Nat) (dy : Nat → Option va_E) (ix : Nat) (rs rf rc : Nat → Int32) (na : Int32) : Prop := dy ix = some (.inr (3, [.ref (ad (ix + 1)), .ref (ad (ix + 2)), .ref (ad (ix + 3)), .int na])) ∧ dy (ix + 1) = some (.inl (cI, 4, .inl rs)) ∧ dy (ix + 2) = some (.inl (cI, 4, .inl rf)) ∧ dy (ix + 3) = some (.inl (cI, 4, .inl rc))
def RVw (cI : ClassId) (ad : Nat → Nat) (dy : Nat → Option va_E) (w ix : Nat) : Prop := 100 ≤ ix ∧ ix ≠ w ∧ R4 cI ad dy ix (gI dy (ix + 1)) (gI dy (ix + 2)) (gI dy (ix + 3)) (gN dy ix)
abbrev lsD (cI : ClassId) (ad : Nat → Nat) (dy : Nat → Option va_E) (w nE : Nat) (ec : Nat → Option Nat) (RS : Nat → RU) (nr : Nat) : Prop := lsR ad (RVw cI ad dy w) (fun ix => gI dy (ix + 1)) (fun ix => gI dy (ix + 2)) (fun ix => gI dy (ix + 3)) (gN dy) nE ec RS nr
abbrev arE (cO : ClassId) (nE : Nat) (ec : Nat → Option Nat) : Option va_E := some (.inl (cO, nE, .inr (.inr (.inr (.inr ec)))))
abbrev JL (cI cO : ClassId) (ad : Nat → Nat) (t0 w : Nat) (ev : Value) (nr : Nat) (RS : Nat → RU) (dy : Nat → Option va_E) : Prop := (ev = .ref t0 ∧ nr = 0) ∨ ∃ iE nE ec, ev = .ref (ad iE) ∧ 100 ≤ iE ∧ dy iE = arE cO nE ec ∧ 10 ≤ nE ∧ nE ≤ 60 ∧ lsD cI ad dy w nE ec RS nr
abbrev JB (cI : ClassId) (ad : Nat → Nat) (np : Nat) (pl : Nat → Nat) (w : Nat) (bgn : Bool) (bg : Value) (R : RU) (oa la ga zz : Nat → Int32) (dy : Nat → Option va_E) : Prop := (bgn = false ∧ bg = .null ∧ w = 0) ∨ (bgn = true ∧ bg = .ref (ad w) ∧ 100 ≤ w ∧ ∃ wrs wrf wrc wna, R4 cI ad dy w wrs wrf wrc wna ∧ rq wrs wrf wrc wna R.st R.fs R.sn R.n ∧ rR oa la ga zz 30 R ∧ wfB np pl R)
variable {cI cO : ClassId} {ad : Nat → Nat} {dy dy' : Nat → Option va_E} {t0 w nE nr iE : Nat} {ec : Nat → Option Nat} {RS : Nat → RU} {ev bg : Value} {rs rf rc wrs wrf wrc : Nat → Int32} {na wna : Int32} {R : RU}
theorem R4.g {ix : Nat} (h : R4 cI ad dy ix rs rf rc na) : gI dy (ix + 1) = rs ∧ gI dy (ix + 2) = rf ∧ gI dy (ix + 3) = rc ∧ gN dy ix = na := by
  unfold gI gN
  rw [h.1, h.2.1, h.2.2.1, h.2.2.2]
  exact ⟨rfl, rfl, rfl, rfl⟩
theorem R4.v {ix : Nat} (h : R4 cI ad dy ix rs rf rc na) (h1 : 100 ≤ ix) (h2 : ix ≠ w) : RVw cI ad dy w ix := by
  obtain ⟨a, b, c, d⟩ := h.g
  refine ⟨h1, h2, ?_⟩
  rw [a, b, c, d]
  exact h
theorem R4.ap {a b : Nat} {rs' rf' rc' : Nat → Int32} {na' : Int32} (h : R4 cI ad dy a rs rf rc na) (g : R4 cI ad dy b rs' rf' rc' na') (hne : b ≠ a) (k : Nat) (hk : k < 4) : b + k < a ∨ a + 3 < b + k := by
  apply Classical.byContradiction
  intro q
  have c1 : ∀ j, 1 ≤ j → j ≤ 3 → a ≠ b + j := by
    intro j h1 h3 e
    have hh := h.1
    rw [e] at hh
    rcases (show j = 1 ∨ j = 2 ∨ j = 3 by omega) with rfl | rfl | rfl
    · rw [g.2.1] at hh; simp at hh
    · rw [g.2.2.1] at hh; simp at hh
    · rw [g.2.2.2] at hh; simp at hh
  have c2 : ∀ j, 1 ≤ j → j ≤ 3 → b ≠ a + j := by
    intro j h1 h3 e
    have hh := g.1
    rw [e] at hh
    rcases (show j = 1 ∨ j = 2 ∨ j = 3 by omega) with rfl | rfl | rfl
    · rw [h.2.1] at hh; simp at hh
    · rw [h.2.2.1] at hh; simp at hh
    · rw [h.2.2.2] at hh; simp at hh
  have := c1 1 (by omega) (by omega); have := c1 2 (by omega) (by omega); have := c1 3 (by omega) (by omega)
  have := c2 1 (by omega) (by omega); have := c2 2 (by omega) (by omega); have := c2 3 (by omega) (by omega)
  omega
theorem R4.ne {ix : Nat} (h : R4 cI ad dy ix rs rf rc na) (hE : dy iE = arE cO nE ec) (k : Nat) (hk : k < 4) : ix + k ≠ iE := by
  intro e
  rcases (show k = 0 ∨ k = 1 ∨ k = 2 ∨ k = 3 by omega) with rfl | rfl | rfl | rfl
  · rw [Nat.add_zero] at e; rw [← e, h.1] at hE; simp [arE] at hE
  · rw [← e, h.2.1] at hE; simp [arE] at hE
  · rw [← e, h.2.2.1] at hE; simp [arE] at hE
  · rw [← e, h.2.2.2] at hE; simp [arE] at hE
theorem R4.to {ix : Nat} (h : R4 cI ad dy ix rs rf rc na) (hk : ∀ k, k < 4 → dy' (ix + k) = dy (ix + k)) : R4 cI ad dy' ix rs rf rc na :=
  ⟨(hk 0 (by omega)).trans h.1, (hk 1 (by omega)).trans h.2.1, (hk 2 (by omega)).trans h.2.2.1, (hk 3 (by omega)).trans h.2.2.2⟩
theorem R4.in4 {ix : Nat} (h : R4 cI ad dy ix rs rf rc na) : xr4 cI ad dy ix rs rf rc na = dy := (xr4_eq h.1 h.2.1 h.2.2.1 h.2.2.2 (fun _ _ => rfl)).symm
theorem xr4_R {ix : Nat} : R4 cI ad (xr4 cI ad dy ix rs rf rc na) ix rs rf rc na := ⟨xr4_U, xr4_A, xr4_B, xr4_C⟩
theorem RVw.to {w' ix : Nat} (h : RVw cI ad dy w ix) (hk : ∀ k, k < 4 → dy' (ix + k) = dy (ix + k)) (hw : ix ≠ w') : RVw cI ad dy' w' ix := (R4.to h.2.2 hk).v h.1 hw
theorem RVw_g {ix : Nat} (hk : ∀ k, k < 4 → dy' (ix + k) = dy (ix + k)) : gI dy' (ix + 1) = gI dy (ix + 1) ∧ gI dy' (ix + 2) = gI dy (ix + 2) ∧ gI dy' (ix + 3) = gI dy (ix + 3) ∧ gN dy' ix = gN dy ix := by
  have h0 := hk 0 (by omega)
  rw [Nat.add_zero] at h0
  unfold gI gN
  rw [hk 1 (by omega), hk 2 (by omega), hk 3 (by omega), h0]
  exact ⟨rfl, rfl, rfl, rfl⟩
theorem lsD.to {w' : Nat} (h : lsD cI ad dy w nE ec RS nr) (hk : ∀ ix, RVw cI ad dy w ix → (∀ k, k < 4 → dy' (ix + k) = dy (ix + k)) ∧ ix ≠ w') : lsD cI ad dy' w' nE ec RS nr := by
  refine ⟨h.1, h.2.1, h.2.2.1, fun j hj => ?_⟩
  obtain ⟨ix, h1, h2, h3⟩ := h.2.2.2 j hj
  obtain ⟨k1, k2⟩ := hk ix h2
  obtain ⟨a, b, c, d⟩ := RVw_g k1
  refine ⟨ix, h1, h2.to k1 k2, ?_⟩
  dsimp only at h3 ⊢
  rw [a, b, c, d]
  exact h3
theorem lsD.w0 (h : lsD cI ad dy w nE ec RS nr) : lsD cI ad dy 0 nE ec RS nr := h.to (fun ix hx => ⟨fun _ _ => rfl, by have := hx.1; omega⟩)
/-- a rule is begun at a free number -/
theorem lsD.head {ix : Nat} (h : lsD cI ad dy w nE ec RS nr) (hf : ∀ k, k < 4 → dy (ix + k) = none) : lsD cI ad (xr4 cI ad dy ix rs rf rc na) ix nE ec RS nr := by
  refine h.to (fun a ha => ?_)
  have key : ∀ k, k < 4 → dy (a + k) ≠ none := by
    intro k hk e
    rcases (show k = 0 ∨ k = 1 ∨ k = 2 ∨ k = 3 by omega) with rfl | rfl | rfl | rfl
    · rw [Nat.add_zero, ha.2.2.1] at e; cases e
    · rw [ha.2.2.2.1] at e; cases e
    · rw [ha.2.2.2.2.1] at e; cases e
    · rw [ha.2.2.2.2.2] at e; cases e
  refine ⟨fun k hk => xr4_o ?_, ?_⟩
  · apply Classical.byContradiction
    intro q
    have := hf (a + k - ix) (by omega)
    rw [show ix + (a + k - ix) = a + k by omega] at this
    exact key k hk this
  · intro e
    have := hf 0 (by omega)
    have h0 := key 0 (by omega)
    rw [e] at h0
    exact h0 this
theorem arE.head {ix : Nat} (h : dy iE = arE cO nE ec) (hf : ∀ k, k < 4 → dy (ix + k) = none) : xr4 cI ad dy ix rs rf rc na iE = arE cO nE ec := by
  rw [← h]
  refine xr4_o ?_
  apply Classical.byContradiction
  intro q
  have := hf (iE - ix) (by omega)
  rw [show ix + (iE - ix) = iE by omega, h] at this
  cases this
/-- the begun rule changes -/
theorem lsD.body (h : lsD cI ad dy w nE ec RS nr) (hw : R4 cI ad dy w wrs wrf wrc wna) : lsD cI ad (xr4 cI ad dy w rs rf rc na) w nE ec RS nr :=
  h.to (fun a ha => ⟨fun k hk => xr4_o (hw.ap ha.2.2 ha.2.1 k hk), ha.2.1⟩)
theorem arE.body (h : dy iE = arE cO nE ec) (hw : R4 cI ad dy w wrs wrf wrc wna) : xr4 cI ad dy w rs rf rc na iE = arE cO nE ec := by
  rw [← h]
  refine xr4_o ?_
  apply Classical.byContradiction
  intro q
  exact hw.ne h (iE - w) (by omega) (by omega)
/-- the list's array changes -/
theorem lsD.up {ec' : Nat → Option Nat} {nE' : Nat} {RS' : Nat → RU} {nr' : Nat} {x : Option va_E} (h : lsD cI ad dy w nE' ec' RS' nr') (hE : dy iE = arE cO nE ec) : lsD cI ad (va_up dy iE x) w nE' ec' RS' nr' :=
  h.to (fun a ha => ⟨fun k hk => va_up_ne _ _ (ha.2.2.ne hE k hk), ha.2.1⟩)
theorem lsD.new {j : Nat} {x : Option va_E} (h : lsD cI ad dy w nE ec RS nr) (hj : dy j = none) : lsD cI ad (va_up dy j x) w nE ec RS nr := by
  refine h.to (fun a ha => ⟨fun k hk => va_up_ne _ _ ?_, ha.2.1⟩)
  intro e
  rcases (show k = 0 ∨ k = 1 ∨ k = 2 ∨ k = 3 by omega) with rfl | rfl | rfl | rfl
  · rw [Nat.add_zero] at e; have := ha.2.2.1; rw [e, hj] at this; cases this
  · have := ha.2.2.2.1; rw [e, hj] at this; cases this
  · have := ha.2.2.2.2.1; rw [e, hj] at this; cases this
  · have := ha.2.2.2.2.2; rw [e, hj] at this; cases this
/-- one rule more -/
abbrev adR (RS : Nat → RU) (nr : Nat) (R : RU) : Nat → RU := fun r => if r = nr then R else RS r
theorem lsD.add {nE' : Nat} {ec' : Nat → Option Nat} (h : lsD cI ad dy w nE ec RS nr) (hw : R4 cI ad dy w wrs wrf wrc wna) (hw1 : 100 ≤ w) (hb : rB wrs wrf wrc wna R) (h30 : nr < 30) (hE1 : nr < nE') (hE2 : nE' < 2 ^ 31) (he : ∀ j, j < nr → ec' j = ec j) (hn : ec' nr = some (ad w)) : lsD cI ad dy 0 nE' ec' (adR RS nr R) (nr + 1) := by
  refine ⟨by omega, by omega, hE2, fun j hj => ?_⟩
  by_cases q : j = nr
  · subst q
    refine ⟨w, hn, hw.v hw1 (by omega), ?_⟩
    obtain ⟨a, b, c, d⟩ := hw.g
    show rB (gI dy (w + 1)) (gI dy (w + 2)) (gI dy (w + 3)) (gN dy w) (if j = j then R else RS j)
    rw [if_pos rfl, a, b, c, d]
    exact hb
  · obtain ⟨ix, h1, h2, h3⟩ := h.2.2.2 j (by omega)
    refine ⟨ix, (he j (by omega)).trans h1, h2.to (fun _ _ => rfl) (by have := h2.1; omega), ?_⟩
    show rB (gI dy (ix + 1)) (gI dy (ix + 2)) (gI dy (ix + 3)) (gN dy ix) (if j = nr then R else RS j)
    rw [if_neg q]
    exact h3
variable {np : Nat} {pl : Nat → Nat} {Ru T M CL P : Nat → Bool} {oa la ga zz oa' la' ga' zz' td md cl pa qpt : Nat → Int32} {S : SS} {ao al ar hp : Nat} {aq : Bool}
theorem J3.add (h : J3 np pl oa la ga zz RS nr) (hn : np ≤ 10) (hZ : rR oa la ga zz 30 R) (hB : wfB np pl R) (h0 : R.n ≠ 0) (h30 : nr < 30) (s1 : sfT R (R.fs 0)) (s2 : sfT R (R.sn 0)) : J3 np pl (cpy4 oa 30 nr) (cpy4 la 30 nr) (cpy4 ga 30 nr) (upd zz nr (zz 30)) (adR RS nr R) (nr + 1) := by
  refine ⟨by omega, fun r hr => ?_, fun r hr => ?_, fun r hr => ?_⟩
  · by_cases q : r = nr
    · subst q
      show rR _ _ _ _ r (if r = r then R else RS r)
      rw [if_pos rfl]
      exact rR.cp hB.1 hZ
    · show rR _ _ _ _ r (if r = nr then R else RS r)
      rw [if_neg q]
      exact rR.cpn (h.2.2.1 r (by omega)).n3 q (h.2.1 r (by omega))
  · show wfR pl (if r = nr then R else RS r)
    by_cases q : r = nr
    · rw [if_pos q]; exact hB.wf hn h0 s1 s2
    · rw [if_neg q]; exact h.2.2.1 r (by omega)
  · show ∀ k, k ≤ RU.n (if r = nr then R else RS r) → RU.st (if r = nr then R else RS r) k < np
    by_cases q : r = nr
    · rw [if_pos q]; exact fun k hk => (hB.2 k hk).1
    · rw [if_neg q]; exact h.2.2.2 r (by omega)
theorem J3.kp (h : J3 np pl oa la ga zz RS nr) (hk : kp oa la ga zz oa' la' ga' zz') : J3 np pl oa' la' ga' zz' RS nr :=
  ⟨h.1, fun r hr => hk r (by have := h.1; omega) _ (h.2.2.1 r hr).n3 (h.2.1 r hr), h.2.2.1, h.2.2.2⟩
/-- one predicate more -/
theorem relM.pred {o v : Nat} (h : relM pl M S o) (h4 : ∀ f, M f = true → f / 100 < np) : relM (cU pl np v) M S o := by
  intro k hk x y
  rw [h k hk x y]
  by_cases q : k = np
  · subst q
    constructor
    · rintro ⟨hv, hT⟩
      have := h4 _ hT
      rw [(ix_back hv hk).1] at this
      omega
    · rintro ⟨hv, hT⟩
      have := h4 _ hT
      rw [(ix_back hv hk).1] at this
      omega
  · unfold vd
    rw [cU_n q]
theorem mV.pred {v : Nat} (h3 : mV pl M) (h4 : ∀ f, M f = true → f / 100 < np) : mV (cU pl np v) M := fun f hf => ⟨(h3 f hf).1, fun q => (h3 f hf).2 (by
  rw [cU_n (by have := h4 f hf; omega)] at q
  exact q)⟩
theorem J2.pred {v : Nat} (h : J2 np pl T S td) : J2 (np + 1) (cU pl np v) T S td := by
  obtain ⟨h1, h2, h3, h4⟩ := h
  exact ⟨h1.pred h4, h2, h3.pred h4, fun f hf => by have := h4 f hf; omega⟩
theorem wfR.pred {v : Nat} (h : wfR pl R) (hs : ∀ k, k ≤ R.n → R.st k < np) : wfR (cU pl np v) R := by
  obtain ⟨a, b, c, d, e, f, g, i⟩ := h
  refine ⟨a, b, c, d, e, f, fun k hk => ?_, i⟩
  rw [cU_n (by have := hs k hk; omega)]
  exact g k hk
theorem wfB.pred {v : Nat} (h : wfB np pl R) : wfB (np + 1) (cU pl np v) R := by
  refine ⟨h.1, fun k hk => ?_⟩
  obtain ⟨a, b, c, d, e⟩ := h.2 k hk
  rw [cU_n (by omega)]
  exact ⟨by omega, b, c, d, e⟩
theorem J3.pred {v : Nat} (h : J3 np pl oa la ga zz RS nr) : J3 (np + 1) (cU pl np v) oa la ga zz RS nr :=
  ⟨h.1, h.2.1, fun r hr => (h.2.2.1 r hr).pred (h.2.2.2 r hr), fun r hr k hk => by have := h.2.2.2 r hr k hk; omega⟩
theorem J6.pred {v : Nat} {b : Bool} (h : J6 np pl Ru S M CL P ao al ar hp aq md cl pa qpt) : J6 (np + 1) (cU pl np v) (fun i => if i = np then b else Ru i) S M CL P ao al ar hp aq md cl pa qpt := by
  obtain ⟨q1, q2, q3, q4, q5, q6, q7, q8, q9, q10, q11, q12, hM, hC, hP, ha, hao⟩ := h
  have hM' : ∀ f, M f = true → f / 100 < np := fun f hf => by have := hM f hf; omega
  refine ⟨q1.pred hM', q2, q3.pred hM', q4, q5, fun z hz => ?_, q7, q8, fun a c => ?_, q10, by omega, q12, hM, hC, hP, ha, hao⟩
  · have := hC z hz
    obtain ⟨a1, a2, a3⟩ := q6 z hz
    refine ⟨a1, ?_, ?_⟩
    · show (if z / 121 = np then b else Ru (z / 121)) = true
      rw [if_neg (by omega)]; exact a2
    · rw [cU_n (by omega)]; exact a3
  · rw [q9 a c]
    cases e : aq with
    | true =>
      have := hao e
      unfold vd
      rw [cU_n (show ao ≠ np by omega)]
    | false =>
      have : ∀ f, ansB M ao al ar f = true → False := fun f hf => by
        have := (ansB_t.mp hf).2.1
        rw [(ha e).1 f] at this; cases this
      exact ⟨fun z => (this _ z.2).elim, fun z => (this _ z.2).elim⟩
/-- the told facts change: what was asked stays -/
theorem J6.told {S' : SS} (h : J6 np pl Ru S M CL P ao al ar hp aq md cl pa qpt) (hin : ms_in S') (hk : ∀ k x y, (k < 20 ∨ 30 ≤ k) → S' k x y = S k x y) : J6 np pl Ru S' M CL P ao al ar hp aq md cl pa qpt := by
  obtain ⟨q1, q2, q3, q4, q5, q6, q7, q8, q9, q10, q11, q12, hM, hC, hP, ha, hao⟩ := h
  exact ⟨q1.congr (fun k x y h => hk _ _ _ (by omega)), q2, q3, fun p hp x y hx hy => (hk _ _ _ (by omega)).trans (q4 p hp x y hx hy), q5, q6, q7, q8, fun a b => by rw [hk 30 a b (by omega)]; exact q9 a b, hin, q11, q12, hM, hC, hP, ha, hao⟩
theorem J6.put {p t u : Nat} (h : J6 np pl Ru S M CL P ao al ar hp aq md cl pa qpt) (h10 : p < 10) (ht : t ≤ 10) (hu : u ≤ 10) : J6 np pl Ru (ms_put S (20 + p) t u) M CL P ao al ar hp aq md cl pa qpt := by
  have hin := h.2.2.2.2.2.2.2.2.2.1
  refine h.told (fun k x y q => ?_) (fun k x y hk => ?_)
  · unfold ms_put at q
    by_cases e : k = 20 + p ∧ x = t ∧ y = u
    · omega
    · rw [if_neg e] at q; exact hin k x y q
  · unfold ms_put
    rw [if_neg (by omega)]
theorem J6.del {p t u : Nat} (h : J6 np pl Ru S M CL P ao al ar hp aq md cl pa qpt) (h10 : p < 10) : J6 np pl Ru (ms_del S (20 + p) t u) M CL P ao al ar hp aq md cl pa qpt := by
  have hin := h.2.2.2.2.2.2.2.2.2.1
  refine h.told (fun k x y q => ?_) (fun k x y hk => ?_)
  · unfold ms_del at q
    by_cases e : k = 20 + p ∧ x = t ∧ y = u
    · rw [if_pos e] at q; cases q
    · rw [if_neg e] at q; exact hin k x y q
  · unfold ms_del
    rw [if_neg (by omega)]
theorem J6.ins (h : J6 np pl Ru S M CL P ao al ar hp aq md cl pa qpt) : ms_in S := h.2.2.2.2.2.2.2.2.2.1
end LW7
