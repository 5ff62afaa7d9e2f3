/-! THE WORLD OF THE LAW'S LOOP: fixed cells by their place in a list, what was made later by numbers from 100 on -/
def lw (cs : List va_E) (dy : Nat → Option va_E) : Nat → Option va_E := fun i => if i < 100 then cs[i]? else dy i
theorem lw_at {cs : List va_E} {dy : Nat → Option va_E} {k : Nat} {x : va_E} (hk : Nat.ble (k + 1) 100 = true) (h : cs[k]? = some x) : lw cs dy k = some x := by
  unfold lw
  have h1 : k < 100 := Nat.le_of_ble_eq_true hk
  rw [if_pos h1]
  exact h
theorem lw_dy {cs : List va_E} {dy : Nat → Option va_E} {i : Nat} (h : 100 ≤ i) : lw cs dy i = dy i := if_neg (Nat.not_lt.mpr h)
theorem lw_set {cs : List va_E} {dy : Nat → Option va_E} {k : Nat} {x : va_E} (hk : Nat.ble (k + 1) 100 = true) (hl : Nat.ble (k + 1) cs.length = true) : va_up (lw cs dy) k (some x) = lw (cs.set k x) dy := by
  have h1 : k < 100 := Nat.le_of_ble_eq_true hk
  have h2 : k < cs.length := Nat.le_of_ble_eq_true hl
  funext i
  by_cases q : i = k
  · subst q
    rw [va_up_self]
    unfold lw
    rw [if_pos h1, List.getElem?_set_self h2]
  · rw [va_up_ne _ _ q]
    unfold lw
    rw [List.getElem?_set_ne (fun e => q e.symm)]
theorem lw_up {cs : List va_E} {dy : Nat → Option va_E} {k : Nat} {x : Option va_E} (h : 100 ≤ k) : va_up (lw cs dy) k x = lw cs (va_up dy k x) := by
  funext i
  by_cases q : i = k
  · subst q
    rw [va_up_self, lw_dy h, va_up_self]
  · rw [va_up_ne _ _ q]
    unfold lw
    rw [va_up_ne _ _ q]
theorem lw_xr4 {cI : ClassId} {ad : Nat → Nat} {cs : List va_E} {dy : Nat → Option va_E} {ix : Nat} {rs rf rc : Nat → Int32} {na : Int32} (h : 100 ≤ ix) : xr4 cI ad (lw cs dy) ix rs rf rc na = lw cs (xr4 cI ad dy ix rs rf rc na) := by
  unfold xr4
  rw [lw_up h, lw_up (by omega), lw_up (by omega), lw_up (by omega)]
abbrev lcs (ad : Nat → Nat) (cI cZ cJ : ClassId) (np : Int32) (qpl : Nat → Int32) (qbr : Nat → Int32) (bg : Value) (ev : Value) (sz : Int32) (mo : Int32) (f : Nat → Int32) (v : Nat → Int32) (rs : Nat → Int32) (rf : Nat → Int32) (rc : Nat → Int32) (na : Int32) (qpt : Nat → Int32) (rw : Int32) (aq : Int32) (pn : Int32) (m_thrown : Int32) (m_places : Nat → Int32) (m_ruled : Nat → Int32) (m_predicates : Int32) (m_told : Nat → Int32) (m_model : Nat → Int32) (m_ofAtom : Nat → Int32) (m_left : Nat → Int32) (m_right : Nat → Int32) (m_size : Nat → Int32) (m_rules : Int32) (m_begun : Int32) (m_asked : Int32) (m_asksOf : Int32) (m_asksLeft : Int32) (m_asksRight : Int32) (m_hadPredicates : Int32) (m_calls : Nat → Int32) (m_row : Nat → Int32) (m_inRow : Int32) (m_patterns : Nat → Int32) (m_rewritten : Int32) (m_values : Nat → Int32) (m_by : Nat → Int32) (m_choice : Nat → Int32) (m_rule : Int32) (m_atoms : Int32) (m_depth : Int32) (oc : Nat → Int64) : List va_E := [.inr (0, [.ref (ad 1), .ref (ad 2), .int np, .ref (ad 3), bg, .ref (ad 4), .ref (ad 6), .ref (ad 8), .ref (ad 12), .int rw, .int aq, .int pn]), .inl (cI, 10, .inl qpl), .inl (cZ, 10, .inl qbr), .inr (5, [ev, .int sz, .int mo]), .inr (1, [.ref (ad 5)]), .inl (cI, 341, .inl f), .inr (2, [.ref (ad 4), .ref (ad 7)]), .inl (cI, 20, .inl v), .inr (3, [.ref (ad 9), .ref (ad 10), .ref (ad 11), .int na]), .inl (cI, 4, .inl rs), .inl (cI, 4, .inl rf), .inl (cI, 4, .inl rc), .inl (cI, 10, .inl qpt), .inr (4, [.int m_thrown, .ref (ad 14), .ref (ad 15), .int m_predicates, .ref (ad 16), .ref (ad 17), .ref (ad 18), .ref (ad 19), .ref (ad 20), .ref (ad 21), .int m_rules, .int m_begun, .int m_asked, .int m_asksOf, .int m_asksLeft, .int m_asksRight, .int m_hadPredicates, .ref (ad 22), .ref (ad 23), .int m_inRow, .ref (ad 24), .int m_rewritten, .ref (ad 25), .ref (ad 26), .ref (ad 27), .int m_rule, .int m_atoms, .int m_depth]), .inl (cI, 10, .inl m_places), .inl (cZ, 10, .inl m_ruled), .inl (cZ, 1000, .inl m_told), .inl (cZ, 1000, .inl m_model), .inl (cI, 124, .inl m_ofAtom), .inl (cI, 124, .inl m_left), .inl (cI, 124, .inl m_right), .inl (cI, 31, .inl m_size), .inl (cZ, 1210, .inl m_calls), .inl (cI, 1210, .inl m_row), .inl (cZ, 40, .inl m_patterns), .inl (cI, 8, .inl m_values), .inl (cI, 8, .inl m_by), .inl (cI, 4, .inl m_choice), .inl (cJ, 1, .inr (.inl oc))]
abbrev LG (p : Program) (l : Launch) (e : Env) (s : State) (m : MethodId) (args : Array Value) (below : List Frame) (meth : Method) (c : Code) (QQ : State → Prop) (D : va_G) (ad : Nat → Nat) (cI cZ cJ cO : ClassId) (sb t0 n : Nat) : Prop := ∀ {np nr hp ao al ar w : Nat} {asked bgn : Bool} {S : SS} {pl : Nat → Nat} {Ru T M CL P : Nat → Bool} {RS : Nat → RU} {R : RU} {qpl qbr rs rf rc qpt mp mr td md oa la ga zz cl row pa vl bY ch : Nat → Int32} {bg ev : Value} {mo na rw th ir ru att dpt : Int32} {oc : Nat → Int64} {dy : Nat → Option va_E} {H : Heap} {locs : List Loc} {ls : Array Slot} {nc ns : Nat}, kA np pl Ru qpl qbr ∧ kA np pl Ru mp mr ∧ J2 np pl T S td ∧ J3 np pl oa la ga zz RS nr ∧ JL cI cO ad t0 w ev nr RS dy ∧ JB cI ad np pl w bgn bg R oa la ga zz dy ∧ J6 np pl Ru S M CL P ao al ar hp asked md cl pa qpt → nc ≤ 60 + 5 * n → ns ≤ 10000 + 100 * n → xm_W D xcl (xT cI cZ cJ cO) (xlA s) ad (lw (lcs ad cI cZ cJ (nI np) qpl qbr bg ev (nI nr) mo (rF S) (vF vi0) rs rf rc na qpt rw (bI asked) (nI hp) th mp mr (nI np) td md oa la ga zz (nI nr) (bI bgn) (bI asked) (nI ao) (xb_t al) (xb_t ar) (nI hp) cl row ir pa rw vl bY ch ru att dpt oc) dy) s s.heap H locs → lv_has ls 7 [(0, .ref sb), (1, .ref (ad 0)), (2, .ref (ad 13)), (3, .ref (ad 28)), (4, .int (nI n))] → W p l e room_1 s m args below meth c H locs nc ns QQ (F0 m 23 ls [])
abbrev LX (p : Program) (l : Launch) (s : State) (m : MethodId) (args : Array Value) (c : Code) (ad : Nat → Nat) (sL : Nat) (sx : Nat → Int32) (sb t0 mi : Nat) (c0 : Cond) : Prop := (p.tables.exec = Jvm.exec) ∧ (c.code = b_La_law) ∧ (c.maxLocals = 7) ∧ (s.vm.findClass "QuestionDeskLaw" = some m.cls) ∧ (∀ w ∈ c0 :: xg, w.before args s = true) ∧ (va_X sb sL sx s s.heap) ∧ (sb < s.heap.size) ∧ (¬ (xlA s) sb) ∧ (xt_ok (xlA s) s s.heap) ∧ (xh_Nc s) ∧ (xq_ok t0 mi (xlA s) s s.heap) ∧ (l.stackTraces = false) ∧ (∀ a, ad (100 + a) = a)
theorem JB.pred {cI : ClassId} {ad : Nat → Nat} {np : Nat} {pl : Nat → Nat} {w : Nat} {bgn : Bool} {bg : Value} {R : RU} {oa la ga zz : Nat → Int32} {dy : Nat → Option va_E} {v : Nat} (h : JB cI ad np pl w bgn bg R oa la ga zz dy) : JB cI ad (np + 1) (cU pl np v) w bgn bg R oa la ga zz dy := by
  rcases h with h | ⟨h1, h2, h3, a, b, c, d, h4, h5, h6, h7⟩
  · exact Or.inl h
  · exact Or.inr ⟨h1, h2, h3, a, b, c, d, h4, h5, h6, h7.pred⟩
theorem JB.no {cI : ClassId} {ad : Nat → Nat} {np : Nat} {pl : Nat → Nat} (R : RU) {oa la ga zz : Nat → Int32} {dy : Nat → Option va_E} : JB cI ad np pl 0 false .null R oa la ga zz dy := Or.inl ⟨rfl, rfl, rfl⟩
theorem R4.nn {cI : ClassId} {ad : Nat → Nat} {dy : Nat → Option va_E} {ix j : Nat} {rs rf rc : Nat → Int32} {na : Int32} (h : R4 cI ad dy ix rs rf rc na) (hj : dy j = none) (k : Nat) (hk : k < 4) : ix + k ≠ j := by
  intro e
  rcases (show k = 0 ∨ k = 1 ∨ k = 2 ∨ k = 3 by omega) with rfl | rfl | rfl | rfl
  · rw [Nat.add_zero] at e; have := h.1; rw [e, hj] at this; cases this
  · have := h.2.1; rw [e, hj] at this; cases this
  · have := h.2.2.1; rw [e, hj] at this; cases this
  · have := h.2.2.2; rw [e, hj] at this; cases this
theorem lw_i4 (n : Nat) : nI n + 4 = nI (n + 4) := nI_add n 4
theorem lw_in {n k sL : Nat} (h : n + 4 ≤ sL) (hL : sL ≤ 2048) (hk : k ≤ 3) : vp_in (nI n + nI k) sL := by
  rw [nI_add]
  exact vp_in_nI (by omega) (by omega)
