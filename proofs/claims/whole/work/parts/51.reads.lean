section CR
/-! WHAT THE CLASS COUNTS -/
variable {S : SS}
theorem xt_11 : ∀ j, j ≤ 11 → (10 ≤ xb_t j ↔ j = 11) := by decide +kernel
def szS (S : SS) (k : Nat) : Nat := sm (fun x => cn_ (S k x) 11) 11
theorem q_size {post : Int32 → Prop} {k : Nat} (hk : k < 31) (h : post (nI (szS S k))) : wp_Pr_size post (rF S) (nI k) := by
  unfold wp_Pr_size
  refine xL_up (fun j s => s.1 = xb_t j ∧ s.2 = nI (sm (fun x => cn_ (S k x) 11) j)) 11 ?_ (Nat.zero_le _) ⟨by decide, rfl⟩
  rintro j ⟨x, r⟩ hj ⟨e1, e2⟩ K hK
  dsimp only at e1 e2 ⊢
  rw [e1, e2, xt_11 j hj]
  refine ⟨fun e => by subst e; exact h, fun e => q_row hk (by omega) (q_bitG (fun x7 e7 x8 e8 => hK (by omega) _ ⟨?_, ?_⟩))⟩
  · show x8 = _
    rw [e8, xb_t_add, xb_t1]
  · show x7 = _
    rw [e7, nI_add]
    rfl
def wG (S : SS) (p t : Nat) : Nat → Bool := fun y => S p t y && ((S (10 + p) 0 0 || S (10 + p) t 0) || (S (10 + p) 0 y || S (10 + p) t y))
theorem q_cfRow {post : Int32 → Prop} {p t : Nat} (hp : p < 10) (ht : t < 11) (h : post (nI (xb_enc (wG S p t)))) : wp_Qd_calledForRow post (rF S) (nI p) (xb_t t) := by
  unfold wp_Qd_calledForRow
  rw [show (0 : Int32) + nI p = nI (0 + p) from nI_add 0 p, ten_add, show (-1 : Int32) = xb_t 0 from by decide]
  refine q_row (by omega) ht (q_row (by omega) (by omega) (q_row (by omega) ht (fun x7 e7 => ?_)))
  rw [xb_orI, xb_or] at e7
  subst e7
  refine q_isIn (y := 0) (by omega) ?_
  unfold xj
  dsimp only
  rw [bI_t, bI_f, Nat.zero_add]
  refine ⟨fun q => ?_, fun q => ?_⟩
  · rw [xb_andI, xb_and]
    have : wG S p t = fun j => S p t j && (S (10 + p) 0 j || S (10 + p) t j) := by
      funext j
      unfold wG
      rw [q, Bool.false_or]
    rw [this] at h
    exact h
  · have : wG S p t = S p t := by
      funext j
      unfold wG
      rw [q, Bool.true_or, Bool.and_true]
    rw [this] at h
    exact h
def wS (S : SS) (p : Nat) : Nat := sm (fun x => cn_ (wG S p (x + 1)) 11) 10
theorem q_cfSize {post : Int32 → Prop} {p : Nat} (hp : p < 10) (h : post (nI (wS S p))) : wp_Qd_calledForSize post (rF S) (nI p) := by
  unfold wp_Qd_calledForSize
  refine xL_up (fun j s => s.1 = nI j ∧ s.2 = nI (sm (fun x => cn_ (wG S p (x + 1)) 11) j)) 10 ?_ (Nat.zero_le _) ⟨rfl, rfl⟩
  rintro j ⟨x, r⟩ hj ⟨e1, e2⟩ K hK
  dsimp only at e1 e2 ⊢
  rw [e1, e2, nI10 hj]
  refine ⟨fun e => by subst e; exact h, fun e => ?_⟩
  rw [← xb_t1 j]
  refine q_cfRow hp (by omega) (q_bitG (fun x7 e7 x8 e8 => hK (by omega) _ ⟨?_, ?_⟩))
  · show x8 = _
    rw [e8, xb_t1, nI_1]
  · show x7 = _
    rw [e7, nI_add]
    rfl
theorem q_cfAll {post : Int32 → Prop} (h : post (nI (sm (wS S) 10))) : wp_Qd_calledForOfAll post (rF S) := by
  unfold wp_Qd_calledForOfAll
  refine xL_up (fun j s => s.1 = nI j ∧ s.2 = nI (sm (wS S) j)) 10 ?_ (Nat.zero_le _) ⟨rfl, rfl⟩
  rintro j ⟨x, r⟩ hj ⟨e1, e2⟩ K hK
  dsimp only at e1 e2 ⊢
  rw [e1, e2, nI10 hj]
  refine ⟨fun e => by subst e; exact h, fun e => q_cfSize (by omega) (fun x5 e5 x6 e6 => hK (by omega) _ ⟨?_, ?_⟩)⟩
  · show x6 = _
    rw [e6, nI_1]
  · show x5 = _
    rw [e5, nI_add]
    rfl
def pS (P : Nat → Bool) (p : Nat) : Nat := cn_ (fun k => P (4 * p + k)) 4
theorem pm_cn (P : Nat → Bool) (p : Nat) : cn_ (fun j => (pm P p).testBit j) 11 = pS P p := by
  have e : ∀ j, (pm P p).testBit j = (decide (j < 4) && P (4 * p + j)) := fun j => pm_bit
  rw [cn_congr 11 (fun j _ => e j)]
  unfold pS
  simp [cn_]
theorem q_pat {post : Int32 → Prop} {P : Nat → Bool} {p : Nat} (h : post (nI (pS P p))) : wp_In_bitCount post (nI (pm P p)) := by
  have := pm_lt P p
  refine q_bit (by omega) ?_
  rw [pm_cn]; exact h
theorem q_patAll {post : Int32 → Prop} {P : Nat → Bool} {qpt : Nat → Int32} (hq : ∀ i, i < 10 → qpt i = nI (pm P i)) (h : post (nI (sm (pS P) 10))) : wp_Qd_patternsOfAll post qpt := by
  unfold wp_Qd_patternsOfAll
  refine xL_up (fun j s => s.1 = nI j ∧ s.2 = nI (sm (pS P) j)) 10 ?_ (Nat.zero_le _) ⟨rfl, rfl⟩
  rintro j ⟨x, r⟩ hj ⟨e1, e2⟩ K hK
  dsimp only at e1 e2 ⊢
  rw [e1, e2, nI10 hj]
  refine ⟨fun e => by subst e; exact h, fun e => ⟨vp_in_nI (by omega) (by decide), ?_⟩⟩
  rw [nI_clamp (by omega), hq j (by omega)]
  refine q_pat (fun x5 e5 x6 e6 => hK (by omega) _ ⟨?_, ?_⟩)
  · show x6 = _
    rw [e6, nI_1]
  · show x5 = _
    rw [e5, nI_add]
    rfl
theorem q_sizeAll {post : Int32 → Prop} {kd : Nat} (hkd : kd ≤ 21) (h : post (nI (sm (fun p => szS S (kd + p)) 10))) : wp_Qd_sizeOfAll post (rF S) (nI kd) := by
  unfold wp_Qd_sizeOfAll
  refine xL_up (fun j s => s.1 = nI j ∧ s.2 = nI (sm (fun p => szS S (kd + p)) j)) 10 ?_ (Nat.zero_le _) ⟨rfl, rfl⟩
  rintro j ⟨x, r⟩ hj ⟨e1, e2⟩ K hK
  dsimp only at e1 e2 ⊢
  rw [e1, e2, nI10 hj, nI_add]
  refine ⟨fun e => by subst e; exact h, fun e => q_size (by omega) (fun x5 e5 x6 e6 => hK (by omega) _ ⟨?_, ?_⟩)⟩
  · show x6 = _
    rw [e6, nI_1]
  · show x5 = _
    rw [e5, nI_add]
    rfl
/-- of -/
theorem q_of {post : Int32 → Prop} {P : Nat → Bool} {qpt : Nat → Int32} {aq : Bool} {hp : Nat} {a wh : Int32} (hq : ∀ i, i < 10 → qpt i = nI (pm P i)) (hhp : hp ≤ 10)
    (h0 : (aq = false ∨ ¬ (∃ p, p < hp ∧ a = nI p) ∨ (wh.toInt < 0 ∨ 3 < wh.toInt)) → post (-1))
    (h1 : aq = true → ∀ p, p < hp → a = nI p → (wh = 0 → post (nI (szS S p))) ∧ (wh = 1 → post (nI (wS S p))) ∧ (wh = 2 → post (nI (szS S (10 + p)))) ∧ (wh = 3 → post (nI (pS P p)))) : wp_Qd_of post (rF S) qpt (bI aq) (nI hp) a wh := by
  unfold wp_Qd_of
  refine xj_P (fun _ => aq = false ∨ ¬ (∃ p, p < hp ∧ a = nI p)) (fun _ h => h0 (h.elim Or.inl (fun z => Or.inr (Or.inl z)))) (fun J hJ => ?_)
  rw [bI_t, bI_f]
  refine ⟨fun q => hJ _ (Or.inl q), fun q => ⟨fun q2 => hJ _ (Or.inr ?_), fun q2 => ?_⟩⟩
  · rintro ⟨p, h1, rfl⟩
    exact nI_pos (by omega) q2
  · obtain ⟨p, hp31, rfl⟩ := nI_of q2
    rw [nI_ltI (by omega) (by omega)]
    refine ⟨fun q3 => ?_, fun q3 => hJ _ (Or.inr ?_)⟩
    · obtain ⟨g0, g1, g2, g3⟩ := h1 q p q3 rfl
      rw [show (0 : Int32) + nI p = nI p from by rw [show (0 : Int32) = nI 0 from rfl, nI_add, Nat.zero_add], show (10 : Int32) + nI p = nI (10 + p) from nI_add 10 p]
      refine ⟨fun e => q_size (by omega) (g0 e), fun e => q_cfSize (by omega) (g1 e), fun e => q_size (by omega) (g2 e), fun e => ⟨vp_in_nI (by omega) (by decide), ?_⟩, fun e => h0 (Or.inr (Or.inr e))⟩
      rw [nI_clamp hp31, hq p (by omega)]
      exact q_pat (g3 e)
    · rintro ⟨p', h1, e⟩
      have := (nI_eq (by omega) (by omega)).mp e
      omega
theorem i32_nat {x : Int32} {n : Nat} (hn : n < 2 ^ 31) (h : x.toInt = n) : x = nI n := Int32.toInt_inj.mp (by rw [nI_toInt hn, h])
theorem q_count {post : Int32 → Prop} {P : Nat → Bool} {qpt : Nat → Int32} {aq : Bool} {np nr : Nat} {rw0 wh : Int32} (hq : ∀ i, i < 10 → qpt i = nI (pm P i))
    (h0 : wh = 0 → post (nI np)) (h1 : wh = 1 → post (nI nr)) (h2 : wh = 2 → post (nI (sm (fun p => szS S (20 + p)) 10)))
    (h3 : wh = 3 → aq = true → post (nI (sm (pS P) 10))) (h4 : wh = 4 → aq = true → post rw0) (h5 : wh = 5 → aq = true → post (nI (sm (fun p => szS S (10 + p)) 10))) (h6 : wh = 6 → aq = true → post (nI (sm (wS S) 10)))
    (hn : (wh.toInt < 0 ∨ 2 < wh.toInt) → (aq = false ∨ (wh.toInt < 0 ∨ 6 < wh.toInt)) → post (-1)) : wp_Qd_count post (rF S) qpt rw0 (nI np) (bI aq) (nI nr) wh := by
  unfold wp_Qd_count
  refine ⟨h0, h1, fun e => q_sizeAll (kd := 20) (by omega) (h2 e), fun e => ?_⟩
  unfold xj
  rw [bI_t, bI_f]
  refine ⟨fun q => hn e (Or.inl q), fun q => ?_⟩
  unfold wp_Qd_countOfQuestion
  refine ⟨fun w => q_patAll hq (h3 w q), fun w => h4 w q, fun w => q_sizeAll (kd := 10) (by omega) (h5 w q), fun w => q_cfAll (h6 w q), fun w => hn e (Or.inr ?_)⟩
  omega
end CR
section RR
/-! WHAT THE REFERENCE TELLS -/
variable {M CL : Nat → Bool} {md cl : Nat → Int32}
def ansP (M : Nat → Bool) (ao al ar f : Nat) : Prop := f / 100 = ao ∧ M f = true ∧ (al ≤ 10 → al - 1 = f / 10 % 10) ∧ (1 ≤ ar ∧ ar ≤ 10 → ar - 1 = f % 10) ∧ (11 ≤ al → al = ar → f / 10 % 10 = f % 10)
noncomputable def ansB (M : Nat → Bool) (ao al ar f : Nat) : Bool := @decide (ansP M ao al ar f) (Classical.propDecidable _)
theorem ansB_t {ao al ar f : Nat} : ansB M ao al ar f = true ↔ ansP M ao al ar f := by
  unfold ansB
  exact @decide_eq_true_iff _ (Classical.propDecidable _)
theorem ansB_f {ao al ar f : Nat} (h : ¬ ansP M ao al ar f) : ansB M ao al ar f = false := by
  unfold ansB
  exact @decide_eq_false _ (Classical.propDecidable _) h
theorem q_isAns {post : Int32 → Prop} {ao al ar f : Nat} (hM : mB md M 1000) (hf : f < 1000) (hao : ao < 10) (hal1 : 1 ≤ al) (hal : al ≤ 18) (har : ar ≤ 18) (h : post (bI (ansB M ao al ar f))) : wp_Mo_isAnswer post md (nI ao) (xb_t al) (xb_t ar) (nI f) := by
  unfold wp_Mo_isAnswer
  rw [show (10 : Int32) = nI 10 from rfl, show (100 : Int32) = nI 100 from rfl]
  intro x1 e1 x2 e2
  rw [pk_rem (by omega) (by omega) (by omega)] at e2
  rw [pk_div (show f < 2 ^ 31 by omega) (show 0 < 10 by omega) (by omega), pk_rem (by omega) (by omega) (by omega)] at e1
  subst e1 e2
  rw [pk_div (by omega) (by omega) (by omega), nI_eq (by omega) (by omega), nI_clamp (by omega), hM f hf, bI_t, bI_f]
  refine xj_P (fun _ => ¬ ansP M ao al ar f) (fun _ hn => ?_) (fun J4 hJ4 => ?_)
  · rw [ansB_f hn] at h; exact h
  · refine ⟨fun q => hJ4 _ (fun z => q z.1), fun q1 => ⟨vp_in_nI hf (by decide), fun q => hJ4 _ (fun z => by have := z.2.1; rw [q] at this; cases this), fun q2 => ?_⟩⟩
    have hl : 10 ≤ xb_t al ↔ 11 ≤ al := xt_0 al hal
    rw [show nI 10 = (10 : Int32) from rfl, hl, xt_l al hal, xt_un (by omega) (by omega)]
    have e1 : xb_t al = nI (f / 10 % 10) ↔ al - 1 = f / 10 % 10 := xt_e hal (by omega) (Nat.mod_lt _ (by omega))
    rw [e1]
    refine xj_P (fun _ => al ≤ 10 → al - 1 = f / 10 % 10) (fun _ q3 => ?_) (fun J6 hJ6 => ⟨fun q => hJ6 _ (fun z => by omega), fun q => ⟨fun q' => hJ4 _ (fun z => q' (z.2.2.1 (by omega))), fun q' => hJ6 _ (fun _ => q')⟩⟩)
    refine q_in ?_
    rw [xt_in ar har, bI_t, bI_f]
    refine xj_P (fun _ => 1 ≤ ar ∧ ar ≤ 10 → ar - 1 = f % 10) (fun _ q4 => ?_) (fun J10 hJ10 => ⟨fun q => hJ10 _ (fun z => absurd z (of_decide_eq_false q)), fun q => ?_⟩)
    · unfold xj
      have fin1 : (11 ≤ al → al = ar → f / 10 % 10 = f % 10) → narrow .boolean (.int 1) = .int 1 ∧ post 1 := fun q5 => by
        have : ansB M ao al ar f = true := ansB_t.mpr ⟨q1, q2, q3, q4, q5⟩
        rw [this] at h
        exact ⟨rfl, h⟩
      rw [nI_eq (by omega) (by omega)]
      refine ⟨fun q => fin1 (fun z => by omega), fun q => ⟨fun q' => fin1 (fun _ z => absurd z q'), fun q' => ⟨fun q'' => ⟨rfl, ?_⟩, fun q'' => fin1 (fun _ _ => q'')⟩⟩⟩
      rw [ansB_f (fun z => q'' (z.2.2.2.2 (by omega) q'))] at h
      exact h
    · have hr := of_decide_eq_true q
      have e2 : xb_t ar = nI (f % 10) ↔ ar - 1 = f % 10 := xt_e har (by omega) (Nat.mod_lt _ (by omega))
      rw [e2]
      exact ⟨fun q' => hJ10 _ (fun _ => q'), fun q' => hJ4 _ (fun z => q' (z.2.2.2.1 hr))⟩
/-- wanted: a call of its predicate whose bound places are the fact's -/
def wQ (CL : Nat → Bool) (f i : Nat) : Bool := CL (121 * (f / 100) + i) && (decide (i / 11 = 10 ∨ i / 11 = f / 10 % 10) && decide (i % 11 = 10 ∨ i % 11 = f % 10))
def wF (M CL : Nat → Bool) (f : Nat) : Bool := an_ (wQ CL f) 121 && M f
theorem q_isWan {post : Int32 → Prop} {f : Nat} (hM : mB md M 1000) (hC : mB cl CL 1210) (hf : f < 1000) (h : post (bI (wF M CL f))) : wp_Mo_isWanted post md cl (nI f) := by
  unfold wp_Mo_isWanted
  rw [show (10 : Int32) = nI 10 from rfl, show (100 : Int32) = nI 100 from rfl, show (11 : Int32) = nI 11 from rfl, show (121 : Int32) = nI 121 from rfl]
  rw [pk_div (show f < 2 ^ 31 by omega) (show 0 < 100 by omega) (by omega), pk_mul, nI_add, pk_rem (show f < 2 ^ 31 by omega) (show 0 < 10 by omega) (by omega), pk_div (show f < 2 ^ 31 by omega) (show 0 < 10 by omega) (by omega), pk_rem (by omega) (by omega) (by omega)]
  intro x1 e1
  subst e1
  refine xL_up (fun j s => s.1 = nI (121 * (f / 100) + j) ∧ s.2 = bI (an_ (wQ CL f) j)) 121 ?_ (Nat.zero_le _) ⟨rfl, rfl⟩
  rintro j ⟨c, b⟩ hj ⟨e1, e2⟩ K hK
  dsimp only at e1 e2 ⊢
  rw [e1, e2, nI_leI (by omega) (by omega)]
  refine ⟨fun e => ?_, fun e x8 e8 x9 e9 => ?_⟩
  · have : j = 121 := by omega
    subst this
    unfold xj
    rw [nI_clamp (by omega), hM f hf, bI_t, bI_f, bI_t, bI_f]
    unfold wF at h
    refine ⟨fun q => ⟨rfl, ?_⟩, fun q => ⟨vp_in_nI hf (by decide), fun q2 => ⟨rfl, ?_⟩, fun q2 => ⟨rfl, ?_⟩⟩⟩
    · rw [q] at h; exact h
    · rw [q, q2] at h; exact h
    · rw [q, q2] at h; exact h
  · have hj : j < 121 := by omega
    rw [pk_rem (by omega) (by omega) (by omega)] at e9
    rw [pk_div (show 121 * (f / 100) + j < 2 ^ 31 by omega) (show 0 < 11 by omega) (by omega), pk_rem (by omega) (by omega) (by omega)] at e8
    have d1 : (121 * (f / 100) + j) / 11 % 11 = j / 11 := by omega
    have d2 : (121 * (f / 100) + j) % 11 = j % 11 := by omega
    rw [d1] at e8
    rw [d2] at e9
    subst e8 e9
    rw [nI_clamp (by omega), hC _ (by omega), bI_t, bI_f, bI_t, bI_f, nI_eq (by omega) (by omega), nI_eq (by omega) (by omega), nI_eq (by omega) (by omega), nI_eq (by omega) (by omega)]
    refine xj_P (fun v => v = bI (an_ (wQ CL f) (j + 1))) (fun v hv x12 e12 => hK (by omega) _ ⟨by rw [e12, nI_1]; rfl, hv⟩) (fun J11 hJ11 => ?_)
    refine xj_P (fun _ => an_ (wQ CL f) (j + 1) = true) (fun _ q => hJ11 _ (by rw [q]; rfl)) (fun J14 hJ14 => ?_)
    refine ⟨fun q => hJ14 _ (by show (an_ (wQ CL f) j || wQ CL f j) = true; rw [q]; rfl), fun q => ⟨vp_in_nI (by omega) (by decide), ?_⟩⟩
    have e0 : an_ (wQ CL f) (j + 1) = wQ CL f j := by
      show (an_ (wQ CL f) j || wQ CL f j) = _
      rw [q]; rfl
    rw [e0] at hJ11 hJ14
    refine xj_P (fun _ => wQ CL f j = false) (fun _ q => hJ11 _ (by rw [q]; rfl)) (fun J16 hJ16 => ?_)
    refine ⟨fun q1 => hJ16 _ (by unfold wQ; rw [q1]; rfl), fun q1 => ?_⟩
    refine xj_P (fun _ => j / 11 = 10 ∨ j / 11 = f / 10 % 10) (fun _ q2 => ⟨fun q3 => hJ14 _ ?_, fun q3 => ⟨fun q4 => hJ16 _ ?_, fun q4 => hJ14 _ ?_⟩⟩) (fun J18 hJ18 => ⟨fun q2 => hJ18 _ (Or.inl q2), fun q2 => ⟨fun q3 => hJ16 _ ?_, fun q3 => hJ18 _ (Or.inr q3)⟩⟩)
    · unfold wQ; rw [q1, decide_eq_true q2, decide_eq_true (Or.inl q3)]; rfl
    · unfold wQ; rw [decide_eq_false (show ¬ (j % 11 = 10 ∨ j % 11 = f % 10) from fun z => z.elim q3 q4), Bool.and_false, Bool.and_false]
    · unfold wQ; rw [q1, decide_eq_true q2, decide_eq_true (Or.inr q4)]; rfl
    · unfold wQ; rw [decide_eq_false (show ¬ (j / 11 = 10 ∨ j / 11 = f / 10 % 10) from fun z => z.elim q2 q3), Bool.false_and, Bool.and_false]
end RR
section RA
variable {np : Nat} {pl : Nat → Nat} {Ru : Nat → Bool} {mp mr : Nat → Int32} {M CL : Nat → Bool} {md cl : Nat → Int32}
theorem lh_inc {r : Int32} {b : Bool} {Q : Int32 → Prop} (hr : r = bI b) (h : Q (nI (if b = true then 1 else 0))) : xj Q (fun (J : Int32 → Prop) => ((r = 0 → J 0) ∧ (¬ r = 0 → J 1))) := by
  subst hr
  unfold xj
  cases b with
  | true => exact ⟨fun q => absurd q (by decide), fun _ => h⟩
  | false => exact ⟨fun _ => h, fun q => absurd rfl q⟩
theorem sm_zero {f : Nat → Nat} : ∀ n, (∀ i, i < n → f i = 0) → sm f n = 0
  | 0, _ => rfl
  | n + 1, h => by
    show sm f n + f n = 0
    rw [sm_zero n (fun i hi => h i (by omega)), h n (by omega)]
def spC (M : Nat → Bool) (RS : Nat → RU) (nr : Nat) (Ru : Nat → Bool) (ao al ar : Nat) (CL : Nat → Bool) : Prop := (∀ z, CL z = true → z < 1210) ∧ (Ru ao = false → ∀ z, CL z = false) ∧ (Ru ao = true → ∀ z, CL z = true ↔ lfC M RS nr Ru (121 * ao + 11 * cq al + cq ar) z)
def spP (RS : Nat → RU) (nr : Nat) (Ru : Nat → Bool) (ao al ar : Nat) (P : Nat → Bool) : Prop := (∀ z, P z = true → z < 40) ∧ (Ru ao = false → ∀ z, P z = false) ∧ (Ru ao = true → ∀ z, P z = true ↔ lfP RS nr Ru (4 * ao + pq al ar) z)
/-- the arguments' test of holds, wanted and ask -/
theorem m_args {Q : Int32 → Prop} {hi : Nat} {hi' a x y : Int32} (hk : kA np pl Ru mp mr) (hhi : hi' = xb_t hi) (h18 : hi ≤ 18) (hi1 : 1 ≤ hi)
    (h1 : okA np pl 1 hi a x y → Q 0) (h0 : ¬ okA np pl 1 hi a x y → Q 1) : wp_Mo_isPredicate (fun r_1 => xj (fun (v_3 : Int32) => Q v_3) (fun (J_4 : Int32 → Prop) => xj (fun (v_11 : Unit) => J_4 1) (fun (J_12 : Unit → Prop) => ((r_1 = 0 → J_12 ()) ∧ (¬ r_1 = 0 → wp_Mo_fit (fun r_13 => ((r_13 = 0 → J_12 ()) ∧ (¬ r_13 = 0 → J_4 0))) mp a x y hi'))))) (nI np) a := by
  obtain ⟨k1, k2, k3, k4, k5, k6⟩ := hk
  subst hhi
  refine q_isPred k1 (fun hp => ?_) (fun hp => ?_)
  · obtain ⟨p, hp, rfl⟩ := hp
    unfold xj
    refine ⟨fun q => absurd q (by decide), fun _ => q_fit k1 k2 k3 h18 hi1 hp (fun h => ⟨fun z => absurd z (by decide), fun _ => h1 h⟩) (fun h => ⟨fun _ => h0 h, fun z => absurd rfl z⟩)⟩
  · unfold xj
    refine ⟨fun _ => h0 ?_, fun q => absurd rfl q⟩
    rintro ⟨p, t, u, e, h, -⟩
    exact hp ⟨p, h, e⟩
theorem m_ask {post : Int32 → Int32 → (Nat → Int32) → Int32 → Int32 → Int32 → Int32 → Int32 → (Nat → Int32) → (Nat → Int32) → Int32 → (Nat → Int32) → Int32 → (Nat → Int32) → (Nat → Int32) → (Nat → Int32) → Int32 → Int32 → Int32 → Prop} {td oa la ga sz row pa vl bY ch : Nat → Int32} {th aq ao0 al0 ar0 hp0 ir rw0 ru at' dp a x y : Int32} {T : Nat → Bool} {RS : Nat → RU} {nr : Nat}
    (hk : kA np pl Ru mp mr) (hT : mB td T 1000) (hTv : mV pl T) (hR : ∀ r, r < nr → rR oa la ga sz r (RS r)) (hwf : ∀ r, r < nr → wfR pl (RS r)) (hnr : nr ≤ 30)
    (h1 : ∀ ao al ar, a = nI ao → ao < np → x = xb_t al → 1 ≤ al → al ≤ 18 → y = xb_t ar → (pl ao = 1 → ar = 0) → (pl ao ≠ 1 → 1 ≤ ar ∧ ar ≤ 18) → ∀ M CL P, mV pl M → (∀ i, M i = true ↔ lfM RS nr T i) → spC M RS nr Ru ao al ar CL → spP RS nr Ru ao al ar P → ∀ md' cl' row' ir' pa' vl' bY' ch' ru' at'' dp', mB md' M 1000 → mB cl' CL 1210 → mB pa' P 40 → post (nI (cn_ (ansB M ao al ar) 1000)) 0 md' 1 a x y (nI np) cl' row' ir' pa' (nI (sm (rwF RS nr Ru P) 40)) vl' bY' ch' ru' at'' dp')
    (h0 : ¬ okA np pl 1 18 a x y → post 0 1 md aq ao0 al0 ar0 hp0 cl row ir pa rw0 vl bY ch ru at' dp) :
    wp_Mo_ask post mp mr (nI np) td oa la ga sz (nI nr) th md aq ao0 al0 ar0 hp0 cl row ir pa rw0 vl bY ch ru at' dp a x y := by
  unfold wp_Mo_ask
  refine m_args (hi := 18) hk (by decide) (by omega) (by omega) (fun hok => ⟨fun _ => ?_, fun q => absurd (by decide) q⟩) (fun hok => ⟨fun q => absurd q (by decide), fun _ => h0 hok⟩)
  obtain ⟨ao, al, ar, e1, hao, e2, al1, al2, e3, hu1, hu2⟩ := hok
  have har : ar ≤ 18 := u10 hu1 hu2
  have k1 := hk.1
  have h1 := h1 ao al ar e1 hao e2 al1 al2 e3 hu1 hu2
  rw [e1, e2, e3] at h1 ⊢
  refine q_models hT hTv hR hwf hnr (fun md' vl7 bY7 ch7 a7 b7 c7 M hM hMv hMl => ?_)
  have fin : ∀ CL P, spC M RS nr Ru ao al ar CL → spP RS nr Ru ao al ar P → ∀ cl' row' ir' pa' vl' bY' ch' ru' at'' dp', mB cl' CL 1210 → mB pa' P 40 → xL (fun (K_30 : Int32 × Int32 → Prop) (v_29 : Int32 × Int32) => ((1000 ≤ v_29.1 → post v_29.2 0 md' 1 (nI ao) (xb_t al) (xb_t ar) (nI np) cl' row' ir' pa' (nI (sm (rwF RS nr Ru P) 40)) vl' bY' ch' ru' at'' dp') ∧ (¬ 1000 ≤ v_29.1 → wp_Mo_isAnswer (fun r_31 => xj (fun (v_33 : Int32) => ∀ x_35 : Int32, x_35 = v_29.2 + v_33 → ∀ x_36 : Int32, x_36 = v_29.1 + 1 → K_30 (x_36, x_35)) (fun (J_34 : Int32 → Prop) => ((r_31 = 0 → J_34 0) ∧ (¬ r_31 = 0 → J_34 1)))) md' (nI ao) (xb_t al) (xb_t ar) v_29.1))) (0, 0) := by
    intro CL P hC hP cl' row' ir' pa' vl' bY' ch' ru' at'' dp' hcl hpa
    refine xL_up (fun j s => s.1 = nI j ∧ s.2 = nI (cn_ (ansB M ao al ar) j)) 1000 ?_ (Nat.zero_le _) ⟨rfl, rfl⟩
    rintro j ⟨i, n⟩ hj ⟨z1, z2⟩ K hK
    dsimp only at z1 z2 ⊢
    rw [z1, z2, show (1000 : Int32) = nI 1000 from rfl, nI_leX 1000 hj (by omega)]
    refine ⟨fun e => ?_, fun e => q_isAns hM (by omega) (by omega) al1 al2 har (lh_inc rfl (fun x35 e35 x36 e36 => hK (by omega) _ ⟨?_, ?_⟩))⟩
    · subst e
      exact h1 M CL P hMv hMl hC hP _ _ _ _ _ _ _ _ _ _ _ hM hcl hpa
    · show x36 = _
      rw [e36, nI_1]
    · show x35 = _
      rw [e35, nI_add]
      rfl
  refine q_asks hR hwf hnr hM hMv hk.2.2.2.2.2 (by omega) al1 al2 har (fun hru cl' row' vl' bY' ch' a8 b8 c8 hcl => ?_) (fun hru cl' row' ir' vl' bY' ch' a8 b8 c8 CL hcl hlt hlf => ?_)
  · refine q_rewrites hR hwf hnr hk.2.2.2.2.2 (by omega) al1 al2 har (fun _ pa' hpa => ?_) (fun hru' => by rw [hru] at hru'; cases hru')
    have := fin (fun _ => false) (fun _ => false) ⟨fun z hz => (by cases hz), fun _ _ => rfl, fun h => (by rw [hru] at h; cases h)⟩ ⟨fun z hz => (by cases hz), fun _ _ => rfl, fun h => (by rw [hru] at h; cases h)⟩ cl' row' 0 pa' vl' bY' ch' a8 b8 c8 hcl hpa
    rw [sm_zero (f := rwF RS nr Ru fun _ => false) 40 (fun i _ => rfl)] at this
    exact this
  · refine q_rewrites hR hwf hnr hk.2.2.2.2.2 (by omega) al1 al2 har (fun hru' => by rw [hru] at hru'; cases hru') (fun _ pa' P hpa hlt' hlf' => ?_)
    exact fin CL P ⟨hlt, fun h => (by rw [hru] at h; cases h), fun _ => hlf⟩ ⟨hlt', fun h => (by rw [hru] at h; cases h), fun _ => hlf'⟩ cl' row' ir' pa' vl' bY' ch' a8 b8 c8 hcl hpa
theorem m_holds {post : Int32 → Int32 → Prop} {aq : Bool} {th a x y : Int32} (hk : kA np pl Ru mp mr) (hM : mB md M 1000)
    (h1 : ∀ p t u, a = nI p → p < np → x = xb_t t → y = xb_t u → vd pl p t u → post (bI (aq && M (ix3 p t u))) 0)
    (h0 : ¬ okA np pl 1 10 a x y → post 0 1) : wp_Mo_holds post mp (nI np) md (bI aq) th a x y := by
  unfold wp_Mo_holds
  refine m_args (hi := 10) hk (by decide) (by omega) (by omega) (fun hok => ?_) (fun hok => ?_)
  · obtain ⟨p, t, u, e1, hp, e2, t1, t2, e3, hu1, hu2⟩ := hok
    have hv : vd pl p t u := ⟨t1, t2, hu1, hu2⟩
    have h1 := h1 p t u e1 hp e2 e3 hv
    have k1 := hk.1
    have hu := u10 hu1 hu2
    have hix := (ix_back hv (by omega)).2.2.2.2
    rw [e1, e2, e3]
    unfold xj
    rw [bI_t, bI_f]
    refine ⟨fun q => absurd rfl q, fun _ => ⟨fun q => ⟨rfl, ?_⟩, fun q => q_place2 (by omega) t1 t2 hu ⟨vp_in_nI hix (by decide), ?_⟩⟩⟩
    · rw [q] at h1; exact h1
    · rw [nI_clamp (by omega), hM _ hix, bI_t, bI_f]
      rw [q, Bool.true_and] at h1
      exact ⟨fun q2 => ⟨rfl, by rw [q2] at h1; exact h1⟩, fun q2 => ⟨rfl, by rw [q2] at h1; exact h1⟩⟩
  · unfold xj
    exact ⟨fun _ => ⟨rfl, h0 hok⟩, fun q => absurd q (by decide)⟩
theorem m_wanted {post : Int32 → Int32 → Prop} {aq : Bool} {th a x y : Int32} (hk : kA np pl Ru mp mr) (hM : mB md M 1000) (hC : mB cl CL 1210)
    (h1 : ∀ p t u, a = nI p → p < np → x = xb_t t → y = xb_t u → vd pl p t u → post (bI (aq && (Ru p && wF M CL (ix3 p t u)))) 0)
    (h0 : ¬ okA np pl 1 10 a x y → post 0 1) : wp_Mo_wanted post mp mr (nI np) md (bI aq) cl th a x y := by
  unfold wp_Mo_wanted
  refine m_args (hi := 10) hk (by decide) (by omega) (by omega) (fun hok => ?_) (fun hok => ?_)
  · obtain ⟨p, t, u, e1, hp, e2, t1, t2, e3, hu1, hu2⟩ := hok
    have hv : vd pl p t u := ⟨t1, t2, hu1, hu2⟩
    have h1 := h1 p t u e1 hp e2 e3 hv
    have k1 := hk.1
    have hu := u10 hu1 hu2
    have hix := (ix_back hv (by omega)).2.2.2.2
    rw [e1, e2, e3]
    unfold xj
    rw [nI_clamp (by omega), hk.2.2.2.2.2 p (by omega), bI_t, bI_f, bI_t, bI_f]
    refine ⟨fun q => absurd rfl q, fun _ => ⟨fun q => ⟨rfl, ?_⟩, fun q => ⟨vp_in_nI (by omega) (by decide), fun q2 => ⟨rfl, ?_⟩, fun q2 => q_place2 (by omega) t1 t2 hu (q_isWan hM hC hix ?_)⟩⟩⟩
    · rw [q] at h1; exact h1
    · rw [q2, Bool.false_and, Bool.and_false] at h1; exact h1
    · rw [bI_t, bI_f]
      rw [q, q2, Bool.true_and, Bool.true_and] at h1
      exact ⟨fun q3 => ⟨rfl, by rw [q3] at h1; exact h1⟩, fun q3 => ⟨rfl, by rw [q3] at h1; exact h1⟩⟩
  · unfold xj
    exact ⟨fun _ => ⟨rfl, h0 hok⟩, fun q => absurd q (by decide)⟩
end RA
section RB2
variable {np : Nat} {pl : Nat → Nat} {Ru : Nat → Bool} {mp mr : Nat → Int32} {M CL P : Nat → Bool} {md cl pa : Nat → Int32}
theorem xt_d : ∀ t, t ≤ 10 → (0 ≤ xb_t t → xb_t t = nI (dX t)) ∧ (¬ 0 ≤ xb_t t → dX t = 10) := by decide +kernel
theorem m_called {post : Int32 → Int32 → Prop} {aq : Bool} {th a x y : Int32} (hk : kA np pl Ru mp mr) (hC : mB cl CL 1210)
    (h1 : ∀ p t u, a = nI p → p < np → x = xb_t t → t ≤ 10 → y = xb_t u → (pl p = 1 → u = 0) → u ≤ 10 → post (bI (aq && CL (ci p t u))) 0)
    (h0 : ¬ okA np pl 0 10 a x y → post 0 1) : wp_Mo_called_IIIZ post mp (nI np) (bI aq) cl th a x y := by
  obtain ⟨k1, k2, k3, k4, k5, k6⟩ := hk
  have m1 : xb_t 0 = -1 := by decide
  have m9 : xb_t 10 = 9 := by decide
  have hrx := xt_rng (x := x) (hi := 10) (lo := 0) (by omega) (by omega)
  have hry := xt_rng (x := y) (hi := 10) (lo := 0) (by omega) (by omega)
  rw [m1, m9] at hrx hry
  unfold wp_Mo_called_IIIZ
  have fin : ∀ v : Int32, (v = 1 ∧ okA np pl 0 10 a x y) ∨ (v = 0 ∧ ¬ okA np pl 0 10 a x y) → xj (fun (v_5 : Int32) => xj (fun (v_7 : Int32) => (narrow .boolean (.int v_7) = .int v_7 ∧ post v_7 v_5)) (fun (J_8 : Int32 → Prop) => xj (fun (v_9 : Unit) => J_8 0) (fun (J_10 : Unit → Prop) => ((v = 0 → J_10 ()) ∧ (¬ v = 0 → ((bI aq = 0 → J_10 ()) ∧ (¬ bI aq = 0 → xj (fun (v_11 : Int32) => xj (fun (v_13 : Int32) => vp_in (((121 * a) + (11 * v_11)) + v_13) 1210 ∧ (((cl (Int32.toNatClampNeg (((121 * a) + (11 * v_11)) + v_13))) = 0 → J_10 ()) ∧ (¬ (cl (Int32.toNatClampNeg (((121 * a) + (11 * v_11)) + v_13))) = 0 → J_8 1))) (fun (J_14 : Int32 → Prop) => ((0 ≤ y → J_14 y) ∧ (¬ 0 ≤ y → J_14 10)))) (fun (J_12 : Int32 → Prop) => ((0 ≤ x → J_12 x) ∧ (¬ 0 ≤ x → J_12 10)))))))))) (fun (J_6 : Int32 → Prop) => ((v = 0 → J_6 1) ∧ (¬ v = 0 → J_6 0))) := by
    rintro v (⟨rfl, hok⟩ | ⟨rfl, hno⟩)
    · obtain ⟨p, t, u, e1, hp, e2, t1, t2, e3, hu1, hu2⟩ := hok
      have hu := u10 hu1 hu2
      have h1' := h1 p t u e1 hp e2 t2 e3 hu1 hu
      subst e1 e2 e3
      refine xj_P (fun v => v = 0) ?_ (fun J hJ => ⟨fun q => absurd q (by decide), fun _ => hJ _ rfl⟩)
      rintro v5 rfl
      refine xj_P (fun v => v = bI (aq && CL (ci p t u))) (fun v hv => by subst hv; exact ⟨bI_nar _, h1'⟩) (fun J8 hJ8 => ?_)
      refine xj_P (fun _ => (aq && CL (ci p t u)) = false) (fun _ q => hJ8 _ (by rw [q]; rfl)) (fun J10 hJ10 => ?_)
      rw [bI_t, bI_f]
      refine ⟨fun q => absurd q (by decide), fun _ => ⟨fun q => hJ10 _ (by rw [q]; rfl), fun q => ?_⟩⟩
      refine xj_P (fun v => v = nI (dX t)) ?_ (fun J hJ => ⟨fun z => hJ _ ((xt_d t t2).1 z), fun z => hJ _ (by rw [(xt_d t t2).2 z]; rfl)⟩)
      rintro v11 rfl
      refine xj_P (fun v => v = nI (dX u)) ?_ (fun J hJ => ⟨fun z => hJ _ ((xt_d u hu).1 z), fun z => hJ _ (by rw [(xt_d u hu).2 z]; rfl)⟩)
      rintro v13 rfl
      have hlt := ci_lt (p := p) (x := t) (y := u) (by omega) (by omega) (by omega)
      have e : (121 : Int32) * nI p + 11 * nI (dX t) + nI (dX u) = nI (ci p t u) := by
        rw [show (121 : Int32) = nI 121 from rfl, show (11 : Int32) = nI 11 from rfl, pk_mul, pk_mul, nI_add, nI_add]; rfl
      rw [e, nI_clamp (by omega), hC _ hlt, bI_t, bI_f]
      exact ⟨vp_in_nI hlt (by decide), fun z => hJ10 _ (by rw [z, Bool.and_false]), fun z => hJ8 _ (by rw [q, z]; rfl)⟩
    · unfold xj
      exact ⟨fun _ => ⟨fun _ => ⟨rfl, h0 hno⟩, fun q => absurd rfl q⟩, fun q => absurd rfl q⟩
  refine q_isPred k1 (fun hp => ?_) (fun hp => ?_)
  · obtain ⟨p, hp, rfl⟩ := hp
    have pinj : ∀ p', nI p = nI p' → p' < np → p' = p := fun p' e hp' => ((nI_eq (by omega) (by omega)).mp e).symm
    refine xj_P (fun v => (v = 1 ∧ okA np pl 0 10 (nI p) x y) ∨ (v = 0 ∧ ¬ okA np pl 0 10 (nI p) x y)) fin (fun J4 hJ4 => ?_)
    refine xj_P (fun _ => ¬ okA np pl 0 10 (nI p) x y) (fun _ h => hJ4 _ (Or.inr ⟨rfl, h⟩)) (fun J16 hJ16 => ⟨fun q => absurd q (by decide), fun _ => q_in ?_⟩)
    rw [bI_t, bI_f]
    refine ⟨fun q => hJ16 _ ?_, fun q => ⟨vp_in_nI (by omega) (by decide), ?_⟩⟩
    · rintro ⟨p', t, u, -, -, ex, t1, t2, -⟩
      exact of_decide_eq_false q (hrx.mpr ⟨t, t1, t2, ex⟩)
    · obtain ⟨t, t1, t2, ex⟩ := hrx.mp (of_decide_eq_true q)
      refine xj_P (fun _ => okA np pl 0 10 (nI p) x y) (fun _ h => hJ4 _ (Or.inl ⟨rfl, h⟩)) (fun J20 hJ20 => ?_)
      rw [nI_clamp (by omega), k2 p (by omega), show (1 : Int32) = nI 1 from rfl, nI_eq (by have := k3 p; omega) (by omega)]
      refine ⟨fun h => q_in ?_, fun h => ⟨fun q2 => hJ16 _ ?_, fun q2 => hJ20 _ ?_⟩⟩
      · rw [show nI 1 = (1 : Int32) from rfl] at *
        rw [bI_t, bI_f]
        refine ⟨fun q2 => hJ16 _ ?_, fun q2 => hJ20 _ ?_⟩
        · rintro ⟨p', t, u, ep, hp', -, -, -, ey, -, hu⟩
          have := pinj p' ep hp'
          subst this
          exact of_decide_eq_false q2 (hry.mpr ⟨u, (hu h).1, (hu h).2, ey⟩)
        · obtain ⟨u, u1, u2, ey⟩ := hry.mp (of_decide_eq_true q2)
          exact ⟨p, t, u, rfl, hp, ex, t1, t2, ey, fun z => absurd z h, fun _ => ⟨u1, u2⟩⟩
      · rintro ⟨p', t, u, ep, hp', -, -, -, ey, hu, -⟩
        have := pinj p' ep hp'
        subst this
        rw [hu h] at ey
        exact absurd ey q2
      · exact ⟨p, t, 0, rfl, hp, ex, t1, t2, by rw [q2]; decide, fun _ => rfl, fun z => absurd h z⟩
  · unfold xj at fin ⊢
    refine ⟨fun _ => fin 0 (Or.inr ⟨rfl, ?_⟩), fun q => absurd rfl q⟩
    rintro ⟨p, t, u, e, h, -⟩
    exact hp ⟨p, h, e⟩
theorem cn_add (f : Nat → Bool) (n : Nat) : nI (cn_ f n) + nI (if f n = true then 1 else 0) = nI (cn_ f (n + 1)) := by
  rw [nI_add]; rfl
/-- of -/
theorem m_of {post : Int32 → Int32 → Prop} {aq : Bool} {hp : Nat} {th a wh : Int32} (hRu : mB mr Ru 10) (hM : mB md M 1000) (hC : mB cl CL 1210) (hP : mB pa P 40) (hhp : hp ≤ 10)
    (h0 : (aq = false ∨ ¬ (∃ p, p < hp ∧ a = nI p) ∨ (wh.toInt < 0 ∨ 3 < wh.toInt)) → post (-1) 0)
    (h1 : aq = true → ∀ p, p < hp → a = nI p → (wh = 0 → post (nI (cn_ (fun i => M (100 * p + i)) 100)) 0) ∧ (wh = 1 → post (nI (cn_ (fun i => Ru p && wF M CL (100 * p + i)) 100)) 0) ∧ (wh = 2 → post (nI (cn_ (fun i => CL (121 * p + i)) 121)) 0) ∧ (wh = 3 → post (nI (pS P p)) 0)) : wp_Mo_of post mr md (bI aq) (nI hp) cl pa th a wh := by
  unfold wp_Mo_of
  refine xj_P (fun _ => aq = false ∨ ¬ (∃ p, p < hp ∧ a = nI p) ∨ (wh.toInt < 0 ∨ 3 < wh.toInt)) (fun _ h => h0 h) (fun J2 hJ2 => ?_)
  rw [bI_t, bI_f]
  refine ⟨fun q => hJ2 _ (Or.inl q), fun hq => q_in ?_⟩
  have key : (0 ≤ a ∧ a ≤ nI hp - 1) ↔ ∃ p, p < hp ∧ a = nI p := by
    rw [show nI hp - 1 = xb_t hp from rfl, Int32.le_iff_toInt_le, Int32.le_iff_toInt_le, xt_toInt (by omega), show (0 : Int32).toInt = 0 from by decide]
    constructor
    · rintro ⟨h2, h3⟩
      refine ⟨a.toInt.toNat, by omega, Int32.toInt_inj.mp ?_⟩
      rw [nI_toInt (by omega)]
      omega
    · rintro ⟨p, h2, rfl⟩
      rw [nI_toInt (by omega)]
      omega
  rw [bI_t, bI_f]
  refine ⟨fun q => hJ2 _ (Or.inr (Or.inl (fun z => of_decide_eq_false q (key.mpr z)))), fun q => q_in ?_⟩
  obtain ⟨p, hp', rfl⟩ := key.mp (of_decide_eq_true q)
  have h1 := h1 hq p hp' rfl
  have hw : (0 ≤ wh ∧ wh ≤ 3) ↔ ¬ (wh.toInt < 0 ∨ 3 < wh.toInt) := by
    rw [Int32.le_iff_toInt_le, Int32.le_iff_toInt_le, show (0 : Int32).toInt = 0 from by decide, show (3 : Int32).toInt = 3 from by decide]
    omega
  rw [bI_t, bI_f]
  refine ⟨fun q2 => ?_, fun q2 => hJ2 _ (Or.inr (Or.inr (Classical.not_not.mp (fun z => of_decide_eq_false q2 (hw.mpr z)))))⟩
  have hw3 := hw.mp (of_decide_eq_true q2)
  have hwh : ∃ n, n < 4 ∧ wh = nI n := ⟨wh.toInt.toNat, by omega, Int32.toInt_inj.mp (by rw [nI_toInt (by omega)]; omega)⟩
  obtain ⟨n, hn, rfl⟩ := hwh
  intro x7 e7
  rw [show (100 : Int32) = nI 100 from rfl, pk_mul] at e7
  subst e7
  -- the loops: only the one that is asked for counts
  have third : ∀ c : Int32, (n = 3 → c = 0) → (n ≠ 3 → post c 0) → ∀ x_17 : Int32, x_17 = 4 * nI p → xL (fun (K_19 : Int32 × Int32 → Prop) (v_18 : Int32 × Int32) => xj (fun (v_20 : Unit) => post v_18.2 0) (fun (J_21 : Unit → Prop) => ((((4 * nI p) + 4) ≤ v_18.1 → J_21 ()) ∧ (¬ ((4 * nI p) + 4) ≤ v_18.1 → ((¬ nI n = 3 → J_21 ()) ∧ (nI n = 3 → vp_in v_18.1 40 ∧ xj (fun (v_22 : Int32) => ∀ x_24 : Int32, x_24 = v_18.2 + v_22 → ∀ x_25 : Int32, x_25 = v_18.1 + 1 → K_19 (x_25, x_24)) (fun (J_23 : Int32 → Prop) => (((pa (Int32.toNatClampNeg v_18.1)) = 0 → J_23 0) ∧ (¬ (pa (Int32.toNatClampNeg v_18.1)) = 0 → J_23 1))))))))) (x_17, c) := by
    intro c hc0 hc1 x17 e17
    rw [show (4 : Int32) = nI 4 from rfl, pk_mul] at e17
    subst e17
    refine xL_up (fun j s => s.1 = nI (4 * p + j) ∧ ((n ≠ 3 ∧ j = 0 ∧ s.2 = c) ∨ (n = 3 ∧ s.2 = nI (cn_ (fun k => P (4 * p + k)) j)))) 4 ?_ (Nat.zero_le _) ⟨rfl, ?_⟩
    · rintro j ⟨i, m⟩ hj ⟨z1, z2⟩ K hK
      dsimp only at z1 z2 ⊢
      rw [z1, show (4 : Int32) = nI 4 from rfl, pk_mul, nI_add, nI_leI (by omega) (by omega)]
      refine xj_P (fun _ => n ≠ 3 ∨ j = 4) (fun _ h => ?_) (fun J hJ => ⟨fun q => hJ _ (Or.inr (by omega)), fun q => ⟨fun q2 => hJ _ (Or.inl (fun z => q2 (by rw [z]; rfl))), fun q2 => ⟨vp_in_nI (by omega) (by decide), ?_⟩⟩⟩)
      · rcases z2 with ⟨n1, n2, n3⟩ | ⟨n1, n2⟩
        · rw [n3]; exact hc1 n1
        · have : j = 4 := h.resolve_left (fun z => z n1)
          subst this
          rw [n2]
          exact h1.2.2.2 (by rw [n1]; rfl)
      · have hn3 : n = 3 := by
          rw [show (3 : Int32) = nI 3 from rfl, nI_eq (by omega) (by omega)] at q2
          exact q2
        have z2 := (z2.resolve_left (fun z => z.1 hn3)).2
        rw [nI_clamp (by omega)]
        refine lh_inc (hP _ (by omega)) (fun x24 e24 x25 e25 => hK (by omega) _ ⟨by rw [e25, nI_1]; rfl, Or.inr ⟨hn3, ?_⟩⟩)
        show x24 = _
        rw [e24, z2, nI_add]
        rfl
    · by_cases e : n = 3
      · exact Or.inr ⟨e, hc0 e⟩
      · exact Or.inl ⟨e, rfl, rfl⟩
  have second : ∀ c : Int32, (2 ≤ n → c = 0) → (n < 2 → post c 0) → ∀ x_12 : Int32, x_12 = 121 * nI p → xL (fun (K_14 : Int32 × Int32 → Prop) (v_13 : Int32 × Int32) => xj (fun (v_15 : Unit) => ∀ x_17 : Int32, x_17 = 4 * nI p → xL (fun (K_19 : Int32 × Int32 → Prop) (v_18 : Int32 × Int32) => xj (fun (v_20 : Unit) => post v_18.2 0) (fun (J_21 : Unit → Prop) => ((((4 * nI p) + 4) ≤ v_18.1 → J_21 ()) ∧ (¬ ((4 * nI p) + 4) ≤ v_18.1 → ((¬ nI n = 3 → J_21 ()) ∧ (nI n = 3 → vp_in v_18.1 40 ∧ xj (fun (v_22 : Int32) => ∀ x_24 : Int32, x_24 = v_18.2 + v_22 → ∀ x_25 : Int32, x_25 = v_18.1 + 1 → K_19 (x_25, x_24)) (fun (J_23 : Int32 → Prop) => (((pa (Int32.toNatClampNeg v_18.1)) = 0 → J_23 0) ∧ (¬ (pa (Int32.toNatClampNeg v_18.1)) = 0 → J_23 1))))))))) (x_17, v_13.2)) (fun (J_16 : Unit → Prop) => ((((121 * nI p) + 121) ≤ v_13.1 → J_16 ()) ∧ (¬ ((121 * nI p) + 121) ≤ v_13.1 → ((¬ nI n = 2 → J_16 ()) ∧ (nI n = 2 → vp_in v_13.1 1210 ∧ xj (fun (v_26 : Int32) => ∀ x_28 : Int32, x_28 = v_13.2 + v_26 → ∀ x_29 : Int32, x_29 = v_13.1 + 1 → K_14 (x_29, x_28)) (fun (J_27 : Int32 → Prop) => (((cl (Int32.toNatClampNeg v_13.1)) = 0 → J_27 0) ∧ (¬ (cl (Int32.toNatClampNeg v_13.1)) = 0 → J_27 1))))))))) (x_12, c) := by
    intro c hc0 hc1 x12 e12
    rw [show (121 : Int32) = nI 121 from rfl, pk_mul] at e12
    subst e12
    refine xL_up (fun j s => s.1 = nI (121 * p + j) ∧ ((n ≠ 2 ∧ j = 0 ∧ s.2 = c) ∨ (n = 2 ∧ s.2 = nI (cn_ (fun k => CL (121 * p + k)) j)))) 121 ?_ (Nat.zero_le _) ⟨rfl, ?_⟩
    · rintro j ⟨i, m⟩ hj ⟨z1, z2⟩ K hK
      dsimp only at z1 z2 ⊢
      rw [z1, show (121 : Int32) = nI 121 from rfl, pk_mul, nI_add, nI_leI (by omega) (by omega)]
      refine xj_P (fun _ => n ≠ 2 ∨ j = 121) (fun _ h => ?_) (fun J hJ => ⟨fun q => hJ _ (Or.inr (by omega)), fun q => ⟨fun q2 => hJ _ (Or.inl (fun z => q2 (by rw [z]; rfl))), fun q2 => ⟨vp_in_nI (by omega) (by decide), ?_⟩⟩⟩)
      · rcases z2 with ⟨n1, n2, n3⟩ | ⟨n1, n2⟩
        · rw [n3]; exact third c (fun z => hc0 (by omega)) (fun z => hc1 (by omega))
        · have : j = 121 := h.resolve_left (fun z => z n1)
          subst this
          rw [n2]
          exact third _ (fun z => by omega) (fun _ => h1.2.2.1 (by rw [n1]; rfl))
      · have hn2 : n = 2 := by
          rw [show (2 : Int32) = nI 2 from rfl, nI_eq (by omega) (by omega)] at q2
          exact q2
        have z2 := (z2.resolve_left (fun z => z.1 hn2)).2
        rw [nI_clamp (by omega)]
        refine lh_inc (hC _ (by omega)) (fun x24 e24 x25 e25 => hK (by omega) _ ⟨by rw [e25, nI_1]; rfl, Or.inr ⟨hn2, ?_⟩⟩)
        show x24 = _
        rw [e24, z2, nI_add]
        rfl
    · by_cases e : n = 2
      · exact Or.inr ⟨e, hc0 (by omega)⟩
      · exact Or.inl ⟨e, rfl, rfl⟩
  refine xL_up (fun j s => s.1 = nI (100 * p + j) ∧ ((2 ≤ n ∧ j = 0 ∧ s.2 = 0) ∨ (n < 2 ∧ s.2 = nI (cn_ (fun k => if n = 0 then M (100 * p + k) else (Ru p && wF M CL (100 * p + k))) j)))) 100 ?_ (Nat.zero_le _) ⟨rfl, ?_⟩
  · rintro j ⟨i, m⟩ hj ⟨z1, z2⟩ K hK
    dsimp only at z1 z2 ⊢
    have e2 : (2 : Int32) ≤ nI n ↔ 2 ≤ n := by rw [show (2 : Int32) = nI 2 from rfl, nI_leI (by omega) (by omega)]
    have e00 : nI n = 0 ↔ n = 0 := by rw [show (0 : Int32) = nI 0 from rfl, nI_eq (by omega) (by omega)]
    rw [z1, show (100 : Int32) = nI 100 from rfl, pk_mul, nI_add, nI_leI (show 100 * p + 100 < 2 ^ 31 by omega) (by omega), e2, e00]
    refine xj_P (fun _ => 2 ≤ n ∨ j = 100) (fun _ h => ?_) (fun J hJ => ⟨fun q => hJ _ (Or.inr (by omega)), fun q => ⟨fun q2 => hJ _ (Or.inl q2), fun q2 => ?_⟩⟩)
    · rcases z2 with ⟨n1, n2, n3⟩ | ⟨n1, n2⟩
      · rw [n3]; exact second 0 (fun _ => rfl) (fun z => by omega)
      · have : j = 100 := h.resolve_left (fun z => by omega)
        subst this
        rw [n2]
        refine second _ (fun z => by omega) (fun _ => ?_)
        by_cases e : n = 0
        · subst e; exact h1.1 rfl
        · have : n = 1 := by omega
          subst this; exact h1.2.1 rfl
    · have z2 := (z2.resolve_left (fun z => by omega)).2
      have hj : j < 100 := by omega
      have step : ∀ v : Int32, v = nI (if (if n = 0 then M (100 * p + j) else (Ru p && wF M CL (100 * p + j))) = true then 1 else 0) → ∀ x_32 : Int32, x_32 = m + v → ∀ x_33 : Int32, x_33 = nI (100 * p + j) + 1 → K (x_33, x_32) := by
        intro v hv x32 e32 x33 e33
        refine hK hj _ ⟨by rw [e33, nI_1]; rfl, Or.inr ⟨by omega, ?_⟩⟩
        show x32 = _
        rw [e32, z2, hv, nI_add]
        rfl
      refine xj_P (fun v => v = nI (if (if n = 0 then M (100 * p + j) else (Ru p && wF M CL (100 * p + j))) = true then 1 else 0)) (fun v hv => step v hv) (fun J31 hJ31 => ⟨fun e => ⟨vp_in_nI (by omega) (by decide), ?_⟩, fun e => ⟨vp_in_nI (by omega) (by decide), ?_⟩⟩)
      · rw [if_neg e] at hJ31
        refine xj_P (fun _ => (Ru p && wF M CL (100 * p + j)) = false) (fun _ z => hJ31 _ (by rw [z]; rfl)) (fun J35 hJ35 => ?_)
        rw [nI_clamp (by omega), hRu p (by omega), bI_t, bI_f]
        refine ⟨fun z => hJ35 _ (by rw [z]; rfl), fun z => q_isWan hM hC (by omega) ?_⟩
        rw [bI_t, bI_f]
        exact ⟨fun y => hJ35 _ (by rw [y, Bool.and_false]), fun y => hJ31 _ (by rw [z, y]; rfl)⟩
      · rw [if_pos e] at hJ31
        rw [nI_clamp (by omega), hM _ (by omega), bI_t, bI_f]
        exact ⟨fun y => hJ31 _ (by rw [y]; rfl), fun y => hJ31 _ (by rw [y]; rfl)⟩
  · by_cases e : 2 ≤ n
    · exact Or.inl ⟨e, rfl, rfl⟩
    · exact Or.inr ⟨by omega, rfl⟩
end RB2
