section BL2
theorem ag_iff {fs sn : Nat → Nat} {n t : Nat} : an_ (fun q' => on (bl_T fs sn q') t && an_ (fun p => on (bl_T fs sn p) t) q') (2 * n + 2) = true ↔ bl_ag fs sn n t := by
  rw [an_iff]
  unfold bl_ag
  constructor
  · rintro ⟨q', h1, h2⟩
    rw [Bool.and_eq_true, an_iff] at h2
    obtain ⟨h3, q, h4, h5⟩ := h2
    exact ⟨q, q', h4, h1, (of_decide_eq_true h5).symm, (of_decide_eq_true h3).symm⟩
  · rintro ⟨q, q', h1, h2, h3, h4⟩
    refine ⟨q', h2, ?_⟩
    rw [Bool.and_eq_true, an_iff]
    exact ⟨decide_eq_true h4.symm, q, h1, decide_eq_true h3.symm⟩
abbrev blF (fs sn : Nat → Nat) (n : Nat) : Nat → Nat := fun i => blT fs sn n (2 * i)
abbrev blS (fs sn : Nat → Nat) (n : Nat) : Nat → Nat := fun i => blT fs sn n (2 * i + 1)
theorem bl_Tb (fs sn : Nat → Nat) (n q : Nat) : bl_T (blF fs sn n) (blS fs sn n) q = blT fs sn n q := by
  by_cases h : q % 2 = 0
  · obtain ⟨i, rfl⟩ : ∃ i, q = 2 * i := ⟨q / 2, by omega⟩
    rw [bl_T0]
  · obtain ⟨i, rfl⟩ : ∃ i, q = 2 * i + 1 := ⟨q / 2, by omega⟩
    rw [bl_T1]
theorem blT_eq (fs sn : Nat → Nat) (n q : Nat) : (blT fs sn n q = 19 ∧ 11 ≤ bl_T fs sn q ∧ bl_T fs sn q ≤ 18 ∧ ¬ bl_ag fs sn n (bl_T fs sn q)) ∨ (blT fs sn n q = bl_T fs sn q ∧ (11 ≤ bl_T fs sn q → bl_T fs sn q ≤ 18 → bl_ag fs sn n (bl_T fs sn q))) := by
  unfold blT
  by_cases h : 11 ≤ bl_T fs sn q ∧ bl_T fs sn q ≤ 18 ∧ ¬ bl_ag fs sn n (bl_T fs sn q)
  · rw [if_pos ⟨h.1, h.2.1, fun z => h.2.2 (ag_iff.mp z)⟩]; exact Or.inl ⟨rfl, h⟩
  · rw [if_neg (fun z => h ⟨z.1, z.2.1, fun y => z.2.2 (ag_iff.mpr y)⟩)]
    refine Or.inr ⟨rfl, fun h1 h2 => ?_⟩
    apply Classical.byContradiction
    intro h3
    exact h ⟨h1, h2, h3⟩
theorem blT_19 {fs sn : Nat → Nat} {n q : Nat} (h : bl_T fs sn q ≤ 19) : blT fs sn n q ≤ 19 := by
  rcases blT_eq fs sn n q with ⟨e, -⟩ | ⟨e, -⟩ <;> omega
theorem bl_of1 {fs sn : Nat → Nat} {n : Nat} (h : ∀ q, q < 2 * n + 2 → bl_T fs sn q ≤ 18) : bl_is fs sn (blF fs sn n) (blS fs sn n) n := by
  intro q hq
  rw [bl_Tb]
  rcases blT_eq fs sn n q with ⟨e, h1, h2, h3⟩ | ⟨e, h1⟩
  · exact Or.inr ⟨e, h1, h2, h3⟩
  · exact Or.inl ⟨e, fun h2 => h1 h2 (h q hq)⟩
/-- lone variables may have been blanked before -/
theorem bl_of2 {fo so f1 s1 : Nat → Nat} {n : Nat} (h : ∀ q, q < 2 * n + 2 → bl_T fo so q ≤ 18) (h1 : ∀ q, q < 2 * n + 2 → bl_T f1 s1 q = bl_T fo so q ∨ (bl_T f1 s1 q = 19 ∧ 11 ≤ bl_T fo so q ∧ ¬ bl_ag fo so n (bl_T fo so q))) : bl_is fo so (blF f1 s1 n) (blS f1 s1 n) n := by
  intro q hq
  rw [bl_Tb]
  have hq8 := h q hq
  rcases h1 q hq with e | ⟨e, e1, e2⟩
  · rcases blT_eq f1 s1 n q with ⟨g, g1, g2, g3⟩ | ⟨g, g1⟩
    · rw [e] at g1 g2 g3
      refine Or.inr ⟨g, g1, g2, ?_⟩
      rintro ⟨q1, q2, z1, z2, z3, z4⟩
      apply g3
      have k : ∀ q', q' < 2 * n + 2 → bl_T fo so q' = bl_T fo so q → bl_T f1 s1 q' = bl_T fo so q := by
        intro q' hq' he
        rcases h1 q' hq' with y | ⟨y, y1, y2⟩
        · rw [y, he]
        · exact absurd ⟨q1, q2, z1, z2, by rw [z3, he], by rw [z4, he]⟩ y2
      exact ⟨q1, q2, z1, z2, k q1 (by omega) z3, k q2 z2 z4⟩
    · rw [e] at g1 g
      refine Or.inl ⟨g, fun h11 => ?_⟩
      obtain ⟨q1, q2, z1, z2, z3, z4⟩ := g1 h11 hq8
      have k : ∀ q', q' < 2 * n + 2 → bl_T f1 s1 q' = bl_T fo so q → bl_T fo so q' = bl_T fo so q := by
        intro q' hq' he
        rcases h1 q' hq' with y | ⟨y, y1, y2⟩
        · rw [← y, he]
        · omega
      exact ⟨q1, q2, z1, z2, k q1 (by omega) z3, k q2 z2 z4⟩
  · refine Or.inr ⟨?_, e1, hq8, e2⟩
    rcases blT_eq f1 s1 n q with ⟨g, g1, g2, g3⟩ | ⟨g, g1⟩
    · exact g
    · rw [g, e]
theorem wfR.T {pl : Nat → Nat} {R : RU} (h : wfR pl R) : ∀ q, q < 2 * R.n + 2 → bl_T R.fs R.sn q ≤ 18 := by
  intro q hq
  unfold bl_T
  split
  · exact h.f18 _ (by omega)
  · exact h.c18 _ (by omega)
abbrev RB (R : RU) : RU := ⟨R.st, blF R.fs R.sn R.n, blS R.fs R.sn R.n, R.n⟩
/-- a head's term isn't blanked, nor is it in the body -/
theorem wfR.hd {pl : Nat → Nat} {R : RU} (h : wfR pl R) : (RB R).fs 0 = R.fs 0 ∧ (RB R).sn 0 = R.sn 0 := by
  have key : ∀ q, q < 2 → blT R.fs R.sn R.n q = bl_T R.fs R.sn q := by
    intro q hq
    rcases blT_eq R.fs R.sn R.n q with ⟨g, g1, g2, g3⟩ | ⟨g, g1⟩
    · exfalso
      have ht : bl_T R.fs R.sn q = R.fs 0 ∨ bl_T R.fs R.sn q = R.sn 0 := by
        unfold bl_T
        split
        · left; rw [show q / 2 = 0 by omega]
        · right; rw [show q / 2 = 0 by omega]
      obtain ⟨i, i1, i2, i3⟩ := h.safe _ g1 ht
      apply g3
      rcases i3 with i3 | i3
      · exact ⟨q, 2 * i, by omega, by omega, rfl, by rw [bl_T0, i3]⟩
      · exact ⟨q, 2 * i + 1, by omega, by omega, rfl, by rw [bl_T1, i3]⟩
    · exact g
  exact ⟨(key 0 (by omega)).trans (bl_T0 R.fs R.sn 0), (key 1 (by omega)).trans (bl_T1 R.fs R.sn 0)⟩
theorem wfR.hb {pl : Nat → Nat} {R : RU} (h : wfR pl R) {t : Nat} (h11 : 11 ≤ t) (ht : t = R.fs 0 ∨ t = R.sn 0) : ∃ i, 1 ≤ i ∧ i ≤ R.n ∧ ((RB R).fs i = t ∨ (RB R).sn i = t) := by
  obtain ⟨i, i1, i2, i3⟩ := h.safe t h11 ht
  have hag : bl_ag R.fs R.sn R.n t := by
    rcases ht with ht | ht
    · rcases i3 with i3 | i3
      · exact ⟨2 * 0, 2 * i, by omega, by omega, by rw [bl_T0, ht], by rw [bl_T0, i3]⟩
      · exact ⟨2 * 0, 2 * i + 1, by omega, by omega, by rw [bl_T0, ht], by rw [bl_T1, i3]⟩
    · rcases i3 with i3 | i3
      · exact ⟨2 * 0 + 1, 2 * i, by omega, by omega, by rw [bl_T1, ht], by rw [bl_T0, i3]⟩
      · exact ⟨2 * 0 + 1, 2 * i + 1, by omega, by omega, by rw [bl_T1, ht], by rw [bl_T1, i3]⟩
  refine ⟨i, i1, i2, ?_⟩
  rcases i3 with i3 | i3
  · left
    show blT _ _ _ _ = t
    rcases blT_eq R.fs R.sn R.n (2 * i) with ⟨g, g1, g2, g3⟩ | ⟨g, g1⟩
    · rw [bl_T0, i3] at g3; exact absurd hag g3
    · rw [g, bl_T0, i3]
  · right
    show blT _ _ _ _ = t
    rcases blT_eq R.fs R.sn R.n (2 * i + 1) with ⟨g, g1, g2, g3⟩ | ⟨g, g1⟩
    · rw [bl_T1, i3] at g3; exact absurd hag g3
    · rw [g, bl_T1, i3]
/-- a rule in the list -/
abbrev rB (rs rf rc : Nat → Int32) (na : Int32) (R : RU) : Prop := rq rs rf rc na R.st (RB R).fs (RB R).sn R.n
theorem rB.rl {rs rf rc : Nat → Int32} {na : Int32} {R : RU} {pl : Nat → Nat} (h : rB rs rf rc na R) (hw : wfR pl R) : rl_ rs rf rc na R.st (RB R).fs (RB R).sn R.n := by
  have hT := hw.T
  refine ⟨h.na, h.n3, h.s, fun i hi => ?_, h.f, fun i hi => ?_, h.c, fun i hi => ?_, ?_, ?_⟩
  · have := hw.s10 i hi; omega
  · exact blT_19 (Nat.le_trans (hT _ (by omega)) (by omega))
  · exact blT_19 (Nat.le_trans (hT _ (by omega)) (by omega))
  · rw [hw.hd.1]; exact hw.f18 0 (by omega)
  · rw [hw.hd.2]; exact hw.c18 0 (by omega)
theorem vi0_V : ms_V vi0 := by
  refine ⟨fun t ht => if_pos ht, fun t x h1 h2 h3 => ?_, rfl⟩
  unfold vi0 at h3
  rw [if_neg (by omega)] at h3
  cases h3
theorem vi0_ok {w : Nat → Nat} : ms_ok vi0 w ↔ bl_w w := by
  unfold ms_ok bl_w vi0
  refine ⟨fun h => ⟨fun t ht => h.1 t t (if_pos ht), h.2⟩, fun h => ⟨fun t x q => ?_, h.2⟩⟩
  by_cases ht : t ≤ 10
  · rw [if_pos ht] at q; cases q; exact h.1 t ht
  · rw [if_neg ht] at q; cases q
theorem vi0_n {t : Nat} (h : vi0 t = none) : 11 ≤ t := by
  unfold vi0 at h
  by_cases ht : t ≤ 10
  · rw [if_pos ht] at h; cases h
  · omega
theorem ms_A_in {st fs sn : Nat → Nat} {n a : Nat} {v : Nat → Option Nat} {S S' : SS} {r : Bool} (h : ms_A st fs sn n v a S r S') (hV : ms_V v) (hs : st 0 < 31) (hf : fs 0 ≤ 18) (hc : sn 0 ≤ 18) (hin : ms_in S) : ms_in S' := by
  have hw : ∀ w, ms_ok v w → ∀ t, t ≤ 18 → w t < 11 := by
    intro w hw t ht
    by_cases q : t ≤ 10
    · have := hw.1 t t (hV.1 t q); omega
    · have := hw.2 t (by omega) ht; omega
  have := h.2.1 (fun k x y => decide (k < 31 ∧ x < 11 ∧ y < 11)) (fun k x y q => decide_eq_true (hin k x y q)) (fun w hw' => decide_eq_true ⟨hs, hw w hw'.1 _ hf, hw w hw'.1 _ hc⟩)
  exact fun k x y q => of_decide_eq_true (this k x y q)
end BL2
section FM
abbrev lsR (ad : Nat → Nat) (RV : Nat → Prop) (grs grf grc : Nat → Nat → Int32) (gna : Nat → Int32) (nE : Nat) (ec : Nat → Option Nat) (RS : Nat → RU) (nr : Nat) : Prop := (nr ≤ nE) ∧ (nr ≤ 30) ∧ (nE < 2 ^ 31) ∧ (∀ j, j < nr → ∃ ix, ec j = some (ad ix) ∧ RV ix ∧ rB (grs ix) (grf ix) (grc ix) (gna ix) (RS j))
theorem lsR.le {ad : Nat → Nat} {RV : Nat → Prop} {grs grf grc : Nat → Nat → Int32} {gna : Nat → Int32} {nE : Nat} {ec : Nat → Option Nat} {RS : Nat → RU} {nr : Nat} (h_ : lsR ad RV grs grf grc gna nE ec RS nr) : nr ≤ nE := h_.1
theorem lsR.l30 {ad : Nat → Nat} {RV : Nat → Prop} {grs grf grc : Nat → Nat → Int32} {gna : Nat → Int32} {nE : Nat} {ec : Nat → Option Nat} {RS : Nat → RU} {nr : Nat} (h_ : lsR ad RV grs grf grc gna nE ec RS nr) : nr ≤ 30 := h_.2.1
theorem lsR.e31 {ad : Nat → Nat} {RV : Nat → Prop} {grs grf grc : Nat → Nat → Int32} {gna : Nat → Int32} {nE : Nat} {ec : Nat → Option Nat} {RS : Nat → RU} {nr : Nat} (h_ : lsR ad RV grs grf grc gna nE ec RS nr) : nE < 2 ^ 31 := h_.2.2.1
theorem lsR.g {ad : Nat → Nat} {RV : Nat → Prop} {grs grf grc : Nat → Nat → Int32} {gna : Nat → Int32} {nE : Nat} {ec : Nat → Option Nat} {RS : Nat → RU} {nr : Nat} (h_ : lsR ad RV grs grf grc gna nE ec RS nr) : ∀ j, j < nr → ∃ ix, ec j = some (ad ix) ∧ RV ix ∧ rB (grs ix) (grf ix) (grc ix) (gna ix) (RS j) := h_.2.2.2
variable {ad : Nat → Nat} {RV : Nat → Prop} {grs grf grc : Nat → Nat → Int32} {gna : Nat → Int32} {nE : Nat} {ec : Nat → Option Nat} {RS : Nat → RU} {nr : Nat} {pl : Nat → Nat}
theorem q_get {post : Nat → Prop} {j : Nat} (h : lsR ad RV grs grf grc gna nE ec RS nr) (hj : j < nr) (hp : ∀ ix, RV ix → rB (grs ix) (grf ix) (grc ix) (gna ix) (RS j) → post ix) : wp_Al_get post ad nE ec (nI nr) (nI j) := by
  obtain ⟨ix, h1, h2, h3⟩ := h.g j hj
  have := h.le
  have := h.e31
  unfold wp_Al_get wp_Ob_checkIndex wp_Pc_checkIndex xj wp_Al_elementData
  rw [nI_ltI (by omega) (by omega)]
  refine ⟨fun q => absurd q (nI_pos (by omega)), fun _ => ⟨fun _ => ⟨vp_in_nI (by omega) h.e31, ix, ?_, hp ix h2 h3⟩, fun q => absurd hj q⟩⟩
  rw [nI_clamp (by omega)]
  exact h1
/-- what is due by a rule -/
def PR (R : RU) (C : SS) (k x y : Nat) : Prop := ∃ w, bl_w w ∧ ms_body R.st (RB R).fs (RB R).sn R.n C w 1 ∧ k = R.st 0 ∧ x = w (R.fs 0) ∧ y = w (R.sn 0)
def PA (RS : Nat → RU) (nr : Nat) (C : SS) (k x y : Nat) : Prop := ∃ r, r < nr ∧ PR (RS r) C k x y
theorem PR.mono {R : RU} {C C' : SS} (h : ms_sub C C') {k x y : Nat} (q : PR R C k x y) : PR R C' k x y := by
  obtain ⟨w, h1, h2, h3⟩ := q
  exact ⟨w, h1, h2.mono h, h3⟩
theorem q_followR {post : Int32 → (Nat → Int32) → (Nat → Int32) → Prop} {rs rf rc : Nat → Int32} {na : Int32} {S : SS} {R : RU} (h : rB rs rf rc na R) (hw : wfR pl R) (hin : ms_in S) (hp : ∀ r S', ms_H (PR R) S r S' → ms_in S' → post (bI r) (rF S') (vF vi0)) : wp_Mt_follow post rs rf rc na (rF S) (vF vi0) := by
  have hrl := rB.rl h hw
  refine q_follow hrl vi0_V ?_ (fun r S' hm => hp r S' ?_ (ms_A_in hm vi0_V (hrl.s31 0 (by omega)) hrl.f0 hrl.c0 hin))
  · intro t ht hv
    rw [hw.hd.1, hw.hd.2] at ht
    exact hw.hb (vi0_n hv) ht
  · refine (ms_G.H hm).conv (fun C _ k x y q => ?_) (fun k x y q => ?_)
    · obtain ⟨w, ⟨h1, h2⟩, h3, h4, h5⟩ := q
      rw [hw.hd.1] at h4
      rw [hw.hd.2] at h5
      exact ⟨w, vi0_ok.mp h1, h2, h3, h4, h5⟩
    · obtain ⟨w, h1, h2, h3, h4, h5⟩ := q
      refine ⟨w, ⟨vi0_ok.mpr h1, h2⟩, h3, ?_, ?_⟩
      · rw [hw.hd.1]; exact h4
      · rw [hw.hd.2]; exact h5
theorem q_findModel {post : (Nat → Int32) → (Nat → Int32) → Prop} {S0 : SS} (hl : lsR ad RV grs grf grc gna nE ec RS nr) (hwf : ∀ r, r < nr → wfR pl (RS r)) (hin : ms_in S0)
    (hp : ∀ S, ms_in S → ms_H (PA RS nr) S false S → (∀ k x y, S k x y = true ↔ ms_lfp (PA RS nr) S0 k x y) → post (rF S) (vF vi0)) : wp_Qd_findModel post ad RV grs grf grc gna nE ec (nI nr) (rF S0) (vF vi0) := by
  have h30 := hl.l30
  unfold wp_Qd_findModel
  refine xL_by (fun j s => ∃ (S : SS) (b : Bool) (p : Nat), j = 2 * ms_cnt S + (if b = true then 0 else 1) ∧ s.1 = nI p ∧ s.2.1 = bI b ∧ s.2.2.1 = rF S ∧ s.2.2.2 = vF vi0 ∧ ms_in S ∧ ms_mid (PA RS nr) S0 S ∧ p ≤ ms_cnt S + 1 ∧ (b = true → p ≤ ms_cnt S) ∧ (b = false → ms_H (PA RS nr) S false S)) 7503 ?_ ?_ (j := 2 * ms_cnt S0) ⟨S0, true, 0, rfl, rfl, rfl, rfl, rfl, hin, ms_mid.rf, by omega, fun _ => by omega, fun q => by cases q⟩
  · rintro j s ⟨S, b, p, rfl, -⟩
    have := ms_cnt_le S
    split <;> omega
  · rintro j ⟨p1, b1, f1, v1⟩ ⟨S, b, p, rfl, q1, q2, q3, q4, q5, q6, q7, q8, q9⟩ K hK
    dsimp only at q1 q2 q3 q4 ⊢
    rw [q1, q2, q3, q4]
    have hc := ms_cnt_le S
    unfold xj
    refine ⟨fun hb => ?_, fun hb => ?_⟩
    · have hb := bI_f.mp hb
      exact hp S q5 (q9 hb) (q6.fin (q9 hb))
    · have hb := bI_t.mp hb
      subst hb
      have q8 := q8 rfl
      rw [show (10000 : Int32) = nI 10000 from rfl, nI_leI (by omega) (by omega)]
      refine ⟨fun q => by omega, fun _ => ?_⟩
      refine xL_up (fun r s => s.1 = nI r ∧ ∃ (S' : SS) (b : Bool), s.2.1 = bI b ∧ s.2.2.1 = rF S' ∧ s.2.2.2 = vF vi0 ∧ ms_in S' ∧ ms_H (fun C k x y => ∃ r', r' < r ∧ PR (RS r') C k x y) S b S') nr ?_ (Nat.zero_le _) ⟨rfl, S, false, rfl, rfl, rfl, q5, ms_H.none (fun k x y h => by obtain ⟨r', h1, -⟩ := h; omega)⟩
      rintro r ⟨r1, b2, f2, v2⟩ hr ⟨z1, S', b', z2, z3, z4, z5, z6⟩ K6 hK6
      dsimp only at z1 z2 z3 z4 ⊢
      rw [z1, z2, z3, z4]
      show (nI nr ≤ nI r → _) ∧ (¬ nI nr ≤ nI r → _)
      rw [nI_leX nr hr (by omega)]
      refine ⟨fun e x9 e9 => ?_, fun e => ?_⟩
      · subst e
        have hH : ms_H (PA RS r) S b' S' := z6
        have hmid : ms_mid (PA RS r) S0 S' := q6.step hH
        cases hb' : b' with
        | true =>
          rw [hb'] at hH
          have hlt := ms_cnt_lt hH.1 z5 (hH.2.2.2.2 rfl)
          refine hK (2 * ms_cnt S' + (if true = true then 0 else 1)) _ (by simp; omega) ⟨S', true, p + 1, rfl, by rw [e9, nI_1], rfl, rfl, rfl, z5, hmid, by omega, fun _ => by omega, fun q => by cases q⟩
        | false =>
          rw [hb'] at hH
          have e : S' = S := hH.2.2.2.1 rfl
          subst e
          refine hK (2 * ms_cnt S' + (if false = true then 0 else 1)) _ (by simp) ⟨S', false, p + 1, rfl, by rw [e9, nI_1], rfl, rfl, rfl, z5, hmid, by omega, fun q => (by cases q), fun _ => hH⟩
      · refine q_get hl (by omega) (fun ix hix hB => ⟨hix, q_followR hB (hwf r (by omega)) z5 (fun rr S'' hH hin' => ?_)⟩)
        intro x17 e17 x18 e18
        refine hK6 (by omega) _ ⟨by rw [e18, nI_1], S'', b' || rr, by rw [e17, bI_or], rfl, rfl, hin', ?_⟩
        refine (ms_H.seq (fun C C' h k x y q => q.mono h) z6 hH).conv (fun C _ k x y q => ?_) (fun k x y q => ?_)
        · rcases q with ⟨r', h1, h2⟩ | q
          · exact ⟨r', by omega, h2⟩
          · exact ⟨r, by omega, q⟩
        · obtain ⟨r', h1, h2⟩ := q
          by_cases e : r' = r
          · subst e; exact Or.inr h2
          · exact Or.inl ⟨r', by omega, h2⟩
end FM
section ME
/-! THE CLASS'S SETS AND THE REFERENCE'S NUMBERS -/
def vd (pl : Nat → Nat) (k x y : Nat) : Prop := 1 ≤ x ∧ x ≤ 10 ∧ (pl k = 1 → y = 0) ∧ (pl k ≠ 1 → 1 ≤ y ∧ y ≤ 10)
def ix3 (k x y : Nat) : Nat := 100 * k + 10 * (x - 1) + (y - 1)
def uw (w : Nat → Nat) : Nat → Nat := fun v => if v < 8 then w (v + 11) - 1 else 0
def wu (u : Nat → Nat) : Nat → Nat := fun t => if t ≤ 10 then t else if t ≤ 18 then u (t - 11) + 1 else 0
theorem uw_10 {w : Nat → Nat} (h : bl_w w) : w10 (uw w) := fun v => by
  unfold uw
  split
  · have := h.2 (v + 11) (by omega) (by omega); omega
  · omega
theorem uw_V {w : Nat → Nat} (h : bl_w w) {t : Nat} (ht : t ≤ 18) : raV (uw w) t = w t - 1 := by
  unfold raV uw
  by_cases q : t ≤ 10
  · rw [if_pos q, h.1 t q]
  · rw [if_neg q, if_pos (by omega), show t - 11 + 11 = t by omega]
theorem wu_w {u : Nat → Nat} (h : w10 u) : bl_w (wu u) := by
  refine ⟨fun t ht => if_pos ht, fun t h1 h2 => ?_⟩
  unfold wu
  rw [if_neg (by omega), if_pos h2]
  have := h (t - 11)
  omega
theorem wu_V {u : Nat → Nat} {t : Nat} (ht : t ≤ 18) : raV u t = wu u t - 1 := by
  unfold raV wu
  by_cases q : t ≤ 10
  · rw [if_pos q, if_pos q]
  · rw [if_neg q, if_neg q, if_pos ht]; rfl
theorem bl_w.le {w : Nat → Nat} (h : bl_w w) {t : Nat} (ht : t ≤ 18) : w t ≤ 10 := by
  by_cases q : t ≤ 10
  · rw [h.1 t q]; exact q
  · exact (h.2 t (by omega) ht).2
theorem bl_w.pos {w : Nat → Nat} (h : bl_w w) {t : Nat} (h1 : 1 ≤ t) (ht : t ≤ 18) : 1 ≤ w t := by
  by_cases q : t ≤ 10
  · rw [h.1 t q]; exact h1
  · exact (h.2 t (by omega) ht).1
theorem wfR.vd {pl : Nat → Nat} {R : RU} (hR : wfR pl R) {w : Nat → Nat} (h : bl_w w) {k : Nat} (hk : k ≤ R.n) : vd pl (R.st k) (w (R.fs k)) (w (R.sn k)) := by
  have f1 := hR.f1 k hk
  have f18 := hR.f18 k hk
  have c18 := hR.c18 k hk
  have c0 := hR.c0 k hk
  refine ⟨h.pos f1 f18, h.le f18, fun e => ?_, fun e => ⟨h.pos ?_ c18, h.le c18⟩⟩
  · rw [c0.mp e]; exact h.1 0 (by omega)
  · have : R.sn k ≠ 0 := fun z => e (c0.mpr z)
    omega
theorem wfR.ix {pl : Nat → Nat} {R : RU} (hR : wfR pl R) {w : Nat → Nat} (h : bl_w w) {k : Nat} (hk : k ≤ R.n) : ix3 (R.st k) (w (R.fs k)) (w (R.sn k)) = ixA R (uw w) k := by
  unfold ix3 ixA
  rw [uw_V h (hR.f18 k hk), uw_V h (hR.c18 k hk)]
theorem wfR.ix' {pl : Nat → Nat} {R : RU} (hR : wfR pl R) {u : Nat → Nat} {k : Nat} (hk : k ≤ R.n) : ix3 (R.st k) (wu u (R.fs k)) (wu u (R.sn k)) = ixA R u k := by
  unfold ix3 ixA
  rw [wu_V (hR.f18 k hk), wu_V (hR.c18 k hk)]
/-- the sets from o on hold what M has -/
def relM (pl : Nat → Nat) (M : Nat → Bool) (S : SS) (o : Nat) : Prop := ∀ k, k < 10 → ∀ x y, S (o + k) x y = true ↔ vd pl k x y ∧ M (ix3 k x y) = true
theorem lfM_cl {RS : Nat → RU} {nr : Nat} {T M : Nat → Bool} (h : ∀ i, M i = true ↔ lfM RS nr T i) : ∀ r, r < nr → clR M (RS r) := by
  intro r hr w hw hb
  rw [h]
  intro C h1 h2
  exact h2 r hr w hw (fun i i1 i2 => (h _).mp (hb i i1 i2) C h1 h2)
theorem lfM_T {RS : Nat → RU} {nr : Nat} {T M : Nat → Bool} (h : ∀ i, M i = true ↔ lfM RS nr T i) {i : Nat} (hi : T i = true) : M i = true := (h i).mpr (fun C h1 _ => h1 i hi)
/-- a body's match in the sets, and in the numbers -/
theorem body_to {pl : Nat → Nat} {R : RU} {M : Nat → Bool} {S : SS} {w : Nat → Nat} {m : Nat} (hR : wfR pl R) (hrel : relM pl M S 0) (hw : bl_w w) (hm : m ≤ R.n) (h : ∀ i, 1 ≤ i → i ≤ m → S (R.st i) (w (R.fs i)) (w (R.sn i)) = true) : bdM M R (uw w) m := by
  intro i h1 h2
  have := h i h1 h2
  have s10 := hR.s10 i (by omega)
  have hr := hrel (R.st i) s10 (w (R.fs i)) (w (R.sn i))
  rw [Nat.zero_add] at hr
  have := (hr.mp this).2
  rw [hR.ix hw (by omega)] at this
  exact this
theorem body_of {pl : Nat → Nat} {R : RU} {M : Nat → Bool} {S : SS} {u : Nat → Nat} {m : Nat} (hR : wfR pl R) (hrel : relM pl M S 0) (hu : w10 u) (hm : m ≤ R.n) (h : bdM M R u m) : ∀ i, 1 ≤ i → i ≤ m → S (R.st i) (wu u (R.fs i)) (wu u (R.sn i)) = true := by
  intro i h1 h2
  have s10 := hR.s10 i (by omega)
  have hr := hrel (R.st i) s10 (wu u (R.fs i)) (wu u (R.sn i))
  rw [Nat.zero_add] at hr
  refine hr.mpr ⟨hR.vd (wu_w hu) (by omega), ?_⟩
  rw [hR.ix' (by omega)]
  exact h i h1 h2
theorem ix_back {pl : Nat → Nat} {k x y : Nat} (hv : vd pl k x y) (hk : k < 10) : ix3 k x y / 100 = k ∧ ix3 k x y / 10 % 10 + 1 = x ∧ (if pl k = 1 then 0 else ix3 k x y % 10 + 1) = y ∧ (pl k = 1 → ix3 k x y % 10 = 0) ∧ ix3 k x y < 1000 := by
  obtain ⟨h1, h2, h3, h4⟩ := hv
  unfold ix3
  by_cases e : pl k = 1
  · have := h3 e
    rw [if_pos e]
    omega
  · have := h4 e
    rw [if_neg e]
    omega
theorem model_eq {pl : Nat → Nat} {RS : Nat → RU} {nr : Nat} {T M : Nat → Bool} {S0 S : SS} (hwf : ∀ r, r < nr → wfR pl (RS r)) (hTv : mV pl T) (h0 : relM pl T S0 0) (hM : ∀ i, M i = true ↔ lfM RS nr T i) (hin : ms_in S) (hH : ms_H (PA RS nr) S false S) (hS : ∀ k x y, S k x y = true ↔ ms_lfp (PA RS nr) S0 k x y) : relM pl M S 0 ∧ ∀ k x y, 10 ≤ k → S k x y = S0 k x y := by
  have hsub : ms_sub S0 S := fun k x y q => (hS k x y).mpr (fun C h1 _ => h1 k x y q)
  -- what S has, M has
  have fwd : ∀ k x y, S k x y = true → (k < 10 → vd pl k x y ∧ M (ix3 k x y) = true) ∧ (10 ≤ k → S0 k x y = true) := by
    intro k x y hk
    have key := (hS k x y).mp hk
    have := key (fun k x y => if k < 10 then @decide (vd pl k x y ∧ M (ix3 k x y) = true) (Classical.propDecidable _) else S0 k x y) ?_ ?_
    · constructor
      · intro h10
        try dsimp only at this
        rw [if_pos h10] at this
        exact @of_decide_eq_true _ (Classical.propDecidable _) this
      · intro h10
        try dsimp only at this
        rw [if_neg (by omega)] at this
        exact this
    · intro k x y q
      try dsimp only
      by_cases h10 : k < 10
      · rw [if_pos h10]
        have h := h0 k h10 x y
        rw [Nat.zero_add] at h
        obtain ⟨a, b⟩ := h.mp q
        exact @decide_eq_true _ (Classical.propDecidable _) ⟨a, lfM_T hM b⟩
      · rw [if_neg h10]; exact q
    · rintro k x y ⟨r, hr, w, w1, w2, rfl, rfl, rfl⟩
      have hR := hwf r hr
      have s10 := hR.s10 0 (by omega)
      try dsimp only
      rw [if_pos s10]
      apply @decide_eq_true _ (Classical.propDecidable _)
      obtain ⟨w', v1, v2, v3, v4⟩ := bl_from (bl_of1 hR.T) w1 w2 hR.T hR.hd
      rw [← v3, ← v4]
      refine ⟨hR.vd v1 (by omega), ?_⟩
      rw [hR.ix v1 (by omega)]
      refine lfM_cl hM r hr (uw w') (uw_10 v1) (fun i i1 i2 => ?_)
      have := v2 i i1 i2
      try dsimp only at this
      rw [if_pos (hR.s10 i i2)] at this
      have := (@of_decide_eq_true _ (Classical.propDecidable _) this).2
      rw [hR.ix v1 i2] at this
      exact this
  refine ⟨fun k hk x y => ⟨fun q => ?_, fun q => ?_⟩, fun k x y hk => ?_⟩
  · rw [Nat.zero_add] at q
    exact (fwd k x y q).1 hk
  · rw [Nat.zero_add]
    obtain ⟨hv, hm⟩ := q
    have key := (hM _).mp hm (fun f => decide (f < 1000 ∧ (pl (f / 100) = 1 → f % 10 = 0)) && S (f / 100) (f / 10 % 10 + 1) (if pl (f / 100) = 1 then 0 else f % 10 + 1)) ?_ ?_
    · obtain ⟨e1, e2, e3, e4, e5⟩ := ix_back hv hk
      try dsimp only at key
      rw [Bool.and_eq_true, e1, e2, e3] at key
      exact key.2
    · intro f hf
      try dsimp only
      obtain ⟨f1, f2⟩ := hTv f hf
      rw [Bool.and_eq_true]
      refine ⟨decide_eq_true ⟨f1, f2⟩, hsub _ _ _ ?_⟩
      have h := h0 (f / 100) (by omega) (f / 10 % 10 + 1) (if pl (f / 100) = 1 then 0 else f % 10 + 1)
      rw [Nat.zero_add] at h
      refine h.mpr ⟨⟨by omega, by omega, fun e => if_pos e, fun e => by rw [if_neg e]; omega⟩, ?_⟩
      have e : ix3 (f / 100) (f / 10 % 10 + 1) (if pl (f / 100) = 1 then 0 else f % 10 + 1) = f := by
        unfold ix3
        by_cases e : pl (f / 100) = 1
        · have := f2 e
          rw [if_pos e]; omega
        · rw [if_neg e]; omega
      rw [e]
      exact hf
    · intro r hr u hu hb
      try dsimp only
      have hR := hwf r hr
      have hv0 := hR.vd (wu_w hu) (k := 0) (by omega)
      have s10 := hR.s10 0 (by omega)
      obtain ⟨e1, e2, e3, e4, e5⟩ := ix_back hv0 s10
      rw [hR.ix' (by omega)] at e1 e2 e3 e4 e5
      rw [Bool.and_eq_true, e1, e2, e3]
      refine ⟨decide_eq_true ⟨e5, e4⟩, ?_⟩
      refine hH.2.2.1 _ _ _ ⟨r, hr, wu u, wu_w hu, bl_to (bl_of1 hR.T) (wu_w hu) hin (fun i i1 i2 => ?_) hR.T, rfl, rfl, rfl⟩
      have hvi := hR.vd (wu_w hu) i2
      obtain ⟨d1, d2, d3, d4, d5⟩ := ix_back hvi (hR.s10 i i2)
      rw [hR.ix' i2] at d1 d2 d3 d4 d5
      have := hb i i1 i2
      try dsimp only at this
      rw [Bool.and_eq_true, d1, d2, d3] at this
      exact this.2
  · cases hq : S k x y with
    | true => exact ((fwd k x y hq).2 hk).symm
    | false =>
      cases hq0 : S0 k x y with
      | false => rfl
      | true => rw [hsub k x y hq0] at hq; cases hq
end ME
