section CE
/-! THE CALLS AND PATTERNS OF BOTH -/
def dX (x : Nat) : Nat := if x = 0 then 10 else x - 1
def eX (x : Nat) : Nat := if x = 10 then 0 else x + 1
theorem dX_lt {x : Nat} (h : x < 11) : dX x < 11 := by unfold dX; split <;> omega
theorem eX_lt {x : Nat} (h : x < 11) : eX x < 11 := by unfold eX; split <;> omega
theorem de {x : Nat} (h : x < 11) : eX (dX x) = x := by unfold eX dX; split <;> split <;> omega
theorem ed {x : Nat} (h : x < 11) : dX (eX x) = x := by unfold eX dX; split <;> split <;> omega
def ci (p x y : Nat) : Nat := 121 * p + 11 * dX x + dX y
theorem ci_lt {p x y : Nat} (hp : p < 10) (hx : x < 11) (hy : y < 11) : ci p x y < 1210 := by
  have := dX_lt hx
  have := dX_lt hy
  unfold ci; omega
theorem ci_1 {p x y : Nat} (hx : x < 11) (hy : y < 11) : ci p x y / 121 = p ∧ ci p x y / 11 % 11 = dX x ∧ ci p x y % 11 = dX y := by
  have := dX_lt hx
  have := dX_lt hy
  unfold ci; omega
theorem ci_2 {c : Nat} : ci (c / 121) (eX (c / 11 % 11)) (eX (c % 11)) = c := by
  unfold ci
  rw [ed (Nat.mod_lt _ (by omega)), ed (Nat.mod_lt _ (by omega))]
  omega
/-- the pattern of a call -/
def pX (x y : Nat) : Nat := (if x = 0 then 0 else 1) + (if y = 0 then 0 else 2)
theorem pX_lt (x y : Nat) : pX x y < 4 := by unfold pX; split <;> split <;> omega
variable {pl : Nat → Nat} {R : RU} {M : Nat → Bool}
theorem pX_1 {x y : Nat} : pX x y % 2 = 1 ↔ x ≠ 0 := by unfold pX; split <;> split <;> omega
theorem pX_2 {x y : Nat} : pX x y / 2 = 1 ↔ y ≠ 0 := by unfold pX; split <;> split <;> omega
theorem dX_10 {x : Nat} (h : x < 11) : dX x ≠ 10 ↔ x ≠ 0 := by unfold dX; split <;> omega
theorem caK_kn {j x y t : Nat} (hx : x < 11) (hy : y < 11) (h11 : 11 ≤ t) : caK R j (dX x) (dX y) t ↔ knR R j (pX x y) t = true := by
  rw [knR_iff]
  unfold caK hX hY
  rw [dX_10 hx, dX_10 hy]
  constructor
  · rintro (⟨h1, h2⟩ | ⟨h1, h2⟩ | h)
    · left; left; rw [if_pos (pX_1.mpr h1)]; exact h2
    · left; right; rw [if_pos (pX_2.mpr h1)]; exact h2
    · exact Or.inr h
  · rintro ((h | h) | h)
    · by_cases e : pX x y % 2 = 1
      · rw [if_pos e] at h; exact Or.inl ⟨pX_1.mp e, h⟩
      · rw [if_neg e] at h; omega
    · by_cases e : pX x y / 2 = 1
      · rw [if_pos e] at h; exact Or.inr (Or.inl ⟨pX_2.mp e, h⟩)
      · rw [if_neg e] at h; omega
    · exact Or.inr (Or.inr h)
/-- a called place, of both -/
theorem caB_bf {j x y t : Nat} {w u : Nat → Nat} (hx : x < 11) (hy : y < 11) (ht : t ≤ 18) (hw : bl_w w) (hu : ∀ t, 11 ≤ t → t ≤ 18 → u (t - 11) = w t - 1) : caB R j (dX x) (dX y) u t = dX (w (bf (knR R j (pX x y)) t)) := by
  unfold caB
  rcases bf_cases (knR R j (pX x y)) (t := t) (by omega) with ⟨e, h⟩ | ⟨e, h1, h2⟩
  · rw [e]
    by_cases h0 : t = 0
    · rw [if_pos h0, h0, hw.1 0 (by omega)]; rfl
    · rw [if_neg h0]
      by_cases h10 : t ≤ 10
      · rw [if_pos h10, hw.1 t h10]
        unfold dX
        rw [if_neg h0]
      · rw [if_neg h10]
        have hk : knR R j (pX x y) t = true := (h.resolve_left h10).2
        rw [if_pos ((caK_kn hx hy (by omega)).mpr hk), hu t (by omega) ht]
        have := hw.2 t (by omega) ht
        unfold dX
        rw [if_neg (by omega)]
  · rw [e, if_neg (by omega), if_neg (by omega), if_neg, hw.1 0 (by omega)]
    · rfl
    · intro z
      have := (caK_kn hx hy (by omega)).mp z
      rw [h2 ht] at this
      cases this
theorem uw_u {w : Nat → Nat} : ∀ t, 11 ≤ t → t ≤ 18 → uw w (t - 11) = w t - 1 := by
  intro t h1 h2
  unfold uw
  rw [if_pos (by omega), show t - 11 + 11 = t by omega]
theorem wu_u {u : Nat → Nat} : ∀ t, 11 ≤ t → t ≤ 18 → u (t - 11) = wu u t - 1 := by
  intro t h1 h2
  unfold wu
  rw [if_neg (by omega), if_pos h2]
  rfl
theorem ro_body {C : SS} {j pt : Nat} {w : Nat → Nat} : bl_body (roS R j) (roF R j pt) (roC R j pt) (j + 1) C w ↔ C (10 + R.st 0) (w (hX R pt)) (w (hY R pt)) = true ∧ ∀ i, 1 ≤ i → i ≤ j → C (R.st i) (w (R.fs i)) (w (R.sn i)) = true := by
  constructor
  · intro h
    refine ⟨h 1 (by omega) (by omega), fun i i1 i2 => ?_⟩
    have := h (i + 1) (by omega) (by omega)
    unfold roS roF roC at this
    rw [if_neg (by omega), if_neg (by omega), if_neg (by omega), if_neg (by omega), if_neg (by omega), if_neg (by omega), show i + 1 - 1 = i by omega] at this
    exact this
  · rintro ⟨h1, h2⟩ i i1 i2
    by_cases e : i = 1
    · subst e; exact h1
    · have := h2 (i - 1) (by omega) (by omega)
      unfold roS roF roC
      have e0 : ¬ i = 0 := by omega
      rw [if_neg e0, if_neg e0, if_neg e0, if_neg e, if_neg e, if_neg e]
      exact this
/-- where a call of one place has a free second one, a step of the sets is a step of the numbers -/
theorem call_to (hR : wfR pl R) {S : SS} {j pt : Nat} {w : Nat → Nat} (hj : j < R.n) (hrel : relM pl M S 0) (hw : bl_w w) (hv : pl (R.st 0) = 1 → pt / 2 ≠ 1) (hpt : pt < 4) (hb : ∀ i, 1 ≤ i → i ≤ j → S (R.st i) (w (R.fs i)) (w (R.sn i)) = true) :
    caF M R j (dX (w (hX R pt))) (dX (w (hY R pt))) (uw w) ∧ caT R j (dX (w (hX R pt))) (dX (w (hY R pt))) (uw w) = ci (R.st (j + 1)) (w (bX R j pt)) (w (bY R j pt)) := by
  have hx18 := hX_18 hR pt
  have hy18 := hY_18 hR pt
  have hx : w (hX R pt) < 11 := by have := hw.le hx18; omega
  have hy : w (hY R pt) < 11 := by have := hw.le hy18; omega
  have f1 := hR.f1 0 (by omega)
  have f18 := hR.f18 0 (by omega)
  have c18 := hR.c18 0 (by omega)
  have e1 : w (hX R pt) ≠ 0 ↔ pt % 2 = 1 := by
    unfold hX
    split
    · have := hw.pos f1 f18; omega
    · rw [hw.1 0 (by omega)]; omega
  have e2 : w (hY R pt) ≠ 0 ↔ pt / 2 = 1 := by
    unfold hY
    split
    · rename_i h2
      have : R.sn 0 ≠ 0 := fun z => hv ((hR.c0 0 (by omega)).mpr z) h2
      have := hw.pos (t := R.sn 0) (by omega) c18
      omega
    · rw [hw.1 0 (by omega)]; omega
  have ept : pX (w (hX R pt)) (w (hY R pt)) = pt := by
    have a := pX_1 (x := w (hX R pt)) (y := w (hY R pt))
    have b := pX_2 (x := w (hX R pt)) (y := w (hY R pt))
    have c := pX_lt (w (hX R pt)) (w (hY R pt))
    rw [e1] at a
    rw [e2] at b
    omega
  refine ⟨⟨uw_10 hw, ?_, ?_, body_to hR hrel hw (by omega) hb⟩, ?_⟩
  · by_cases h : pt % 2 = 1
    · right; right
      rw [uw_V hw f18]
      have : hX R pt = R.fs 0 := if_pos h
      rw [this] at hx e1 ⊢
      unfold dX
      rw [if_neg (e1.mpr h)]
    · left
      have : ¬ (dX (w (hX R pt)) ≠ 10) := fun z => h (e1.mp ((dX_10 hx).mp z))
      omega
  · by_cases h : pt / 2 = 1
    · right; right
      rw [uw_V hw c18]
      have : hY R pt = R.sn 0 := if_pos h
      rw [this] at hy e2 ⊢
      unfold dX
      rw [if_neg (e2.mpr h)]
    · left
      have : ¬ (dX (w (hY R pt)) ≠ 10) := fun z => h (e2.mp ((dX_10 hy).mp z))
      omega
  · unfold caT ci
    rw [caB_bf hx hy (hR.f18 _ (by omega)) hw uw_u, caB_bf hx hy (hR.c18 _ (by omega)) hw uw_u, ept]
    rfl
theorem call_of (hR : wfR pl R) {S : SS} {j x y : Nat} {u : Nat → Nat} (hj : j < R.n) (hrel : relM pl M S 0) (hx : x < 11) (hy : y < 11) (hv : pl (R.st 0) = 1 → y = 0) (h : caF M R j (dX x) (dX y) u) :
    wu u (hX R (pX x y)) = x ∧ wu u (hY R (pX x y)) = y ∧ (∀ i, 1 ≤ i → i ≤ j → S (R.st i) (wu u (R.fs i)) (wu u (R.sn i)) = true) ∧ caT R j (dX x) (dX y) u = ci (R.st (j + 1)) (wu u (bX R j (pX x y))) (wu u (bY R j (pX x y))) := by
  obtain ⟨h1, h2, h3, h4⟩ := h
  have hw := wu_w h1
  have f1 := hR.f1 0 (by omega)
  have f18 := hR.f18 0 (by omega)
  have c18 := hR.c18 0 (by omega)
  refine ⟨?_, ?_, body_of hR hrel h1 (by omega) h4, ?_⟩
  · unfold hX
    by_cases e : x = 0
    · rw [if_neg (fun z => pX_1.mp z e), e]; exact hw.1 0 (by omega)
    · rw [if_pos (pX_1.mpr e)]
      have hd := (dX_10 hx).mpr e
      have h2 := h2.resolve_left hd
      have h2 : raV u (R.fs 0) = dX x := h2.resolve_left (by omega)
      rw [wu_V f18] at h2
      unfold dX at h2
      rw [if_neg e] at h2
      have := hw.pos f1 f18
      omega
  · unfold hY
    by_cases e : y = 0
    · rw [if_neg (fun z => pX_2.mp z e), e]; exact hw.1 0 (by omega)
    · rw [if_pos (pX_2.mpr e)]
      have hd := (dX_10 hy).mpr e
      have hs0 : R.sn 0 ≠ 0 := fun z => e (hv ((hR.c0 0 (by omega)).mpr z))
      have h3 := h3.resolve_left hd
      have h3 : raV u (R.sn 0) = dX y := h3.resolve_left hs0
      rw [wu_V c18] at h3
      unfold dX at h3
      rw [if_neg e] at h3
      have := hw.pos (t := R.sn 0) (by omega) c18
      omega
  · unfold caT ci
    rw [caB_bf hx hy (hR.f18 _ (by omega)) hw wu_u, caB_bf hx hy (hR.c18 _ (by omega)) hw wu_u]
    rfl
end CE
section CF
variable {pl : Nat → Nat} {RS : Nat → RU} {nr : Nat} {Ru M P P0 : Nat → Bool} {S S0 : SS}
/-- the sets that no call changes -/
theorem spread_keep (hwf : ∀ r, r < nr → wfR pl (RS r)) (hz : nz S) (hz0 : nz S0) (hU : ∀ k x y, ov P S k x y = true ↔ ms_lfp (DU RS nr Ru) (ov P0 S0) k x y) : ∀ k x y, (k < 10 ∨ 20 ≤ k) → S k x y = S0 k x y := by
  intro k x y hk
  by_cases hx : k < 10 ∧ x = 0
  · rw [hx.2, hz k y hx.1, hz0 k y hx.1]
  · have hkx : 10 ≤ k ∨ 1 ≤ x := by omega
    have h1 : S k x y = true → S0 k x y = true := by
      intro q
      have q := (ov_s (P := P) (S := S) (y := y) hkx).trans q
      have := (hU k x y).mp q (fun k x y => decide ((10 ≤ k ∧ k < 20) ∨ (k < 10 ∧ x = 0)) || ov P0 S0 k x y) (fun k x y q => by dsimp only; rw [q, Bool.or_true]) ?_
      · rw [Bool.or_eq_true] at this
        rcases this with z | z
        · have := of_decide_eq_true z; omega
        · rw [ov_s hkx] at z; exact z
      · rintro k x y ⟨r, hr, pt, hpt, h1, j, hj, hu, h2⟩
        have hR := hwf r hr
        have s10 := hR.s10 (j + 1) (by omega)
        rw [Bool.or_eq_true]
        left
        apply decide_eq_true
        rcases h2 with ⟨e1, e2, -⟩ | ⟨w, -, -, e1, -⟩
        · exact Or.inr ⟨by omega, e2⟩
        · have : k = 10 + (RS r).st (j + 1) := e1
          exact Or.inl ⟨by omega, by omega⟩
    have h2 : S0 k x y = true → S k x y = true := by
      intro q
      refine (ov_s (P := P) (S := S) (y := y) hkx).symm.trans ?_
      refine (hU k x y).mpr (fun C hC _ => hC k x y ?_)
      rw [ov_s hkx]; exact q
    cases a : S k x y <;> cases b : S0 k x y
    · rfl
    · rw [h2 b] at a; cases a
    · rw [h1 a] at b; cases b
    · rfl
theorem spread_pat (hwf : ∀ r, r < nr → wfR pl (RS r)) {q0 : Nat} (hq0 : q0 < 40) (hP : ∀ i, P i = true → i < 40) (hP0 : ∀ i, P0 i = true ↔ i = q0) (hH : ms_H (DU RS nr Ru) (ov P S) false (ov P S)) (hU : ∀ k x y, ov P S k x y = true ↔ ms_lfp (DU RS nr Ru) (ov P0 S0) k x y) (z : Nat) : P z = true ↔ lfP RS nr Ru q0 z := by
  constructor
  · intro hz C h1 h2
    have hz40 := hP z hz
    have hov : ov P S (z / 4) 0 (z % 4) = true := by
      rw [ov_p (by omega) (by omega), show 4 * (z / 4) + z % 4 = z by omega]; exact hz
    have := (hU _ _ _).mp hov (fun k x y => if k < 10 ∧ x = 0 then (decide (y < 4) && C (4 * k + y)) else true) ?_ ?_
    · rw [if_pos ⟨by omega, rfl⟩, Bool.and_eq_true, show 4 * (z / 4) + z % 4 = z by omega] at this
      exact this.2
    · intro k x y q
      try dsimp only
      by_cases e : k < 10 ∧ x = 0
      · rw [if_pos e]
        unfold ov at q
        rw [if_pos e, Bool.and_eq_true] at q
        rw [Bool.and_eq_true]
        refine ⟨q.1, ?_⟩
        rw [(hP0 _).mp q.2]; exact h1
      · rw [if_neg e]
    · rintro k x y ⟨r, hr, pt, hpt, g1, j, hj, hu, g2⟩
      have hR := hwf r hr
      have s10 := hR.s10 (j + 1) (by omega)
      have s0 := hR.s10 0 (by omega)
      try dsimp only at g1 ⊢
      by_cases e : k < 10 ∧ x = 0
      · rw [if_pos e]
        rw [if_pos ⟨s0, rfl⟩, Bool.and_eq_true] at g1
        rcases g2 with ⟨e1, e2, e3⟩ | ⟨w, -, -, e1, -⟩
        · subst e1 e2 e3
          rw [Bool.and_eq_true]
          refine ⟨decide_eq_true (pb_lt _ _ _), ?_⟩
          have := h2 _ g1.2 r hr (by omega) j hj hu
          rw [show (4 * (RS r).st 0 + pt) % 4 = pt by omega] at this
          exact this
        · have : k = 10 + (RS r).st (j + 1) := e1
          omega
      · rw [if_neg e]
  · intro h
    refine h P ?_ (fun q hq r hr h0 j hj hu => ?_)
    · have : ov P S (q0 / 4) 0 (q0 % 4) = true := (hU _ _ _).mpr (fun C hC _ => hC _ _ _ (by rw [ov_p (by omega) (by omega), show 4 * (q0 / 4) + q0 % 4 = q0 by omega]; exact (hP0 _).mpr rfl))
      rw [ov_p (by omega) (by omega), show 4 * (q0 / 4) + q0 % 4 = q0 by omega] at this
      exact this
    · have hR := hwf r hr
      have s10 := hR.s10 (j + 1) (by omega)
      have hq40 := hP q hq
      have := hH.2.2.1 ((RS r).st (j + 1)) 0 (pb (RS r) j (q % 4)) ⟨r, hr, q % 4, by omega, ?_, j, hj, hu, Or.inl ⟨rfl, rfl, rfl⟩⟩
      · rw [ov_p s10 (pb_lt _ _ _)] at this
        exact this
      · rw [h0, ov_p (by omega) (by omega), show 4 * (q / 4) + q % 4 = q by omega]
        exact hq
theorem bX_0 {R : RU} {w : Nat → Nat} (hR : wfR pl R) (hw : bl_w w) {t : Nat} (ht : t ≤ 18) : w t = 0 ↔ t = 0 := by
  constructor
  · intro h
    apply Classical.byContradiction
    intro z
    have := hw.pos (t := t) (by omega) ht
    omega
  · rintro rfl; exact hw.1 0 (by omega)
theorem spread_call (hwf : ∀ r, r < nr → wfR pl (RS r)) (hrel : relM pl M S 0) (hz : nz S) (hz0 : nz S0) (hin : ms_in S) {ao cx cy : Nat} (hao : ao < 10) (hcx : cx < 11) (hcy : cy < 11) (hcv : pl ao = 1 → cy = 0) (hP0 : ∀ i, P0 i = true ↔ i = 4 * ao + pX cx cy) (hS0 : ∀ k x y, 10 ≤ k → k < 20 → (S0 k x y = true ↔ k = 10 + ao ∧ x = cx ∧ y = cy)) (hH : ms_H (DU RS nr Ru) (ov P S) false (ov P S)) (hU : ∀ k x y, ov P S k x y = true ↔ ms_lfp (DU RS nr Ru) (ov P0 S0) k x y) (p x y : Nat) (hp : p < 10) (hx : x < 11) (hy : y < 11) : S (10 + p) x y = true ↔ lfC M RS nr Ru (ci ao cx cy) (ci p x y) := by
  have hkeep := spread_keep hwf hz hz0 hU
  have hrel0 : ∀ k x' y', k < 10 → S0 k x' y' = S k x' y' := fun k x' y' hk => (hkeep k x' y' (Or.inl hk)).symm
  constructor
  · intro q C h1 h2
    have q := (ov_s (P := P) (S := S) (x := x) (y := y) (Or.inl (show 10 ≤ 10 + p by omega))).trans q
    have := (hU _ _ _).mp q (fun k x y => if k < 10 ∧ x = 0 then decide (y < 4 ∧ (pl k = 1 → y < 2)) else if 10 ≤ k ∧ k < 20 then (decide (x < 11 ∧ y < 11 ∧ (pl (k - 10) = 1 → y = 0)) && C (ci (k - 10) x y)) else S0 k x y) ?_ ?_
    · try dsimp only at this
      rw [if_neg (by omega), if_pos (by omega), Bool.and_eq_true, show 10 + p - 10 = p by omega] at this
      exact this.2
    · intro k x y q
      try dsimp only
      by_cases e : k < 10 ∧ x = 0
      · rw [if_pos e]
        unfold ov at q
        rw [if_pos e, Bool.and_eq_true] at q
        have e2 := (hP0 _).mp q.2
        have e3 := of_decide_eq_true q.1
        have e4 := pX_lt cx cy
        apply decide_eq_true
        refine ⟨e3, fun h => ?_⟩
        have : k = ao := by omega
        subst this
        have := hcv h
        subst this
        have : y = pX cx 0 := by omega
        rw [this]
        unfold pX
        split <;> simp
      · rw [if_neg e]
        rw [ov_s (by omega)] at q
        by_cases e2 : 10 ≤ k ∧ k < 20
        · rw [if_pos e2]
          obtain ⟨e3, rfl, rfl⟩ := (hS0 k x y e2.1 e2.2).mp q
          subst e3
          rw [show 10 + ao - 10 = ao by omega, Bool.and_eq_true]
          exact ⟨decide_eq_true ⟨hcx, hcy, hcv⟩, h1⟩
        · rw [if_neg e2]; exact q
    · rintro k x y ⟨r, hr, pt, hpt, g1, j, hj, hu, g2⟩
      have hR := hwf r hr
      have s10 := hR.s10 (j + 1) (by omega)
      have s0 := hR.s10 0 (by omega)
      try dsimp only at g1 ⊢
      rw [if_pos ⟨s0, rfl⟩] at g1
      have g1 := of_decide_eq_true g1
      rcases g2 with ⟨e1, e2, e3⟩ | ⟨w, w1, w2, e1, e2, e3⟩
      · subst e1 e2 e3
        rw [if_pos ⟨s10, rfl⟩]
        apply decide_eq_true
        refine ⟨pb_lt _ _ _, fun h => ?_⟩
        have hs := (hR.c0 (j + 1) (by omega)).mp h
        rw [pb_eq hR hj]
        have : bY (RS r) j pt = 0 := by unfold bY; rw [hs]; rfl
        rw [this]
        split <;> simp
      · have e1 : k = 10 + (RS r).st (j + 1) := e1
        have e2 : x = w (bX (RS r) j pt) := e2
        have e3 : y = w (bY (RS r) j pt) := e3
        subst e1 e2 e3
        rw [if_neg (by omega), if_pos (by omega), show 10 + (RS r).st (j + 1) - 10 = (RS r).st (j + 1) by omega, Bool.and_eq_true]
        obtain ⟨b1, b2⟩ := ro_body.mp w2
        try dsimp only at b1
        rw [if_neg (by omega), if_pos (by omega), show 10 + (RS r).st 0 - 10 = (RS r).st 0 by omega, Bool.and_eq_true] at b1
        have bx := bX_18 hR (pt := pt) hj
        have byy := bY_18 hR (pt := pt) hj
        have hxx := w1.le bx
        have hyy := w1.le byy
        refine ⟨decide_eq_true ⟨by omega, by omega, fun h => ?_⟩, ?_⟩
        · have hs := (hR.c0 (j + 1) (by omega)).mp h
          have : bY (RS r) j pt = 0 := by unfold bY; rw [hs]; rfl
          rw [this]; exact w1.1 0 (by omega)
        · have hbody : ∀ i, 1 ≤ i → i ≤ j → S ((RS r).st i) (w ((RS r).fs i)) (w ((RS r).sn i)) = true := by
            intro i i1 i2
            have := b2 i i1 i2
            have si := hR.s10 i (by omega)
            have := w1.pos (hR.f1 i (by omega)) (hR.f18 i (by omega))
            have h9 := b2 i i1 i2
            try dsimp only at h9
            rw [if_neg (by omega), if_neg (by omega), hrel0 _ _ _ si] at h9
            exact h9
          obtain ⟨c1, c2⟩ := call_to hR hj hrel w1 (fun h => by have := g1.2 h; omega) hpt hbody
          rw [← c2]
          have hx11 := w1.le (hX_18 hR pt)
          have hy11 := w1.le (hY_18 hR pt)
          obtain ⟨d1, d2, d3⟩ := ci_1 (p := (RS r).st 0) (x := w (hX (RS r) pt)) (y := w (hY (RS r) pt)) (by omega) (by omega)
          have := h2 _ b1.2 r hr d1.symm j hj hu (uw w) (by rw [d2, d3]; exact c1)
          rw [d2, d3] at this
          exact this
  · intro h
    have key := h (fun c => decide (c < 1210 ∧ (pl (c / 121) = 1 → eX (c % 11) = 0)) && (S (10 + c / 121) (eX (c / 11 % 11)) (eX (c % 11)) && P (4 * (c / 121) + pX (eX (c / 11 % 11)) (eX (c % 11))))) ?_ ?_
    · try dsimp only at key
      obtain ⟨d1, d2, d3⟩ := ci_1 (p := p) hx hy
      rw [Bool.and_eq_true, Bool.and_eq_true, d1, d2, d3, de hx, de hy] at key
      exact key.2.1
    · try dsimp only
      obtain ⟨d1, d2, d3⟩ := ci_1 (p := ao) hcx hcy
      rw [Bool.and_eq_true, Bool.and_eq_true, d1, d2, d3, de hcx, de hcy]
      refine ⟨decide_eq_true ⟨ci_lt hao hcx hcy, hcv⟩, ?_, ?_⟩
      · refine (ov_s (P := P) (S := S) (x := cx) (y := cy) (Or.inl (show 10 ≤ 10 + ao by omega))).symm.trans ?_
        refine (hU _ _ _).mpr (fun C hC _ => hC _ _ _ ?_)
        rw [ov_s (Or.inl (by omega))]
        exact (hS0 _ _ _ (by omega) (by omega)).mpr ⟨rfl, rfl, rfl⟩
      · refine (ov_p (P := P) (S := S) hao (pX_lt cx cy)).symm.trans ?_
        refine (hU _ _ _).mpr (fun C hC _ => hC _ _ _ ?_)
        rw [ov_p hao (pX_lt cx cy)]
        exact (hP0 _).mpr rfl
    · intro c hc r hr h0 j hj hu u hcf
      try dsimp only at hc ⊢
      rw [Bool.and_eq_true, Bool.and_eq_true] at hc
      obtain ⟨c1, c2, c3⟩ := hc
      have c1 := of_decide_eq_true c1
      have hR := hwf r hr
      have s10 := hR.s10 (j + 1) (by omega)
      have s0 := hR.s10 0 (by omega)
      have hm1 : c / 11 % 11 < 11 := Nat.mod_lt _ (by omega)
      have hm2 : c % 11 < 11 := Nat.mod_lt _ (by omega)
      generalize hx' : eX (c / 11 % 11) = x' at c2 c3
      generalize hy' : eX (c % 11) = y' at c1 c2 c3
      have ex : c / 11 % 11 = dX x' := by rw [← hx', ed hm1]
      have ey : c % 11 = dX y' := by rw [← hy', ed hm2]
      have hx11 : x' < 11 := by rw [← hx']; exact eX_lt hm1
      have hy11 : y' < 11 := by rw [← hy']; exact eX_lt hm2
      rw [ex, ey] at hcf ⊢
      rw [← h0] at c1 c2 c3
      obtain ⟨w1, w2, w3, w4⟩ := call_of hR hj hrel hx11 hy11 c1.2 hcf
      have hw := wu_w hcf.1
      rw [w4]
      have bx := bX_18 hR (pt := pX x' y') hj
      have byy := bY_18 hR (pt := pX x' y') hj
      have hxx := hw.le bx
      have hyy := hw.le byy
      obtain ⟨d1, d2, d3⟩ := ci_1 (p := (RS r).st (j + 1)) (x := wu u (bX (RS r) j (pX x' y'))) (y := wu u (bY (RS r) j (pX x' y'))) (by omega) (by omega)
      rw [d1, d2, d3, de (by omega), de (by omega), Bool.and_eq_true, Bool.and_eq_true]
      have hPt : ov P S ((RS r).st 0) 0 (pX x' y') = true := by rw [ov_p s0 (pX_lt _ _)]; exact c3
      refine ⟨decide_eq_true ⟨ci_lt s10 (by omega) (by omega), fun h => ?_⟩, ?_, ?_⟩
      · have hs := (hR.c0 (j + 1) (by omega)).mp h
        have : bY (RS r) j (pX x' y') = 0 := by unfold bY; rw [hs]; rfl
        rw [this]; exact hw.1 0 (by omega)
      · refine (ov_s (P := P) (S := S) (Or.inl (show 10 ≤ 10 + (RS r).st (j + 1) by omega))).symm.trans ?_
        refine hH.2.2.1 _ _ _ ⟨r, hr, pX x' y', pX_lt _ _, hPt, j, hj, hu, Or.inr ⟨wu u, hw, ro_body.mpr ⟨?_, fun i i1 i2 => ?_⟩, rfl, rfl, rfl⟩⟩
        · rw [w1, w2, ov_s (Or.inl (by omega))]; exact c2
        · rw [ov_s (Or.inr (hw.pos (hR.f1 i (by omega)) (hR.f18 i (by omega))))]
          exact w3 i i1 i2
      · have := hH.2.2.1 ((RS r).st (j + 1)) 0 (pb (RS r) j (pX x' y')) ⟨r, hr, pX x' y', pX_lt _ _, hPt, j, hj, hu, Or.inl ⟨rfl, rfl, rfl⟩⟩
        rw [ov_p s10 (pb_lt _ _ _), pb_eq hR hj] at this
        unfold pX
        have e1 := bX_0 hR hw bx
        have e2 := bX_0 hR hw byy
        have e3 : (if wu u (bX (RS r) j (pX x' y')) = 0 then 0 else 1) = (if bX (RS r) j (pX x' y') = 0 then 0 else 1) := by
          by_cases z : bX (RS r) j (pX x' y') = 0
          · rw [if_pos z, if_pos (e1.mpr z)]
          · rw [if_neg z, if_neg (fun y => z (e1.mp y))]
        have e4 : (if wu u (bY (RS r) j (pX x' y')) = 0 then 0 else 2) = (if bY (RS r) j (pX x' y') = 0 then 0 else 2) := by
          by_cases z : bY (RS r) j (pX x' y') = 0
          · rw [if_pos z, if_pos (e2.mpr z)]
          · rw [if_neg z, if_neg (fun y => z (e2.mp y))]
        unfold pX at e3 e4 this
        rw [e3, e4]
        exact this
end CF
