section FB
/-! A RULE WITH BLANKED LONE VARIABLES IS FOLLOWED -/
variable {st fo so f1 s1 : Nat → Nat} {n : Nat}
theorem bl_ag0 {fs sn : Nat → Nat} {n t i : Nat} (ht : fs 0 = t ∨ sn 0 = t) (h1 : 1 ≤ i) (h2 : i ≤ n) (h3 : fs i = t ∨ sn i = t) : bl_ag fs sn n t := by
  rcases ht with ht | ht
  · rcases h3 with h3 | h3
    · exact ⟨2 * 0, 2 * i, by omega, by omega, by rw [bl_T0, ht], by rw [bl_T0, h3]⟩
    · exact ⟨2 * 0, 2 * i + 1, by omega, by omega, by rw [bl_T0, ht], by rw [bl_T1, h3]⟩
  · rcases h3 with h3 | h3
    · exact ⟨2 * 0 + 1, 2 * i, by omega, by omega, by rw [bl_T1, ht], by rw [bl_T0, h3]⟩
    · exact ⟨2 * 0 + 1, 2 * i + 1, by omega, by omega, by rw [bl_T1, ht], by rw [bl_T1, h3]⟩
theorem bl_hd (hb : bl_is fo so f1 s1 n) (hsf : sfB fo so n) (hT : ∀ q, q < 2 * n + 2 → bl_T fo so q ≤ 18) : f1 0 = fo 0 ∧ s1 0 = so 0 := by
  constructor
  · have h := hb (2 * 0) (by omega)
    have h8 := hT (2 * 0) (by omega)
    rw [bl_T0, bl_T0] at h
    rw [bl_T0] at h8
    rcases h with ⟨h, -⟩ | ⟨-, h1, h2, h3⟩
    · exact h
    · obtain ⟨i, i1, i2, i3⟩ := hsf _ h1 h2 (Or.inl rfl)
      exact absurd (bl_ag0 (Or.inl rfl) i1 i2 i3) h3
  · have h := hb (2 * 0 + 1) (by omega)
    have h8 := hT (2 * 0 + 1) (by omega)
    rw [bl_T1, bl_T1] at h
    rw [bl_T1] at h8
    rcases h with ⟨h, -⟩ | ⟨-, h1, h2, h3⟩
    · exact h
    · obtain ⟨i, i1, i2, i3⟩ := hsf _ h1 h2 (Or.inr rfl)
      exact absurd (bl_ag0 (Or.inr rfl) i1 i2 i3) h3
theorem bl_hb (hb : bl_is fo so f1 s1 n) (hsf : sfB fo so n) {t : Nat} (h11 : 11 ≤ t) (h18 : t ≤ 18) (ht : fo 0 = t ∨ so 0 = t) : ∃ i, 1 ≤ i ∧ i ≤ n ∧ (f1 i = t ∨ s1 i = t) := by
  obtain ⟨i, i1, i2, i3⟩ := hsf t h11 h18 ht
  have hag := bl_ag0 ht i1 i2 i3
  refine ⟨i, i1, i2, ?_⟩
  rcases i3 with i3 | i3
  · left
    have h := hb (2 * i) (by omega)
    rw [bl_T0, bl_T0, i3] at h
    rcases h with ⟨h, -⟩ | ⟨-, -, -, h⟩
    · exact h
    · exact absurd hag h
  · right
    have h := hb (2 * i + 1) (by omega)
    rw [bl_T1, bl_T1, i3] at h
    rcases h with ⟨h, -⟩ | ⟨-, -, -, h⟩
    · exact h
    · exact absurd hag h
def PB (st fo so : Nat → Nat) (n : Nat) (C : SS) (k x y : Nat) : Prop := ∃ w, bl_w w ∧ bl_body st fo so n C w ∧ k = st 0 ∧ x = w (fo 0) ∧ y = w (so 0)
theorem q_followB {post : Int32 → (Nat → Int32) → (Nat → Int32) → Prop} {rs rf rc : Nat → Int32} {na : Int32} {S : SS} (h : rq rs rf rc na st f1 s1 n) (hb : bl_is fo so f1 s1 n) (hsf : sfB fo so n) (hT : ∀ q, q < 2 * n + 2 → bl_T fo so q ≤ 18) (hs : ∀ i, i ≤ n → st i < 31) (hin : ms_in S)
    (hp : ∀ r S', ms_H (PB st fo so n) S r S' → ms_in S' → post (bI r) (rF S') (vF vi0)) : wp_Mt_follow post rs rf rc na (rF S) (vF vi0) := by
  obtain ⟨e0, e1⟩ := bl_hd hb hsf hT
  have hT0 : fo 0 ≤ 18 := by have := hT (2 * 0) (by omega); rw [bl_T0] at this; exact this
  have hT1 : so 0 ≤ 18 := by have := hT (2 * 0 + 1) (by omega); rw [bl_T1] at this; exact this
  have h19 : ∀ q, q < 2 * n + 2 → bl_T f1 s1 q ≤ 19 := fun q hq => by
    have := hT q hq
    rcases hb q hq with ⟨z, -⟩ | ⟨z, -⟩ <;> omega
  have hrl : rl_ rs rf rc na st f1 s1 n := ⟨h.na, h.n3, h.s, hs, h.f, fun i hi => (by have := h19 (2 * i) (by omega); rw [bl_T0] at this; exact this), h.c, fun i hi => (by have := h19 (2 * i + 1) (by omega); rw [bl_T1] at this; exact this), by omega, by omega⟩
  refine q_follow hrl vi0_V ?_ (fun r S' hm => hp r S' ?_ (ms_A_in hm vi0_V (hs 0 (by omega)) hrl.f0 hrl.c0 hin))
  · intro t ht hv
    rw [e0, e1] at ht
    refine bl_hb hb hsf (vi0_n hv) ?_ (ht.elim (fun z => Or.inl z.symm) (fun z => Or.inr z.symm))
    rcases ht with z | z <;> omega
  · refine (ms_G.H hm).conv (fun C _ k x y q => ?_) (fun k x y q => ?_)
    · obtain ⟨w, ⟨h1, h2⟩, h3, h4, h5⟩ := q
      obtain ⟨w', v1, v2, v3, v4⟩ := bl_from hb (vi0_ok.mp h1) h2 hT ⟨e0, e1⟩
      refine ⟨w', v1, v2, h3, ?_, ?_⟩
      · rw [v3, h4, e0]
      · rw [v4, h5, e1]
    · obtain ⟨w, h1, h2, h3, h4, h5⟩ := q
      refine ⟨w, ⟨vi0_ok.mpr h1, bl_to hb h1 hin h2 hT⟩, h3, ?_, ?_⟩
      · rw [e0]; exact h4
      · rw [e1]; exact h5
/-! the patterns laid over the sets: at the first place 0 of the model's sets -/
def ov (P : Nat → Bool) (S : SS) : SS := fun k x y => if k < 10 ∧ x = 0 then (decide (y < 4) && P (4 * k + y)) else S k x y
def nz (S : SS) : Prop := ∀ k y, k < 10 → S k 0 y = false
theorem ov_p {P : Nat → Bool} {S : SS} {k y : Nat} (hk : k < 10) (hy : y < 4) : ov P S k 0 y = P (4 * k + y) := by
  unfold ov
  rw [if_pos ⟨hk, rfl⟩, decide_eq_true hy, Bool.true_and]
theorem ov_s {P : Nat → Bool} {S : SS} {k x y : Nat} (h : 10 ≤ k ∨ 1 ≤ x) : ov P S k x y = S k x y := by
  unfold ov
  rw [if_neg (by omega)]
theorem ov_in {P : Nat → Bool} {S : SS} (h : ms_in S) : ms_in (ov P S) := by
  intro k x y q
  unfold ov at q
  by_cases e : k < 10 ∧ x = 0
  · rw [if_pos e, Bool.and_eq_true] at q
    have := of_decide_eq_true q.1
    omega
  · rw [if_neg e] at q
    exact h k x y q
theorem ov_put {P : Nat → Bool} {S : SS} {p k : Nat} (hp : p < 10) (hk : k < 4) : ov (mS P (4 * p + k)) S = ms_put (ov P S) p 0 k := by
  funext k' x' y'
  unfold ov ms_put mS
  dsimp only
  by_cases e : k' < 10 ∧ x' = 0
  · rw [if_pos e, if_pos e]
    by_cases e2 : y' < 4
    · rw [decide_eq_true e2, Bool.true_and]
      by_cases e3 : k' = p ∧ x' = 0 ∧ y' = k
      · rw [if_pos e3, if_pos (show 4 * k' + y' = 4 * p + k by omega)]
      · rw [if_neg e3, if_neg (show ¬ (4 * k' + y' = 4 * p + k) by omega), Bool.true_and]
    · rw [decide_eq_false e2, Bool.false_and, if_neg (show ¬ (k' = p ∧ x' = 0 ∧ y' = k) by omega), Bool.false_and]
  · rw [if_neg e, if_neg e, if_neg (show ¬ (k' = p ∧ x' = 0 ∧ y' = k) by omega)]
/-- a step of the sets is one of both -/
theorem ov_H {P : Nat → Bool} {D : SS → Nat → Nat → Nat → Prop} {S S' : SS} {r : Bool} (h : ms_H D S r S') (hz : nz S) (hD : ∀ C k x y, D C k x y → 10 ≤ k) (hm : ∀ C C', (∀ k x y, (10 ≤ k ∨ 1 ≤ x) → C k x y = true → C' k x y = true) → ∀ k x y, D C k x y → D C' k x y) : ms_H D (ov P S) r (ov P S') ∧ nz S' := by
  have hz' : nz S' := by
    have := h.2.1 (fun k x y => decide (10 ≤ k ∨ 1 ≤ x)) (fun k x y q => decide_eq_true ?_) (fun k x y q => decide_eq_true (Or.inl (hD _ _ _ _ q)))
    · intro k y hk
      cases q : S' k 0 y with
      | false => rfl
      | true =>
        have := of_decide_eq_true (this k 0 y q)
        omega
    · apply Classical.byContradiction
      intro hn
      rw [show x = 0 by omega, hz k y (by omega)] at q
      cases q
  refine ⟨⟨fun k x y q => ?_, fun C h1 h2 => ?_, fun k x y q => ?_, fun q => by rw [h.2.2.2.1 q], fun q => ?_⟩, hz'⟩
  · unfold ov at q ⊢
    by_cases e : k < 10 ∧ x = 0
    · rw [if_pos e] at q ⊢; exact q
    · rw [if_neg e] at q ⊢; exact h.1 _ _ _ q
  · have key := h.2.1 (fun k x y => decide (10 ≤ k ∨ 1 ≤ x) && C k x y) (fun k x y q => ?_) (fun k x y q => ?_)
    · intro k x y q
      unfold ov at q
      by_cases e : k < 10 ∧ x = 0
      · rw [if_pos e] at q
        exact h1 k x y (by unfold ov; rw [if_pos e]; exact q)
      · rw [if_neg e] at q
        have := key k x y q
        rw [Bool.and_eq_true] at this
        exact this.2
    · have hkx : 10 ≤ k ∨ 1 ≤ x := by
        apply Classical.byContradiction
        intro hn
        rw [show x = 0 by omega, hz k y (by omega)] at q
        cases q
      rw [Bool.and_eq_true]
      exact ⟨decide_eq_true hkx, h1 k x y (by rw [ov_s hkx]; exact q)⟩
    · rw [Bool.and_eq_true]
      refine ⟨decide_eq_true (Or.inl (hD _ _ _ _ q)), h2 k x y (hm _ C (fun k x y _ z => ?_) k x y q)⟩
      rw [Bool.and_eq_true] at z
      exact z.2
  · have hk := hD _ _ _ _ q
    rw [ov_s (Or.inl hk)]
    exact h.2.2.1 k x y (hm _ S (fun k x y hkx z => by rw [ov_s hkx] at z; exact z) k x y q)
  · obtain ⟨k, x, y, a, b⟩ := h.2.2.2.2 q
    have hkx : 10 ≤ k ∨ 1 ≤ x := by
      apply Classical.byContradiction
      intro hn
      rw [show x = 0 by omega, hz' k y (by omega)] at a
      cases a
    exact ⟨k, x, y, by rw [ov_s hkx]; exact a, by rw [ov_s hkx]; exact b⟩
theorem put_H {U : SS} {k x y : Nat} : ms_H (fun _ k' x' y' => k' = k ∧ x' = x ∧ y' = y) U (!(U k x y)) (ms_put U k x y) := by
  refine ⟨ms_put_sub, fun C h1 h2 => ms_put_le h1 (h2 k x y ⟨rfl, rfl, rfl⟩), fun k' x' y' h => ?_, fun h => ms_put_same (by simpa using h), fun h => ⟨k, x, y, ms_put_self, by simpa using h⟩⟩
  obtain ⟨rfl, rfl, rfl⟩ := h
  exact ms_put_self
/-! a predicate's patterns as bits -/
def pm (P : Nat → Bool) (p : Nat) : Nat := xb_e (fun k => P (4 * p + k)) 4
theorem pm_lt (P : Nat → Bool) (p : Nat) : pm P p < 16 := xb_e_lt _ 4
theorem pm_bit {P : Nat → Bool} {p k : Nat} : (pm P p).testBit k = (decide (k < 4) && P (4 * p + k)) := xb_e_bit _ 4 k
theorem pm_put {P : Nat → Bool} {p k : Nat} (hk : k < 4) : nI (pm P p) ||| ((1 : Int32) <<< (nI k &&& 31)) = nI (pm (mS P (4 * p + k)) p) := by
  rw [xb_one k (by omega), xb_orI]
  congr 1
  apply Nat.eq_of_testBit_eq
  intro j
  rw [Nat.testBit_or, pm_bit, pm_bit, Nat.testBit_two_pow]
  unfold mS
  by_cases e : k = j
  · subst e
    rw [if_pos rfl, decide_eq_true rfl, decide_eq_true hk]; simp
  · rw [decide_eq_false e, if_neg (by omega), Bool.or_false]
theorem pm_ne {P : Nat → Bool} {p q : Nat} (k : Nat) (hq : q ≠ p) (hk : k < 4) : pm (mS P (4 * p + k)) q = pm P q := by
  apply Nat.eq_of_testBit_eq
  intro j
  rw [pm_bit, pm_bit]
  by_cases h : j < 4
  · unfold mS
    rw [if_neg (by omega)]
  · rw [decide_eq_false h]; rfl
theorem pm_inj {P Q : Nat → Bool} {p k : Nat} (h : pm P p = pm Q p) (hk : k < 4) : P (4 * p + k) = Q (4 * p + k) := by
  have a := pm_bit (P := P) (p := p) (k := k)
  have b := pm_bit (P := Q) (p := p) (k := k)
  rw [h, b, decide_eq_true hk, Bool.true_and, Bool.true_and] at a
  exact a.symm
theorem pm_test {P : Nat → Bool} {p k : Nat} (hk : k < 4) : (nI (pm P p) >>> (nI k &&& 31) &&& 1) = bI (P (4 * p + k)) := by
  have h := pm_lt P p
  rw [xb_shr (by omega) (by omega), show (1 : Int32) = nI 1 from rfl, xb_andI, Nat.and_one_is_mod]
  have hb := pm_bit (P := P) (p := p) (k := k)
  rw [decide_eq_true hk, Bool.true_and, Nat.testBit_eq_decide_div_mod_eq] at hb
  unfold bI
  cases q : P (4 * p + k) with
  | true =>
    rw [q] at hb
    have := of_decide_eq_true hb
    rw [this]; rfl
  | false =>
    rw [q] at hb
    have := of_decide_eq_false hb
    have : pm P p / 2 ^ k % 2 = 0 := by omega
    rw [this]; rfl
theorem xt_f : ∀ t, t ≤ 19 → (xb_t t = -1 ↔ t = 0) := by decide +kernel
theorem q_addP {post : Int32 → (Nat → Int32) → Prop} {qpt : Nat → Int32} {P : Nat → Bool} {p x y : Nat} (hq : ∀ i, i < 10 → qpt i = nI (pm P i)) (hp : p < 10) (hx : x ≤ 19) (hy : y ≤ 19)
    (h : ∀ qpt', (∀ i, i < 10 → qpt' i = nI (pm (mS P (4 * p + ((if x = 0 then 0 else 1) + (if y = 0 then 0 else 2)))) i)) → post (bI (!(P (4 * p + ((if x = 0 then 0 else 1) + (if y = 0 then 0 else 2)))))) qpt') : wp_Qd_addPattern post qpt (nI p) (xb_t x) (xb_t y) := by
  unfold wp_Qd_addPattern
  rw [xt_f x hx, xt_f y hy]
  refine xj_P (fun v => v = nI (if x = 0 then 0 else 1)) ?_ (fun J hJ => ⟨fun q => hJ _ (by rw [if_neg q]; rfl), fun q => hJ _ (by rw [if_pos q]; rfl)⟩)
  intro v1 e1
  refine xj_P (fun v => v = nI (if y = 0 then 0 else 2)) ?_ (fun J hJ => ⟨fun q => hJ _ (by rw [if_neg q]; rfl), fun q => hJ _ (by rw [if_pos q]; rfl)⟩)
  intro v3 e3 x5 e5
  rw [e1, e3, nI_add] at e5
  have hk : (if x = 0 then 0 else 1) + (if y = 0 then 0 else 2) < 4 := by split <;> split <;> omega
  generalize (if x = 0 then 0 else 1) + (if y = 0 then 0 else 2) = k at hk h e5
  have hin : vp_in (nI p) 10 := vp_in_nI hp (by decide)
  rw [nI_clamp (by omega)]
  refine ⟨hin, fun x6 e6 => ⟨hin, fun q7 e7 => ⟨hin, ?_⟩⟩⟩
  rw [hq p hp] at e6
  rw [e6, e5, pm_put hk] at e7
  have h7 : ∀ i, i < 10 → q7 i = nI (pm (mS P (4 * p + k)) i) := by
    intro i hi
    rw [e7]
    unfold upd
    by_cases e : i = p
    · rw [if_pos e, e]
    · rw [if_neg e, hq i hi, pm_ne k e hk]
  have hpost := h q7 h7
  have l1 := pm_lt P p
  have l2 := pm_lt (mS P (4 * p + k)) p
  rw [h7 p hp, e6, nI_eq (by omega) (by omega)]
  unfold xj
  cases hb : P (4 * p + k) with
  | true =>
    rw [hb] at hpost
    refine ⟨fun _ => ⟨rfl, hpost⟩, fun q => absurd ?_ q⟩
    rw [mS_same hb]
  | false =>
    rw [hb] at hpost
    refine ⟨fun q => ?_, fun _ => ⟨rfl, hpost⟩⟩
    have := pm_inj q hk
    unfold mS at this
    rw [if_pos rfl, hb] at this
    cases this
end FB
section CB
/-! CALLS BY PATTERN -/
def hX (R : RU) (pt : Nat) : Nat := if pt % 2 = 1 then R.fs 0 else 0
def hY (R : RU) (pt : Nat) : Nat := if pt / 2 = 1 then R.sn 0 else 0
def knR (R : RU) (j pt : Nat) : Nat → Bool := fun t => (on (hX R pt) t || on (hY R pt) t) || an_ (fun i => on (R.fs (i + 1)) t || on (R.sn (i + 1)) t) j
theorem knR_iff {R : RU} {j pt t : Nat} : knR R j pt t = true ↔ (hX R pt = t ∨ hY R pt = t) ∨ ∃ i, 1 ≤ i ∧ i ≤ j ∧ (R.fs i = t ∨ R.sn i = t) := by
  unfold knR on
  rw [Bool.or_eq_true, Bool.or_eq_true, an_iff]
  constructor
  · rintro ((h | h) | ⟨i, h1, h2⟩)
    · exact Or.inl (Or.inl (of_decide_eq_true h).symm)
    · exact Or.inl (Or.inr (of_decide_eq_true h).symm)
    · rw [Bool.or_eq_true] at h2
      refine Or.inr ⟨i + 1, by omega, by omega, ?_⟩
      rcases h2 with h2 | h2
      · exact Or.inl (of_decide_eq_true h2).symm
      · exact Or.inr (of_decide_eq_true h2).symm
  · rintro ((h | h) | ⟨i, h1, h2, h3⟩)
    · exact Or.inl (Or.inl (decide_eq_true h.symm))
    · exact Or.inl (Or.inr (decide_eq_true h.symm))
    · refine Or.inr ⟨i - 1, by omega, ?_⟩
      rw [show i - 1 + 1 = i by omega, Bool.or_eq_true]
      rcases h3 with h3 | h3
      · exact Or.inl (decide_eq_true h3.symm)
      · exact Or.inr (decide_eq_true h3.symm)
def bX (R : RU) (j pt : Nat) : Nat := bf (knR R j pt) (R.fs (j + 1))
def bY (R : RU) (j pt : Nat) : Nat := bf (knR R j pt) (R.sn (j + 1))
theorem bf_cases (g : Nat → Bool) {t : Nat} (ht : t ≤ 19) : (bf g t = t ∧ (t ≤ 10 ∨ (t ≤ 18 ∧ g t = true))) ∨ (bf g t = 0 ∧ 11 ≤ t ∧ (t ≤ 18 → g t = false)) := by
  unfold bf
  by_cases h : t ≤ 10
  · rw [if_pos h]; exact Or.inl ⟨rfl, Or.inl h⟩
  · rw [if_neg h]
    by_cases h2 : t ≤ 18 ∧ g t = true
    · rw [if_pos h2]; exact Or.inl ⟨rfl, Or.inr h2⟩
    · rw [if_neg h2]
      refine Or.inr ⟨rfl, by omega, fun h3 => ?_⟩
      cases hg : g t with
      | false => rfl
      | true => exact absurd ⟨h3, hg⟩ h2
variable {pl : Nat → Nat} {R : RU}
/-- a place of a rule, blanked -/
theorem RB_pl (hR : wfR pl R) {i : Nat} (hi : i ≤ R.n) (q : Nat) (hq : q = 2 * i ∨ q = 2 * i + 1) : (blT R.fs R.sn R.n q = bl_T R.fs R.sn q) ∨ (blT R.fs R.sn R.n q = 19 ∧ 11 ≤ bl_T R.fs R.sn q ∧ ¬ bl_ag R.fs R.sn R.n (bl_T R.fs R.sn q)) := by
  rcases blT_eq R.fs R.sn R.n q with ⟨e, h1, h2, h3⟩ | ⟨e, -⟩
  · exact Or.inr ⟨e, h1, h3⟩
  · exact Or.inl e
theorem hX_B (hR : wfR pl R) (pt : Nat) : hX (RB R) pt = hX R pt := by
  unfold hX
  rw [hR.hd.1]
theorem hY_B (hR : wfR pl R) (pt : Nat) : hY (RB R) pt = hY R pt := by
  unfold hY
  rw [hR.hd.2]
theorem hX_18 (hR : wfR pl R) (pt : Nat) : hX R pt ≤ 18 := by
  have := hR.f18 0 (by omega)
  unfold hX; split <;> omega
theorem hY_18 (hR : wfR pl R) (pt : Nat) : hY R pt ≤ 18 := by
  have := hR.c18 0 (by omega)
  unfold hY; split <;> omega
/-- a variable that stands at atom j + 1 and is known stands twice -/
theorem kn_ag (hR : wfR pl R) {j pt t : Nat} (hj : j < R.n) (h11 : 11 ≤ t) (hk : knR R j pt t = true) (hs : R.fs (j + 1) = t ∨ R.sn (j + 1) = t) : bl_ag R.fs R.sn R.n t := by
  have fin : ∀ q, q < 2 * (j + 1) → bl_T R.fs R.sn q = t → bl_ag R.fs R.sn R.n t := by
    intro q hq he
    rcases hs with hs | hs
    · exact ⟨q, 2 * (j + 1), by omega, by omega, he, by rw [bl_T0, hs]⟩
    · exact ⟨q, 2 * (j + 1) + 1, by omega, by omega, he, by rw [bl_T1, hs]⟩
  rcases knR_iff.mp hk with (h | h) | ⟨i, i1, i2, h | h⟩
  · unfold hX at h
    split at h
    · exact fin (2 * 0) (by omega) (by rw [bl_T0, h])
    · omega
  · unfold hY at h
    split at h
    · exact fin (2 * 0 + 1) (by omega) (by rw [bl_T1, h])
    · omega
  · exact fin (2 * i) (by omega) (by rw [bl_T0, h])
  · exact fin (2 * i + 1) (by omega) (by rw [bl_T1, h])
theorem RB_fs {i t : Nat} (h11 : 11 ≤ t) (hag : bl_ag R.fs R.sn R.n t) (h : R.fs i = t) : (RB R).fs i = t := by
  show blT R.fs R.sn R.n (2 * i) = t
  rcases blT_eq R.fs R.sn R.n (2 * i) with ⟨e, h1, h2, h3⟩ | ⟨e, -⟩
  · rw [bl_T0, h] at h3; exact absurd hag h3
  · rw [e, bl_T0, h]
theorem RB_sn {i t : Nat} (h11 : 11 ≤ t) (hag : bl_ag R.fs R.sn R.n t) (h : R.sn i = t) : (RB R).sn i = t := by
  show blT R.fs R.sn R.n (2 * i + 1) = t
  rcases blT_eq R.fs R.sn R.n (2 * i + 1) with ⟨e, h1, h2, h3⟩ | ⟨e, -⟩
  · rw [bl_T1, h] at h3; exact absurd hag h3
  · rw [e, bl_T1, h]
theorem RB_fs' {i t : Nat} (h18 : t ≤ 18) (h : (RB R).fs i = t) : R.fs i = t := by
  have h : blT R.fs R.sn R.n (2 * i) = t := h
  rcases blT_eq R.fs R.sn R.n (2 * i) with ⟨e, -⟩ | ⟨e, -⟩
  · omega
  · rw [e, bl_T0] at h; exact h
theorem RB_sn' {i t : Nat} (h18 : t ≤ 18) (h : (RB R).sn i = t) : R.sn i = t := by
  have h : blT R.fs R.sn R.n (2 * i + 1) = t := h
  rcases blT_eq R.fs R.sn R.n (2 * i + 1) with ⟨e, -⟩ | ⟨e, -⟩
  · omega
  · rw [e, bl_T1] at h; exact h
theorem knB (hR : wfR pl R) {j pt t : Nat} (h11 : 11 ≤ t) (h18 : t ≤ 18) (hag : bl_ag R.fs R.sn R.n t) : knR (RB R) j pt t = knR R j pt t := by
  have : knR (RB R) j pt t = true ↔ knR R j pt t = true := by
    rw [knR_iff, knR_iff, hX_B hR, hY_B hR]
    constructor
    · rintro (h | ⟨i, i1, i2, h | h⟩)
      · exact Or.inl h
      · exact Or.inr ⟨i, i1, i2, Or.inl (RB_fs' h18 h)⟩
      · exact Or.inr ⟨i, i1, i2, Or.inr (RB_sn' h18 h)⟩
    · rintro (h | ⟨i, i1, i2, h | h⟩)
      · exact Or.inl h
      · exact Or.inr ⟨i, i1, i2, Or.inl (RB_fs h11 hag h)⟩
      · exact Or.inr ⟨i, i1, i2, Or.inr (RB_sn h11 hag h)⟩
  cases h1 : knR (RB R) j pt t <;> cases h2 : knR R j pt t
  · rfl
  · rw [h1, h2] at this; exact absurd (this.mpr rfl) Bool.false_ne_true
  · rw [h1, h2] at this; exact absurd (this.mp rfl) Bool.false_ne_true
  · rfl
/-- a term of atom j + 1, as it is called -/
theorem bf_B (hR : wfR pl R) {j pt q : Nat} (hj : j < R.n) (hq : q = 2 * (j + 1) ∨ q = 2 * (j + 1) + 1) : bf (knR (RB R) j pt) (blT R.fs R.sn R.n q) = bf (knR R j pt) (bl_T R.fs R.sn q) := by
  have hT := hR.T q (by omega)
  have hs : R.fs (j + 1) = bl_T R.fs R.sn q ∨ R.sn (j + 1) = bl_T R.fs R.sn q := by
    rcases hq with rfl | rfl
    · left; rw [bl_T0]
    · right; rw [bl_T1]
  rcases blT_eq R.fs R.sn R.n q with ⟨e, h1, h2, h3⟩ | ⟨e, h1⟩
  · rw [e]
    have e1 : bf (knR (RB R) j pt) 19 = 0 := by
      unfold bf
      rw [if_neg (by omega), if_neg (by omega)]
    rw [e1]
    rcases bf_cases (knR R j pt) (t := bl_T R.fs R.sn q) (by omega) with ⟨-, g | ⟨g1, g2⟩⟩ | ⟨g, -⟩
    · omega
    · exact absurd (kn_ag hR hj h1 g2 hs) h3
    · exact g.symm
  · rw [e]
    by_cases h11 : 11 ≤ bl_T R.fs R.sn q
    · have := knB hR (j := j) (pt := pt) h11 hT (h1 h11 hT)
      unfold bf
      rw [this]
    · unfold bf
      rw [if_pos (by omega), if_pos (by omega)]
theorem bX_B (hR : wfR pl R) {j pt : Nat} (hj : j < R.n) : bf (knR (RB R) j pt) ((RB R).fs (j + 1)) = bX R j pt := by
  have := bf_B hR (pt := pt) hj (Or.inl rfl)
  rw [bl_T0] at this
  exact this
theorem bY_B (hR : wfR pl R) {j pt : Nat} (hj : j < R.n) : bf (knR (RB R) j pt) ((RB R).sn (j + 1)) = bY R j pt := by
  have := bf_B hR (pt := pt) hj (Or.inr rfl)
  rw [bl_T1] at this
  exact this
end CB
section CB2
variable {pl : Nat → Nat} {R : RU}
def roS (R : RU) (j : Nat) : Nat → Nat := fun i => if i = 0 then 10 + R.st (j + 1) else if i = 1 then 10 + R.st 0 else R.st (i - 1)
def roF (R : RU) (j pt : Nat) : Nat → Nat := fun i => if i = 0 then bX R j pt else if i = 1 then hX R pt else R.fs (i - 1)
def roC (R : RU) (j pt : Nat) : Nat → Nat := fun i => if i = 0 then bY R j pt else if i = 1 then hY R pt else R.sn (i - 1)
theorem bX_18 (hR : wfR pl R) {j pt : Nat} (hj : j < R.n) : bX R j pt ≤ 18 := by
  have := hR.f18 (j + 1) (by omega)
  unfold bX
  rcases bf_cases (knR R j pt) (t := R.fs (j + 1)) (by omega) with ⟨e, -⟩ | ⟨e, -⟩ <;> omega
theorem bY_18 (hR : wfR pl R) {j pt : Nat} (hj : j < R.n) : bY R j pt ≤ 18 := by
  have := hR.c18 (j + 1) (by omega)
  unfold bY
  rcases bf_cases (knR R j pt) (t := R.sn (j + 1)) (by omega) with ⟨e, -⟩ | ⟨e, -⟩ <;> omega
theorem ro_T (hR : wfR pl R) {j pt : Nat} (hj : j < R.n) : ∀ q, q < 2 * (j + 1) + 2 → bl_T (roF R j pt) (roC R j pt) q ≤ 18 := by
  intro q hq
  have a := bX_18 hR (pt := pt) hj
  have b := bY_18 hR (pt := pt) hj
  have c := hX_18 hR pt
  have d := hY_18 hR pt
  unfold bl_T roF roC
  split
  · split
    · exact a
    · split
      · exact c
      · exact hR.f18 _ (by omega)
  · split
    · exact b
    · split
      · exact d
      · exact hR.c18 _ (by omega)
theorem ro_sf (hR : wfR pl R) {j pt : Nat} (hj : j < R.n) : sfB (roF R j pt) (roC R j pt) (j + 1) := by
  intro t h11 h18 ht
  have hk : knR R j pt t = true := by
    rcases ht with ht | ht
    · have ht : bX R j pt = t := ht
      unfold bX at ht
      rcases bf_cases (knR R j pt) (t := R.fs (j + 1)) (by have := hR.f18 (j + 1) (by omega); omega) with ⟨e, g | ⟨-, g⟩⟩ | ⟨e, -⟩
      · omega
      · rw [← ht, e]; exact g
      · omega
    · have ht : bY R j pt = t := ht
      unfold bY at ht
      rcases bf_cases (knR R j pt) (t := R.sn (j + 1)) (by have := hR.c18 (j + 1) (by omega); omega) with ⟨e, g | ⟨-, g⟩⟩ | ⟨e, -⟩
      · omega
      · rw [← ht, e]; exact g
      · omega
  rcases knR_iff.mp hk with (h | h) | ⟨i, i1, i2, h⟩
  · exact ⟨1, by omega, by omega, Or.inl h⟩
  · exact ⟨1, by omega, by omega, Or.inr h⟩
  · refine ⟨i + 1, by omega, by omega, ?_⟩
    unfold roF roC
    rw [if_neg (by omega), if_neg (by omega), if_neg (by omega), if_neg (by omega), show i + 1 - 1 = i by omega]
    exact h
/-- a place of the rewritten rule, in the rule itself -/
theorem ro_phi (hR : wfR pl R) {j pt q t : Nat} (hj : j < R.n) (hq : q < 2 * (j + 1) + 2) (h11 : 11 ≤ t) (h : bl_T (roF R j pt) (roC R j pt) q = t) : bl_T R.fs R.sn (if q < 2 then 2 * (j + 1) + q else q - 2) = t := by
  by_cases hq2 : q < 2
  · rw [if_pos hq2]
    by_cases h0 : q = 0
    · subst h0
      have h := (bl_T0 _ _ 0).symm.trans h
      have h : bX R j pt = t := h
      unfold bX at h
      rcases bf_cases (knR R j pt) (t := R.fs (j + 1)) (by have := hR.f18 (j + 1) (by omega); omega) with ⟨e, -⟩ | ⟨e, -⟩
      · rw [Nat.add_zero, bl_T0, ← e]; exact h
      · omega
    · have h0 : q = 1 := by omega
      subst h0
      have h := (bl_T1 _ _ 0).symm.trans h
      have h : bY R j pt = t := h
      unfold bY at h
      rcases bf_cases (knR R j pt) (t := R.sn (j + 1)) (by have := hR.c18 (j + 1) (by omega); omega) with ⟨e, -⟩ | ⟨e, -⟩
      · rw [bl_T1, ← e]; exact h
      · omega
  · rw [if_neg hq2]
    by_cases hp : q % 2 = 0
    · obtain ⟨i, rfl⟩ : ∃ i, q = 2 * i := ⟨q / 2, by omega⟩
      rw [bl_T0] at h
      rw [show 2 * i - 2 = 2 * (i - 1) by omega, bl_T0]
      unfold roF at h
      rw [if_neg (by omega)] at h
      by_cases h1 : i = 1
      · rw [if_pos h1] at h
        unfold hX at h
        subst h1
        split at h
        · exact h
        · omega
      · rw [if_neg h1] at h; exact h
    · obtain ⟨i, rfl⟩ : ∃ i, q = 2 * i + 1 := ⟨q / 2, by omega⟩
      rw [bl_T1] at h
      rw [show 2 * i + 1 - 2 = 2 * (i - 1) + 1 by omega, bl_T1]
      unfold roC at h
      rw [if_neg (by omega)] at h
      by_cases h1 : i = 1
      · rw [if_pos h1] at h
        unfold hY at h
        subst h1
        split at h
        · exact h
        · omega
      · rw [if_neg h1] at h; exact h
theorem ro_ag (hR : wfR pl R) {j pt t : Nat} (hj : j < R.n) (h11 : 11 ≤ t) (h : bl_ag (roF R j pt) (roC R j pt) (j + 1) t) : bl_ag R.fs R.sn R.n t := by
  obtain ⟨q1, q2, z1, z2, z3, z4⟩ := h
  have a := ro_phi hR hj (by omega) h11 z3
  have b := ro_phi hR hj (by omega) h11 z4
  have ha : (if q1 < 2 then 2 * (j + 1) + q1 else q1 - 2) < 2 * R.n + 2 := by split <;> omega
  have hb : (if q2 < 2 then 2 * (j + 1) + q2 else q2 - 2) < 2 * R.n + 2 := by split <;> omega
  have hne : (if q1 < 2 then 2 * (j + 1) + q1 else q1 - 2) ≠ (if q2 < 2 then 2 * (j + 1) + q2 else q2 - 2) := by split <;> split <;> omega
  generalize (if q1 < 2 then 2 * (j + 1) + q1 else q1 - 2) = p1 at a ha hne
  generalize (if q2 < 2 then 2 * (j + 1) + q2 else q2 - 2) = p2 at b hb hne
  rcases Nat.lt_or_ge p1 p2 with h | h
  · exact ⟨p1, p2, h, hb, a, b⟩
  · exact ⟨p2, p1, by omega, ha, b, a⟩
/-- the rewritten rule as it is written, before it blanks it -/
theorem ro_is (hR : wfR pl R) {j pt : Nat} (hj : j < R.n) {f1 s1 : Nat → Nat} (hf : ∀ i, i ≤ j + 1 → f1 i = if i ≤ 1 then roF R j pt i else (RB R).fs (i - 1)) (hs : ∀ i, i ≤ j + 1 → s1 i = if i ≤ 1 then roC R j pt i else (RB R).sn (i - 1)) : bl_is (roF R j pt) (roC R j pt) (blF f1 s1 (j + 1)) (blS f1 s1 (j + 1)) (j + 1) := by
  refine bl_of2 (ro_T hR hj) (fun q hq => ?_)
  by_cases hp : q % 2 = 0
  · obtain ⟨i, rfl⟩ : ∃ i, q = 2 * i := ⟨q / 2, by omega⟩
    rw [bl_T0, bl_T0, hf i (by omega)]
    by_cases h1 : i ≤ 1
    · rw [if_pos h1]; exact Or.inl rfl
    · rw [if_neg h1]
      have e : roF R j pt i = bl_T R.fs R.sn (2 * (i - 1)) := by
        unfold roF
        rw [if_neg (by omega), if_neg (by omega), bl_T0]
      rw [e]
      show blT R.fs R.sn R.n (2 * (i - 1)) = _ ∨ (blT R.fs R.sn R.n (2 * (i - 1)) = 19 ∧ _)
      rcases blT_eq R.fs R.sn R.n (2 * (i - 1)) with ⟨g, g1, g2, g3⟩ | ⟨g, -⟩
      · exact Or.inr ⟨g, g1, fun z => g3 (ro_ag hR hj g1 z)⟩
      · exact Or.inl g
  · obtain ⟨i, rfl⟩ : ∃ i, q = 2 * i + 1 := ⟨q / 2, by omega⟩
    rw [bl_T1, bl_T1, hs i (by omega)]
    by_cases h1 : i ≤ 1
    · rw [if_pos h1]; exact Or.inl rfl
    · rw [if_neg h1]
      have e : roC R j pt i = bl_T R.fs R.sn (2 * (i - 1) + 1) := by
        unfold roC
        rw [if_neg (by omega), if_neg (by omega), bl_T1]
      rw [e]
      show blT R.fs R.sn R.n (2 * (i - 1) + 1) = _ ∨ (blT R.fs R.sn R.n (2 * (i - 1) + 1) = 19 ∧ _)
      rcases blT_eq R.fs R.sn R.n (2 * (i - 1) + 1) with ⟨g, g1, g2, g3⟩ | ⟨g, -⟩
      · exact Or.inr ⟨g, g1, fun z => g3 (ro_ag hR hj g1 z)⟩
      · exact Or.inl g
theorem bn_bf (hR : wfR pl R) {j pt t : Nat} (ht : t ≤ 18) : bn R j pt t = true ↔ bf (knR R j pt) t ≠ 0 := by
  unfold bn
  rw [Bool.or_eq_true, Bool.or_eq_true]
  rcases bf_cases (knR R j pt) (t := t) (by omega) with ⟨e, h⟩ | ⟨e, h1, h2⟩
  · rw [e]
    constructor
    · rintro ((z | z) | z)
      · have := of_decide_eq_true z; omega
      · rw [Bool.and_eq_true] at z
        have := of_decide_eq_true z.1; omega
      · rw [Bool.and_eq_true] at z
        have := of_decide_eq_true z.1; omega
    · intro h0
      rcases h with h | ⟨-, h⟩
      · exact Or.inl (Or.inl (decide_eq_true ⟨by omega, h⟩))
      · by_cases h10 : t ≤ 10
        · exact Or.inl (Or.inl (decide_eq_true ⟨by omega, h10⟩))
        · have d : decide (11 ≤ t) = true := decide_eq_true (by omega)
          rw [d, Bool.true_and, Bool.true_and]
          rcases knR_iff.mp h with (g | g) | ⟨i, i1, i2, g⟩
          · left; right
            rw [Bool.or_eq_true, Bool.and_eq_true]
            unfold hX at g
            split at g
            · exact Or.inl ⟨decide_eq_true (by assumption), decide_eq_true g⟩
            · omega
          · left; right
            rw [Bool.or_eq_true, Bool.and_eq_true, Bool.and_eq_true]
            unfold hY at g
            split at g
            · exact Or.inr ⟨decide_eq_true (by assumption), decide_eq_true g⟩
            · omega
          · right
            rw [an_iff]
            refine ⟨i - 1, by omega, ?_⟩
            rw [show i - 1 + 1 = i by omega, Bool.or_eq_true]
            exact g.elim (fun z => Or.inl (decide_eq_true z)) (fun z => Or.inr (decide_eq_true z))
  · rw [e]
    have d : decide (11 ≤ t) = true := decide_eq_true (by omega)
    have h2 := h2 ht
    refine ⟨fun z => ?_, fun z => absurd rfl z⟩
    exfalso
    have hk : knR R j pt t = true := by
      rw [d, Bool.true_and, Bool.true_and] at z
      rcases z with (z | z) | z
      · have := of_decide_eq_true z; omega
      · rw [Bool.or_eq_true, Bool.and_eq_true, Bool.and_eq_true] at z
        refine knR_iff.mpr (Or.inl ?_)
        rcases z with ⟨z1, z2⟩ | ⟨z1, z2⟩
        · left; unfold hX; rw [if_pos (of_decide_eq_true z1)]; exact of_decide_eq_true z2
        · right; unfold hY; rw [if_pos (of_decide_eq_true z1)]; exact of_decide_eq_true z2
      · obtain ⟨i, i1, i2⟩ := an_iff.mp z
        rw [Bool.or_eq_true] at i2
        exact knR_iff.mpr (Or.inr ⟨i + 1, by omega, by omega, i2.elim (fun z => Or.inl (of_decide_eq_true z)) (fun z => Or.inr (of_decide_eq_true z))⟩)
    rw [h2] at hk
    cases hk
theorem pb_eq (hR : wfR pl R) {j pt : Nat} (hj : j < R.n) : pb R j pt = (if bX R j pt = 0 then 0 else 1) + (if bY R j pt = 0 then 0 else 2) := by
  unfold pb
  have a := bn_bf hR (j := j) (pt := pt) (hR.f18 (j + 1) (by omega))
  have b := bn_bf hR (j := j) (pt := pt) (hR.c18 (j + 1) (by omega))
  congr 1
  · by_cases h : bX R j pt = 0
    · rw [if_pos h, if_neg (fun z => a.mp z h)]
    · rw [if_neg h, if_pos (a.mpr h)]
  · by_cases h : bY R j pt = 0
    · rw [if_pos h, if_neg (fun z => b.mp z h)]
    · rw [if_neg h, if_pos (b.mpr h)]
end CB2
section CB3
variable {pl : Nat → Nat} {R : RU} {Ru : Nat → Bool}
theorem PB.mono {st fo so : Nat → Nat} {n : Nat} {C C' : SS} (h : ms_sub C C') {k x y : Nat} (q : PB st fo so n C k x y) : PB st fo so n C' k x y := by
  obtain ⟨w, h1, h2, h3⟩ := q
  exact ⟨w, h1, fun i i1 i2 => h _ _ _ (h2 i i1 i2), h3⟩
/-- what one rule calls by one pattern: patterns and calls of its first m atoms -/
def DJ (Ru : Nat → Bool) (R : RU) (pt m : Nat) (C : SS) (k x y : Nat) : Prop := ∃ j, j < m ∧ Ru (R.st (j + 1)) = true ∧ ((k = R.st (j + 1) ∧ x = 0 ∧ y = pb R j pt) ∨ PB (roS R j) (roF R j pt) (roC R j pt) (j + 1) C k x y)
theorem DJ.mono {pt m : Nat} {C C' : SS} (h : ms_sub C C') {k x y : Nat} (q : DJ Ru R pt m C k x y) : DJ Ru R pt m C' k x y := by
  obtain ⟨j, h1, h2, h3⟩ := q
  exact ⟨j, h1, h2, h3.elim Or.inl (fun z => Or.inr (z.mono h))⟩
theorem pt_10 : ∀ p, p < 4 → (nI p &&& 1 = 0 ↔ ¬ p % 2 = 1) := by decide +kernel
theorem pt_20 : ∀ p, p < 4 → (nI p &&& 2 = 0 ↔ ¬ p / 2 = 1) := by decide +kernel
theorem ten_add (q : Nat) : (10 : Int32) + nI q = nI (10 + q) := nI_add 10 q
theorem q_cbp {post : Int32 → (Nat → Int32) → (Nat → Int32) → (Nat → Int32) → (Nat → Int32) → Int32 → (Nat → Int32) → (Nat → Int32) → Prop} {qbr ors orf orc qpt rs rf rc : Nat → Int32} {ona na : Int32} {P : Nat → Bool} {S : SS} {pt : Nat}
    (hB : rB ors orf orc ona R) (hR : wfR pl R) (hpt : pt < 4) (hRu : mB qbr Ru 10) (hq : ∀ i, i < 10 → qpt i = nI (pm P i)) (hP : ∀ i, P i = true → i < 40) (hin : ms_in S) (hz : nz S)
    (hp : ∀ r P' S' qpt' rs' rf' rc' na', (∀ i, i < 10 → qpt' i = nI (pm P' i)) → (∀ i, P' i = true → i < 40) → ms_in S' → nz S' → ms_H (DJ Ru R pt R.n) (ov P S) r (ov P' S') → post (bI r) qpt' rs' rf' rc' na' (rF S') (vF vi0)) :
    wp_Qd_callByPattern post qbr ors orf orc ona qpt rs rf rc na (rF S) (vF vi0) (nI pt) := by
  have hna := hB.na
  subst hna
  have hn3 := hR.n3
  have hrl := rB.rl hB hR
  have hin0 : vp_in 0 4 := vp_in_nI (n := 0) (by omega) (by decide)
  have hs0 := hR.s10 0 (by omega)
  unfold wp_Qd_callByPattern
  rw [pt_10 pt hpt, pt_20 pt hpt, c0_, hB.f 0 (by omega), hB.c 0 (by omega), hB.s 0 (by omega), hR.hd.1, hR.hd.2, ten_add]
  refine xj_P (fun v => v = xb_t (hX R pt)) ?_ (fun J hJ => ⟨fun q => hJ _ (by unfold hX; rw [if_neg q]; decide), fun q => ⟨hin0, hJ _ (by unfold hX; rw [if_pos (Classical.not_not.mp q)])⟩⟩)
  intro v1 ev1
  subst ev1
  refine xj_P (fun v => v = xb_t (hY R pt)) ?_ (fun J hJ => ⟨fun q => hJ _ (by unfold hY; rw [if_neg q]; decide), fun q => ⟨hin0, hJ _ (by unfold hY; rw [if_pos (Classical.not_not.mp q)])⟩⟩)
  intro v3 ev3
  subst ev3
  have hx18 := hX_18 hR pt
  have hy18 := hY_18 hR pt
  refine q_vb (by omega) (q_vb (by omega) (fun x9 e9 => ?_))
  rw [mkI_or] at e9
  subst e9
  refine xL_up (fun j s => s.1 = nI (j + 1) ∧ ∃ (b : Bool) (P' : Nat → Bool) (S' : SS), s.2.1 = bI b ∧ s.2.2.1 = nI (mk (knR (RB R) j pt)) ∧ (∀ i, i < 10 → s.2.2.2.1 i = nI (pm P' i)) ∧ (∀ i, P' i = true → i < 40) ∧ s.2.2.2.2.2.2.2.2.1 = rF S' ∧ s.2.2.2.2.2.2.2.2.2 = vF vi0 ∧ ms_in S' ∧ nz S' ∧ ms_H (DJ Ru R pt j) (ov P S) b (ov P' S')) R.n ?_ (Nat.zero_le _) ⟨rfl, false, P, S, rfl, ?_, hq, hP, rfl, rfl, hin, hz, ms_H.none (fun k x y h => by obtain ⟨j, h1, -⟩ := h; omega)⟩
  · rintro j ⟨a1, b1, k1, qp1, rs1, rf1, rc1, na1, f1, v1⟩ hj ⟨z1, b, P', S', z2, z3, z4, z5, z6, z7, z8, z9, z10⟩ K hK
    dsimp only at z1 z2 z3 z4 z6 z7 ⊢
    rw [z1, z2, z3, z6, z7, nI_ltI (by omega) (by omega)]
    refine ⟨fun e => ⟨bI_nar b, ?_⟩, fun e => ?_⟩
    · have : j = R.n := by omega
      subst this
      exact hp b P' S' _ _ _ _ _ z4 z5 z8 z9 z10
    · have hj : j < R.n := by omega
      have hin4 : vp_in (nI (j + 1)) 4 := vp_in_nI (by omega) (by decide)
      have s10 := hR.s10 (j + 1) (by omega)
      have f19 := hrl.f19 (j + 1) (by omega)
      have c19 := hrl.c19 (j + 1) (by omega)
      rw [nI_clamp (by omega), hB.s (j + 1) (by omega), hB.f (j + 1) (by omega), hB.c (j + 1) (by omega)]
      refine ⟨hin4, fun x12 e12 => ?_⟩
      subst e12
      refine ⟨vp_in_nI s10 (by decide), ?_⟩
      refine xj_P (fun s => ∃ (b : Bool) (P' : Nat → Bool) (S' : SS), s.1 = bI b ∧ (∀ i, i < 10 → s.2.1 i = nI (pm P' i)) ∧ (∀ i, P' i = true → i < 40) ∧ s.2.2.2.2.2.2.1 = rF S' ∧ s.2.2.2.2.2.2.2 = vF vi0 ∧ ms_in S' ∧ nz S' ∧ ms_H (DJ Ru R pt (j + 1)) (ov P S) b (ov P' S')) ?_ ?_
      · rintro ⟨b2, qp2, rs2, rf2, rc2, na2, f2, v2⟩ ⟨b', P2, S2, y1, y2, y3, y4, y5, y6, y7, y8⟩
        dsimp only at y1 y2 y4 y5 ⊢
        refine ⟨hin4, q_vb f19 ⟨hin4, q_vb c19 (fun x19 e19 x20 e20 => hK hj _ ⟨by rw [e20, nI_1], b', P2, S2, y1, ?_, y2, y3, y4, y5, y6, y7, y8⟩)⟩⟩
        dsimp only
        rw [e19, mkI_or, mkI_or]
        refine congrArg nI (mk_congr (fun t _ _ => ?_))
        unfold knR
        simp only [an_]
        rw [Bool.or_assoc]
      · intro J hJ
        rw [nI_clamp (by omega), hRu _ s10, bI_t, bI_f]
        refine ⟨fun hu => hJ _ ⟨b, P', S', rfl, z4, z5, rfl, rfl, z8, z9, ?_⟩, fun hu => ⟨hin4, q_bof f19 ⟨hin4, q_bof c19 ?_⟩⟩⟩
        · refine z10.conv (fun C _ k x y q => ?_) (fun k x y q => ?_)
          · obtain ⟨j', h1, h2⟩ := q
            exact ⟨j', by omega, h2⟩
          · obtain ⟨j', h1, h2, h3⟩ := q
            by_cases e : j' = j
            · subst e; rw [hu] at h2; cases h2
            · exact ⟨j', by omega, h2, h3⟩
        · rw [bX_B hR hj, bY_B hR hj]
          have bx18 := bX_18 hR (pt := pt) hj
          have by18 := bY_18 hR (pt := pt) hj
          refine q_addP z4 s10 (by omega) (by omega) (fun qp27 h27 => ?_)
          rw [← pb_eq hR hj] at h27 ⊢
          have hpb := pb_lt R j pt
          intro x28 e28
          rw [bI_or] at e28
          rw [ten_add]
          refine q_begin (st := fun _ => 0) (fs := fun _ => 0) (sn := fun _ => 0) (fun rs31 rf32 rc33 na34 h31 => ⟨hin0, q_append h31 (by omega) (fun rs37 rf38 rc39 na40 h37 => q_appendB hB h37 (by omega) (by omega) (fun rs43 rf44 rc45 na46 h43 => q_blank h43 ?_ ?_ (fun rf49 rc50 h49 => ?_)))⟩)
          · intro i hi
            try dsimp only
            by_cases h1 : i ≤ 1
            · rw [if_pos h1]
              unfold cU
              split
              · omega
              · split
                · omega
                · omega
            · rw [if_neg h1]; exact hrl.f19 _ (by omega)
          · intro i hi
            try dsimp only
            by_cases h1 : i ≤ 1
            · rw [if_pos h1]
              unfold cU
              split
              · omega
              · split
                · omega
                · omega
            · rw [if_neg h1]; exact hrl.c19 _ (by omega)
          · have hst : ∀ i, i ≤ j + 1 → (if i ≤ 1 then cU (cU (fun _ => 0) 0 (10 + R.st (j + 1))) (0 + 1) (10 + R.st 0) i else R.st (i - 1)) = roS R j i := by
              intro i hi
              unfold roS cU
              by_cases e0 : i = 0
              · subst e0; rfl
              · by_cases e1 : i = 1
                · subst e1; rfl
                · rw [if_neg (by omega), if_neg e0, if_neg e1]
            have h49' := h49.congr (st' := roS R j) hst (fun _ _ => rfl) (fun _ _ => rfl)
            refine q_followB (fo := roF R j pt) (so := roC R j pt) h49' (ro_is hR hj (fun i hi => ?_) (fun i hi => ?_)) (ro_sf hR hj) (ro_T hR hj) (fun i hi => ?_) z8 (fun r S2 hH hin2 => ?_)
            · by_cases e0 : i = 0
              · subst e0; rfl
              · by_cases e1 : i = 1
                · subst e1; rfl
                · rw [if_neg (by omega), if_neg (by omega)]
            · by_cases e0 : i = 0
              · subst e0; rfl
              · by_cases e1 : i = 1
                · subst e1; rfl
                · rw [if_neg (by omega), if_neg (by omega)]
            · unfold roS
              split
              · omega
              · split
                · omega
                · have := hR.s10 (i - 1) (by omega); omega
            · intro x55 e55
              rw [e28, bI_or] at e55
              have hlift := ov_H (P := mS P' (4 * R.st (j + 1) + pb R j pt)) hH z9 (fun C k x y q => by
                obtain ⟨w, -, -, e, -⟩ := q
                rw [e]
                show 10 ≤ 10 + R.st (j + 1)
                omega) (fun C C' h k x y q => by
                obtain ⟨w, h1, h2, h3⟩ := q
                refine ⟨w, h1, fun i i1 i2 => h _ _ _ ?_ (h2 i i1 i2), h3⟩
                by_cases e1 : i = 1
                · left; subst e1; show 10 ≤ 10 + R.st 0; omega
                · right
                  unfold roF
                  rw [if_neg (by omega), if_neg e1]
                  exact h1.pos (hR.f1 _ (by omega)) (hR.f18 _ (by omega)))
              refine hJ _ ⟨_, mS P' (4 * R.st (j + 1) + pb R j pt), S2, e55, h27, fun i hi => ?_, rfl, rfl, hin2, hlift.2, ?_⟩
              · unfold mS at hi
                by_cases e : i = 4 * R.st (j + 1) + pb R j pt
                · omega
                · rw [if_neg e] at hi; exact z5 i hi
              · have hput : ms_H (fun _ k' x' y' => k' = R.st (j + 1) ∧ x' = 0 ∧ y' = pb R j pt) (ov P' S') (!(P' (4 * R.st (j + 1) + pb R j pt))) (ov (mS P' (4 * R.st (j + 1) + pb R j pt)) S') := by
                  rw [ov_put s10 hpb, ← ov_p (P := P') (S := S') s10 hpb]
                  exact put_H
                refine (ms_H.seq (P2 := PB (roS R j) (roF R j pt) (roC R j pt) (j + 1)) (fun C C' h k x y q => PB.mono h q) (ms_H.seq (fun _ _ _ _ _ _ q => q) z10 hput) hlift.1).conv (fun C _ k x y q => ?_) (fun k x y q => ?_)
                · rcases q with (⟨j', h1, h2⟩ | q) | q
                  · exact ⟨j', by omega, h2⟩
                  · exact ⟨j, by omega, hu, Or.inl q⟩
                  · exact ⟨j, by omega, hu, Or.inr q⟩
                · obtain ⟨j', h1, h2, h3⟩ := q
                  by_cases e : j' = j
                  · subst e
                    rcases h3 with h3 | h3
                    · exact Or.inl (Or.inr h3)
                    · exact Or.inr h3
                  · exact Or.inl (Or.inl ⟨j', by omega, h2, h3⟩)
  · show nI _ = nI _
    refine congrArg nI (mk_congr (fun t _ _ => ?_))
    unfold knR
    rw [hX_B hR, hY_B hR]
    simp only [an_, Bool.or_false]
end CB3
