/-! RULES, AND THE REFERENCE'S MODEL -/
abbrev RU : Type := (Nat → Nat) × (Nat → Nat) × (Nat → Nat) × Nat
abbrev RU.st (R : RU) : Nat → Nat := R.1
abbrev RU.fs (R : RU) : Nat → Nat := R.2.1
abbrev RU.sn (R : RU) : Nat → Nat := R.2.2.1
abbrev RU.n (R : RU) : Nat := R.2.2.2
/-- a rule that is right: pl gives each predicate's places -/
abbrev wfR (pl : Nat → Nat) (R : RU) : Prop := (1 ≤ R.n) ∧ (R.n ≤ 3) ∧ (∀ k, k ≤ R.n → R.st k < 10) ∧ (∀ k, k ≤ R.n → 1 ≤ R.fs k) ∧ (∀ k, k ≤ R.n → R.fs k ≤ 18) ∧ (∀ k, k ≤ R.n → R.sn k ≤ 18) ∧ (∀ k, k ≤ R.n → (pl (R.st k) = 1 ↔ R.sn k = 0)) ∧ (∀ t, 11 ≤ t → (t = R.fs 0 ∨ t = R.sn 0) → ∃ i, 1 ≤ i ∧ i ≤ R.n ∧ (R.fs i = t ∨ R.sn i = t))
theorem wfR.n1 {pl : Nat → Nat} {R : RU} (h_ : wfR pl R) : 1 ≤ R.n := h_.1
theorem wfR.n3 {pl : Nat → Nat} {R : RU} (h_ : wfR pl R) : R.n ≤ 3 := h_.2.1
theorem wfR.s10 {pl : Nat → Nat} {R : RU} (h_ : wfR pl R) : ∀ k, k ≤ R.n → R.st k < 10 := h_.2.2.1
theorem wfR.f1 {pl : Nat → Nat} {R : RU} (h_ : wfR pl R) : ∀ k, k ≤ R.n → 1 ≤ R.fs k := h_.2.2.2.1
theorem wfR.f18 {pl : Nat → Nat} {R : RU} (h_ : wfR pl R) : ∀ k, k ≤ R.n → R.fs k ≤ 18 := h_.2.2.2.2.1
theorem wfR.c18 {pl : Nat → Nat} {R : RU} (h_ : wfR pl R) : ∀ k, k ≤ R.n → R.sn k ≤ 18 := h_.2.2.2.2.2.1
theorem wfR.c0 {pl : Nat → Nat} {R : RU} (h_ : wfR pl R) : ∀ k, k ≤ R.n → (pl (R.st k) = 1 ↔ R.sn k = 0) := h_.2.2.2.2.2.2.1
theorem wfR.safe {pl : Nat → Nat} {R : RU} (h_ : wfR pl R) : ∀ t, 11 ≤ t → (t = R.fs 0 ∨ t = R.sn 0) → ∃ i, 1 ≤ i ∧ i ≤ R.n ∧ (R.fs i = t ∨ R.sn i = t) := h_.2.2.2.2.2.2.2
/-- rule r in the reference's arrays -/
abbrev rR (oa la ga sz : Nat → Int32) (r : Nat) (R : RU) : Prop := (sz r = nI R.n) ∧ (∀ k, k ≤ R.n → oa (4 * r + k) = nI (R.st k)) ∧ (∀ k, k ≤ R.n → la (4 * r + k) = xb_t (R.fs k)) ∧ (∀ k, k ≤ R.n → ga (4 * r + k) = xb_t (R.sn k))
theorem rR.z {oa la ga sz : Nat → Int32} {r : Nat} {R : RU} (h_ : rR oa la ga sz r R) : sz r = nI R.n := h_.1
theorem rR.o {oa la ga sz : Nat → Int32} {r : Nat} {R : RU} (h_ : rR oa la ga sz r R) : ∀ k, k ≤ R.n → oa (4 * r + k) = nI (R.st k) := h_.2.1
theorem rR.l {oa la ga sz : Nat → Int32} {r : Nat} {R : RU} (h_ : rR oa la ga sz r R) : ∀ k, k ≤ R.n → la (4 * r + k) = xb_t (R.fs k) := h_.2.2.1
theorem rR.g {oa la ga sz : Nat → Int32} {r : Nat} {R : RU} (h_ : rR oa la ga sz r R) : ∀ k, k ≤ R.n → ga (4 * r + k) = xb_t (R.sn k) := h_.2.2.2
theorem rR.ra {oa la ga sz : Nat → Int32} {r : Nat} {R : RU} {pl : Nat → Nat} (h : rR oa la ga sz r R) (hw : wfR pl R) (hr : r ≤ 30) {m : Nat} (hm : m ≤ R.n) : ra_ oa la ga r m (fun k => R.st (k + 1)) (fun k => R.fs (k + 1)) (fun k => R.sn (k + 1)) := by
  have h3 := hw.n3
  refine ⟨hr, by omega, fun k hk => ?_, fun k hk => hw.s10 _ (by omega), fun k hk => ?_, fun k hk => hw.f18 _ (by omega), fun k hk => ?_, fun k hk => hw.c18 _ (by omega)⟩
  · rw [show 4 * r + 1 + k = 4 * r + (k + 1) by omega]; exact h.o _ (by omega)
  · rw [show 4 * r + 1 + k = 4 * r + (k + 1) by omega]; exact h.l _ (by omega)
  · rw [show 4 * r + 1 + k = 4 * r + (k + 1) by omega]; exact h.g _ (by omega)
abbrev w10 (w : Nat → Nat) : Prop := ∀ v, w v < 10
theorem raV_lt {w : Nat → Nat} (h : w10 w) {t : Nat} (ht : t ≤ 18) : raV w t < 10 := by
  unfold raV
  have := h (t - 11)
  split <;> omega
/-- the number of an atom's fact -/
def ixA (R : RU) (w : Nat → Nat) (k : Nat) : Nat := 100 * R.st k + 10 * raV w (R.fs k) + raV w (R.sn k)
def bdM (M : Nat → Bool) (R : RU) (w : Nat → Nat) (m : Nat) : Prop := ∀ i, 1 ≤ i → i ≤ m → M (ixA R w i) = true
def vI (w : Nat → Nat) (t : Nat) : Int32 := if t = 0 then -1 else nI (raV w t)
theorem q_value {post : Int32 → Prop} {vl : Nat → Int32} {w : Nat → Nat} {t : Nat} (ht : t ≤ 18) (hv : 11 ≤ t → vl (t - 11) = nI (w (t - 11))) (hp : post (vI w t)) : wp_Mo_value post vl (xb_t t) := by
  unfold wp_Mo_value xj
  rw [xt_0 t ht]
  refine ⟨fun h => ?_, fun h => ?_⟩
  · rw [xt_m t ht h, nI_clamp (by omega), hv h]
    refine ⟨vp_in_nI (by omega) (by decide), ?_⟩
    unfold vI raV at hp
    rw [if_neg (by omega), if_neg (by omega)] at hp
    exact hp
  · by_cases h0 : t = 0
    · unfold vI at hp
      rw [if_pos h0] at hp; subst h0; exact hp
    · unfold vI raV at hp
      rw [if_neg h0, if_pos (by omega)] at hp
      obtain ⟨u, rfl⟩ : ∃ u, t = u + 1 := ⟨t - 1, by omega⟩
      rw [xb_t1]; exact hp
theorem q_place {post : Int32 → Prop} {w : Nat → Nat} {p t u : Nat} (hw : w10 w) (hp10 : p < 10) (ht1 : 1 ≤ t) (ht : t ≤ 18) (hu : u ≤ 18) (hp : post (nI (100 * p + 10 * raV w t + raV w u))) : wp_Mo_place post (nI p) (vI w t) (vI w u) := by
  unfold wp_Mo_place xj
  have hx := raV_lt hw ht
  have hy := raV_lt hw hu
  have e1 : vI w t = nI (raV w t) := if_neg (by omega)
  rw [e1, show (100 : Int32) = nI 100 from rfl, show (10 : Int32) = nI 10 from rfl, pk_mul, pk_mul, nI_add]
  by_cases h0 : u = 0
  · have e2 : vI w u = -1 := if_pos h0
    have e3 : raV w u = 0 := by subst h0; rfl
    rw [e3] at hp
    rw [e2]
    refine ⟨fun q => absurd q (by decide), fun _ => ?_⟩
    show post (nI (100 * p + 10 * raV w t) + nI 0)
    rw [nI_add]
    exact hp
  · have e2 : vI w u = nI (raV w u) := if_neg h0
    rw [e2]
    refine ⟨fun _ => ?_, fun q => absurd (nI_pos' (by omega)) q⟩
    show post (nI (100 * p + 10 * raV w t) + nI (raV w u))
    rw [nI_add]
    exact hp
section MO
/-- what a bound variable of a found match is -/
theorem raT_bound {t x b : Nat} {A : raAS} (h : (raT t x b A).1 = true) (ht : 11 ≤ t) : (raT t x b A).2 (t - 11) ≠ none := by
  unfold raT
  rw [if_neg (by omega), if_neg (by omega)]
  cases q : A (t - 11) with
  | none => dsimp only; unfold raUp; rw [if_pos rfl]; exact fun z => by cases z
  | some p => dsimp only; rw [q]; exact fun z => by cases z
theorem raE.keep {b : Nat} {A A' : raAS} (h : raE b A A') {v : Nat} (q : A v ≠ none) : A' v ≠ none := by
  rcases h v with e | ⟨e, -⟩
  · rw [e]; exact q
  · exact absurd e q
theorem raO.bound {M : Nat → Bool} {of lf rg : Nat → Nat} {A0 : raAS} {c : Nat → Nat} : ∀ {d : Nat} {A : raAS}, raO M of lf rg A0 c d A → ∀ k t, k < d → 11 ≤ t → (lf k = t ∨ rg k = t) → A (t - 11) ≠ none
  | 0, A, h, k, t, hk, _, _ => by omega
  | d + 1, A, h, k, t, hk, ht, hs => by
    obtain ⟨B, h1, h2, h3, h4, h5⟩ := h
    subst h5
    by_cases e : k = d
    · subst e
      rcases hs with e | e
      · subst e; exact (raT_ext _ _ _ _).keep (raT_bound h4.2.1 ht)
      · subst e; exact raT_bound h4.2.2 ht
    · exact (raT_ext _ _ _ _).keep ((raT_ext _ _ _ _).keep (raO.bound h1 k t (by omega) ht hs))
def wA (A : raAS) : Nat → Nat := fun v => match A v with
  | none => 0
  | some p => p.1
theorem wA_s (A : raAS) : raS A (wA A) := fun v y b h => by unfold wA; rw [h]
theorem wA_10 {A : raAS} (h : raK A) : w10 (wA A) := fun v => by
  unfold wA
  cases q : A v with
  | none => dsimp only; omega
  | some p => exact (h v _ _ q).1
theorem wA_v {vl bY : Nat → Int32} {A : raAS} (h : raA vl bY A) {v : Nat} (hv : v < 8) (hn : A v ≠ none) : vl v = nI (wA A v) := by
  rw [h.v v hv]
  unfold wA
  cases q : A v with
  | none => exact absurd q hn
  | some p => rfl
theorem wA_eq {A : raAS} {w : Nat → Nat} (h : raS A w) {v : Nat} (hn : A v ≠ none) : wA A v = w v := by
  unfold wA
  cases q : A v with
  | none => exact absurd q hn
  | some p => exact (h v _ _ q).symm
/-- facts of a predicate of one place have 0 behind -/
def mV (pl : Nat → Nat) (M : Nat → Bool) : Prop := ∀ f, M f = true → f < 1000 ∧ (pl (f / 100) = 1 → f % 10 = 0)
theorem bd_raM {pl : Nat → Nat} {M : Nat → Bool} {R : RU} {w : Nat → Nat} {m : Nat} (hR : wfR pl R) (hw : w10 w) (hm : m ≤ R.n) (h : bdM M R w m) {A0 : raAS} (h0 : raS A0 w) : raM M (fun k => R.st (k + 1)) (fun k => R.fs (k + 1)) (fun k => R.sn (k + 1)) m A0 w (fun k => 10 * raV w (R.fs (k + 1)) + raV w (R.sn (k + 1))) := by
  refine ⟨h0, fun k hk => ?_⟩
  have a := raV_lt hw (hR.f18 (k + 1) (by omega))
  have b := raV_lt hw (hR.c18 (k + 1) (by omega))
  refine ⟨by dsimp only; omega, ?_, Or.inr (by dsimp only; omega), Or.inr (by dsimp only; omega)⟩
  have := h (k + 1) (by omega) (by omega)
  unfold ixA at this
  rw [show 100 * R.st (k + 1) + (10 * raV w (R.fs (k + 1)) + raV w (R.sn (k + 1))) = 100 * R.st (k + 1) + 10 * raV w (R.fs (k + 1)) + raV w (R.sn (k + 1)) by omega]
  exact this
theorem raM_bd {pl : Nat → Nat} {M : Nat → Bool} {R : RU} {w x : Nat → Nat} {m : Nat} (hR : wfR pl R) (hm : m ≤ R.n) (hM : mV pl M) {A0 : raAS} (h : raM M (fun k => R.st (k + 1)) (fun k => R.fs (k + 1)) (fun k => R.sn (k + 1)) m A0 w x) : bdM M R w m := by
  intro i h1 h2
  obtain ⟨k, rfl⟩ : ∃ k, i = k + 1 := ⟨i - 1, by omega⟩
  obtain ⟨g1, g2, g3, g4⟩ := h.2 k (by omega)
  have f1 := hR.f1 (k + 1) (by omega)
  have hs := hR.s10 (k + 1) (by omega)
  have g3 : raV w (R.fs (k + 1)) = x k / 10 := g3.resolve_left (by dsimp only; omega)
  have g5 : raV w (R.sn (k + 1)) = x k % 10 := by
    rcases g4 with z | z
    · have hp := (hR.c0 (k + 1) (by omega)).mpr z
      have := (hM _ g2).2
      rw [show (100 * R.st (k + 1) + x k) / 100 = R.st (k + 1) by omega] at this
      have := this hp
      have z : R.sn (k + 1) = 0 := z
      rw [z]
      show 0 = _
      omega
    · exact z
  unfold ixA
  rw [g3, g5, show 100 * R.st (k + 1) + 10 * (x k / 10) + x k % 10 = 100 * R.st (k + 1) + x k by omega]
  exact g2
/-- closed under a rule -/
def clR (M : Nat → Bool) (R : RU) : Prop := ∀ w, w10 w → bdM M R w R.n → M (ixA R w 0) = true
/-- what stands while the rules are gone through: Mp at the pass's start, Mc now -/
abbrev mI (pl : Nat → Nat) (RS : Nat → RU) (nr : Nat) (T Mp Mc : Nat → Bool) (b : Bool) : Prop := (∀ i, Mp i = true → Mc i = true) ∧ (b = false → Mc = Mp) ∧ (b = true → ∃ i, i < 1000 ∧ Mc i = true ∧ Mp i = false) ∧ (∀ C : Nat → Bool, (∀ i, T i = true → C i = true) → (∀ r, r < nr → clR C (RS r)) → ∀ i, Mc i = true → C i = true) ∧ (mV pl Mc)
theorem mI.sub {pl : Nat → Nat} {RS : Nat → RU} {nr : Nat} {T Mp Mc : Nat → Bool} {b : Bool} (h_ : mI pl RS nr T Mp Mc b) : ∀ i, Mp i = true → Mc i = true := h_.1
theorem mI.same {pl : Nat → Nat} {RS : Nat → RU} {nr : Nat} {T Mp Mc : Nat → Bool} {b : Bool} (h_ : mI pl RS nr T Mp Mc b) : b = false → Mc = Mp := h_.2.1
theorem mI.more {pl : Nat → Nat} {RS : Nat → RU} {nr : Nat} {T Mp Mc : Nat → Bool} {b : Bool} (h_ : mI pl RS nr T Mp Mc b) : b = true → ∃ i, i < 1000 ∧ Mc i = true ∧ Mp i = false := h_.2.2.1
theorem mI.mid {pl : Nat → Nat} {RS : Nat → RU} {nr : Nat} {T Mp Mc : Nat → Bool} {b : Bool} (h_ : mI pl RS nr T Mp Mc b) : ∀ C : Nat → Bool, (∀ i, T i = true → C i = true) → (∀ r, r < nr → clR C (RS r)) → ∀ i, Mc i = true → C i = true := h_.2.2.2.1
theorem mI.v {pl : Nat → Nat} {RS : Nat → RU} {nr : Nat} {T Mp Mc : Nat → Bool} {b : Bool} (h_ : mI pl RS nr T Mp Mc b) : mV pl Mc := h_.2.2.2.2
def mS (M : Nat → Bool) (f : Nat) : Nat → Bool := fun i => if i = f then true else M i
theorem mS_same {M : Nat → Bool} {f : Nat} (h : M f = true) : mS M f = M := by
  funext i
  unfold mS
  by_cases e : i = f
  · subst e; rw [if_pos rfl, h]
  · rw [if_neg e]
theorem mI.step {pl : Nat → Nat} {RS : Nat → RU} {nr : Nat} {T Mp Mc : Nat → Bool} {b : Bool} (h : mI pl RS nr T Mp Mc b) {r : Nat} (hr : r < nr) (hR : wfR pl (RS r)) {w : Nat → Nat} (hw : w10 w) (hb : bdM Mc (RS r) w (RS r).n) : mI pl RS nr T Mp (mS Mc (ixA (RS r) w 0)) (b || !(Mc (ixA (RS r) w 0))) := by
  have a := raV_lt hw (hR.f18 0 (by omega))
  have b' := raV_lt hw (hR.c18 0 (by omega))
  have c := hR.s10 0 (by omega)
  have hix : ixA (RS r) w 0 < 1000 := by unfold ixA; omega
  have hsub : ∀ i, Mc i = true → mS Mc (ixA (RS r) w 0) i = true := fun i q => by unfold mS; split <;> first | rfl | exact q
  refine ⟨fun i q => hsub i (h.sub i q), fun q => ?_, fun q => ?_, fun C h1 h2 i q => ?_, fun f q => ?_⟩
  · rw [Bool.or_eq_false_iff] at q
    rw [mS_same (by simpa using q.2)]
    exact h.same q.1
  · cases hbq : b with
    | true =>
      obtain ⟨i, i1, i2, i3⟩ := h.more hbq
      exact ⟨i, i1, hsub i i2, i3⟩
    | false =>
      rw [hbq, Bool.false_or] at q
      have q : Mc (ixA (RS r) w 0) = false := by simpa using q
      refine ⟨_, hix, by simp [mS], ?_⟩
      rw [← h.same hbq]; exact q
  · unfold mS at q
    by_cases e : i = ixA (RS r) w 0
    · subst e
      exact h2 r hr w hw (fun k k1 k2 => h.mid C h1 h2 _ (hb k k1 k2))
    · rw [if_neg e] at q
      exact h.mid C h1 h2 i q
  · unfold mS at q
    by_cases e : f = ixA (RS r) w 0
    · subst e
      refine ⟨hix, fun hp => ?_⟩
      unfold ixA at hp ⊢
      rw [show (100 * (RS r).st 0 + 10 * raV w ((RS r).fs 0) + raV w ((RS r).sn 0)) / 100 = (RS r).st 0 by omega] at hp
      have := (hR.c0 0 (by omega)).mp hp
      have e0 : raV w ((RS r).sn 0) = 0 := by rw [this]; rfl
      omega
    · rw [if_neg e] at q
      exact h.v f q
end MO
section MO2
def lfM (RS : Nat → RU) (nr : Nat) (T : Nat → Bool) (i : Nat) : Prop := ∀ C : Nat → Bool, (∀ j, T j = true → C j = true) → (∀ r, r < nr → clR C (RS r)) → C i = true
theorem nar_b (b : Bool) : vp_nar .boolean (bI b) = bI b := by cases b <;> rfl
theorem nar_1 : vp_nar .boolean 1 = bI true := rfl
theorem mB_up {f : Nat → Int32} {M : Nat → Bool} {n k : Nat} (h : mB f M n) : mB (upd f k (bI true)) (mS M k) n := by
  intro i hi
  unfold upd mS
  by_cases e : i = k
  · rw [if_pos e, if_pos e]
  · rw [if_neg e, if_neg e]; exact h i hi
theorem nI_leX {j : Nat} (N : Nat) (hj : j ≤ N) (hN : N < 2 ^ 31) : nI N ≤ nI j ↔ j = N := by
  rw [nI_leI hN (by omega)]
  omega
/-- what stands between passes -/
abbrev mJ (pl : Nat → Nat) (RS : Nat → RU) (nr : Nat) (T M : Nat → Bool) : Prop := (∀ i, T i = true → M i = true) ∧ (∀ C : Nat → Bool, (∀ i, T i = true → C i = true) → (∀ r, r < nr → clR C (RS r)) → ∀ i, M i = true → C i = true) ∧ (mV pl M)
theorem mJ.sub {pl : Nat → Nat} {RS : Nat → RU} {nr : Nat} {T M : Nat → Bool} (h_ : mJ pl RS nr T M) : ∀ i, T i = true → M i = true := h_.1
theorem mJ.mid {pl : Nat → Nat} {RS : Nat → RU} {nr : Nat} {T M : Nat → Bool} (h_ : mJ pl RS nr T M) : ∀ C : Nat → Bool, (∀ i, T i = true → C i = true) → (∀ r, r < nr → clR C (RS r)) → ∀ i, M i = true → C i = true := h_.2.1
theorem mJ.v {pl : Nat → Nat} {RS : Nat → RU} {nr : Nat} {T M : Nat → Bool} (h_ : mJ pl RS nr T M) : mV pl M := h_.2.2
theorem mJ.start {pl : Nat → Nat} {RS : Nat → RU} {nr : Nat} {T M : Nat → Bool} (h : mJ pl RS nr T M) : mI pl RS nr T M M false := ⟨fun _ q => q, fun _ => rfl, fun q => (by cases q), h.mid, h.v⟩
theorem mI.fin {pl : Nat → Nat} {RS : Nat → RU} {nr : Nat} {T Mp M : Nat → Bool} {b : Bool} (h : mI pl RS nr T Mp M b) (h0 : mJ pl RS nr T Mp) : mJ pl RS nr T M := ⟨fun i q => h.sub i (h0.sub i q), h.mid, h.v⟩
theorem raM.mono {M M' : Nat → Bool} {of lf rg : Nat → Nat} {m : Nat} {A0 : raAS} {w x : Nat → Nat} (hs : ∀ i, M i = true → M' i = true) (h : raM M of lf rg m A0 w x) : raM M' of lf rg m A0 w x := ⟨h.1, fun k hk => ⟨(h.2 k hk).1, hs _ (h.2 k hk).2.1, (h.2 k hk).2.2⟩⟩
/-- a head's terms have values when the body is matched -/
theorem hd_val {pl : Nat → Nat} {R : RU} {M : Nat → Bool} {A0 A : raAS} {c : Nat → Nat} (hR : wfR pl R) (h : raO M (fun k => R.st (k + 1)) (fun k => R.fs (k + 1)) (fun k => R.sn (k + 1)) A0 c R.n A) {t : Nat} (ht : t = R.fs 0 ∨ t = R.sn 0) (h11 : 11 ≤ t) : A (t - 11) ≠ none := by
  obtain ⟨i, i1, i2, i3⟩ := hR.safe t h11 ht
  refine h.bound (i - 1) t (by omega) h11 ?_
  rw [show i - 1 + 1 = i by omega]
  exact i3
theorem raV_eq {A : raAS} {w : Nat → Nat} {t : Nat} (hs : raS A w) (hn : 11 ≤ t → A (t - 11) ≠ none) : raV (wA A) t = raV w t := by
  unfold raV
  split
  · rfl
  · exact wA_eq hs (hn (by omega))
theorem q_models {post : (Nat → Int32) → (Nat → Int32) → (Nat → Int32) → (Nat → Int32) → Int32 → Int32 → Int32 → Prop} {td oa la ga sz md vl bY ch : Nat → Int32} {ru at' dp : Int32} {T : Nat → Bool} {RS : Nat → RU} {nr : Nat} {pl : Nat → Nat}
    (hT : mB td T 1000) (hTv : mV pl T) (hR : ∀ r, r < nr → rR oa la ga sz r (RS r)) (hwf : ∀ r, r < nr → wfR pl (RS r)) (hnr : nr ≤ 30)
    (hp : ∀ md' vl' bY' ch' a b c M, mB md' M 1000 → mV pl M → (∀ i, M i = true ↔ lfM RS nr T i) → post md' vl' bY' ch' a b c) : wp_Mo_models post td oa la ga sz (nI nr) md vl bY ch ru at' dp := by
  unfold wp_Mo_models
  refine xL_up (fun j s => s.1 = nI j ∧ ∀ i, i < j → s.2.1 i = bI (T i)) 1000 ?_ (Nat.zero_le _) ⟨rfl, fun i hi => by omega⟩
  rintro j ⟨j1, md1, rest⟩ hj ⟨e1, e2⟩ K hK
  dsimp only at e1 e2 ⊢
  rw [e1, show (1000 : Int32) = nI 1000 from rfl, nI_leX 1000 hj (by omega)]
  refine ⟨fun hjj => ?_, fun hjj => ?_⟩
  · subst hjj
    refine xL_by (fun j s => ∃ (M : Nat → Bool) (b : Bool), j = 2 * cn_ M 1000 + (if b = true then 0 else 1) ∧ s.1 = bI b ∧ mB s.2.1 M 1000 ∧ mJ pl RS nr T M ∧ (b = false → ∀ r, r < nr → clR M (RS r))) 2001 ?_ ?_ (j := 2 * cn_ T 1000) ⟨T, true, rfl, rfl, e2, ⟨fun _ q => q, fun C h1 _ => h1, hTv⟩, fun q => by cases q⟩
    · rintro j s ⟨M, b, rfl, -⟩
      have := cn_le M 1000
      split <;> omega
    · rintro j ⟨mo, md2, vl2, bY2, ch2, ru2, at2, dp2⟩ ⟨Mp, b, rfl, q1, q2, q3, q4⟩ K4 hK4
      dsimp only at q1 q2 ⊢
      rw [q1]
      refine ⟨fun hb => ?_, fun hb => ?_⟩
      · refine hp _ _ _ _ _ _ _ Mp q2 q3.v (fun i => ⟨fun z C h1 h2 => q3.mid C h1 h2 i z, fun z => z Mp q3.sub (q4 (bI_f.mp hb))⟩)
      · have hb := bI_t.mp hb
        subst hb
        refine xL_up (fun j s => s.1 = nI j ∧ ∃ (Mc : Nat → Bool) (b : Bool), s.2.1 = bI b ∧ mB s.2.2.1 Mc 1000 ∧ mI pl RS nr T Mp Mc b ∧ ∀ r, r < j → ∀ w, w10 w → bdM Mp (RS r) w (RS r).n → Mc (ixA (RS r) w 0) = true) nr ?_ (Nat.zero_le _) ⟨rfl, Mp, false, rfl, q2, q3.start, fun r hr => by omega⟩
        rintro r ⟨r1, mo5, md5, vl5, bY5, ch5, ru5, at5, dp5⟩ hr ⟨g1, Mc, b, g2, g3, g4, g5⟩ K6 hK6
        dsimp only at g1 g2 g3 ⊢
        rw [g1, nI_leX nr hr (by omega)]
        refine ⟨fun hrr => ?_, fun hrr => ?_⟩
        · subst hrr
          refine hK4 (2 * cn_ Mc 1000 + (if b = true then 0 else 1)) _ ?_ ⟨Mc, b, rfl, g2, g3, g4.fin q3, fun hb => ?_⟩
          · cases hb : b with
            | true =>
              have := cn_lt 1000 (fun i _ q => g4.sub i q) (g4.more hb)
              simp
              omega
            | false => rw [g4.same hb]; simp
          · rw [g4.same hb] at g5 ⊢
            exact g5
        · have hr : r < nr := by omega
          have hwr := hwf r hr
          have h1n := hwr.n1
          have h3n := hwr.n3
          have hRr := hR r hr
          have hra := hRr.ra hwr (by omega) (Nat.le_refl _)
          rw [nI_clamp (by omega), hRr.z]
          refine ⟨vp_in_nI (by omega) (by decide), q_begins (fun vl9 bY10 hv9 => ?_)⟩
          have h00 : ra0 (fun _ => none) := fun v c b q => by cases q
          refine xL_by (fun j s => ∃ (Md : Nat → Bool) (bd : Bool) (DS : (Nat → Nat) → Prop), s.1 = bI bd ∧ mB s.2.1 Md 1000 ∧ mI pl RS nr T Mp Md bd ∧ (∀ i, Mc i = true → Md i = true) ∧ s.2.2.2.2.2.1 = nI r ∧ s.2.2.2.2.2.2.1 = nI (RS r).n ∧
            gT Md (fun k => (RS r).st (k + 1)) (fun k => (RS r).fs (k + 1)) (fun k => (RS r).sn (k + 1)) (fun _ => none) (RS r).n s.2.2.1 s.2.2.2.1 s.2.2.2.2.1 s.2.2.2.2.2.2.2 DS j ∧
            ∀ w x, raM Mp (fun k => (RS r).st (k + 1)) (fun k => (RS r).fs (k + 1)) (fun k => (RS r).sn (k + 1)) (RS r).n (fun _ => none) w x → DS x → Md (ixA (RS r) w 0) = true) 20000000 ?_ ?_ (j := 0)
            ⟨Mc, b, fun _ => False, g2, g3, g4, fun _ q => q, rfl, rfl, Or.inl ⟨rfl, rfl, hv9, (by show upd ch5 0 (-1) 0 = -1; exact if_pos rfl), rfl⟩, fun _ _ _ z => z.elim⟩
          · rintro j s ⟨Md, bd, DS, -, -, -, -, -, -, z, -⟩
            exact z.le h3n
          · rintro j ⟨mo15, md15, vl15, bY15, ch15, ru15, at15, dp15⟩ ⟨Md, bd, DS, y1, y2, y3, y4, y5, y6, y7, y8⟩ K16 hK16
            dsimp only at y1 y2 y5 y6 y7 ⊢
            rw [y1, y5, y6]
            refine q_goes hra h00 y2 h1n y7 ⟨fun hall vl' bY' ch' => ⟨fun _ x24 e24 => ?_, fun q => absurd rfl q⟩, fun vl' bY' ch' c A hs hc0 hj' hlx => ⟨fun q => absurd q (by decide), fun _ => ?_⟩⟩
            · refine hK6 hr _ ⟨by rw [e24, nI_1], Md, bd, rfl, y2, y3, fun r' hr' w hw hbd => ?_⟩
              by_cases e : r' = r
              · subst e
                have hm := bd_raM hwr hw (Nat.le_refl _) hbd (A0 := fun _ => none) (fun v y b q => by cases q)
                exact y8 w _ hm (hall w _ (hm.mono y3.sub))
              · exact y4 _ (g5 r' (by omega) w hw hbd)
            · have ho : oa (4 * r) = _ := hRr.o 0 (by omega)
              have hl : la (4 * r) = _ := hRr.l 0 (by omega)
              have hg : ga (4 * r) = _ := hRr.g 0 (by omega)
              have hin : vp_in (nI (4 * r)) 124 := vp_in_nI (by omega) (by decide)
              rw [show (4 : Int32) = nI 4 from rfl, pk_mul, nI_clamp (by omega), ho, hl, hg]
              have hK := hs.ok.ok h00 h3n
              have hw := wA_10 hK
              have hf18 := hwr.f18 0 (by omega)
              have hc18 := hwr.c18 0 (by omega)
              have hf1 := hwr.f1 0 (by omega)
              have hs10 := hwr.s10 0 (by omega)
              refine ⟨hin, hin, q_value (w := wA A) hf18 (fun h11 => wA_v hs.va (by omega) (hd_val hwr hs.ok (Or.inl rfl) h11)) ⟨hin, q_value (w := wA A) hc18 (fun h11 => wA_v hs.va (by omega) (hd_val hwr hs.ok (Or.inr rfl) h11)) (q_place hw hs10 hf1 hf18 hc18 ?_)⟩⟩
              have hbd : bdM Md (RS r) (wA A) (RS r).n := raM_bd hwr (Nat.le_refl _) y3.v (hs.ok.raM (wA_s A))
              have hix : ixA (RS r) (wA A) 0 < 1000 := by
                have a := raV_lt hw hf18
                have b' := raV_lt hw hc18
                unfold ixA; omega
              have hst := y3.step hr hwr hw hbd
              have hin2 : vp_in (nI (ixA (RS r) (wA A) 0)) 1000 := vp_in_nI hix (by decide)
              show xj _ _
              rw [show 100 * (RS r).st 0 + 10 * raV (wA A) ((RS r).fs 0) + raV (wA A) ((RS r).sn 0) = ixA (RS r) (wA A) 0 from rfl, nI_clamp (by omega), nar_1]
              have hgrow : ∀ i, Md i = true → mS Md (ixA (RS r) (wA A) 0) i = true := fun i q => by unfold mS; split <;> first | rfl | exact q
              have fin : ∀ z : Int32, z = bI (bd || !(Md (ixA (RS r) (wA A) 0))) → vp_in (nI (ixA (RS r) (wA A) 0)) 1000 ∧ ∀ md33 : Nat → Int32, md33 = upd md15 (ixA (RS r) (wA A) 0) (bI true) → K16 (z, md33, vl', bY', ch', nI r, nI (RS r).n, nI (RS r).n) := by
                intro z hz
                refine ⟨hin2, fun md33 e33 => hK16 (raP c (RS r).n) _ hj' ⟨_, _, fun x => raL c (RS r).n x ∨ ∀ k, k < (RS r).n → x k + 1 = c k, hz, by rw [e33]; exact mB_up y2, hst, fun i q => hgrow i (y4 i q), rfl, rfl, Or.inr ⟨c, A, rfl, rfl, ⟨hs.cc, hs.le, hs.ok.mono hgrow, hs.va⟩, hc0, rfl⟩, fun w x hx hd => ?_⟩⟩
                rcases hd with hd | hd
                · exact hgrow _ (y8 w x hx (hlx w x (hx.mono y3.sub) hd))
                · have hsw := raO.to (hx.mono y3.sub) (Nat.le_refl _) hd hs.ok
                  have : ixA (RS r) w 0 = ixA (RS r) (wA A) 0 := by
                    unfold ixA
                    rw [raV_eq hsw (hd_val hwr hs.ok (Or.inl rfl)), raV_eq hsw (hd_val hwr hs.ok (Or.inr rfl))]
                  rw [this]
                  exact if_pos rfl
              unfold xj
              rw [y2 _ hix]
              refine ⟨fun hb => fin _ ?_, fun hb => ⟨hin2, fun hm => fin _ ?_, fun hm => fin _ ?_⟩⟩
              · rw [bI_t.mp hb]; rfl
              · rw [bI_f.mp hb, bI_t.mp hm]; rfl
              · rw [bI_f.mp hb, bI_f.mp hm]; rfl
  · have hin : vp_in (nI j) 1000 := vp_in_nI (by omega) (by decide)
    rw [nI_clamp (by omega), hT j (by omega), nar_b]
    refine ⟨hin, hin, fun m36 e36 x37 e37 => hK (by omega) _ ⟨by rw [e37, nI_1], fun i hi => ?_⟩⟩
    show m36 i = _
    rw [e36]
    unfold upd
    by_cases e : i = j
    · rw [if_pos e, e]
    · rw [if_neg e]; exact e2 i (by omega)
end MO2
