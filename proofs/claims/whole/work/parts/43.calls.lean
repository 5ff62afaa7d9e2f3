section CA
/-! THE REFERENCE'S CALLS -/
theorem cn_set {f : Nat → Bool} {k : Nat} (hf : f k = false) : ∀ {n : Nat}, k < n → cn_ (mS f k) n = cn_ f n + 1
  | 0, h => by omega
  | n + 1, h => by
    unfold cn_
    by_cases e : k = n
    · subst e
      have h1 : cn_ (mS f k) k = cn_ f k := cn_congr k (fun i hi => by unfold mS; rw [if_neg (by omega)])
      have h2 : mS f k k = true := if_pos rfl
      rw [h1, h2, hf]
      simp
    · have h2 : mS f k n = f n := if_neg (Ne.symm e)
      rw [cn_set hf (show k < n by omega), h2]
      omega
theorem cn_full {f : Nat → Bool} {k n : Nat} (hf : f k = false) (hk : k < n) : cn_ f n < n := by
  have := cn_set hf hk
  have := cn_le (mS f k) n
  omega
/-- the calls and the row of them -/
abbrev qS (cl row : Nat → Int32) (ir : Int32) (CL : Nat → Bool) (Q : Nat → Nat) : Prop := (mB cl CL 1210) ∧ (ir = nI (cn_ CL 1210)) ∧ (∀ i, i < cn_ CL 1210 → row i = nI (Q i) ∧ CL (Q i) = true) ∧ (∀ x, CL x = true → x < 1210 ∧ ∃ i, i < cn_ CL 1210 ∧ Q i = x)
theorem qS.c {cl row : Nat → Int32} {ir : Int32} {CL : Nat → Bool} {Q : Nat → Nat} (h_ : qS cl row ir CL Q) : mB cl CL 1210 := h_.1
theorem qS.n {cl row : Nat → Int32} {ir : Int32} {CL : Nat → Bool} {Q : Nat → Nat} (h_ : qS cl row ir CL Q) : ir = nI (cn_ CL 1210) := h_.2.1
theorem qS.r {cl row : Nat → Int32} {ir : Int32} {CL : Nat → Bool} {Q : Nat → Nat} (h_ : qS cl row ir CL Q) : ∀ i, i < cn_ CL 1210 → row i = nI (Q i) ∧ CL (Q i) = true := h_.2.2.1
theorem qS.a {cl row : Nat → Int32} {ir : Int32} {CL : Nat → Bool} {Q : Nat → Nat} (h_ : qS cl row ir CL Q) : ∀ x, CL x = true → x < 1210 ∧ ∃ i, i < cn_ CL 1210 ∧ Q i = x := h_.2.2.2
theorem q_calls {post : (Nat → Int32) → (Nat → Int32) → Int32 → Prop} {cl row : Nat → Int32} {ir : Int32} {CL : Nat → Bool} {Q : Nat → Nat} {p x y : Nat} (h : qS cl row ir CL Q) (hp : p < 10) (hx : x < 11) (hy : y < 11)
    (hpo : ∀ cl' row' ir' Q', qS cl' row' ir' (mS CL (121 * p + 11 * x + y)) Q' → (∀ i, i < cn_ CL 1210 → Q' i = Q i) → post cl' row' ir') : wp_Mo_calls post cl row ir (nI p) (nI x) (nI y) := by
  unfold wp_Mo_calls
  intro x1 e1
  rw [show (121 : Int32) = nI 121 from rfl, show (11 : Int32) = nI 11 from rfl, pk_mul, pk_mul, nI_add, nI_add] at e1
  subst e1
  have hk : 121 * p + 11 * x + y < 1210 := by omega
  have hin : vp_in (nI (121 * p + 11 * x + y)) 1210 := vp_in_nI hk (by decide)
  rw [nI_clamp (by omega), h.c _ hk]
  unfold xj
  refine ⟨hin, fun q => ?_, fun q => ?_⟩
  · have q := bI_t.mp q
    exact hpo _ _ _ Q (by rw [mS_same q]; exact h) (fun _ _ => rfl)
  · have q := bI_f.mp q
    have hlt := cn_full q hk
    have hc1 := cn_set q hk
    rw [nar_1, h.n]
    refine ⟨hin, fun c4 e4 => ⟨vp_in_nI hlt (by decide), fun r5 e5 => ?_⟩⟩
    rw [nI_clamp (by omega)] at e5
    refine hpo _ _ _ (cU Q (cn_ CL 1210) (121 * p + 11 * x + y)) ⟨by rw [e4]; exact mB_up h.c, by rw [hc1, ← nI_1], fun i hi => ?_, fun z hz => ?_⟩ (fun i hi => cU_n (by omega))
    · rw [hc1] at hi
      dsimp only
      rw [e5]
      unfold upd
      by_cases e : i = cn_ CL 1210
      · rw [if_pos e, e, cU_s]; exact ⟨rfl, if_pos rfl⟩
      · rw [if_neg e, cU_n e]
        have := h.r i (by omega)
        exact ⟨this.1, by unfold mS; split <;> first | rfl | exact this.2⟩
    · rw [hc1]
      unfold mS at hz
      by_cases e : z = 121 * p + 11 * x + y
      · subst e
        exact ⟨hk, cn_ CL 1210, by omega, cU_s⟩
      · rw [if_neg e] at hz
        obtain ⟨a1, i, a2, a3⟩ := h.a z hz
        exact ⟨a1, i, by omega, by rw [cU_n (by omega)]; exact a3⟩
/-- a place of a call: ten is free -/
def cA (A : raAS) (t : Nat) : Nat := if t = 0 then 10 else if t ≤ 10 then t - 1 else match A (t - 11) with
  | none => 10
  | some p => p.1
theorem cA_lt {A : raAS} (h : raK A) (t : Nat) : cA A t < 11 := by
  unfold cA
  split
  · omega
  · split
    · omega
    · split
      · omega
      · rename_i p q
        have := (h _ _ _ q).1
        omega
theorem xt_p : ∀ t, t ≤ 18 → (0 ≤ xb_t t ↔ t ≠ 0) := by decide +kernel
theorem nI_m1 : ∀ c, c < 11 → ¬ nI c = -1 := by decide +kernel
theorem q_called2 {post : Int32 → Prop} {vl bY : Nat → Int32} {A : raAS} {t : Nat} (h : raA vl bY A) (hk : raK A) (ht : t ≤ 18) (hp : post (nI (cA A t))) : wp_Mo_called_II post vl (xb_t t) := by
  unfold wp_Mo_called_II
  rw [xt_p t ht]
  unfold cA at hp
  refine ⟨fun h0 => ?_, fun h0 => ?_⟩
  · rw [if_neg h0] at hp
    unfold wp_Mo_value xj
    rw [xt_0 t ht]
    refine ⟨fun h11 => ?_, fun h11 => ?_⟩
    · rw [if_neg (by omega)] at hp
      rw [xt_m t ht h11, nI_clamp (by omega), h.v _ (by omega)]
      refine ⟨vp_in_nI (by omega) (by decide), ?_⟩
      cases q : A (t - 11) with
      | none =>
        rw [q] at hp
        exact ⟨fun z => absurd rfl z, fun _ => hp⟩
      | some p =>
        rw [q] at hp
        have := (hk _ _ _ q).1
        exact ⟨fun _ => hp, fun z => absurd z (nI_m1 _ (by omega))⟩
    · rw [if_pos (by omega)] at hp
      obtain ⟨u, rfl⟩ : ∃ u, t = u + 1 := ⟨t - 1, by omega⟩
      rw [xb_t1]
      exact ⟨fun _ => hp, fun z => absurd z (nI_m1 _ (by omega))⟩
  · have h0 : t = 0 := by omega
    rw [if_pos h0] at hp
    exact hp
/-- what is bound before a search: a call's constants at the head's places -/
def raH (t x : Nat) (A : raAS) : Bool × raAS := if x = 10 then (true, A) else raT t x 0 A
/-- a call, a rule, an atom: which full assignments lead on, and to which call -/
def caK (R : RU) (j x y t : Nat) : Prop := (x ≠ 10 ∧ R.fs 0 = t) ∨ (y ≠ 10 ∧ R.sn 0 = t) ∨ ∃ i, 1 ≤ i ∧ i ≤ j ∧ (R.fs i = t ∨ R.sn i = t)
def caF (M : Nat → Bool) (R : RU) (j x y : Nat) (w : Nat → Nat) : Prop := w10 w ∧ (x = 10 ∨ raF w (R.fs 0) x) ∧ (y = 10 ∨ raF w (R.sn 0) y) ∧ bdM M R w j
noncomputable def caB (R : RU) (j x y : Nat) (w : Nat → Nat) (t : Nat) : Nat := if t = 0 then 10 else if t ≤ 10 then t - 1 else @ite Nat (caK R j x y t) (Classical.propDecidable _) (w (t - 11)) 10
noncomputable def caT (R : RU) (j x y : Nat) (w : Nat → Nat) : Nat := 121 * R.st (j + 1) + 11 * caB R j x y w (R.fs (j + 1)) + caB R j x y w (R.sn (j + 1))
end CA
section CA2
theorem raT_none {t x b : Nat} {A : raAS} (h : (raT t x b A).1 = true) (v : Nat) : (raT t x b A).2 v ≠ none ↔ A v ≠ none ∨ (11 ≤ t ∧ t - 11 = v) := by
  constructor
  · intro q
    by_cases e : 11 ≤ t ∧ t - 11 = v
    · exact Or.inr e
    · left
      unfold raT at q
      split at q
      · exact q
      · split at q
        · exact q
        · split at q
          · have q : (if v = t - 11 then some (x, b) else A v) ≠ none := q
            rw [if_neg (by omega)] at q
            exact q
          · exact q
  · rintro (q | ⟨q1, q2⟩)
    · exact (raT_ext _ _ _ _).keep q
    · subst q2; exact raT_bound h q1
theorem raO.none_iff {M : Nat → Bool} {of lf rg : Nat → Nat} {A0 : raAS} {c : Nat → Nat} : ∀ {d : Nat} {A : raAS}, raO M of lf rg A0 c d A → ∀ v, A v ≠ none ↔ A0 v ≠ none ∨ ∃ k, k < d ∧ (lf k = v + 11 ∨ rg k = v + 11)
  | 0, A, h, v => by
    have h : A = A0 := h
    subst h
    exact ⟨Or.inl, fun q => q.elim id (fun ⟨k, hk, _⟩ => by omega)⟩
  | d + 1, A, h, v => by
    obtain ⟨B, h1, h2, h3, h4, h5⟩ := h
    subst h5
    rw [raT_none h4.2.2, raT_none h4.2.1, raO.none_iff h1]
    constructor
    · rintro (((q | ⟨k, k1, k2⟩) | ⟨q1, q2⟩) | ⟨q1, q2⟩)
      · exact Or.inl q
      · exact Or.inr ⟨k, by omega, k2⟩
      · exact Or.inr ⟨d, by omega, Or.inl (by omega)⟩
      · exact Or.inr ⟨d, by omega, Or.inr (by omega)⟩
    · rintro (q | ⟨k, k1, k2⟩)
      · exact Or.inl (Or.inl (Or.inl q))
      · by_cases e : k = d
        · subst e
          rcases k2 with z | z
          · exact Or.inl (Or.inr ⟨by omega, by omega⟩)
          · exact Or.inr ⟨by omega, by omega⟩
        · exact Or.inl (Or.inl (Or.inr ⟨k, by omega, k2⟩))
theorem raH_to {A : raAS} {w : Nat → Nat} {t x : Nat} (h : raS A w) (hf : x = 10 ∨ raF w t x) : (raH t x A).1 = true ∧ raS (raH t x A).2 w := by
  unfold raH
  by_cases e : x = 10
  · rw [if_pos e]; exact ⟨rfl, h⟩
  · rw [if_neg e]; exact raT_to h (hf.resolve_left e)
theorem raH_fit {A : raAS} {w : Nat → Nat} {t x : Nat} (h : (raH t x A).1 = true) (hs : raS (raH t x A).2 w) : (x = 10 ∨ raF w t x) ∧ raS A w := by
  unfold raH at h hs
  by_cases e : x = 10
  · rw [if_pos e] at hs; exact ⟨Or.inl e, hs⟩
  · rw [if_neg e] at h hs
    obtain ⟨a, b⟩ := raT_fit h hs
    exact ⟨Or.inr a, b⟩
theorem raH_0 {A : raAS} {t x : Nat} (h : ra0 A) (hx : x < 11) : ra0 (raH t x A).2 := by
  unfold raH
  by_cases e : x = 10
  · rw [if_pos e]; exact h
  · rw [if_neg e]
    intro v c b q
    rcases raT_new q with q | ⟨rfl, rfl⟩
    · exact h v c b q
    · exact ⟨by omega, rfl⟩
theorem raH_none {A : raAS} {t x : Nat} (h : (raH t x A).1 = true) (v : Nat) : (raH t x A).2 v ≠ none ↔ A v ≠ none ∨ (x ≠ 10 ∧ 11 ≤ t ∧ t - 11 = v) := by
  unfold raH at h ⊢
  by_cases e : x = 10
  · rw [if_pos e]; exact ⟨Or.inl, fun q => q.elim id (fun z => absurd e z.1)⟩
  · rw [if_neg e] at h ⊢
    rw [raT_none h]
    exact ⟨fun q => q.elim Or.inl (fun z => Or.inr ⟨e, z⟩), fun q => q.elim Or.inl (fun z => Or.inr z.2)⟩
/-- the call that a match leads to -/
theorem cA_eq {R : RU} {j x y : Nat} {A : raAS} {w : Nat → Nat} (hs : raS A w) (hn : ∀ t, 11 ≤ t → (A (t - 11) ≠ none ↔ caK R j x y t)) (t : Nat) : cA A t = caB R j x y w t := by
  unfold cA caB
  by_cases h0 : t = 0
  · rw [if_pos h0, if_pos h0]
  · rw [if_neg h0, if_neg h0]
    by_cases h10 : t ≤ 10
    · rw [if_pos h10, if_pos h10]
    · rw [if_neg h10, if_neg h10]
      have := hn t (by omega)
      cases q : A (t - 11) with
      | none =>
        rw [if_neg]
        intro z
        exact this.mpr z q
      | some p =>
        rw [if_pos (this.mp (by rw [q]; exact fun z => by cases z))]
        exact (hs _ _ _ q).symm
theorem ra0.k {A : raAS} (h : ra0 A) : raK A := fun v c b q => by have := h v c b q; omega
end CA2
section CA3
theorem nI_10x {x : Nat} (h : x < 11) : nI x = 10 ↔ x = 10 := by
  rw [show (10 : Int32) = nI 10 from rfl, nI_eq (by omega) (by omega)]
theorem q_follows {post : (Nat → Int32) → (Nat → Int32) → Int32 → (Nat → Int32) → (Nat → Int32) → (Nat → Int32) → Int32 → Int32 → Int32 → Prop} {md oa la ga sz cl row vl bY ch : Nat → Int32} {ir ru at' dp : Int32} {M CL : Nat → Bool} {Q : Nat → Nat} {R : RU} {pl : Nat → Nat} {r j x y : Nat}
    (hR : rR oa la ga sz r R) (hw : wfR pl R) (hr : r < 30) (hM : mB md M 1000) (hMv : mV pl M) (hj : j < R.n) (hx : x < 11) (hy : y < 11) (hq : qS cl row ir CL Q)
    (hp : ∀ cl' row' ir' CL' Q' vl' bY' ch' a b c, qS cl' row' ir' CL' Q' → (∀ i, i < cn_ CL 1210 → Q' i = Q i) → (∀ z, CL' z = true ↔ CL z = true ∨ ∃ w, caF M R j x y w ∧ z = caT R j x y w) → post cl' row' ir' vl' bY' ch' a b c) :
    wp_Mo_follows post md oa la ga cl row ir vl bY ch ru at' dp (nI r) (nI j) (nI x) (nI y) := by
  have h3 := hw.n3
  have hra := hR.ra hw (by omega) (show j ≤ R.n by omega)
  have ho : oa (4 * r + (j + 1)) = _ := hR.o (j + 1) (by omega)
  have hl : la (4 * r + (j + 1)) = _ := hR.l (j + 1) (by omega)
  have hg : ga (4 * r + (j + 1)) = _ := hR.g (j + 1) (by omega)
  have hl0 : la (4 * r) = _ := hR.l 0 (by omega)
  have hg0 : ga (4 * r) = _ := hR.g 0 (by omega)
  have f18 := hw.f18 (j + 1) (by omega)
  have c18 := hw.c18 (j + 1) (by omega)
  have s10 := hw.s10 (j + 1) (by omega)
  have f180 := hw.f18 0 (by omega)
  have c180 := hw.c18 0 (by omega)
  unfold wp_Mo_follows
  intro x1 e1 x2 e2
  rw [show (4 : Int32) = nI 4 from rfl, pk_mul] at e1
  rw [e1, nI_1, nI_add] at e2
  subst e1; subst e2
  rw [nI_clamp (show 4 * r + 1 + j < 2 ^ 31 by omega), nI_clamp (show 4 * r < 2 ^ 31 by omega), show 4 * r + 1 + j = 4 * r + (j + 1) by omega, ho, hl, hg, hl0, hg0, nI_10x hx, nI_10x hy]
  have hin1 : vp_in (nI (4 * r)) 124 := vp_in_nI (by omega) (by decide)
  have hin2 : vp_in (nI (4 * r + (j + 1))) 124 := vp_in_nI (by omega) (by decide)
  refine q_begins (fun vl5 bY6 hv5 => ?_)
  have h00 : ra0 (fun _ => none) := fun v c b q => by cases q
  -- the head's places
  have hA1 := raH_0 (t := R.fs 0) h00 hx
  have hA2 := raH_0 (t := R.sn 0) hA1 hy
  refine xj_of ?_ (fun v => v.2.1 = cl ∧ v.2.2.1 = row ∧ v.2.2.2.1 = ir ∧ v.2.2.2.2.2.2.1 = upd ch 0 (-1) ∧ v.2.2.2.2.2.2.2 = (nI r, nI j, 0) ∧ ((v.1 = 0 ∧ ¬ ((raH (R.fs 0) x (fun _ => none)).1 = true ∧ (raH (R.sn 0) y (raH (R.fs 0) x (fun _ => none)).2).1 = true)) ∨ (v.1 = 1 ∧ (raH (R.fs 0) x (fun _ => none)).1 = true ∧ (raH (R.sn 0) y (raH (R.fs 0) x (fun _ => none)).2).1 = true ∧ raA v.2.2.2.2.1 v.2.2.2.2.2.1 (raH (R.sn 0) y (raH (R.fs 0) x (fun _ => none)).2).2))) ?_ ?_
  · intro P P' h z
    unfold xj at z ⊢
    refine ⟨fun q => ⟨fun q2 => h _ ((z.1 q).1 q2), fun q2 => ⟨((z.1 q).2 q2).1, q_takes_mono (fun r' a b hz => ⟨fun q3 => h _ (hz.1 q3), fun q3 => h _ (hz.2 q3)⟩) ((z.1 q).2 q2).2⟩⟩, fun q => ⟨(z.2 q).1, q_takes_mono (fun r' a b hz => ⟨fun q3 => h _ (hz.1 q3), fun q3 => ⟨fun q4 => h _ ((hz.2 q3).1 q4), fun q4 => ⟨((hz.2 q3).2 q4).1, q_takes_mono (fun r'' a b hz => ⟨fun q5 => h _ (hz.1 q5), fun q5 => h _ (hz.2 q5)⟩) ((hz.2 q3).2 q4).2⟩⟩⟩) (z.2 q).2⟩⟩
  · rintro ⟨g, cl', row', ir', vl', bY', ch', ru', at2, dp'⟩ ⟨e1, e2, e3, e4, e5, e6⟩
    dsimp only at e1 e2 e3 e4 e5 e6 ⊢
    simp only [Prod.mk.injEq] at e5
    obtain ⟨e51, e52, e53⟩ := e5
    rw [e1, e2, e3, e4, e51, e52, e53]
    rcases e6 with ⟨e6, hno⟩ | ⟨e6, hg1, hg2, hva⟩
    · refine ⟨fun q => absurd e6 q, fun _ => hp _ _ _ CL Q _ _ _ _ _ _ hq (fun _ _ => rfl) (fun z => ⟨Or.inl, fun q => q.elim id (fun ⟨w, hw', _⟩ => absurd ?_ hno)⟩)⟩
      have a := raH_to (A := fun _ => none) (w := w) (fun v y b q => by cases q) hw'.2.1
      exact ⟨a.1, (raH_to a.2 hw'.2.2.1).1⟩
    · -- which variables are known
      have hknow : ∀ {A : raAS} {c : Nat → Nat}, raO M (fun k => R.st (k + 1)) (fun k => R.fs (k + 1)) (fun k => R.sn (k + 1)) (raH (R.sn 0) y (raH (R.fs 0) x (fun _ => none)).2).2 c j A → ∀ t, 11 ≤ t → (A (t - 11) ≠ none ↔ caK R j x y t) := by
        intro A c hok t ht
        rw [hok.none_iff, raH_none hg2, raH_none hg1]
        unfold caK
        constructor
        · rintro (((q | ⟨q1, q2, q3⟩) | ⟨q1, q2, q3⟩) | ⟨k, k1, k2⟩)
          · exact absurd rfl q
          · exact Or.inl ⟨q1, by omega⟩
          · exact Or.inr (Or.inl ⟨q1, by omega⟩)
          · refine Or.inr (Or.inr ⟨k + 1, by omega, by omega, ?_⟩)
            rw [show t - 11 + 11 = t by omega] at k2
            exact k2
        · rintro (⟨q1, q2⟩ | ⟨q1, q2⟩ | ⟨i, i1, i2, i3⟩)
          · exact Or.inl (Or.inl (Or.inr ⟨q1, by omega, by omega⟩))
          · exact Or.inl (Or.inr ⟨q1, by omega, by omega⟩)
          · refine Or.inr ⟨i - 1, by omega, ?_⟩
            rw [show t - 11 + 11 = t by omega, show i - 1 + 1 = i by omega]
            exact i3
      have hcall : ∀ {A : raAS} {c : Nat → Nat} (w : Nat → Nat), raO M (fun k => R.st (k + 1)) (fun k => R.fs (k + 1)) (fun k => R.sn (k + 1)) (raH (R.sn 0) y (raH (R.fs 0) x (fun _ => none)).2).2 c j A → raS A w → 121 * R.st (j + 1) + 11 * cA A (R.fs (j + 1)) + cA A (R.sn (j + 1)) = caT R j x y w := by
        intro A c w hok hs
        unfold caT
        rw [cA_eq hs (hknow hok), cA_eq hs (hknow hok)]
      have hin : ∀ {A : raAS} {c : Nat → Nat}, raO M (fun k => R.st (k + 1)) (fun k => R.fs (k + 1)) (fun k => R.sn (k + 1)) (raH (R.sn 0) y (raH (R.fs 0) x (fun _ => none)).2).2 c j A → raK A → caF M R j x y (wA A) := by
        intro A c hok hk
        have hm := hok.raM (wA_s A)
        obtain ⟨a2, a1⟩ := raH_fit hg2 hm.1
        obtain ⟨b2, b1⟩ := raH_fit hg1 a1
        exact ⟨wA_10 hk, b2, a2, raM_bd hw (by omega) hMv hm⟩
      refine ⟨fun _ => ⟨fun hj0 => ?_, fun hj0 => ?_⟩, fun q => absurd (e6.symm.trans q) (by decide)⟩
      · have hj1 : 1 ≤ j := by
          rcases j with _ | j
          · exact absurd rfl hj0
          · omega
        refine xL_by (fun p s => ∃ (CD : Nat → Bool) (QD : Nat → Nat) (DS : (Nat → Nat) → Prop), qS s.1 s.2.1 s.2.2.1 CD QD ∧ (∀ i, i < cn_ CL 1210 → QD i = Q i) ∧ cn_ CL 1210 ≤ cn_ CD 1210 ∧ (∀ z, CL z = true → CD z = true) ∧ (∀ z, CD z = true → CL z = true ∨ ∃ w, caF M R j x y w ∧ z = caT R j x y w) ∧ s.2.2.2.2.2.2.1 = nI r ∧ s.2.2.2.2.2.2.2.1 = nI j ∧
          gT M (fun k => R.st (k + 1)) (fun k => R.fs (k + 1)) (fun k => R.sn (k + 1)) (raH (R.sn 0) y (raH (R.fs 0) x (fun _ => none)).2).2 j s.2.2.2.1 s.2.2.2.2.1 s.2.2.2.2.2.1 s.2.2.2.2.2.2.2.2 DS p ∧
          ∀ w xx, raM M (fun k => R.st (k + 1)) (fun k => R.fs (k + 1)) (fun k => R.sn (k + 1)) j (raH (R.sn 0) y (raH (R.fs 0) x (fun _ => none)).2).2 w xx → DS xx → CD (caT R j x y w) = true) 20000000 ?_ ?_ (j := 0)
          ⟨CL, Q, fun _ => False, hq, fun _ _ => rfl, Nat.le_refl _, fun _ z => z, fun _ z => Or.inl z, rfl, rfl, Or.inl ⟨rfl, rfl, hva, (by show upd ch 0 (-1) 0 = -1; exact if_pos rfl), rfl⟩, fun _ _ _ z => z.elim⟩
        · rintro p s ⟨CD, QD, DS, -, -, -, -, -, -, -, z, -⟩
          exact z.le (by omega)
        · rintro p ⟨cl13, row13, ir13, vl13, bY13, ch13, ru13, at13, dp13⟩ ⟨CD, QD, DS, y1, y2, y3, y4, y5, y6, y7, y8, y9⟩ K14 hK14
          dsimp only at y1 y6 y7 y8 ⊢
          rw [y6, y7]
          refine q_goes hra hA2 hM hj1 y8 ⟨fun hall vl'' bY'' ch'' => ⟨fun _ => hp _ _ _ CD QD _ _ _ _ _ _ y1 y2 (fun z => ⟨y5 z, fun q => q.elim (y4 z) ?_⟩), fun q => absurd rfl q⟩, fun vl'' bY'' ch'' c A hs hc0 hj' hlx => ⟨fun q => absurd q (by decide), fun _ => ⟨hin2, hin2, ?_⟩⟩⟩
          · rintro ⟨w, hw', rfl⟩
            have a := raH_to (A := fun _ => none) (w := w) (fun v y b q => by cases q) hw'.2.1
            have b := raH_to a.2 hw'.2.2.1
            have hm := bd_raM hw hw'.1 (show j ≤ R.n by omega) hw'.2.2.2 b.2
            exact y9 w _ hm (hall w _ hm)
          · have hk := hs.ok.ok hA2 (by omega)
            refine q_called2 hs.va hk f18 ⟨hin2, q_called2 hs.va hk c18 (q_calls y1 s10 (cA_lt hk _) (cA_lt hk _) (fun cl' row' ir' Q' hq' hQ' => ?_))⟩
            rw [hcall _ hs.ok (wA_s A)] at hq'
            have hgrow : ∀ i, CD i = true → mS CD (caT R j x y (wA A)) i = true := fun i q => by unfold mS; split <;> first | rfl | exact q
            have hcn : cn_ CD 1210 ≤ cn_ (mS CD (caT R j x y (wA A))) 1210 := cn_mono _ (fun i _ q => hgrow i q)
            refine hK14 (raP c j) _ hj' ⟨_, Q', fun x => raL c j x ∨ ∀ k, k < j → x k + 1 = c k, hq', fun i hi => ?_, by omega, fun z q => hgrow z (y4 z q), fun z q => ?_, rfl, rfl, Or.inr ⟨c, A, rfl, rfl, ⟨hs.cc, hs.le, hs.ok, hs.va⟩, hc0, rfl⟩, fun w xx hxx hd => ?_⟩
            · rw [hQ' i (by omega), y2 i hi]
            · unfold mS at q
              by_cases e : z = caT R j x y (wA A)
              · exact Or.inr ⟨_, hin hs.ok hk, e⟩
              · rw [if_neg e] at q; exact y5 z q
            · rcases hd with hd | hd
              · exact hgrow _ (y9 w xx hxx (hlx w xx hxx hd))
              · have hsw := raO.to hxx (Nat.le_refl _) hd hs.ok
                rw [← hcall w hs.ok hsw, hcall (wA A) hs.ok (wA_s A)]
                exact if_pos rfl
      · have hj0 : j = 0 := by
          rw [show (0 : Int32) = nI 0 from rfl, nI_eq (by omega) (by omega)] at hj0
          exact hj0
        have hok : raO M (fun k => R.st (k + 1)) (fun k => R.fs (k + 1)) (fun k => R.sn (k + 1)) (raH (R.sn 0) y (raH (R.fs 0) x (fun _ => none)).2).2 (fun _ => 0) j (raH (R.sn 0) y (raH (R.fs 0) x (fun _ => none)).2).2 := by subst hj0; exact rfl
        have hk := hA2.k
        refine ⟨hin2, hin2, q_called2 hva hk f18 ⟨hin2, q_called2 hva hk c18 (q_calls hq s10 (cA_lt hk _) (cA_lt hk _) (fun cl' row' ir' Q' hq' hQ' => ?_))⟩⟩
        rw [hcall _ hok (wA_s _)] at hq'
        refine hp _ _ _ _ _ _ _ _ _ _ _ hq' hQ' (fun z => ⟨fun q => ?_, fun q => ?_⟩)
        · unfold mS at q
          by_cases e : z = caT R j x y (wA (raH (R.sn 0) y (raH (R.fs 0) x (fun _ => none)).2).2)
          · exact Or.inr ⟨_, hin hok hk, e⟩
          · rw [if_neg e] at q; exact Or.inl q
        · rcases q with q | ⟨w, hw', rfl⟩
          · unfold mS; split <;> first | rfl | exact q
          · have a := raH_to (A := fun _ => none) (w := w) (fun v y b q => by cases q) hw'.2.1
            have b := raH_to a.2 hw'.2.2.1
            rw [← hcall w hok b.2, hcall _ hok (wA_s _)]
            exact if_pos rfl
  · unfold xj
    have m1 : (-1 : Int32) = xb_t 0 := by decide
    refine ⟨fun hx10 => ?_, fun hx10 => ⟨hin1, ?_⟩⟩
    · have eA : raH (R.fs 0) x (fun _ => none) = (true, fun _ => none) := if_pos hx10
      rw [eA]
      dsimp only
      refine ⟨fun hy10 => ?_, fun hy10 => ⟨hin1, ?_⟩⟩
      · have eB : raH (R.sn 0) y (fun _ => none) = (true, fun _ => none) := if_pos hy10
        rw [eB]
        exact ⟨rfl, rfl, rfl, rfl, rfl, Or.inr ⟨rfl, rfl, rfl, hv5⟩⟩
      · have eB : raH (R.sn 0) y (fun _ => none) = raT (R.sn 0) y 0 (fun _ => none) := if_neg hy10
        rw [eB]
        refine q_takes (b := 0) hv5 h00.k c180 (by omega) (fun vl' bY' hv' => ?_)
        refine ⟨fun q => ⟨rfl, rfl, rfl, rfl, rfl, Or.inl ⟨rfl, fun z => ?_⟩⟩, fun q => ⟨rfl, rfl, rfl, rfl, rfl, Or.inr ⟨rfl, rfl, bI_t.mp q, hv'⟩⟩⟩
        have := bI_f.mp q
        rw [z.2] at this
        cases this
    · have eA : raH (R.fs 0) x (fun _ => none) = raT (R.fs 0) x 0 (fun _ => none) := if_neg hx10
      rw [eA] at hA1 ⊢
      refine q_takes (b := 0) hv5 h00.k f180 (by omega) (fun vl' bY' hv' => ?_)
      refine ⟨fun q => ⟨rfl, rfl, rfl, rfl, rfl, Or.inl ⟨rfl, fun z => ?_⟩⟩, fun q => ⟨fun hy10 => ?_, fun hy10 => ⟨hin1, ?_⟩⟩⟩
      · have := bI_f.mp q
        rw [z.1] at this
        cases this
      · have eB : raH (R.sn 0) y (raT (R.fs 0) x 0 (fun _ => none)).2 = (true, (raT (R.fs 0) x 0 (fun _ => none)).2) := if_pos hy10
        rw [eB]
        exact ⟨rfl, rfl, rfl, rfl, rfl, Or.inr ⟨rfl, bI_t.mp q, rfl, hv'⟩⟩
      · have eB : raH (R.sn 0) y (raT (R.fs 0) x 0 (fun _ => none)).2 = raT (R.sn 0) y 0 (raT (R.fs 0) x 0 (fun _ => none)).2 := if_neg hy10
        rw [eB]
        refine q_takes (b := 0) hv' hA1.k c180 (by omega) (fun vl'' bY'' hv'' => ?_)
        refine ⟨fun q2 => ⟨rfl, rfl, rfl, rfl, rfl, Or.inl ⟨rfl, fun z => ?_⟩⟩, fun q2 => ⟨rfl, rfl, rfl, rfl, rfl, Or.inr ⟨rfl, bI_t.mp q, bI_t.mp q2, hv''⟩⟩⟩
        have := bI_f.mp q2
        rw [z.2] at this
        cases this
end CA3
section CA4
variable {M : Nat → Bool} {RS : Nat → RU} {nr : Nat} {Ru : Nat → Bool}
/-- a call's own steps are all there -/
def caP (M : Nat → Bool) (Ru : Nat → Bool) (R : RU) (c : Nat) (C : Nat → Bool) (m : Nat) : Prop := R.st 0 = c / 121 → ∀ j, j < m → Ru (R.st (j + 1)) = true → ∀ w, caF M R j (c / 11 % 11) (c % 11) w → C (caT R j (c / 11 % 11) (c % 11) w) = true
def caC (M : Nat → Bool) (RS : Nat → RU) (nr : Nat) (Ru : Nat → Bool) (C : Nat → Bool) : Prop := ∀ c, C c = true → ∀ r, r < nr → caP M Ru (RS r) c C (RS r).n
def lfC (M : Nat → Bool) (RS : Nat → RU) (nr : Nat) (Ru : Nat → Bool) (q0 z : Nat) : Prop := ∀ C : Nat → Bool, C q0 = true → caC M RS nr Ru C → C z = true
theorem caP.mono {R : RU} {c m : Nat} {C C' : Nat → Bool} (h : ∀ z, C z = true → C' z = true) (q : caP M Ru R c C m) : caP M Ru R c C' m := fun h0 j hj hr w hw => h _ (q h0 j hj hr w hw)
abbrev aQ (M : Nat → Bool) (RS : Nat → RU) (nr : Nat) (Ru : Nat → Bool) (q0 i : Nat) (cl row : Nat → Int32) (ir : Int32) (CL : Nat → Bool) (Q : Nat → Nat) : Prop := (qS cl row ir CL Q) ∧ (CL q0 = true) ∧ (∀ C : Nat → Bool, C q0 = true → caC M RS nr Ru C → ∀ z, CL z = true → C z = true) ∧ (i ≤ cn_ CL 1210) ∧ (∀ i', i' < i → ∀ r, r < nr → caP M Ru (RS r) (Q i') CL (RS r).n)
theorem aQ.q {M : Nat → Bool} {RS : Nat → RU} {nr : Nat} {Ru : Nat → Bool} {q0 i : Nat} {cl row : Nat → Int32} {ir : Int32} {CL : Nat → Bool} {Q : Nat → Nat} (h_ : aQ M RS nr Ru q0 i cl row ir CL Q) : qS cl row ir CL Q := h_.1
theorem aQ.b {M : Nat → Bool} {RS : Nat → RU} {nr : Nat} {Ru : Nat → Bool} {q0 i : Nat} {cl row : Nat → Int32} {ir : Int32} {CL : Nat → Bool} {Q : Nat → Nat} (h_ : aQ M RS nr Ru q0 i cl row ir CL Q) : CL q0 = true := h_.2.1
theorem aQ.s {M : Nat → Bool} {RS : Nat → RU} {nr : Nat} {Ru : Nat → Bool} {q0 i : Nat} {cl row : Nat → Int32} {ir : Int32} {CL : Nat → Bool} {Q : Nat → Nat} (h_ : aQ M RS nr Ru q0 i cl row ir CL Q) : ∀ C : Nat → Bool, C q0 = true → caC M RS nr Ru C → ∀ z, CL z = true → C z = true := h_.2.2.1
theorem aQ.le {M : Nat → Bool} {RS : Nat → RU} {nr : Nat} {Ru : Nat → Bool} {q0 i : Nat} {cl row : Nat → Int32} {ir : Int32} {CL : Nat → Bool} {Q : Nat → Nat} (h_ : aQ M RS nr Ru q0 i cl row ir CL Q) : i ≤ cn_ CL 1210 := h_.2.2.2.1
theorem aQ.p {M : Nat → Bool} {RS : Nat → RU} {nr : Nat} {Ru : Nat → Bool} {q0 i : Nat} {cl row : Nat → Int32} {ir : Int32} {CL : Nat → Bool} {Q : Nat → Nat} (h_ : aQ M RS nr Ru q0 i cl row ir CL Q) : ∀ i', i' < i → ∀ r, r < nr → caP M Ru (RS r) (Q i') CL (RS r).n := h_.2.2.2.2
theorem q_in {post : Int32 → Prop} {x lo hi : Int32} (h : post (bI (decide (lo ≤ x ∧ x ≤ hi)))) : wp_Mo_in post x lo hi := by
  unfold wp_Mo_in xj
  have e1 : lo ≤ x ↔ ¬ x < lo := by rw [Int32.le_iff_toInt_le, Int32.lt_iff_toInt_lt]; omega
  have e2 : x ≤ hi ↔ ¬ hi < x := by rw [Int32.le_iff_toInt_le, Int32.lt_iff_toInt_lt]; omega
  refine ⟨fun q => ⟨rfl, ?_⟩, fun q => ⟨fun q2 => ⟨rfl, ?_⟩, fun q2 => ⟨rfl, ?_⟩⟩⟩
  · rw [decide_eq_false (fun z => e1.mp z.1 q)] at h; exact h
  · rw [decide_eq_false (fun z => e2.mp z.2 q2)] at h; exact h
  · rw [decide_eq_true ⟨e1.mpr q, e2.mpr q2⟩] at h; exact h
theorem xt_in : ∀ t, t ≤ 18 → decide (0 ≤ xb_t t ∧ xb_t t ≤ 9) = decide (1 ≤ t ∧ t ≤ 10) := by decide +kernel
/-- the question's own call -/
def cq (t : Nat) : Nat := if 1 ≤ t ∧ t ≤ 10 then t - 1 else 10
theorem xt_lt : ∀ t, t ≤ 18 → 1 ≤ t → (10 ≤ xb_t t → cq t = 10) ∧ (¬ 10 ≤ xb_t t → xb_t t = nI (cq t)) := by decide +kernel
theorem xt_rt : ∀ t, t ≤ 18 → (bI (decide (1 ≤ t ∧ t ≤ 10)) = 0 → cq t = 10) ∧ (¬ bI (decide (1 ≤ t ∧ t ≤ 10)) = 0 → xb_t t = nI (cq t)) := by decide +kernel
theorem cq_lt (t : Nat) : cq t < 11 := by unfold cq; split <;> omega
theorem q_asks {post : (Nat → Int32) → (Nat → Int32) → Int32 → (Nat → Int32) → (Nat → Int32) → (Nat → Int32) → Int32 → Int32 → Int32 → Prop} {rd md oa la ga sz cl row vl bY ch : Nat → Int32} {ir ru at' dp : Int32} {pl : Nat → Nat} {ao al ar : Nat}
    (hR : ∀ r, r < nr → rR oa la ga sz r (RS r)) (hwf : ∀ r, r < nr → wfR pl (RS r)) (hnr : nr ≤ 30) (hM : mB md M 1000) (hMv : mV pl M) (hRu : mB rd Ru 10) (hao : ao < 10) (hal1 : 1 ≤ al) (hal : al ≤ 18) (har : ar ≤ 18)
    (hp0 : Ru ao = false → ∀ cl' row' vl' bY' ch' a b c, mB cl' (fun _ => false) 1210 → post cl' row' 0 vl' bY' ch' a b c)
    (hp1 : Ru ao = true → ∀ cl' row' ir' vl' bY' ch' a b c CL, mB cl' CL 1210 → (∀ z, CL z = true → z < 1210) → (∀ z, CL z = true ↔ lfC M RS nr Ru (121 * ao + 11 * cq al + cq ar) z) → post cl' row' ir' vl' bY' ch' a b c) :
    wp_Mo_asks post rd md oa la ga sz (nI nr) (nI ao) (xb_t al) (xb_t ar) cl row ir vl bY ch ru at' dp := by
  unfold wp_Mo_asks
  refine xL_up (fun j s => s.1 = nI j ∧ ∀ i, i < j → s.2.1 i = bI false) 1210 ?_ (Nat.zero_le _) ⟨rfl, fun i hi => by omega⟩
  rintro j ⟨j1, cl1, row1, ir1, vl1, bY1, ch1, ru1, at1, dp1⟩ hj ⟨e1, e2⟩ K hK
  dsimp only at e1 e2 ⊢
  rw [e1, show (1210 : Int32) = nI 1210 from rfl, nI_leX 1210 hj (by omega)]
  refine ⟨fun hjj => ⟨vp_in_nI hao (by decide), ?_⟩, fun hjj => ?_⟩
  · subst hjj
    rw [nI_clamp (by omega), hRu ao hao, bI_t, bI_f]
    refine ⟨fun hrd => ?_, fun hrd => hp0 hrd _ _ _ _ _ _ _ _ e2⟩
    have hp1 := hp1 hrd
    refine xj_of (fun P Q h z => ⟨fun q => h _ (z.1 q), fun q => h _ (z.2 q)⟩) (fun v => v = nI (cq al)) ?_ ⟨fun q => by rw [(xt_lt al hal hal1).1 q]; rfl, fun q => (xt_lt al hal hal1).2 q⟩
    intro x hx
    subst hx
    refine q_in ?_
    rw [xt_in ar har]
    refine xj_of (fun P Q h z => ⟨fun q => h _ (z.1 q), fun q => h _ (z.2 q)⟩) (fun v => v = nI (cq ar)) ?_ ⟨fun q => by rw [(xt_rt ar har).1 q]; rfl, fun q => (xt_rt ar har).2 q⟩
    intro y hy
    subst hy
    have hcn0 : cn_ (fun _ => false) 1210 = 0 := by decide +kernel
    have hq0 : qS cl1 row1 0 (fun _ => false) (fun _ => 0) := ⟨e2, by rw [hcn0]; rfl, fun i hi => by rw [hcn0] at hi; omega, fun z hz => by cases hz⟩
    refine q_calls hq0 hao (cq_lt _) (cq_lt _) (fun cl11 row12 ir13 Q0 hq1 _ => ?_)
    have hcn1 : 1 ≤ cn_ (mS (fun _ => false) (121 * ao + 11 * cq al + cq ar)) 1210 := by
      have a := cq_lt al
      have b := cq_lt ar
      rw [cn_set rfl (by omega)]; omega
    refine xL_up (fun i s => s.1 = nI i ∧ ∃ (CL : Nat → Bool) (Q : Nat → Nat), aQ M RS nr Ru (121 * ao + 11 * cq al + cq ar) i s.2.1 s.2.2.1 s.2.2.2.1 CL Q) 1210 ?_ (Nat.zero_le _) ⟨rfl, _, Q0, hq1, if_pos rfl, fun C h1 _ z hz => ?_, Nat.zero_le _, fun i hi => by omega⟩
    · rintro i ⟨i1, cl2, row2, ir2, vl2, bY2, ch2, ru2, at2, dp2⟩ hi ⟨g1, CL, Q, g2⟩ K15 hK15
      dsimp only at g1 g2 ⊢
      have hcle := cn_le CL 1210
      have eir := g2.q.n
      subst eir
      rw [g1, nI_leI (by omega) (by omega)]
      refine ⟨fun hle => ?_, fun hle => ⟨vp_in_nI (by omega) (by decide), ?_⟩⟩
      · refine hp1 _ _ _ _ _ _ _ _ _ CL g2.q.c (fun z hz => (g2.q.a z hz).1) (fun z => ⟨fun hz C h1 h2 => g2.s C h1 h2 z hz, fun hz => hz CL g2.b (fun c hc r hr => ?_)⟩)
        obtain ⟨_, i', h1, rfl⟩ := g2.q.a c hc
        exact g2.p i' (by omega) r hr
      · obtain ⟨hrow, hcl⟩ := g2.q.r i (by omega)
        have hc := (g2.q.a _ hcl).1
        rw [nI_clamp (by omega), hrow]
        intro x16 e16
        subst e16
        rw [show (121 : Int32) = nI 121 from rfl, show (11 : Int32) = nI 11 from rfl, pk_rem (by omega) (by omega) (by omega), pk_div (show Q i < 2 ^ 31 by omega) (show 0 < 11 by omega) (by omega), pk_rem (by omega) (by omega) (by omega), pk_div (by omega) (by omega) (by omega)]
        refine xL_up (fun r s => s.1 = nI r ∧ ∃ (CL' : Nat → Bool) (Q' : Nat → Nat), aQ M RS nr Ru (121 * ao + 11 * cq al + cq ar) i s.2.1 s.2.2.1 s.2.2.2.1 CL' Q' ∧ i < cn_ CL' 1210 ∧ Q' i = Q i ∧ ∀ r', r' < r → caP M Ru (RS r') (Q i) CL' (RS r').n) nr ?_ (Nat.zero_le _) ⟨rfl, CL, Q, g2, by omega, rfl, fun r' h => by omega⟩
        rintro r ⟨r1, cl3, row3, ir3, vl3, bY3, ch3, ru3, at3, dp3⟩ hr ⟨y1, CL', Q', y2, y3, y4, y5⟩ K18 hK18
        dsimp only at y1 y2 ⊢
        rw [y1, nI_leX nr hr (by omega)]
        refine ⟨fun hrr x19 e19 => ?_, fun hrr => ?_⟩
        · subst hrr
          refine hK15 (by omega) _ ⟨by rw [e19, nI_1], CL', Q', y2.q, y2.b, y2.s, by omega, fun i' hi' => ?_⟩
          by_cases e : i' = i
          · subst e; rw [y4]; exact y5
          · exact y2.p i' (by omega)
        · have hr : r < nr := by omega
          have hw := hwf r hr
          have hRr := hR r hr
          have h3 := hw.n3
          have h10 := hw.s10 0 (by omega)
          refine xL_up (fun j s => s.1 = nI j ∧ ∃ (CD : Nat → Bool) (QD : Nat → Nat), aQ M RS nr Ru (121 * ao + 11 * cq al + cq ar) i s.2.1 s.2.2.1 s.2.2.2.1 CD QD ∧ i < cn_ CD 1210 ∧ QD i = Q i ∧ (∀ r', r' < r → caP M Ru (RS r') (Q i) CD (RS r').n) ∧ caP M Ru (RS r) (Q i) CD j) (RS r).n ?_ (Nat.zero_le _) ⟨rfl, CL', Q', y2, y3, y4, y5, fun _ j hj => by omega⟩
          rintro j ⟨j1, cl4, row4, ir4, vl4, bY4, ch4, ru4, at4, dp4⟩ hj ⟨z1, CD, QD, z2, z3, z4, z5, z6⟩ K21 hK21
          dsimp only at z1 z2 ⊢
          refine ⟨vp_in_nI (by omega) (by decide), ?_⟩
          have exit : caP M Ru (RS r) (Q i) CD (RS r).n → ∀ x_24 : Int32, x_24 = nI r + 1 → K18 (x_24, cl4, row4, ir4, vl4, bY4, ch4, ru4, at4, dp4) := by
            intro hall x24 e24
            refine hK18 hr _ ⟨by rw [e24, nI_1], CD, QD, z2, z3, z4, fun r' hr' => ?_⟩
            by_cases e : r' = r
            · subst e; exact hall
            · exact z5 r' (by omega)
          unfold xj
          have ho0 : oa (4 * r) = _ := hRr.o 0 (by omega)
          rw [z1, nI_clamp (show r < 2 ^ 31 by omega), hRr.z, nI_leX _ hj (by omega), show (4 : Int32) = nI 4 from rfl, pk_mul, nI_clamp (show 4 * r < 2 ^ 31 by omega), ho0, nI_eq (by omega) (by omega), nI_1, nI_add]
          refine ⟨fun hjn => exit (hjn ▸ z6), fun hjn => ⟨vp_in_nI (by omega) (by decide), fun hne => exit (fun h0 => absurd h0 hne), fun heq => ?_⟩⟩
          have ho : oa (4 * r + (j + 1)) = _ := hRr.o (j + 1) (by omega)
          have hj10 := hw.s10 (j + 1) (by omega)
          rw [show 4 * r + 1 + j = 4 * r + (j + 1) by omega, nI_clamp (show 4 * r + (j + 1) < 2 ^ 31 by omega), ho, nI_clamp (by omega), hRu _ hj10, bI_t, bI_f]
          refine ⟨vp_in_nI (by omega) (by decide), vp_in_nI hj10 (by decide), fun hz x27 e27 => ?_, fun hz => ?_⟩
          · refine hK21 (by omega) _ ⟨by rw [e27, nI_1], CD, QD, z2, z3, z4, z5, fun h0 j' hj' hru => ?_⟩
            by_cases e : j' = j
            · subst e; rw [hz] at hru; cases hru
            · exact z6 h0 j' (by omega) hru
          · refine q_follows hRr hw (by omega) hM hMv (by omega) (Nat.mod_lt _ (by omega)) (Nat.mod_lt _ (by omega)) z2.q (fun cl' row' ir' CE QE vl' bY' ch' a b c hq' hQ' hCE => ?_)
            have hsub : ∀ z, CD z = true → CE z = true := fun z hz => (hCE z).mpr (Or.inl hz)
            have hcn : cn_ CD 1210 ≤ cn_ CE 1210 := cn_mono _ (fun z _ => hsub z)
            intro x27 e27
            refine hK21 (by omega) _ ⟨by rw [e27, nI_1], CE, QE, ⟨hq', hsub _ z2.b, fun C h1 h2 z hz => ?_, by have := z2.le; omega, fun i' hi' r' hr' => ?_⟩, by omega, by rw [hQ' i z3, z4], fun r' hr' => (z5 r' hr').mono hsub, fun h0 j' hj' hru w hw' => ?_⟩
            · rcases (hCE z).mp hz with hz | ⟨w, hw', rfl⟩
              · exact z2.s C h1 h2 z hz
              · have hcQ : C (Q i) = true := z2.s C h1 h2 _ (by rw [← z4]; exact (z2.q.r i z3).2)
                exact h2 (Q i) hcQ r hr heq j (by omega) ‹_› w hw'
            · rw [hQ' i' (by have := z2.le; omega)]
              exact (z2.p i' hi' r' hr').mono hsub
            · by_cases e : j' = j
              · subst e; exact (hCE _).mpr (Or.inr ⟨w, hw', rfl⟩)
              · exact hsub _ (z6 h0 j' (by omega) hru w hw')
    · unfold mS at hz
      by_cases e : z = 121 * ao + 11 * cq al + cq ar
      · rw [e]; exact h1
      · rw [if_neg e] at hz; cases hz
  · have hin : vp_in (nI j) 1210 := vp_in_nI (by omega) (by decide)
    rw [nI_clamp (by omega), show vp_nar .boolean 0 = bI false from rfl]
    refine ⟨hin, fun c39 e39 x40 e40 => hK (by omega) _ ⟨by rw [e40, nI_1], fun i hi => ?_⟩⟩
    show c39 i = _
    rw [e39]
    unfold upd
    by_cases e : i = j
    · rw [if_pos e]
    · rw [if_neg e]; exact e2 i (by omega)
end CA4
