/-! THE REFERENCE'S SEARCH: an assignment gives a variable its constant and 1 + the depth at which it was given (0: before the search) -/
abbrev raAS : Type := Nat → Option (Nat × Nat)
def raVa : Option (Nat × Nat) → Int32
  | none => -1
  | some p => nI p.1
def raBy : Option (Nat × Nat) → Int32
  | none => -1
  | some p => xb_t p.2
abbrev raA (vl bY : Nat → Int32) (A : raAS) : Prop := (∀ i, i < 8 → vl i = raVa (A i)) ∧ (∀ i, i < 8 → bY i = raBy (A i))
theorem raA.v {vl bY : Nat → Int32} {A : raAS} (h_ : raA vl bY A) : ∀ i, i < 8 → vl i = raVa (A i) := h_.1
theorem raA.b {vl bY : Nat → Int32} {A : raAS} (h_ : raA vl bY A) : ∀ i, i < 8 → bY i = raBy (A i) := h_.2
/-- constants below ten, depths below five -/
def raK (A : raAS) : Prop := ∀ i c b, A i = some (c, b) → c < 10 ∧ b < 5
def raUp (A : raAS) (i c b : Nat) : raAS := fun j => if j = i then some (c, b) else A j
def raT (t c b : Nat) (A : raAS) : Bool × raAS :=
  if t = 0 then (true, A) else if t ≤ 10 then (decide (t - 1 = c), A) else
  match A (t - 11) with
  | none => (true, raUp A (t - 11) c b)
  | some p => (decide (p.1 = c), A)
theorem xt_0 : ∀ t, t ≤ 18 → (10 ≤ xb_t t ↔ 11 ≤ t) := by decide +kernel
theorem xt_n : ∀ t, t ≤ 18 → (xb_t t < 0 ↔ t = 0) := by decide +kernel
theorem xt_m : ∀ t, t ≤ 18 → 11 ≤ t → xb_t t - 10 = nI (t - 11) := by decide +kernel
theorem xt_e {t c : Nat} (ht : t ≤ 18) (h1 : t ≠ 0) (hc : c < 10) : xb_t t = nI c ↔ t - 1 = c := by
  obtain ⟨u, rfl⟩ : ∃ u, t = u + 1 := ⟨t - 1, by omega⟩
  rw [xb_t1, nI_eq (by omega) (by omega)]
  omega
theorem raVa_no {o : Option (Nat × Nat)} (h : ∀ c b, o = some (c, b) → c < 10 ∧ b < 5) : raVa o = -1 ↔ o = none := by
  cases o with
  | none => exact ⟨fun _ => rfl, fun _ => rfl⟩
  | some p =>
    have := h p.1 p.2 rfl
    refine ⟨fun q => ?_, fun q => by cases q⟩
    have key : ∀ c, c < 10 → ¬ nI c = -1 := by decide +kernel
    exact absurd q (key _ this.1)
theorem raA.up {vl bY : Nat → Int32} {A : raAS} (h : raA vl bY A) (i c b : Nat) : raA (upd vl i (nI c)) (upd bY i (xb_t b)) (raUp A i c b) := by
  refine ⟨fun j hj => ?_, fun j hj => ?_⟩
  · unfold upd raUp
    by_cases q : j = i
    · rw [if_pos q, if_pos q]; rfl
    · rw [if_neg q, if_neg q]; exact h.v j hj
  · unfold upd raUp
    by_cases q : j = i
    · rw [if_pos q, if_pos q]; rfl
    · rw [if_neg q, if_neg q]; exact h.b j hj
theorem q_takes {post : Int32 → (Nat → Int32) → (Nat → Int32) → Prop} {vl bY : Nat → Int32} {A : raAS} {t c b : Nat} (hA : raA vl bY A) (ho : raK A) (ht : t ≤ 18) (hc : c < 10) (hp : ∀ vl' bY', raA vl' bY' (raT t c b A).2 → post (bI (raT t c b A).1) vl' bY') : wp_Mo_takes post vl bY (xb_t t) (nI c) (xb_t b) := by
  unfold wp_Mo_takes
  rw [xt_0 t ht]
  unfold xj
  refine ⟨fun h11 => ?_, fun h11 => ?_⟩
  · rw [xt_m t ht h11]
    intro x1 e1
    subst e1
    have hin : vp_in (nI (t - 11)) 8 := vp_in_nI (by omega) (by decide)
    rw [nI_clamp (by omega), hA.v _ (by omega), raVa_no (ho _)]
    unfold raT at hp
    rw [if_neg (by omega), if_neg (by omega)] at hp
    refine ⟨hin, fun hn => ?_, fun hn => ?_⟩
    · refine ⟨hin, ?_⟩
      cases hq : A (t - 11) with
      | none => exact absurd hq hn
      | some p =>
        rw [hq] at hp
        have h9 := ho _ _ _ hq
        dsimp only at hp ⊢
        rw [hA.v _ (by omega), hq]
        show (¬ nI p.1 = nI c → _) ∧ _
        rw [show (raVa (some p) = nI c) = (nI p.1 = nI c) from rfl, nI_eq (by omega) (by omega)]
        refine ⟨fun q => ⟨rfl, ?_⟩, fun q => ⟨rfl, ?_⟩⟩
        · have := hp vl bY hA
          rw [decide_eq_false q] at this
          exact this
        · have := hp vl bY hA
          rw [decide_eq_true q] at this
          exact this
    · rw [hn] at hp
      refine ⟨hin, fun v6 e6 => ⟨hin, fun b7 e7 => ⟨hin, ?_⟩⟩⟩
      have h7 := hp v6 b7 (by rw [e6, e7]; exact hA.up _ _ _)
      dsimp only
      have e : v6 (t - 11) = nI c := by rw [e6]; exact if_pos rfl
      rw [e]
      exact ⟨fun q => absurd rfl q, fun _ => ⟨rfl, h7⟩⟩
  · unfold raT at hp
    by_cases h0 : t = 0
    · rw [if_pos h0] at hp
      exact ⟨fun _ => ⟨rfl, hp vl bY hA⟩, fun q => absurd ((xt_n t ht).mpr h0) q⟩
    · rw [if_neg h0, if_pos (by omega)] at hp
      rw [xt_n t ht, xt_e ht h0 hc]
      refine ⟨fun q => absurd q h0, fun _ => ⟨fun q => ⟨rfl, ?_⟩, fun q => ⟨rfl, ?_⟩⟩⟩
      · have := hp vl bY hA
        rw [decide_eq_false q] at this
        exact this
      · have := hp vl bY hA
        rw [decide_eq_true q] at this
        exact this
def raFr (b : Nat) (A : raAS) : raAS := fun i => match A i with
  | none => none
  | some p => if p.2 = b then none else some p
theorem nI8 {j : Nat} (hj : j ≤ 8) : 8 ≤ nI j ↔ j = 8 := by
  rw [show (8 : Int32) = nI 8 from rfl, nI_leI (by omega) (by omega)]
  omega
theorem xb_t_eq : ∀ a, a < 5 → ∀ b, b < 5 → (xb_t a = xb_t b ↔ a = b) := by decide +kernel
theorem q_frees {post : (Nat → Int32) → (Nat → Int32) → Prop} {vl bY : Nat → Int32} {A : raAS} {b : Nat} (hA : raA vl bY A) (ho : raK A) (hb1 : 1 ≤ b) (hb : b < 5) (hp : ∀ vl' bY', raA vl' bY' (raFr b A) → post vl' bY') : wp_Mo_frees post vl bY (xb_t b) := by
  unfold wp_Mo_frees
  refine xL_up (fun j s => s.1 = nI j ∧ raA s.2.1 s.2.2 (fun i => if i < j then raFr b A i else A i)) 8 ?_ (Nat.zero_le 8) ⟨rfl, by simpa using hA⟩
  rintro j ⟨j1, v1, b1⟩ hj ⟨q1, q2⟩ K hK
  dsimp only at q1 q2 ⊢
  rw [q1, nI8 hj]
  unfold xj
  refine ⟨fun e => ?_, fun e => ?_⟩
  · refine hp _ _ ⟨fun i hi => ?_, fun i hi => ?_⟩
    · rw [q2.v i hi, if_pos (by omega)]
    · rw [q2.b i hi, if_pos (by omega)]
  · have hin : vp_in (nI j) 8 := vp_in_nI (by omega) (by decide)
    rw [nI_clamp (by omega), q2.b j (by omega), if_neg (Nat.lt_irrefl j)]
    refine ⟨hin, fun hn x5 e5 => hK (by omega) _ ⟨by rw [e5, nI_1], ?_⟩, fun hn => ⟨hin, fun v6 e6 => ⟨hin, fun b7 e7 x5 e5 => hK (by omega) _ ⟨by rw [e5, nI_1], ?_⟩⟩⟩⟩
    · have hf : raFr b A j = A j := by
        unfold raFr
        cases hq : A j with
        | none => rfl
        | some p =>
          dsimp only
          rw [if_neg]
          intro h
          apply hn
          rw [hq, ← h]
          rfl
      have : (fun i => if i < j + 1 then raFr b A i else A i) = (fun i => if i < j then raFr b A i else A i) := by
        funext i
        by_cases h : i < j
        · rw [if_pos h, if_pos (by omega)]
        · by_cases h2 : i = j
          · subst h2; rw [if_neg h, if_pos (by omega), hf]
          · rw [if_neg h, if_neg (by omega)]
      rw [this]
      exact q2
    · have hf : raFr b A j = none := by
        unfold raFr
        cases hq : A j with
        | none => rfl
        | some p =>
          dsimp only
          rw [if_pos]
          rw [hq] at hn
          exact (xb_t_eq _ (ho j _ _ hq).2 _ hb).mp hn
      subst e6 e7
      refine ⟨fun i hi => ?_, fun i hi => ?_⟩
      · dsimp only
        unfold upd
        by_cases h : i = j
        · subst h; rw [if_pos rfl, if_pos (by omega), hf]; rfl
        · rw [if_neg h]
          have := q2.v i hi
          by_cases h2 : i < j
          · rw [if_pos h2] at this; rw [if_pos (by omega)]; exact this
          · rw [if_neg h2] at this; rw [if_neg (by omega)]; exact this
      · dsimp only
        unfold upd
        by_cases h : i = j
        · subst h; rw [if_pos rfl, if_pos (by omega), hf]; rfl
        · rw [if_neg h]
          have := q2.b i hi
          by_cases h2 : i < j
          · rw [if_pos h2] at this; rw [if_pos (by omega)]; exact this
          · rw [if_neg h2] at this; rw [if_neg (by omega)]; exact this
theorem q_begins {post : (Nat → Int32) → (Nat → Int32) → (Nat → Int32) → Int32 → Int32 → Int32 → Prop} {vl bY ch : Nat → Int32} {r0 a0 d0 r m : Int32} (hp : ∀ vl' bY', raA vl' bY' (fun _ => none) → post vl' bY' (upd ch 0 (-1)) r m 0) : wp_Mo_begins post vl bY ch r0 a0 d0 r m := by
  unfold wp_Mo_begins
  refine ⟨vp_in_nI (n := 0) (by omega) (by decide), fun c1 e1 => ?_⟩
  rw [c0_] at e1
  subst e1
  refine xL_up (fun j s => s.1 = nI j ∧ (∀ i, i < j → s.2.1 i = -1 ∧ s.2.2.1 i = -1) ∧ s.2.2.2 = (upd ch 0 (-1), r, m, 0)) 8 ?_ (Nat.zero_le 8) ⟨rfl, fun i hi => by omega, rfl⟩
  rintro j ⟨j1, v1, b1, rest⟩ hj ⟨q1, q2, q3⟩ K hK
  dsimp only at q1 q2 q3 ⊢
  rw [q1, q3, nI8 hj]
  refine ⟨fun e => hp _ _ ⟨fun i hi => (q2 i (by omega)).1, fun i hi => (q2 i (by omega)).2⟩, fun e => ?_⟩
  have hin : vp_in (nI j) 8 := vp_in_nI (by omega) (by decide)
  rw [nI_clamp (by omega)]
  refine ⟨hin, fun v4 e4 => ⟨hin, fun b5 e5 x6 e6 => hK (by omega) _ ⟨by rw [e6, nI_1], fun i hi => ?_, rfl⟩⟩⟩
  rw [e4, e5]
  dsimp only
  unfold upd
  by_cases h : i = j
  · rw [if_pos h, if_pos h]; exact ⟨rfl, rfl⟩
  · rw [if_neg h, if_neg h]; exact q2 i (by omega)
/-! extending and freeing -/
def raE (b : Nat) (A A' : raAS) : Prop := ∀ v, A' v = A v ∨ (A v = none ∧ ∃ c, A' v = some (c, b))
def raN (b : Nat) (A : raAS) : Prop := ∀ v c, A v ≠ some (c, b)
theorem raE.rf {b : Nat} {A : raAS} : raE b A A := fun _ => Or.inl rfl
theorem raE.tr {b : Nat} {A B C : raAS} (h : raE b A B) (g : raE b B C) : raE b A C := by
  intro v
  rcases g v with e | ⟨e1, c, e2⟩
  · rw [e]; exact h v
  · rcases h v with f | ⟨f1, c', f2⟩
    · exact Or.inr ⟨by rw [← f]; exact e1, c, e2⟩
    · rw [f2] at e1; cases e1
theorem raT_ext (t c b : Nat) (A : raAS) : raE b A (raT t c b A).2 := by
  unfold raT
  split
  · exact raE.rf
  · split
    · exact raE.rf
    · split
      · rename_i q
        intro v
        by_cases h : v = t - 11
        · subst h; exact Or.inr ⟨q, c, if_pos rfl⟩
        · exact Or.inl (if_neg h)
      · exact raE.rf
theorem raFr_ext {b : Nat} {A A' : raAS} (hn : raN b A) (h : raE b A A') : raFr b A' = A := by
  funext v
  unfold raFr
  rcases h v with e | ⟨e1, c, e2⟩
  · rw [e]
    cases q : A v with
    | none => rfl
    | some p =>
      dsimp only
      rw [if_neg]
      intro z
      exact hn v p.1 (by rw [q, ← z])
  · rw [e2, e1]
    dsimp only
    rw [if_pos rfl]
theorem raK.keepT {A : raAS} {t c b : Nat} (h : raK A) (hc : c < 10) (hb : b < 5) : raK (raT t c b A).2 := by
  intro i c' b' q
  rcases raT_ext t c b A i with e | ⟨e1, c2, e2⟩
  · rw [e] at q; exact h i c' b' q
  · unfold raT at q
    split at q
    · exact h i c' b' q
    · split at q
      · exact h i c' b' q
      · split at q
        · have q : (if i = t - 11 then some (c, b) else A i) = some (c', b') := q
          by_cases z : i = t - 11
          · rw [if_pos z] at q; cases q; exact ⟨hc, hb⟩
          · rw [if_neg z] at q; exact h i c' b' q
        · exact h i c' b' q
theorem q_takes_mono {P Q : Int32 → (Nat → Int32) → (Nat → Int32) → Prop} {vl bY : Nat → Int32} {t c b : Int32} (h : ∀ r x y, P r x y → Q r x y) (z : wp_Mo_takes P vl bY t c b) : wp_Mo_takes Q vl bY t c b := by
  unfold wp_Mo_takes xj at *
  refine ⟨fun q x1 e1 => ?_, fun q => ?_⟩
  · obtain ⟨a1, a2, a3⟩ := z.1 q x1 e1
    refine ⟨a1, fun q2 => ?_, fun q2 => ?_⟩
    · exact ⟨(a2 q2).1, fun q3 => ⟨((a2 q2).2.1 q3).1, h _ _ _ ((a2 q2).2.1 q3).2⟩, fun q3 => ⟨((a2 q2).2.2 q3).1, h _ _ _ ((a2 q2).2.2 q3).2⟩⟩
    · refine ⟨(a3 q2).1, fun v6 e6 => ⟨((a3 q2).2 v6 e6).1, fun b7 e7 => ?_⟩⟩
      have a4 := ((a3 q2).2 v6 e6).2 b7 e7
      exact ⟨a4.1, fun q3 => ⟨(a4.2.1 q3).1, h _ _ _ (a4.2.1 q3).2⟩, fun q3 => ⟨(a4.2.2 q3).1, h _ _ _ (a4.2.2 q3).2⟩⟩
  · obtain ⟨a1, a2⟩ := z.2 q
    exact ⟨fun q2 => ⟨(a1 q2).1, h _ _ _ (a1 q2).2⟩, fun q2 => ⟨fun q3 => ⟨((a2 q2).1 q3).1, h _ _ _ ((a2 q2).1 q3).2⟩, fun q3 => ⟨((a2 q2).2 q3).1, h _ _ _ ((a2 q2).2 q3).2⟩⟩⟩
/-- atoms in the reference's arrays -/
abbrev ra_ (oa la ga : Nat → Int32) (r m : Nat) (of lf rg : Nat → Nat) : Prop := (r ≤ 30) ∧ (m ≤ 3) ∧ (∀ k, k < m → oa (4 * r + 1 + k) = nI (of k)) ∧ (∀ k, k < m → of k < 10) ∧ (∀ k, k < m → la (4 * r + 1 + k) = xb_t (lf k)) ∧ (∀ k, k < m → lf k ≤ 18) ∧ (∀ k, k < m → ga (4 * r + 1 + k) = xb_t (rg k)) ∧ (∀ k, k < m → rg k ≤ 18)
theorem ra_.r30 {oa la ga : Nat → Int32} {r m : Nat} {of lf rg : Nat → Nat} (h_ : ra_ oa la ga r m of lf rg) : r ≤ 30 := h_.1
theorem ra_.m3 {oa la ga : Nat → Int32} {r m : Nat} {of lf rg : Nat → Nat} (h_ : ra_ oa la ga r m of lf rg) : m ≤ 3 := h_.2.1
theorem ra_.o {oa la ga : Nat → Int32} {r m : Nat} {of lf rg : Nat → Nat} (h_ : ra_ oa la ga r m of lf rg) : ∀ k, k < m → oa (4 * r + 1 + k) = nI (of k) := h_.2.2.1
theorem ra_.o10 {oa la ga : Nat → Int32} {r m : Nat} {of lf rg : Nat → Nat} (h_ : ra_ oa la ga r m of lf rg) : ∀ k, k < m → of k < 10 := h_.2.2.2.1
theorem ra_.l {oa la ga : Nat → Int32} {r m : Nat} {of lf rg : Nat → Nat} (h_ : ra_ oa la ga r m of lf rg) : ∀ k, k < m → la (4 * r + 1 + k) = xb_t (lf k) := h_.2.2.2.2.1
theorem ra_.l18 {oa la ga : Nat → Int32} {r m : Nat} {of lf rg : Nat → Nat} (h_ : ra_ oa la ga r m of lf rg) : ∀ k, k < m → lf k ≤ 18 := h_.2.2.2.2.2.1
theorem ra_.g {oa la ga : Nat → Int32} {r m : Nat} {of lf rg : Nat → Nat} (h_ : ra_ oa la ga r m of lf rg) : ∀ k, k < m → ga (4 * r + 1 + k) = xb_t (rg k) := h_.2.2.2.2.2.2.1
theorem ra_.g18 {oa la ga : Nat → Int32} {r m : Nat} {of lf rg : Nat → Nat} (h_ : ra_ oa la ga r m of lf rg) : ∀ k, k < m → rg k ≤ 18 := h_.2.2.2.2.2.2.2
abbrev mB (f : Nat → Int32) (M : Nat → Bool) (n : Nat) : Prop := ∀ i, i < n → f i = bI (M i)
def raU (M : Nat → Bool) (of lf rg d : Nat) (A : raAS) (f : Nat) : Prop := M (100 * of + f) = true ∧ (raT lf (f / 10) (d + 1) A).1 = true ∧ (raT rg (f % 10) (d + 1) (raT lf (f / 10) (d + 1) A).2).1 = true
abbrev raT2 (lf rg d f : Nat) (A : raAS) : raAS := (raT rg (f % 10) (d + 1) (raT lf (f / 10) (d + 1) A).2).2
theorem xt_99 : ∀ e, e ≤ 100 → (99 ≤ xb_t e ↔ e = 100) := by decide +kernel
theorem q_finds {post : Int32 → (Nat → Int32) → (Nat → Int32) → (Nat → Int32) → Prop} {md oa la ga vl bY ch : Nat → Int32} {M : Nat → Bool} {r m d e : Nat} {of lf rg : Nat → Nat} {A : raAS}
    (hr : ra_ oa la ga r m of lf rg) (hd : d < m) (hM : mB md M 1000) (hA : raA vl bY A) (ho : raK A) (hn : raN (d + 1) A) (he : e ≤ 100) (hc : ch d = xb_t e)
    (p0 : ∀ vl' bY' ch', raA vl' bY' A → ch' d = xb_t 100 → (∀ k, k ≠ d → ch' k = ch k) → (∀ f, e ≤ f → f < 100 → ¬ raU M (of d) (lf d) (rg d) d A f) → post 0 vl' bY' ch')
    (p1 : ∀ vl' bY' ch' f, e ≤ f → f < 100 → raU M (of d) (lf d) (rg d) d A f → raA vl' bY' (raT2 (lf d) (rg d) d f A) → ch' d = xb_t (f + 1) → (∀ k, k ≠ d → ch' k = ch k) → (∀ f', e ≤ f' → f' < f → ¬ raU M (of d) (lf d) (rg d) d A f') → post 1 vl' bY' ch') :
    wp_Mo_finds post md oa la ga (nI r) (nI d) vl bY ch := by
  unfold wp_Mo_finds
  have h3 := hr.m3
  have h30 := hr.r30
  have hof := hr.o10 d hd
  intro x1 e1
  rw [show (4 : Int32) = nI 4 from rfl, pk_mul, nI_1, nI_add] at e1
  subst e1
  rw [nI_clamp (by omega), nI_clamp (by omega), hr.o d hd, hr.l d hd, hr.g d hd]
  have hin4 : vp_in (nI d) 4 := vp_in_nI (by omega) (by decide)
  have hin1 : vp_in (nI (4 * r + 1 + d)) 124 := vp_in_nI (by omega) (by decide)
  refine xL_up (fun j s => e ≤ j ∧ raA s.1 s.2.1 A ∧ s.2.2 d = xb_t j ∧ (∀ k, k ≠ d → s.2.2 k = ch k) ∧ ∀ f, e ≤ f → f < j → ¬ raU M (of d) (lf d) (rg d) d A f) 100 ?_ he ⟨Nat.le_refl _, hA, hc, fun _ _ => rfl, fun f h1 h2 => by omega⟩
  rintro j ⟨v1, b1, c1⟩ hj ⟨q0, q1, q2, q3, q4⟩ K hK
  dsimp only at q1 q2 q3 ⊢
  refine ⟨hin4, ?_⟩
  rw [q2, xt_99 j hj, xb_t_add]
  refine ⟨fun ej => ?_, fun ej => ⟨hin4, hin4, fun c4 e4 => ⟨hin4, fun x5 e5 => ⟨hin1, ?_⟩⟩⟩⟩
  · subst ej
    exact p0 _ _ _ q1 q2 q3 q4
  · have hc4 : c4 d = nI j := by rw [e4]; exact if_pos rfl
    have hc4' : ∀ k, k ≠ d → c4 k = ch k := fun k hk => by rw [e4]; exact (if_neg hk).trans (q3 k hk)
    rw [hc4] at e5
    subst e5
    rw [show (100 : Int32) = nI 100 from rfl, pk_mul, nI_add, nI_clamp (by omega), hM _ (by omega)]
    refine ⟨vp_in_nI (by omega) (by decide), ?_⟩
    have next : ∀ v' b', raA v' b' A → ¬ raU M (of d) (lf d) (rg d) d A j → K (v', b', c4) := by
      intro v' b' hv hu
      refine hK (by omega) _ ⟨by omega, hv, by rw [xb_t1]; exact hc4, hc4', fun f h1 h2 => ?_⟩
      by_cases z : f = j
      · subst z; exact hu
      · exact q4 f h1 (by omega)
    rw [bI_t, bI_f]
    refine ⟨fun hm => ⟨hin1, ?_⟩, fun hm => next _ _ q1 (fun z => Bool.noConfusion (hm.symm.trans z.1))⟩
    rw [show (10 : Int32) = nI 10 from rfl, pk_rem (by omega) (by omega) (by omega), pk_div (by omega) (by omega) (by omega), ← xb_t1 d]
    have hl := hr.l18 d hd
    have hg := hr.g18 d hd
    refine q_takes q1 ho hl (by omega) (fun v8 b9 hv8 => ?_)
    have ho8 : raK (raT (lf d) (j / 10) (d + 1) A).2 := ho.keepT (by omega) (by omega)
    refine xj_of ?_ (fun s => s.2.2 = c4 ∧ ∃ A', raE (d + 1) A A' ∧ raK A' ∧ raA s.1 s.2.1 A' ∧ ¬ raU M (of d) (lf d) (rg d) d A j) ?_ ?_
    · intro P Q h z
      refine ⟨fun q => h _ (z.1 q), fun q => ⟨(z.2 q).1, ?_⟩⟩
      refine q_takes_mono (fun r' a' b' hz => ⟨fun q => h _ (hz.1 q), fun q => hz.2 q⟩) (z.2 q).2
    · rintro ⟨v', b', c'⟩ ⟨z1, A', z2, z3, z4, z5⟩
      dsimp only at z1 z4 ⊢
      refine q_frees z4 z3 (by omega) (by omega) (fun v14 b15 hv => ?_)
      rw [raFr_ext hn z2] at hv
      rw [z1]
      exact next _ _ hv z5
    · rw [bI_t, bI_f]
      refine ⟨fun q => ⟨rfl, _, raT_ext _ _ _ _, ho8, hv8, fun z => Bool.noConfusion (q.symm.trans z.2.1)⟩, fun q => ⟨hin1, ?_⟩⟩
      refine q_takes hv8 ho8 hg (Nat.mod_lt _ (by omega)) (fun v18 b19 hv18 => ?_)
      rw [bI_t, bI_f]
      refine ⟨fun q' => ⟨rfl, _, (raT_ext _ _ _ _).tr (raT_ext _ _ _ _), ho8.keepT (Nat.mod_lt _ (by omega)) (by omega), hv18, fun z => Bool.noConfusion (q'.symm.trans z.2.2)⟩, fun q' => ?_⟩
      exact p1 _ _ _ j q0 (by omega) ⟨hm, q, q'⟩ hv18 (by rw [xb_t1]; exact hc4) hc4' q4
theorem xL_by {σ : Type} {B : (σ → Prop) → σ → Prop} (I : Nat → σ → Prop) (e : Nat) (hI : ∀ j s, I j s → j ≤ e) (hs : ∀ j s, I j s → ∀ K : σ → Prop, (∀ j' s', j < j' → I j' s' → K s') → B K s) {j : Nat} {s : σ} (h : I j s) : xL B s := by
  have key : ∀ d j s, e - j < d → I j s → xl B d s := by
    intro d
    induction d with
    | zero => intro j s h; omega
    | succ d ih => intro j s h2 h3; exact hs j s h3 _ (fun j' s' hl h4 => ih j' s' (by have := hI j s h3; have := hI j' s' h4; omega) h4)
  exact ⟨_, key (e - j + 1) j s (by omega) h⟩
/-- the assignment that the choices (+ 1) c 0 .. c (d - 1) give -/
def raO (M : Nat → Bool) (of lf rg : Nat → Nat) (A0 : raAS) (c : Nat → Nat) : Nat → raAS → Prop
  | 0, A => A = A0
  | d + 1, A => ∃ B, raO M of lf rg A0 c d B ∧ 1 ≤ c d ∧ c d ≤ 100 ∧ raU M (of d) (lf d) (rg d) d B (c d - 1) ∧ A = raT2 (lf d) (rg d) d (c d - 1) B
def ra0 (A0 : raAS) : Prop := ∀ v c b, A0 v = some (c, b) → c < 10 ∧ b = 0
section GO
variable {M : Nat → Bool} {of lf rg : Nat → Nat} {A0 A : raAS} {c : Nat → Nat} {d m : Nat}
theorem raT_new {t x b : Nat} {A : raAS} {v y b' : Nat} (h : (raT t x b A).2 v = some (y, b')) : A v = some (y, b') ∨ (y = x ∧ b' = b) := by
  unfold raT at h
  split at h
  · exact Or.inl h
  · split at h
    · exact Or.inl h
    · split at h
      · have h : (if v = t - 11 then some (x, b) else A v) = some (y, b') := h
        by_cases z : v = t - 11
        · rw [if_pos z] at h; cases h; exact Or.inr ⟨rfl, rfl⟩
        · rw [if_neg z] at h; exact Or.inl h
      · exact Or.inl h
theorem raO.b (h0 : ra0 A0) : ∀ {d : Nat} {A : raAS}, raO M of lf rg A0 c d A → ∀ v y b, A v = some (y, b) → y < 10 ∧ b ≤ d
  | 0, A, h, v, y, b, q => by
    have h : A = A0 := h
    subst h
    have := h0 v y b q
    omega
  | d + 1, A, h, v, y, b, q => by
    obtain ⟨B, h1, h2, h3, h4, h5⟩ := h
    subst h5
    rcases raT_new q with q | ⟨rfl, rfl⟩
    · rcases raT_new q with q | ⟨rfl, rfl⟩
      · have := raO.b h0 h1 v y b q
        omega
      · omega
    · omega
theorem raO.raN (h0 : ra0 A0) (h : raO M of lf rg A0 c d A) : raN (d + 1) A := fun v y q => by have := (h.b h0 v y _ q).2; omega
theorem raO.ok (h0 : ra0 A0) (h : raO M of lf rg A0 c d A) (hd : d ≤ 3) : raK A := fun v y b q => by have := h.b h0 v y b q; omega
theorem raO.congr {c' : Nat → Nat} : ∀ {d : Nat} {A : raAS}, (∀ k, k < d → c k = c' k) → raO M of lf rg A0 c d A → raO M of lf rg A0 c' d A
  | 0, A, _, h => h
  | d + 1, A, hk, h => by
    obtain ⟨B, h1, h2, h3, h4, h5⟩ := h
    rw [hk d (by omega)] at h2 h3 h4 h5
    exact ⟨B, raO.congr (fun k q => hk k (by omega)) h1, h2, h3, h4, h5⟩
theorem raO.mono {M' : Nat → Bool} (hM : ∀ i, M i = true → M' i = true) : ∀ {d : Nat} {A : raAS}, raO M of lf rg A0 c d A → raO M' of lf rg A0 c d A
  | 0, A, h => h
  | d + 1, A, h => by
    obtain ⟨B, h1, h2, h3, h4, h5⟩ := h
    exact ⟨B, raO.mono hM h1, h2, h3, ⟨hM _ h4.1, h4.2⟩, h5⟩
theorem raO.back (h0 : ra0 A0) (h : raO M of lf rg A0 c (d + 1) A) : raO M of lf rg A0 c d (raFr (d + 1) A) := by
  obtain ⟨B, h1, h2, h3, h4, h5⟩ := h
  have : raFr (d + 1) A = B := by
    rw [h5]
    exact raFr_ext (h1.raN h0) ((raT_ext _ _ _ _).tr (raT_ext _ _ _ _))
  rw [this]
  exact h1
/-- a full assignment -/
def raV (w : Nat → Nat) (t : Nat) : Nat := if t ≤ 10 then t - 1 else w (t - 11)
def raF (w : Nat → Nat) (t x : Nat) : Prop := t = 0 ∨ raV w t = x
def raS (A : raAS) (w : Nat → Nat) : Prop := ∀ v y b, A v = some (y, b) → w v = y
theorem raT_to {w : Nat → Nat} {t x b : Nat} (h : raS A w) (hf : raF w t x) : (raT t x b A).1 = true ∧ raS (raT t x b A).2 w := by
  unfold raT
  by_cases h0 : t = 0
  · rw [if_pos h0]; exact ⟨rfl, h⟩
  · have hf : raV w t = x := hf.resolve_left h0
    unfold raV at hf
    rw [if_neg h0]
    by_cases h10 : t ≤ 10
    · rw [if_pos h10] at hf ⊢
      exact ⟨decide_eq_true hf, h⟩
    · rw [if_neg h10] at hf ⊢
      cases q : A (t - 11) with
      | none =>
        refine ⟨rfl, fun v y b' z => ?_⟩
        have z : (if v = t - 11 then some (x, b) else A v) = some (y, b') := z
        by_cases e : v = t - 11
        · rw [if_pos e] at z; cases z; rw [e]; exact hf
        · rw [if_neg e] at z; exact h v y b' z
      | some p =>
        have := h _ _ _ q
        exact ⟨decide_eq_true (by omega), h⟩
theorem raT_fit {w : Nat → Nat} {t x b : Nat} (h : (raT t x b A).1 = true) (hs : raS (raT t x b A).2 w) : raF w t x ∧ raS A w := by
  have hsub : raS A w := by
    intro v y b' q
    rcases raT_ext t x b A v with e | ⟨e, -⟩
    · exact hs v y b' (by rw [e]; exact q)
    · rw [e] at q; cases q
  refine ⟨?_, hsub⟩
  unfold raT at h hs
  by_cases h0 : t = 0
  · exact Or.inl h0
  · right
    unfold raV
    rw [if_neg h0] at h hs
    by_cases h10 : t ≤ 10
    · rw [if_pos h10] at h ⊢
      exact of_decide_eq_true h
    · rw [if_neg h10] at h hs ⊢
      cases q : A (t - 11) with
      | none =>
        rw [q] at hs
        exact hs (t - 11) x b (if_pos rfl)
      | some p =>
        rw [q] at h
        rw [hsub _ _ _ q]
        exact of_decide_eq_true h
/-- a match: a full assignment, and for each atom the number of its fact -/
def raM (M : Nat → Bool) (of lf rg : Nat → Nat) (m : Nat) (A0 : raAS) (w x : Nat → Nat) : Prop := raS A0 w ∧ ∀ k, k < m → x k < 100 ∧ M (100 * of k + x k) = true ∧ raF w (lf k) (x k / 10) ∧ raF w (rg k) (x k % 10)
theorem raO.to {w x : Nat → Nat} (hm : raM M of lf rg m A0 w x) : ∀ {d : Nat} {A : raAS}, d ≤ m → (∀ k, k < d → x k + 1 = c k) → raO M of lf rg A0 c d A → raS A w
  | 0, A, _, _, h => by
    have h : A = A0 := h
    subst h
    exact hm.1
  | d + 1, A, hd, hx, h => by
    obtain ⟨B, h1, h2, h3, h4, h5⟩ := h
    have hB := raO.to hm (by omega) (fun k hk => hx k (by omega)) h1
    obtain ⟨-, -, g3, g4⟩ := hm.2 d (by omega)
    have e := hx d (by omega)
    rw [show x d = c d - 1 by omega] at g3 g4
    subst h5
    exact (raT_to (raT_to hB g3).2 g4).2
theorem raO.raU {w x : Nat → Nat} (hm : raM M of lf rg m A0 w x) (hd : d < m) (hx : ∀ k, k < d → x k + 1 = c k) (h : raO M of lf rg A0 c d A) : raU M (of d) (lf d) (rg d) d A (x d) := by
  have hA := raO.to hm (by omega) hx h
  obtain ⟨-, g2, g3, g4⟩ := hm.2 d hd
  exact ⟨g2, (raT_to hA g3).1, (raT_to (raT_to hA g3).2 g4).1⟩
/-- .. and a found one is a match -/
theorem raO.raM {w : Nat → Nat} : ∀ {d : Nat} {A : raAS}, raO M of lf rg A0 c d A → raS A w → raM M of lf rg d A0 w (fun k => c k - 1)
  | 0, A, h, hs => by
    have h : A = A0 := h
    subst h
    exact ⟨hs, fun k hk => by omega⟩
  | d + 1, A, h, hs => by
    obtain ⟨B, h1, h2, h3, h4, h5⟩ := h
    subst h5
    obtain ⟨f2, s2⟩ := raT_fit h4.2.2 hs
    obtain ⟨f1, s1⟩ := raT_fit h4.2.1 s2
    have ih := raO.raM h1 s1
    refine ⟨ih.1, fun k hk => ?_⟩
    by_cases e : k = d
    · subst e
      exact ⟨by dsimp only; omega, h4.1, f1, f2⟩
    · exact ih.2 k (by omega)
/-- before the choices in order -/
def raL (c : Nat → Nat) (d : Nat) (x : Nat → Nat) : Prop := ∃ j, j < d ∧ (∀ k, k < j → x k + 1 = c k) ∧ x j + 1 < c j
def raD (c : Nat → Nat) (d : Nat) (x : Nat → Nat) : Prop := raL c d x ∨ ((∀ k, k < d → x k + 1 = c k) ∧ x d < c d)
def raP (c : Nat → Nat) : Nat → Nat
  | 0 => c 0 * 100000 + 1
  | 1 => (c 0 - 1) * 100000 + c 1 * 900 + 2
  | 2 => (c 0 - 1) * 100000 + (c 1 - 1) * 900 + c 2 * 8 + 3
  | _ => (c 0 - 1) * 100000 + (c 1 - 1) * 900 + (c 2 - 1) * 8 + 4
theorem raO.le (h : raO M of lf rg A0 c d A) : ∀ k, k < d → 1 ≤ c k ∧ c k ≤ 100 := by
  induction d generalizing A with
  | zero => intro k hk; omega
  | succ d ih =>
    obtain ⟨B, h1, h2, h3, h4, h5⟩ := h
    intro k hk
    by_cases e : k = d
    · subst e; exact ⟨h2, h3⟩
    · exact ih h1 k (by omega)
theorem raP_le (hd : d ≤ 3) (h : ∀ k, k < d → 1 ≤ c k ∧ c k ≤ 100) (h2 : c d ≤ 100) : raP c d ≤ 20000000 := by
  have h0 := h 0
  have h1 := h 1
  have h3 := h 2
  rcases d with _ | _ | _ | _ | d
  · simp only [raP, Nat.zero_add, Nat.reduceAdd] at *; omega
  · simp only [raP, Nat.zero_add, Nat.reduceAdd] at *; omega
  · simp only [raP, Nat.zero_add, Nat.reduceAdd] at *; omega
  · simp only [raP, Nat.zero_add, Nat.reduceAdd] at *; omega
  · omega
end GO
section GO2
variable {M : Nat → Bool} {of lf rg : Nat → Nat} {A0 A : raAS} {c : Nat → Nat} {d m r : Nat} {md oa la ga vl bY ch : Nat → Int32}
/-- where a search stands: depth d, choices (+ 1) c -/
abbrev gS (M : Nat → Bool) (of lf rg : Nat → Nat) (A0 : raAS) (vl bY ch : Nat → Int32) (c : Nat → Nat) (d : Nat) (A : raAS) : Prop := (∀ k, k ≤ d → ch k = xb_t (c k)) ∧ (c d ≤ 100) ∧ (raO M of lf rg A0 c d A) ∧ (raA vl bY A)
theorem gS.cc {M : Nat → Bool} {of lf rg : Nat → Nat} {A0 : raAS} {vl bY ch : Nat → Int32} {c : Nat → Nat} {d : Nat} {A : raAS} (h_ : gS M of lf rg A0 vl bY ch c d A) : ∀ k, k ≤ d → ch k = xb_t (c k) := h_.1
theorem gS.le {M : Nat → Bool} {of lf rg : Nat → Nat} {A0 : raAS} {vl bY ch : Nat → Int32} {c : Nat → Nat} {d : Nat} {A : raAS} (h_ : gS M of lf rg A0 vl bY ch c d A) : c d ≤ 100 := h_.2.1
theorem gS.ok {M : Nat → Bool} {of lf rg : Nat → Nat} {A0 : raAS} {vl bY ch : Nat → Int32} {c : Nat → Nat} {d : Nat} {A : raAS} (h_ : gS M of lf rg A0 vl bY ch c d A) : raO M of lf rg A0 c d A := h_.2.2.1
theorem gS.va {M : Nat → Bool} {of lf rg : Nat → Nat} {A0 : raAS} {vl bY ch : Nat → Int32} {c : Nat → Nat} {d : Nat} {A : raAS} (h_ : gS M of lf rg A0 vl bY ch c d A) : raA vl bY A := h_.2.2.2
abbrev cU (c : Nat → Nat) (d x : Nat) : Nat → Nat := fun k => if k = d then x else c k
theorem cU_s {c : Nat → Nat} {d x : Nat} : cU c d x d = x := if_pos rfl
theorem cU_n {c : Nat → Nat} {d x k : Nat} (h : k ≠ d) : cU c d x k = c k := if_neg h
theorem xt_m1 {d : Nat} : nI (d + 1) - 1 = nI d := nI_pred d
theorem ps_s {x : Nat} (hd : d < 3) (hx : c d ≤ x) : raP c d < raP (cU (cU c d (x + 1)) (d + 1) 0) (d + 1) := by
  rcases d with _ | _ | _ | d
  · simp only [raP, Nat.zero_add, Nat.reduceAdd, cU] at *; simp; omega
  · simp only [raP, Nat.zero_add, Nat.reduceAdd, cU] at *; simp; omega
  · simp only [raP, Nat.zero_add, Nat.reduceAdd, cU] at *; simp; omega
  · omega
theorem ps_f {c' : Nat → Nat} (hd : d < 2) (h1 : 1 ≤ c d) (hx : c (d + 1) ≤ 100) (hc : ∀ k, k ≤ d → c' k = c k) : raP c (d + 1) < raP c' d := by
  rcases d with _ | _ | d
  · have := hc 0 (by omega)
    simp only [raP, Nat.zero_add, Nat.reduceAdd] at *; omega
  · have := hc 0 (by omega)
    have := hc 1 (by omega)
    simp only [raP, Nat.zero_add, Nat.reduceAdd] at *; omega
  · omega
theorem ps_r (hd : d < 3) (h1 : 1 ≤ c d) (h0 : c (d + 1) = 0) : raP c (d + 1) < raP c d := by
  rcases d with _ | _ | _ | d
  · simp only [raP, Nat.zero_add, Nat.reduceAdd] at *; omega
  · simp only [raP, Nat.zero_add, Nat.reduceAdd] at *; omega
  · simp only [raP, Nat.zero_add, Nat.reduceAdd] at *; omega
  · omega
/-- what a search's next step ends in -/
abbrev gE (post : Int32 → (Nat → Int32) → (Nat → Int32) → (Nat → Int32) → Int32 → Int32 → Prop) (M : Nat → Bool) (of lf rg : Nat → Nat) (A0 : raAS) (m : Nat) (DS : (Nat → Nat) → Prop) (p : Nat) : Prop := ((∀ w x, raM M of lf rg m A0 w x → DS x) → ∀ vl bY ch, post 0 vl bY ch 0 0) ∧ (∀ vl bY ch c A, gS M of lf rg A0 vl bY ch c m A → c m = 0 → p < raP c m → (∀ w x, raM M of lf rg m A0 w x → raL c m x → DS x) → post 1 vl bY ch (nI m) (nI m))
theorem gE.no {post : Int32 → (Nat → Int32) → (Nat → Int32) → (Nat → Int32) → Int32 → Int32 → Prop} {M : Nat → Bool} {of lf rg : Nat → Nat} {A0 : raAS} {m : Nat} {DS : (Nat → Nat) → Prop} {p : Nat} (h_ : gE post M of lf rg A0 m DS p) : (∀ w x, raM M of lf rg m A0 w x → DS x) → ∀ vl bY ch, post 0 vl bY ch 0 0 := h_.1
theorem gE.yes {post : Int32 → (Nat → Int32) → (Nat → Int32) → (Nat → Int32) → Int32 → Int32 → Prop} {M : Nat → Bool} {of lf rg : Nat → Nat} {A0 : raAS} {m : Nat} {DS : (Nat → Nat) → Prop} {p : Nat} (h_ : gE post M of lf rg A0 m DS p) : ∀ vl bY ch c A, gS M of lf rg A0 vl bY ch c m A → c m = 0 → p < raP c m → (∀ w x, raM M of lf rg m A0 w x → raL c m x → DS x) → post 1 vl bY ch (nI m) (nI m) := h_.2
/-- the loop of goes -/
theorem q_goL {B : ((Nat → Int32) × (Nat → Int32) × (Nat → Int32) × Int32 × Int32 → Prop) → ((Nat → Int32) × (Nat → Int32) × (Nat → Int32) × Int32 × Int32) → Prop} {post : Int32 → (Nat → Int32) → (Nat → Int32) → (Nat → Int32) → Int32 → Int32 → Prop}
    (hB : B = fun K v => ((v.2.2.2.1 ≤ v.2.2.2.2 → post 1 v.1 v.2.1 v.2.2.1 v.2.2.2.1 v.2.2.2.2) ∧ (¬ v.2.2.2.1 ≤ v.2.2.2.2 → wp_Mo_finds (fun r3 vl5 by6 ch7 => ((r3 = 0 → ((0 ≤ (v.2.2.2.2 - 1) → wp_Mo_frees (fun vl10 by11 => K (vl10, by11, ch7, v.2.2.2.1, v.2.2.2.2 - 1)) vl5 by6 (v.2.2.2.2 - 1)) ∧ (¬ 0 ≤ (v.2.2.2.2 - 1) → post 0 vl5 by6 ch7 0 0))) ∧ (¬ r3 = 0 → vp_in (v.2.2.2.2 + 1) 4 ∧ ∀ ch12 : Nat → Int32, ch12 = upd ch7 (Int32.toNatClampNeg (v.2.2.2.2 + 1)) (-1) → K (vl5, by6, ch12, v.2.2.2.1, v.2.2.2.2 + 1)))) md oa la ga (nI r) v.2.2.2.2 v.1 v.2.1 v.2.2.1)))
    (hr : ra_ oa la ga r m of lf rg) (h0 : ra0 A0) (hM : mB md M 1000) {DS : (Nat → Nat) → Prop} {p : Nat} (hE : gE post M of lf rg A0 m DS p)
    (hs : gS M of lf rg A0 vl bY ch c d A) (hd : d < m) (hp : p < raP c d) (hD : ∀ w x, raM M of lf rg m A0 w x → raD c d x → DS x) : xL B (vl, bY, ch, nI m, nI d) := by
  subst hB
  have h3 := hr.m3
  refine xL_by (fun j s => ∃ c d A, j = raP c d ∧ s.2.2.2.1 = nI m ∧ s.2.2.2.2 = nI d ∧ d ≤ m ∧ (d = m → c m = 0) ∧ gS M of lf rg A0 s.1 s.2.1 s.2.2.1 c d A ∧ p < raP c d ∧ ∀ w x, raM M of lf rg m A0 w x → raD c d x → DS x) 20000000 ?_ ?_ (j := raP c d) ⟨c, d, A, rfl, rfl, rfl, by omega, fun e => by omega, hs, hp, hD⟩
  · rintro j s ⟨c, d, A, rfl, -, -, z1, z0, z2, -⟩
    exact raP_le (by omega) z2.ok.le z2.le
  · rintro j ⟨vl, bY, ch, m1, d1⟩ ⟨c, d, A, rfl, e1, e2, hdm, hm0, hs, hp, hD⟩ K hK
    dsimp only at e1 e2 hs ⊢
    rw [e1, e2, nI_leI (by omega) (by omega)]
    refine ⟨fun h => ?_, fun h => ?_⟩
    · have : d = m := by omega
      subst this
      refine hE.yes _ _ _ c A hs (hm0 rfl) hp (fun w x hx hl => hD w x hx (Or.inl hl))
    · have hlt : d < m := by omega
      have hok := hs.ok
      refine q_finds (e := c d) hr hlt hM hs.va (hok.ok h0 (by omega)) (hok.raN h0) hs.le (hs.cc d (Nat.le_refl _)) ?_ ?_
      · intro vl' bY' ch' g1 g2 g3 g4
        have full : ∀ w x, raM M of lf rg m A0 w x → (∀ k, k < d → x k + 1 = c k) → DS x := by
          intro w x hx hk
          by_cases q : x d < c d
          · exact hD w x hx (Or.inr ⟨hk, q⟩)
          · exact absurd (raO.raU hx hlt hk hok) (g4 (x d) (by omega) (hx.2 d hlt).1)
        refine ⟨fun _ => ⟨fun q => ?_, fun q => ?_⟩, fun q => absurd rfl q⟩
        · rcases d with _ | d
          · exact absurd q (by decide)
          · rw [nI_pred, ← xb_t1 d]
            refine q_frees g1 (hok.ok h0 (by omega)) (by omega) (by omega) (fun v10 b11 hv => ?_)
            rw [xb_t1]
            have hfr := raO.back h0 hok
            have hle := hok.le d (by omega)
            refine hK (raP c d) _ (ps_f (by omega) hle.1 hs.le (fun _ _ => rfl)) ⟨c, d, _, rfl, rfl, rfl, by omega, fun e => by omega, ⟨fun k hk => ?_, hle.2, hfr, hv⟩, Nat.lt_trans hp (ps_f (by omega) hle.1 hs.le (fun _ _ => rfl)), fun w x hx hdn => ?_⟩
            · dsimp only
              rw [g3 k (by omega)]
              exact hs.cc k (by omega)
            · rcases hdn with ⟨j, j1, j2, j3⟩ | ⟨k1, k2⟩
              · exact hD w x hx (Or.inl ⟨j, by omega, j2, j3⟩)
              · by_cases z : x d + 1 < c d
                · exact hD w x hx (Or.inl ⟨d, by omega, k1, z⟩)
                · refine full w x hx (fun k hk => ?_)
                  by_cases e : k = d
                  · subst e; omega
                  · exact k1 k (by omega)
        · rcases d with _ | d
          · exact hE.no (fun w x hx => full w x hx (fun k hk => by omega)) _ _ _
          · rw [nI_pred] at q
            exact absurd (nI_pos' (by omega)) q
      · intro vl' bY' ch' f f1 f2 f3 f4 f5 f6 f7
        refine ⟨fun q => absurd q (by decide), fun _ => ?_⟩
        rw [nI_1, nI_clamp (by omega)]
        refine ⟨vp_in_nI (by omega) (by decide), fun ch12 e12 => ?_⟩
        have hps := ps_s (c := c) (d := d) (x := f) (by omega) f1
        refine hK (raP (cU (cU c d (f + 1)) (d + 1) 0) (d + 1)) _ hps ⟨cU (cU c d (f + 1)) (d + 1) 0, d + 1, _, rfl, rfl, rfl, by omega, fun e => ?_, ⟨fun k hk => ?_, ?_, ?_, f4⟩, Nat.lt_trans hp hps, fun w x hx hdn => ?_⟩
        · rw [← e]; exact cU_s
        · dsimp only
          rw [e12]
          unfold upd
          by_cases e : k = d + 1
          · rw [if_pos e, e, cU_s]; decide
          · rw [if_neg e, cU_n e]
            by_cases e2 : k = d
            · rw [e2, cU_s]; exact f5
            · rw [cU_n e2, f6 k e2]; exact hs.cc k (by omega)
        · rw [cU_s]; omega
        · have e1 : cU (cU c d (f + 1)) (d + 1) 0 d = f + 1 := by rw [cU_n (by omega), cU_s]
          refine ⟨A, hok.congr (fun k hk => ?_), ?_, ?_, ?_, ?_⟩
          · rw [cU_n (by omega), cU_n (by omega)]
          · rw [e1]; omega
          · rw [e1]; omega
          · rw [e1]; exact f3
          · rw [e1]; rfl
        · have e1 : cU (cU c d (f + 1)) (d + 1) 0 d = f + 1 := by rw [cU_n (by omega), cU_s]
          have ek : ∀ k, k < d → cU (cU c d (f + 1)) (d + 1) 0 k = c k := fun k hk => by rw [cU_n (by omega), cU_n (by omega)]
          rcases hdn with ⟨j, j1, j2, j3⟩ | ⟨k1, k2⟩
          · by_cases ej : j = d
            · subst ej
              rw [e1] at j3
              have hk : ∀ k, k < j → x k + 1 = c k := fun k hk => (j2 k hk).trans (ek k hk)
              by_cases q : x j < c j
              · exact hD w x hx (Or.inr ⟨hk, q⟩)
              · exact absurd (raO.raU hx hlt hk hok) (f7 (x j) (by omega) (by omega))
            · refine hD w x hx (Or.inl ⟨j, by omega, fun k hk => (j2 k hk).trans (ek k (by omega)), ?_⟩)
              rw [ek j (by omega)] at j3
              exact j3
          · rw [cU_s] at k2
            omega
end GO2
section GO3
variable {M : Nat → Bool} {of lf rg : Nat → Nat} {A0 A : raAS} {c : Nat → Nat} {m r : Nat} {md oa la ga vl bY ch : Nat → Int32} {post : Int32 → (Nat → Int32) → (Nat → Int32) → (Nat → Int32) → Int32 → Int32 → Prop} {DS : (Nat → Nat) → Prop} {p : Nat}
theorem q_goes0 (hr : ra_ oa la ga r m of lf rg) (h0 : ra0 A0) (hM : mB md M 1000) (hm : 1 ≤ m) (hE : gE post M of lf rg A0 m (fun _ => False) 0) (hA : raA vl bY A0) (hc : ch 0 = -1) : wp_Mo_goes post md oa la ga (nI r) vl bY ch (nI m) 0 := by
  unfold wp_Mo_goes
  have h3 := hr.m3
  refine ⟨fun _ => ?_, fun q => ?_⟩
  · exact q_goL (p := 0) (c := fun _ => 0) (d := 0) (A := A0) rfl hr h0 hM hE ⟨fun k hk => by rw [show k = 0 by omega, hc]; decide, Nat.zero_le _, rfl, hA⟩ (by omega) (by simp [raP]) (fun w x _ hd => by
      rcases hd with ⟨j, j1, -⟩ | ⟨-, z⟩
      · omega
      · dsimp only at z; omega)
  · rw [show (0 : Int32) = nI 0 from rfl, nI_eq (by omega) (by omega)] at q
    omega
theorem q_goes1 (hr : ra_ oa la ga r m of lf rg) (h0 : ra0 A0) (hM : mB md M 1000) (hm : 1 ≤ m) (hs : gS M of lf rg A0 vl bY ch c m A) (hcm : c m = 0) (hE : gE post M of lf rg A0 m (fun x => raL c m x ∨ ∀ k, k < m → x k + 1 = c k) (raP c m)) : wp_Mo_goes post md oa la ga (nI r) vl bY ch (nI m) (nI m) := by
  unfold wp_Mo_goes
  have h3 := hr.m3
  refine ⟨fun q => absurd rfl q, fun _ => ?_⟩
  obtain ⟨d, rfl⟩ : ∃ d, m = d + 1 := ⟨m - 1, by omega⟩
  rw [nI_pred]
  have hok := hs.ok
  have hle := hok.le d (by omega)
  refine ⟨fun _ => ?_, fun q => absurd (nI_pos' (by omega)) q⟩
  rw [← xb_t1 d]
  refine q_frees hs.va (hok.ok h0 (by omega)) (by omega) (by omega) (fun v' b' hv => ?_)
  rw [xb_t1]
  refine q_goL (p := raP c (d + 1)) (c := c) (d := d) rfl hr h0 hM hE ⟨fun k hk => hs.cc k (by omega), hle.2, raO.back h0 hok, hv⟩ (by omega) (ps_r (by omega) hle.1 hcm) (fun w x _ hd => ?_)
  rcases hd with ⟨j, j1, j2, j3⟩ | ⟨k1, k2⟩
  · exact Or.inl ⟨j, by omega, j2, j3⟩
  · by_cases z : x d + 1 < c d
    · exact Or.inl ⟨d, by omega, k1, z⟩
    · refine Or.inr (fun k hk => ?_)
      by_cases e : k = d
      · subst e; omega
      · exact k1 k (by omega)
/-- where a search stands before its next step: at its beginning, or at a match; DS are the matches that are done -/
def gT (M : Nat → Bool) (of lf rg : Nat → Nat) (A0 : raAS) (m : Nat) (vl bY ch : Nat → Int32) (dp : Int32) (DS : (Nat → Nat) → Prop) (p : Nat) : Prop :=
  (p = 0 ∧ dp = 0 ∧ raA vl bY A0 ∧ ch 0 = -1 ∧ DS = fun _ => False) ∨ ∃ c A, p = raP c m ∧ dp = nI m ∧ gS M of lf rg A0 vl bY ch c m A ∧ c m = 0 ∧ DS = fun x => raL c m x ∨ ∀ k, k < m → x k + 1 = c k
theorem gT.le {dp : Int32} (h : gT M of lf rg A0 m vl bY ch dp DS p) (hm : m ≤ 3) : p ≤ 20000000 := by
  rcases h with ⟨rfl, -⟩ | ⟨c, A, rfl, -, z, -, -⟩
  · omega
  · exact raP_le hm z.ok.le z.le
theorem q_goes {dp : Int32} (hr : ra_ oa la ga r m of lf rg) (h0 : ra0 A0) (hM : mB md M 1000) (hm : 1 ≤ m) (hT : gT M of lf rg A0 m vl bY ch dp DS p) (hE : gE post M of lf rg A0 m DS p) : wp_Mo_goes post md oa la ga (nI r) vl bY ch (nI m) dp := by
  rcases hT with ⟨rfl, rfl, h1, h2, rfl⟩ | ⟨c, A, rfl, rfl, h1, h2, rfl⟩
  · exact q_goes0 hr h0 hM hm hE h1 h2
  · exact q_goes1 hr h0 hM hm h1 h2 hE
end GO3
