/-! SETS OF PAIRS (set, first place + 1, second place + 1), AND WHAT A MATCH DOES TO THEM -/
abbrev SS : Type := Nat → Nat → Nat → Bool
def ms_sub (S T : SS) : Prop := ∀ k x y, S k x y = true → T k x y = true
theorem ms_sub.rf {S : SS} : ms_sub S S := fun _ _ _ h => h
theorem ms_sub.tr {S T U : SS} (h : ms_sub S T) (g : ms_sub T U) : ms_sub S U := fun k x y z => g k x y (h k x y z)
def ms_put (S : SS) (k x y : Nat) : SS := fun k' x' y' => if k' = k ∧ x' = x ∧ y' = y then true else S k' x' y'
theorem ms_put_self {S : SS} {k x y : Nat} : ms_put S k x y k x y = true := by simp [ms_put]
theorem ms_put_sub {S : SS} {k x y : Nat} : ms_sub S (ms_put S k x y) := fun k' x' y' h => by unfold ms_put; split <;> first | rfl | exact h
theorem ms_put_le {S C : SS} {k x y : Nat} (h : ms_sub S C) (hc : C k x y = true) : ms_sub (ms_put S k x y) C := by
  intro k' x' y' q
  unfold ms_put at q
  split at q
  · rename_i e
    obtain ⟨rfl, rfl, rfl⟩ := e
    exact hc
  · exact h _ _ _ q
theorem ms_put_same {S : SS} {k x y : Nat} (h : S k x y = true) : ms_put S k x y = S := by
  funext k' x' y'
  unfold ms_put
  split
  · rename_i e
    obtain ⟨rfl, rfl, rfl⟩ := e
    exact h.symm
  · rfl
/-- a step that puts heads: P says of a set and an assignment that the head is due -/
def ms_G (P : SS → (Nat → Nat) → Prop) (k : Nat) (fx fy : Nat) (S : SS) (r : Bool) (S' : SS) : Prop :=
  ms_sub S S' ∧ (∀ C, ms_sub S C → (∀ w, P C w → C k (w fx) (w fy) = true) → ms_sub S' C) ∧ (∀ w, P S w → S' k (w fx) (w fy) = true) ∧ (r = false → S' = S) ∧ (r = true → ∃ a x y, S' a x y = true ∧ S a x y = false)
theorem ms_G.none {P : SS → (Nat → Nat) → Prop} {k fx fy : Nat} {S : SS} (h : ∀ w, P S w → S k (w fx) (w fy) = true) : ms_G P k fx fy S false S :=
  ⟨ms_sub.rf, fun _ h _ => h, h, fun _ => rfl, fun h => by cases h⟩
theorem ms_G.conv {P P' : SS → (Nat → Nat) → Prop} {k fx fy : Nat} {S S' : SS} {r : Bool} (h : ms_G P k fx fy S r S') (h1 : ∀ C, ms_sub S C → ∀ w, P C w → P' C w) (h2 : ∀ w, P' S w → P S w) : ms_G P' k fx fy S r S' :=
  ⟨h.1, fun C hC hc => h.2.1 C hC (fun w hw => hc w (h1 C hC w hw)), fun w hw => h.2.2.1 w (h2 w hw), h.2.2.2⟩
theorem ms_G.seq {P1 P2 : SS → (Nat → Nat) → Prop} {k fx fy : Nat} {S S1 S2 : SS} {r1 r2 : Bool} (hm2 : ∀ C C', ms_sub C C' → ∀ w, P2 C w → P2 C' w) (h1 : ms_G P1 k fx fy S r1 S1) (h2 : ms_G P2 k fx fy S1 r2 S2) : ms_G (fun C w => P1 C w ∨ P2 C w) k fx fy S (r1 || r2) S2 := by
  obtain ⟨a1, b1, c1, d1, e1⟩ := h1
  obtain ⟨a2, b2, c2, d2, e2⟩ := h2
  refine ⟨a1.tr a2, fun C hC hc => b2 C (b1 C hC (fun w hw => hc w (Or.inl hw))) (fun w hw => hc w (Or.inr hw)), fun w hw => ?_, fun h => ?_, fun h => ?_⟩
  · rcases hw with q | q
    · exact a2 _ _ _ (c1 w q)
    · exact c2 w (hm2 _ _ a1 w q)
  · rw [Bool.or_eq_false_iff] at h
    rw [d2 h.2, d1 h.1]
  · cases r1 with
    | true =>
      obtain ⟨a, x, y, h3, h4⟩ := e1 rfl
      exact ⟨a, x, y, a2 _ _ _ h3, h4⟩
    | false =>
      rw [Bool.false_or] at h
      obtain ⟨a, x, y, h3, h4⟩ := e2 h
      rw [d1 rfl] at h4
      exact ⟨a, x, y, h3, h4⟩
theorem ms_G.put {P : SS → (Nat → Nat) → Prop} {k fx fy x y : Nat} {S : SS} (hP : ∃ w, ∀ C, ms_sub S C → P C w) (hw : ∀ C w, P C w → w fx = x ∧ w fy = y) : ms_G P k fx fy S (!(S k x y)) (ms_put S k x y) := by
  obtain ⟨w0, hw0⟩ := hP
  refine ⟨ms_put_sub, fun C hC hc => ms_put_le hC ?_, fun w h => ?_, fun h => ms_put_same (by simpa using h), fun h => ⟨k, x, y, ms_put_self, by simpa using h⟩⟩
  · have q := hc w0 (hw0 C hC)
    obtain ⟨e1, e2⟩ := hw C w0 (hw0 C hC)
    rw [e1, e2] at q
    exact q
  · obtain ⟨e1, e2⟩ := hw S w h
    rw [e1, e2]
    exact ms_put_self
/-! rules over sets: places are numbers + 1: 0 free, 1 .. 10 constants, 11 .. 18 variables, 19 any -/
def ms_pl (w : Nat → Nat) (t x : Nat) : Prop := if t = 19 then 1 ≤ x else x = w t
def ms_at (S : SS) (w : Nat → Nat) (k t u : Nat) : Prop := ∃ x y, x < 11 ∧ y < 11 ∧ ms_pl w t x ∧ ms_pl w u y ∧ S k x y = true
def ms_body (st fs sn : Nat → Nat) (n : Nat) (S : SS) (w : Nat → Nat) (a : Nat) : Prop := ∀ i, a ≤ i → i ≤ n → ms_at S w (st i) (fs i) (sn i)
def ms_ok (v : Nat → Option Nat) (w : Nat → Nat) : Prop := (∀ t x, v t = some x → w t = x) ∧ ∀ t, 11 ≤ t → t ≤ 18 → 1 ≤ w t ∧ w t ≤ 10
/-- what the values of the terms are: free and constants themselves; a variable's is open or a constant; any is open -/
def ms_V (v : Nat → Option Nat) : Prop := (∀ t, t ≤ 10 → v t = some t) ∧ (∀ t x, 11 ≤ t → t ≤ 18 → v t = some x → 1 ≤ x ∧ x ≤ 10) ∧ v 19 = none
theorem ms_at.mono {S T : SS} (h : ms_sub S T) {w : Nat → Nat} {k t u : Nat} (q : ms_at S w k t u) : ms_at T w k t u := by
  obtain ⟨x, y, h1, h2, h3, h4, h5⟩ := q
  exact ⟨x, y, h1, h2, h3, h4, h _ _ _ h5⟩
theorem ms_body.mono {st fs sn : Nat → Nat} {n : Nat} {S T : SS} (h : ms_sub S T) {w : Nat → Nat} {a : Nat} (q : ms_body st fs sn n S w a) : ms_body st fs sn n T w a := fun i h1 h2 => (q i h1 h2).mono h
theorem ms_body.succ {st fs sn : Nat → Nat} {n : Nat} {S : SS} {w : Nat → Nat} {a : Nat} (ha : a ≤ n) : ms_body st fs sn n S w a ↔ ms_at S w (st a) (fs a) (sn a) ∧ ms_body st fs sn n S w (a + 1) := by
  constructor
  · exact fun h => ⟨h a (Nat.le_refl _) ha, fun i h1 h2 => h i (by omega) h2⟩
  · rintro ⟨h1, h2⟩ i h3 h4
    by_cases q : i = a
    · subst q; exact h1
    · exact h2 i (by omega) h4
theorem ms_ok.up {v : Nat → Option Nat} {w : Nat → Nat} {t x : Nat} (hv : v t = none) : ms_ok (fun i => if i = t then some x else v i) w ↔ ms_ok v w ∧ w t = x := by
  constructor
  · rintro ⟨h1, h2⟩
    refine ⟨⟨fun i y hi => ?_, h2⟩, h1 t x (by simp)⟩
    by_cases q : i = t
    · subst q; rw [hv] at hi; cases hi
    · exact h1 i y (by simp [q, hi])
  · rintro ⟨⟨h1, h2⟩, h3⟩
    refine ⟨fun i y hi => ?_, h2⟩
    by_cases q : i = t
    · subst q; simp at hi; rw [h3, hi]
    · simp [q] at hi; exact h1 i y hi
/-- what matching the atoms from a on does, and what matching atom a's second place in a row g does -/
abbrev ms_PA (st fs sn : Nat → Nat) (n : Nat) (v : Nat → Option Nat) (a : Nat) : SS → (Nat → Nat) → Prop := fun C w => ms_ok v w ∧ ms_body st fs sn n C w a
abbrev ms_PB (st fs sn : Nat → Nat) (n : Nat) (v : Nat → Option Nat) (a : Nat) (g : Nat → Bool) : SS → (Nat → Nat) → Prop := fun C w => ms_ok v w ∧ (∃ y, y < 11 ∧ ms_pl w (sn a) y ∧ g y = true) ∧ ms_body st fs sn n C w (a + 1)
abbrev ms_A (st fs sn : Nat → Nat) (n : Nat) (v : Nat → Option Nat) (a : Nat) (S : SS) (r : Bool) (S' : SS) : Prop := ms_G (ms_PA st fs sn n v a) (st 0) (fs 0) (sn 0) S r S'
abbrev ms_B (st fs sn : Nat → Nat) (n : Nat) (v : Nat → Option Nat) (a : Nat) (g : Nat → Bool) (S : SS) (r : Bool) (S' : SS) : Prop := ms_G (ms_PB st fs sn n v a g) (st 0) (fs 0) (sn 0) S r S'
section MS
variable {st fs sn : Nat → Nat} {n : Nat} {v : Nat → Option Nat} {a : Nat} {S S' : SS} {r : Bool} {g : Nat → Bool}
/-- the head is known, and is there -/
theorem ms_A_known {x y : Nat} (h1 : v (fs 0) = some x) (h2 : v (sn 0) = some y) (h : S (st 0) x y = true) : ms_A st fs sn n v a S false S :=
  ms_G.none (fun w hw => by rw [hw.1.1 _ _ h1, hw.1.1 _ _ h2]; exact h)
theorem ms_A_end {x y : Nat} (ha : n < a) (hV : ms_V v) (h1 : v (fs 0) = some x) (h2 : v (sn 0) = some y) : ms_A st fs sn n v a S (!(S (st 0) x y)) (ms_put S (st 0) x y) := by
  refine ms_G.put ⟨fun t => match v t with | some z => z | none => 1, fun C _ => ⟨⟨fun t z hz => by simp [hz], fun t h3 h4 => ?_⟩, fun i h3 h4 => by omega⟩⟩ (fun C w hw => ⟨hw.1.1 _ _ h1, hw.1.1 _ _ h2⟩)
  cases hv : v t with
  | none => simp [hv]
  | some z => simpa [hv] using hV.2.1 t z h3 h4 hv
/-- the first place is any -/
theorem ms_A_any (ha : a ≤ n) (ht : fs a = 19) (hg : ∀ y, y < 11 → (g y = true ↔ ∃ x, 1 ≤ x ∧ x < 11 ∧ S (st a) x y = true)) (h : ms_B st fs sn n v a g S r S') : ms_A st fs sn n v a S r S' := by
  refine h.conv (fun C hC w hw => ⟨hw.1, (ms_body.succ ha).mpr ⟨?_, hw.2.2⟩⟩) (fun w hw => ?_)
  · obtain ⟨y, h1, h2, h3⟩ := hw.2.1
    obtain ⟨x, h4, h5, h6⟩ := (hg y h1).mp h3
    exact ⟨x, y, h5, h1, by simp [ms_pl, ht, h4], h2, hC _ _ _ h6⟩
  · obtain ⟨⟨x, y, h1, h2, h3, h4, h5⟩, h6⟩ := (ms_body.succ ha).mp hw.2
    exact ⟨hw.1, ⟨y, h2, h4, (hg y h2).mpr ⟨x, by simpa [ms_pl, ht] using h3, h1, h5⟩⟩, h6⟩
/-- the first place has a value -/
theorem ms_A_val {x : Nat} (ha : a ≤ n) (ht : fs a ≠ 19) (hx : x < 11) (hv : v (fs a) = some x) (hg : ∀ y, y < 11 → g y = S (st a) x y) (h : ms_B st fs sn n v a g S r S') : ms_A st fs sn n v a S r S' := by
  refine h.conv (fun C hC w hw => ⟨hw.1, (ms_body.succ ha).mpr ⟨?_, hw.2.2⟩⟩) (fun w hw => ?_)
  · obtain ⟨y, h1, h2, h3⟩ := hw.2.1
    rw [hg y h1] at h3
    exact ⟨x, y, hx, h1, by simp [ms_pl, ht, hw.1.1 _ _ hv], h2, hC _ _ _ h3⟩
  · obtain ⟨⟨x', y, h1, h2, h3, h4, h5⟩, h6⟩ := (ms_body.succ ha).mp hw.2
    have e : x' = x := by
      have h3 : x' = w (fs a) := by simpa [ms_pl, ht] using h3
      rw [h3]; exact hw.1.1 _ _ hv
    subst e
    exact ⟨hw.1, ⟨y, h2, h4, by rw [hg y h2]; exact h5⟩, h6⟩
/-- the second place is any -/
theorem ms_B_any (ht : sn a = 19) (hg : ∃ y, 1 ≤ y ∧ y < 11 ∧ g y = true) (h : ms_A st fs sn n v (a + 1) S r S') : ms_B st fs sn n v a g S r S' := by
  obtain ⟨y, h1, h2, h3⟩ := hg
  exact h.conv (fun C hC w hw => ⟨hw.1, ⟨y, h2, by simp [ms_pl, ht, h1], h3⟩, hw.2⟩) (fun w hw => ⟨hw.1, hw.2.2⟩)
theorem ms_B_any0 (ht : sn a = 19) (hg : ∀ y, 1 ≤ y → y < 11 → g y = false) : ms_B st fs sn n v a g S false S := by
  refine ms_G.none (fun w hw => ?_)
  obtain ⟨y, h1, h2, h3⟩ := hw.2.1
  have h2 : 1 ≤ y := by simpa [ms_pl, ht] using h2
  rw [hg y h2 h1] at h3
  cases h3
theorem ms_B_val {y : Nat} (ht : sn a ≠ 19) (hy : y < 11) (hv : v (sn a) = some y) (hg : g y = true) (h : ms_A st fs sn n v (a + 1) S r S') : ms_B st fs sn n v a g S r S' :=
  h.conv (fun C hC w hw => ⟨hw.1, ⟨y, hy, by simp [ms_pl, ht, hw.1.1 _ _ hv], hg⟩, hw.2⟩) (fun w hw => ⟨hw.1, hw.2.2⟩)
theorem ms_B_val0 {y : Nat} (ht : sn a ≠ 19) (hv : v (sn a) = some y) (hg : g y = false) : ms_B st fs sn n v a g S false S := by
  refine ms_G.none (fun w hw => ?_)
  obtain ⟨y', h1, h2, h3⟩ := hw.2.1
  have h2 : y' = w (sn a) := by simpa [ms_pl, ht] using h2
  rw [hw.1.1 _ _ hv] at h2
  subst h2
  rw [hg] at h3
  cases h3
end MS
/-! places that are open: a loop through the constants -/
theorem ms_L0 {F : Nat → SS → (Nat → Nat) → Prop} {k fx fy : Nat} {S : SS} : ms_G (fun C w => ∃ x, 1 ≤ x ∧ x ≤ 0 ∧ F x C w) k fx fy S false S := ms_G.none (fun w h => by obtain ⟨x, h1, h2, -⟩ := h; omega)
theorem ms_LS {F : Nat → SS → (Nat → Nat) → Prop} {k fx fy j : Nat} {S S1 S2 : SS} {r1 r2 : Bool} (hm : ∀ C C', ms_sub C C' → ∀ w, F (j + 1) C w → F (j + 1) C' w) (h1 : ms_G (fun C w => ∃ x, 1 ≤ x ∧ x ≤ j ∧ F x C w) k fx fy S r1 S1) (h2 : ms_G (F (j + 1)) k fx fy S1 r2 S2) : ms_G (fun C w => ∃ x, 1 ≤ x ∧ x ≤ j + 1 ∧ F x C w) k fx fy S (r1 || r2) S2 := by
  refine (ms_G.seq hm h1 h2).conv (fun C _ w hw => ?_) (fun w hw => ?_)
  · rcases hw with ⟨x, q1, q2, q3⟩ | q
    · exact ⟨x, q1, by omega, q3⟩
    · exact ⟨j + 1, by omega, by omega, q⟩
  · obtain ⟨x, q1, q2, q3⟩ := hw
    by_cases e : x = j + 1
    · subst e; exact Or.inr q3
    · exact Or.inl ⟨x, q1, by omega, q3⟩
/-- the rest of the loop has nothing -/
theorem ms_Lx {F : Nat → SS → (Nat → Nat) → Prop} {k fx fy j : Nat} {S S1 : SS} {r1 : Bool} (hj : j ≤ 10) (hn : ∀ x C w, j < x → x ≤ 10 → ¬ F x C w) (h1 : ms_G (fun C w => ∃ x, 1 ≤ x ∧ x ≤ j ∧ F x C w) k fx fy S r1 S1) : ms_G (fun C w => ∃ x, 1 ≤ x ∧ x ≤ 10 ∧ F x C w) k fx fy S r1 S1 := by
  refine h1.conv (fun C _ w hw => ?_) (fun w hw => ?_)
  · obtain ⟨x, q1, q2, q3⟩ := hw
    exact ⟨x, q1, by omega, q3⟩
  · obtain ⟨x, q1, q2, q3⟩ := hw
    by_cases e : x ≤ j
    · exact ⟨x, q1, e, q3⟩
    · exact absurd q3 (hn x S w (by omega) q2)
section MS2
variable {st fs sn : Nat → Nat} {n : Nat} {v : Nat → Option Nat} {a : Nat} {S S' : SS} {r : Bool} {g : Nat → Bool}
abbrev ms_vu (v : Nat → Option Nat) (t x : Nat) : Nat → Option Nat := fun i => if i = t then some x else v i
theorem ms_A_open {t : Nat} (ht : t = fs a) (hv : v t = none) (h1 : 11 ≤ t) (h2 : t ≤ 18) (h : ms_G (fun C w => ∃ x, 1 ≤ x ∧ x ≤ 10 ∧ ms_PA st fs sn n (ms_vu v t x) a C w) (st 0) (fs 0) (sn 0) S r S') : ms_A st fs sn n v a S r S' := by
  refine h.conv (fun C _ w hw => ?_) (fun w hw => ?_)
  · obtain ⟨x, -, -, q1, q2⟩ := hw
    exact ⟨((ms_ok.up hv).mp q1).1, q2⟩
  · obtain ⟨q3, q4⟩ := hw.1.2 t h1 h2
    exact ⟨w t, q3, q4, (ms_ok.up hv).mpr ⟨hw.1, rfl⟩, hw.2⟩
theorem ms_B_open {t : Nat} (ht : t = sn a) (hv : v t = none) (h1 : 11 ≤ t) (h2 : t ≤ 18) (h : ms_G (fun C w => ∃ y, 1 ≤ y ∧ y ≤ 10 ∧ g y = true ∧ ms_PA st fs sn n (ms_vu v t y) (a + 1) C w) (st 0) (fs 0) (sn 0) S r S') : ms_B st fs sn n v a g S r S' := by
  have ht9 : sn a ≠ 19 := by omega
  refine h.conv (fun C _ w hw => ?_) (fun w hw => ?_)
  · obtain ⟨y, q5, q6, q3, q1, q2⟩ := hw
    obtain ⟨q7, q8⟩ := (ms_ok.up hv).mp q1
    exact ⟨q7, ⟨y, by omega, by unfold ms_pl; rw [if_neg ht9, ← ht, q8], q3⟩, q2⟩
  · obtain ⟨q3, q4⟩ := hw.1.2 t h1 h2
    obtain ⟨y, q5, q6, q7⟩ := hw.2.1
    unfold ms_pl at q6
    rw [if_neg ht9, ← ht] at q6
    subst q6
    exact ⟨w t, q3, q4, q7, (ms_ok.up hv).mpr ⟨hw.1, rfl⟩, hw.2.2⟩
theorem ms_PA_mono {v' : Nat → Option Nat} {b : Nat} : ∀ C C', ms_sub C C' → ∀ w, ms_PA st fs sn n v' b C w → ms_PA st fs sn n v' b C' w := fun _ _ h _ q => ⟨q.1, q.2.mono h⟩
theorem ms_V.up {t x : Nat} (hV : ms_V v) (h1 : 11 ≤ t) (h2 : t ≤ 18) (hx : 1 ≤ x) (hx2 : x ≤ 10) : ms_V (ms_vu v t x) := by
  refine ⟨fun i hi => ?_, fun i y h3 h4 h5 => ?_, ?_⟩
  · show (if i = t then some x else v i) = some i
    rw [if_neg (by omega)]
    exact hV.1 i hi
  · have h5 : (if i = t then some x else v i) = some y := h5
    by_cases q : i = t
    · rw [if_pos q] at h5
      cases h5
      exact ⟨hx, hx2⟩
    · rw [if_neg q] at h5
      exact hV.2.1 i y h3 h4 h5
  · show (if 19 = t then some x else v 19) = none
    rw [if_neg (by omega)]
    exact hV.2.2
end MS2
/-! several rules: what is due is said of a set's own pairs -/
def ms_H (P : SS → Nat → Nat → Nat → Prop) (S : SS) (r : Bool) (S' : SS) : Prop :=
  ms_sub S S' ∧ (∀ C, ms_sub S C → (∀ k x y, P C k x y → C k x y = true) → ms_sub S' C) ∧ (∀ k x y, P S k x y → S' k x y = true) ∧ (r = false → S' = S) ∧ (r = true → ∃ k x y, S' k x y = true ∧ S k x y = false)
theorem ms_G.H {P : SS → (Nat → Nat) → Prop} {k fx fy : Nat} {S S' : SS} {r : Bool} (h : ms_G P k fx fy S r S') : ms_H (fun C k' x y => ∃ w, P C w ∧ k' = k ∧ x = w fx ∧ y = w fy) S r S' := by
  refine ⟨h.1, fun C hC hc => h.2.1 C hC (fun w hw => hc _ _ _ ⟨w, hw, rfl, rfl, rfl⟩), fun k' x y hp => ?_, h.2.2.2⟩
  obtain ⟨w, hw, rfl, rfl, rfl⟩ := hp
  exact h.2.2.1 w hw
theorem ms_H.none {P : SS → Nat → Nat → Nat → Prop} {S : SS} (h : ∀ k x y, P S k x y → S k x y = true) : ms_H P S false S := ⟨ms_sub.rf, fun _ h _ => h, h, fun _ => rfl, fun h => by cases h⟩
theorem ms_H.conv {P P' : SS → Nat → Nat → Nat → Prop} {S S' : SS} {r : Bool} (h : ms_H P S r S') (h1 : ∀ C, ms_sub S C → ∀ k x y, P C k x y → P' C k x y) (h2 : ∀ k x y, P' S k x y → P S k x y) : ms_H P' S r S' :=
  ⟨h.1, fun C hC hc => h.2.1 C hC (fun k x y hw => hc k x y (h1 C hC k x y hw)), fun k x y hw => h.2.2.1 k x y (h2 k x y hw), h.2.2.2⟩
theorem ms_H.seq {P1 P2 : SS → Nat → Nat → Nat → Prop} {S S1 S2 : SS} {r1 r2 : Bool} (hm2 : ∀ C C', ms_sub C C' → ∀ k x y, P2 C k x y → P2 C' k x y) (h1 : ms_H P1 S r1 S1) (h2 : ms_H P2 S1 r2 S2) : ms_H (fun C k x y => P1 C k x y ∨ P2 C k x y) S (r1 || r2) S2 := by
  obtain ⟨a1, b1, c1, d1, e1⟩ := h1
  obtain ⟨a2, b2, c2, d2, e2⟩ := h2
  refine ⟨a1.tr a2, fun C hC hc => b2 C (b1 C hC (fun k x y hw => hc k x y (Or.inl hw))) (fun k x y hw => hc k x y (Or.inr hw)), fun k x y hw => ?_, fun h => ?_, fun h => ?_⟩
  · rcases hw with q | q
    · exact a2 _ _ _ (c1 k x y q)
    · exact c2 k x y (hm2 _ _ a1 k x y q)
  · rw [Bool.or_eq_false_iff] at h
    rw [d2 h.2, d1 h.1]
  · cases r1 with
    | true =>
      obtain ⟨a, x, y, h3, h4⟩ := e1 rfl
      exact ⟨a, x, y, a2 _ _ _ h3, h4⟩
    | false =>
      rw [Bool.false_or] at h
      obtain ⟨a, x, y, h3, h4⟩ := e2 h
      rw [d1 rfl] at h4
      exact ⟨a, x, y, h3, h4⟩
/-- the least set that has S0 and all that is due -/
def ms_lfp (P : SS → Nat → Nat → Nat → Prop) (S0 : SS) (k x y : Nat) : Prop := ∀ C : SS, ms_sub S0 C → (∀ k x y, P C k x y → C k x y = true) → C k x y = true
def ms_mid (P : SS → Nat → Nat → Nat → Prop) (S0 S : SS) : Prop := ms_sub S0 S ∧ ∀ C : SS, ms_sub S0 C → (∀ k x y, P C k x y → C k x y = true) → ms_sub S C
theorem ms_mid.rf {P : SS → Nat → Nat → Nat → Prop} {S0 : SS} : ms_mid P S0 S0 := ⟨ms_sub.rf, fun _ h _ => h⟩
theorem ms_mid.step {P : SS → Nat → Nat → Nat → Prop} {S0 S S' : SS} {r : Bool} (h : ms_mid P S0 S) (hs : ms_H P S r S') : ms_mid P S0 S' := ⟨h.1.tr hs.1, fun C h1 h2 => hs.2.1 C (h.2 C h1 h2) h2⟩
theorem ms_mid.fin {P : SS → Nat → Nat → Nat → Prop} {S0 S : SS} (h : ms_mid P S0 S) (hs : ms_H P S false S) (k x y : Nat) : S k x y = true ↔ ms_lfp P S0 k x y :=
  ⟨fun q C h1 h2 => h.2 C h1 h2 k x y q, fun q => q S h.1 hs.2.2.1⟩
/-! counting -/
def cn_ (f : Nat → Bool) : Nat → Nat
  | 0 => 0
  | n + 1 => cn_ f n + (if f n = true then 1 else 0)
theorem cn_le (f : Nat → Bool) : ∀ n, cn_ f n ≤ n
  | 0 => Nat.le_refl _
  | n + 1 => by have h := cn_le f n; unfold cn_; split <;> omega
theorem cn_mono {f g : Nat → Bool} : ∀ n, (∀ i, i < n → f i = true → g i = true) → cn_ f n ≤ cn_ g n
  | 0, _ => Nat.le_refl _
  | n + 1, h => by
    have ih := cn_mono n (fun i hi => h i (by omega))
    unfold cn_
    by_cases q : f n = true
    · rw [if_pos q, if_pos (h n (by omega) q)]; omega
    · rw [if_neg q]; omega
theorem cn_congr {f g : Nat → Bool} : ∀ n, (∀ i, i < n → f i = g i) → cn_ f n = cn_ g n
  | 0, _ => rfl
  | n + 1, h => by
    unfold cn_
    rw [cn_congr n (fun i hi => h i (by omega)), h n (by omega)]
theorem cn_lt {f g : Nat → Bool} : ∀ n, (∀ i, i < n → f i = true → g i = true) → (∃ i, i < n ∧ g i = true ∧ f i = false) → cn_ f n < cn_ g n
  | 0, _, h => by obtain ⟨i, hi, -⟩ := h; omega
  | n + 1, h, hx => by
    have hm := cn_mono n (fun i hi => h i (by omega))
    obtain ⟨i, hi, h1, h2⟩ := hx
    unfold cn_
    by_cases e : i = n
    · subst e
      rw [h1, h2]
      simp
      omega
    · have ih := cn_lt n (fun i hi => h i (by omega)) ⟨i, by omega, h1, h2⟩
      by_cases q : f n = true
      · rw [if_pos q, if_pos (h n (by omega) q)]; omega
      · rw [if_neg q]; omega
def ms_in (S : SS) : Prop := ∀ k x y, S k x y = true → k < 31 ∧ x < 11 ∧ y < 11
def ms_cnt (S : SS) : Nat := cn_ (fun i => S (i / 121) (i / 11 % 11) (i % 11)) 3751
theorem ms_cnt_le (S : SS) : ms_cnt S ≤ 3751 := cn_le _ _
theorem ms_cnt_lt {S S' : SS} (h : ms_sub S S') (hi : ms_in S') (hn : ∃ k x y, S' k x y = true ∧ S k x y = false) : ms_cnt S < ms_cnt S' := by
  obtain ⟨k, x, y, h1, h2⟩ := hn
  obtain ⟨hk, hx, hy⟩ := hi k x y h1
  refine cn_lt _ (fun i _ q => h _ _ _ q) ⟨k * 121 + x * 11 + y, by omega, ?_, ?_⟩
  · rw [show (k * 121 + x * 11 + y) / 121 = k by omega, show (k * 121 + x * 11 + y) / 11 % 11 = x by omega, show (k * 121 + x * 11 + y) % 11 = y by omega]; exact h1
  · rw [show (k * 121 + x * 11 + y) / 121 = k by omega, show (k * 121 + x * 11 + y) / 11 % 11 = x by omega, show (k * 121 + x * 11 + y) % 11 = y by omega]; exact h2
