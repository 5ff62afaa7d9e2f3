/-! A RULE WHOSE LONE VARIABLES ARE BLANKED SAYS THE SAME: places are numbered 2 i (first) and 2 i + 1 (second) of atom i -/
def bl_w (w : Nat → Nat) : Prop := (∀ t, t ≤ 10 → w t = t) ∧ ∀ t, 11 ≤ t → t ≤ 18 → 1 ≤ w t ∧ w t ≤ 10
/-- the term at a place -/
def bl_T (fs sn : Nat → Nat) (q : Nat) : Nat := if q % 2 = 0 then fs (q / 2) else sn (q / 2)
/-- stands at another place too -/
def bl_ag (fs sn : Nat → Nat) (n t : Nat) : Prop := ∃ q q', q < q' ∧ q' < 2 * n + 2 ∧ bl_T fs sn q = t ∧ bl_T fs sn q' = t
/-- fs', sn' are fs, sn with the lone variables blanked -/
def bl_is (fs sn fs' sn' : Nat → Nat) (n : Nat) : Prop := ∀ q, q < 2 * n + 2 → (bl_T fs' sn' q = bl_T fs sn q ∧ (11 ≤ bl_T fs sn q → bl_ag fs sn n (bl_T fs sn q))) ∨ (bl_T fs' sn' q = 19 ∧ 11 ≤ bl_T fs sn q ∧ bl_T fs sn q ≤ 18 ∧ ¬ bl_ag fs sn n (bl_T fs sn q))
def bl_body (st fs sn : Nat → Nat) (n : Nat) (S : SS) (w : Nat → Nat) : Prop := ∀ i, 1 ≤ i → i ≤ n → S (st i) (w (fs i)) (w (sn i)) = true
theorem bl_T0 (fs sn : Nat → Nat) (i : Nat) : bl_T fs sn (2 * i) = fs i := by unfold bl_T; rw [if_pos (by omega), show 2 * i / 2 = i by omega]
theorem bl_T1 (fs sn : Nat → Nat) (i : Nat) : bl_T fs sn (2 * i + 1) = sn i := by unfold bl_T; rw [if_neg (by omega), show (2 * i + 1) / 2 = i by omega]
section BL
variable {st fs sn fs' sn' : Nat → Nat} {n : Nat} {S : SS}
theorem bl_to {w : Nat → Nat} (hb : bl_is fs sn fs' sn' n) (hw : bl_w w) (hin : ms_in S) (h : bl_body st fs sn n S w) (hr : ∀ q, q < 2 * n + 2 → bl_T fs sn q ≤ 18) : ms_body st fs' sn' n S w 1 := by
  intro i h1 h2
  have hq := h i h1 h2
  have hd := hin _ _ _ hq
  refine ⟨w (fs i), w (sn i), hd.2.1, hd.2.2, ?_, ?_, hq⟩
  · have e := hb (2 * i) (by omega)
    rw [bl_T0, bl_T0] at e
    unfold ms_pl
    rcases e with ⟨e1, -⟩ | ⟨e1, e2, e3, -⟩
    · have h8 := hr (2 * i) (by omega)
      rw [bl_T0] at h8
      rw [if_neg (by omega), e1]
    · rw [if_pos e1]; exact (hw.2 _ e2 e3).1
  · have e := hb (2 * i + 1) (by omega)
    rw [bl_T1, bl_T1] at e
    unfold ms_pl
    rcases e with ⟨e1, -⟩ | ⟨e1, e2, e3, -⟩
    · have h8 := hr (2 * i + 1) (by omega)
      rw [bl_T1] at h8
      rw [if_neg (by omega), e1]
    · rw [if_pos e1]; exact (hw.2 _ e2 e3).1
theorem bl_from {w : Nat → Nat} (hb : bl_is fs sn fs' sn' n) (hw : bl_w w) (h : ms_body st fs' sn' n S w 1) (hr : ∀ q, q < 2 * n + 2 → bl_T fs sn q ≤ 18) (h0 : fs' 0 = fs 0 ∧ sn' 0 = sn 0) :
    ∃ w', bl_w w' ∧ bl_body st fs sn n S w' ∧ w' (fs 0) = w (fs 0) ∧ w' (sn 0) = w (sn 0) := by
  have hx : ∀ q : Nat, ∃ z : Nat, 2 ≤ q → q < 2 * n + 2 → (z < 11 ∧ ms_pl w (bl_T fs' sn' q) z) := by
    intro q
    by_cases hq : 2 ≤ q ∧ q < 2 * n + 2
    · obtain ⟨x, y, h1, h2, h3, h4, -⟩ := h (q / 2) (by omega) (by omega)
      by_cases hp : q % 2 = 0
      · exact ⟨x, fun _ _ => ⟨h1, by unfold bl_T; rw [if_pos hp]; exact h3⟩⟩
      · exact ⟨y, fun _ _ => ⟨h2, by unfold bl_T; rw [if_neg hp]; exact h4⟩⟩
    · exact ⟨0, fun a b => absurd ⟨a, b⟩ hq⟩
  have hxy : ∀ i : Nat, ∃ z : Nat × Nat, 1 ≤ i → i ≤ n → (z.1 < 11 ∧ z.2 < 11 ∧ ms_pl w (fs' i) z.1 ∧ ms_pl w (sn' i) z.2 ∧ S (st i) z.1 z.2 = true) := by
    intro i
    by_cases hi : 1 ≤ i ∧ i ≤ n
    · obtain ⟨x, y, h1, h2, h3, h4, h5⟩ := h i hi.1 hi.2
      exact ⟨(x, y), fun _ _ => ⟨h1, h2, h3, h4, h5⟩⟩
    · exact ⟨(0, 0), fun a b => absurd ⟨a, b⟩ hi⟩
  obtain ⟨zz, hz⟩ := Classical.axiomOfChoice hxy
  -- the value at a place
  let va : Nat → Nat := fun q => if q % 2 = 0 then (zz (q / 2)).1 else (zz (q / 2)).2
  have hva : ∀ q, 2 ≤ q → q < 2 * n + 2 → va q < 11 ∧ ms_pl w (bl_T fs' sn' q) (va q) := by
    intro q h1 h2
    obtain ⟨g1, g2, g3, g4, -⟩ := hz (q / 2) (by omega) (by omega)
    show (if q % 2 = 0 then (zz (q / 2)).1 else (zz (q / 2)).2) < 11 ∧ ms_pl w (bl_T fs' sn' q) (if q % 2 = 0 then (zz (q / 2)).1 else (zz (q / 2)).2)
    by_cases hp : q % 2 = 0
    · rw [if_pos hp]; unfold bl_T; rw [if_pos hp]; exact ⟨g1, g3⟩
    · rw [if_neg hp]; unfold bl_T; rw [if_neg hp]; exact ⟨g2, g4⟩
  -- a blanked term's own place
  have hch : ∀ t : Nat, ∃ q : Nat, (∃ q', 2 ≤ q' ∧ q' < 2 * n + 2 ∧ bl_T fs sn q' = t ∧ bl_T fs' sn' q' = 19) → (2 ≤ q ∧ q < 2 * n + 2 ∧ bl_T fs sn q = t ∧ bl_T fs' sn' q = 19) := by
    intro t
    by_cases hp : ∃ q', 2 ≤ q' ∧ q' < 2 * n + 2 ∧ bl_T fs sn q' = t ∧ bl_T fs' sn' q' = 19
    · obtain ⟨q', hq'⟩ := hp
      exact ⟨q', fun _ => hq'⟩
    · exact ⟨0, fun a => absurd a hp⟩
  obtain ⟨pq, hpq⟩ := Classical.axiomOfChoice hch
  have hdec : ∀ t : Nat, ∃ z : Nat, ((∃ q', 2 ≤ q' ∧ q' < 2 * n + 2 ∧ bl_T fs sn q' = t ∧ bl_T fs' sn' q' = 19) → z = va (pq t)) ∧ ((¬ ∃ q', 2 ≤ q' ∧ q' < 2 * n + 2 ∧ bl_T fs sn q' = t ∧ bl_T fs' sn' q' = 19) → z = w t) := by
    intro t
    by_cases hp : ∃ q', 2 ≤ q' ∧ q' < 2 * n + 2 ∧ bl_T fs sn q' = t ∧ bl_T fs' sn' q' = 19
    · exact ⟨va (pq t), fun _ => rfl, fun a => absurd hp a⟩
    · exact ⟨w t, fun a => absurd a hp, fun _ => rfl⟩
  obtain ⟨w', hw'⟩ := Classical.axiomOfChoice hdec
  -- a place's value is the assignment's
  have key : ∀ q, 2 ≤ q → q < 2 * n + 2 → va q = w' (bl_T fs sn q) := by
    intro q h1 h2
    rcases hb q h2 with ⟨e1, e2⟩ | ⟨e1, e2, e3, e4⟩
    · have hno : ¬ ∃ q', 2 ≤ q' ∧ q' < 2 * n + 2 ∧ bl_T fs sn q' = bl_T fs sn q ∧ bl_T fs' sn' q' = 19 := by
        rintro ⟨q', a1, a2, a3, a4⟩
        have h8 := hr q' a2
        rcases hb q' a2 with ⟨b1, -⟩ | ⟨-, b2, -, b4⟩
        · omega
        · rw [a3] at b4 b2
          exact b4 (e2 b2)
      rw [(hw' _).2 hno]
      have h9 := (hva q h1 h2).2
      have h8 := hr q h2
      unfold ms_pl at h9
      rw [if_neg (by omega), e1] at h9
      exact h9
    · have hyes : ∃ q', 2 ≤ q' ∧ q' < 2 * n + 2 ∧ bl_T fs sn q' = bl_T fs sn q ∧ bl_T fs' sn' q' = 19 := ⟨q, h1, h2, rfl, e1⟩
      rw [(hw' _).1 hyes]
      obtain ⟨a1, a2, a3, a4⟩ := hpq _ hyes
      have : pq (bl_T fs sn q) = q := by
        rcases Nat.lt_trichotomy (pq (bl_T fs sn q)) q with z | z | z
        · exact absurd ⟨_, _, z, h2, a3, rfl⟩ e4
        · exact z
        · exact absurd ⟨_, _, z, a2, rfl, a3⟩ e4
      rw [this]
  refine ⟨w', ⟨fun t ht => ?_, fun t h1 h2 => ?_⟩, fun i h1 h2 => ?_, ?_, ?_⟩
  · have hno : ¬ ∃ q', 2 ≤ q' ∧ q' < 2 * n + 2 ∧ bl_T fs sn q' = t ∧ bl_T fs' sn' q' = 19 := by
      rintro ⟨q', a1, a2, a3, a4⟩
      rcases hb q' a2 with ⟨b1, -⟩ | ⟨-, b2, -⟩ <;> omega
    rw [(hw' t).2 hno, hw.1 t ht]
  · by_cases hp : ∃ q', 2 ≤ q' ∧ q' < 2 * n + 2 ∧ bl_T fs sn q' = t ∧ bl_T fs' sn' q' = 19
    · rw [(hw' t).1 hp]
      obtain ⟨a1, a2, a3, a4⟩ := hpq t hp
      obtain ⟨g1, g2⟩ := hva _ a1 a2
      unfold ms_pl at g2
      rw [if_pos a4] at g2
      omega
    · rw [(hw' t).2 hp]; exact hw.2 t h1 h2
  · obtain ⟨-, -, -, -, g5⟩ := hz i h1 h2
    have k0 := key (2 * i) (by omega) (by omega)
    have k1 := key (2 * i + 1) (by omega) (by omega)
    rw [bl_T0] at k0
    rw [bl_T1] at k1
    rw [← k0, ← k1]
    show S (st i) (if 2 * i % 2 = 0 then (zz (2 * i / 2)).1 else (zz (2 * i / 2)).2) (if (2 * i + 1) % 2 = 0 then (zz ((2 * i + 1) / 2)).1 else (zz ((2 * i + 1) / 2)).2) = true
    rw [if_pos (by omega), if_neg (by omega), show 2 * i / 2 = i by omega, show (2 * i + 1) / 2 = i by omega]
    exact g5
  · have hno : ¬ ∃ q', 2 ≤ q' ∧ q' < 2 * n + 2 ∧ bl_T fs sn q' = fs 0 ∧ bl_T fs' sn' q' = 19 := by
      rintro ⟨q', a1, a2, a3, a4⟩
      have h8 := hr q' a2
      rcases hb q' a2 with ⟨b1, -⟩ | ⟨-, b2, -, b4⟩
      · omega
      · exact b4 ⟨0, q', by omega, a2, by rw [show (0 : Nat) = 2 * 0 from rfl, bl_T0, a3], rfl⟩
    rw [(hw' _).2 hno]
  · have hno : ¬ ∃ q', 2 ≤ q' ∧ q' < 2 * n + 2 ∧ bl_T fs sn q' = sn 0 ∧ bl_T fs' sn' q' = 19 := by
      rintro ⟨q', a1, a2, a3, a4⟩
      have h8 := hr q' a2
      rcases hb q' a2 with ⟨b1, -⟩ | ⟨-, b2, -, b4⟩
      · omega
      · exact b4 ⟨1, q', by omega, a2, by rw [show (1 : Nat) = 2 * 0 + 1 from rfl, bl_T1, a3], rfl⟩
    rw [(hw' _).2 hno]
end BL
