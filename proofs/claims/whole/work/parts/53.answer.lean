section AN
variable {pl : Nat → Nat} {M : Nat → Bool} {S : SS} {ao al ar : Nat}
def relA (pl : Nat → Nat) (M : Nat → Bool) (ao al ar : Nat) (S : SS) : Prop := ∀ a b, S 30 a b = true ↔ vd pl ao a b ∧ ansB M ao al ar (ix3 ao a b) = true
def sA30 (S : SS) (ao : Nat) : SS := fun k x y => if k = ao then S 30 x y else false
theorem ans_rel (h : relA pl M ao al ar S) (hao : ao < 10) : relM pl (ansB M ao al ar) (sA30 S ao) 0 := by
  intro k hk x y
  rw [Nat.zero_add]
  unfold sA30
  by_cases e : k = ao
  · subst e; rw [if_pos rfl]; exact h x y
  · rw [if_neg e]
    refine ⟨fun z => (by cases z), fun ⟨hv, ha⟩ => ?_⟩
    have := (ix_back hv hk).1
    have := (ansB_t.mp ha).1
    omega
theorem ans_v (hv : mV pl M) : mV pl (ansB M ao al ar) := fun f h => hv f (ansB_t.mp h).2.1
theorem sm_one {f : Nat → Nat} {a : Nat} : ∀ n, a < n → (∀ i, i < n → i ≠ a → f i = 0) → sm f n = f a
  | 0, h, _ => by omega
  | n + 1, h, hz => by
    show sm f n + f n = f a
    by_cases e : a = n
    · subst e
      rw [sm_zero a (fun i hi => hz i (by omega) (by omega))]; omega
    · rw [sm_one n (by omega) (fun i hi => hz i (by omega)), hz n (by omega) (by omega)]; rfl
theorem ans_size (h : relA pl M ao al ar S) (hv : mV pl M) (hao : ao < 10) : szS S 30 = cn_ (ansB M ao al ar) 1000 := by
  have h1 := told_eq (ans_rel h hao) (ans_v (ao := ao) (al := al) (ar := ar) hv)
  rw [← h1]
  rw [sm_one 10 hao (fun i hi hne => ?_)]
  · rw [Nat.zero_add]
    refine sm_congr 11 (fun x _ => cn_congr 11 (fun y _ => ?_))
    unfold sA30
    rw [if_pos rfl]
  · rw [Nat.zero_add]
    unfold szS sA30
    refine sm_zero 11 (fun x _ => cn_0 11 (fun y _ => ?_))
    rw [if_neg hne]
/-- the answers in the order in which they are gone through them -/
def gA (S : SS) : Nat → Bool := fun j => S 30 (j / 11 + 1) (j % 11)
def fA (pl : Nat → Nat) (ao j : Nat) : Nat := ix3 ao (j / 11 + 1) (j % 11)
theorem gA_blk (h : relA pl M ao al ar S) (hv : mV pl M) (hao : ao < 10) : ∀ x, x ≤ 10 → cn_ (gA S) (11 * x) = cn_ (ansB M ao al ar) (100 * ao + 10 * x)
  | 0, _ => by
    rw [show 11 * 0 = 0 from rfl, show 100 * ao + 10 * 0 = 100 * ao from rfl]
    refine (cn_0 _ (fun i hi => ansB_f (fun z => ?_))).symm
    have := z.1
    omega
  | x + 1, hx => by
    rw [show 11 * (x + 1) = 11 * x + 11 by omega, show 100 * ao + 10 * (x + 1) = 100 * ao + 10 * x + 10 by omega, cn_app, cn_app, gA_blk h hv hao x (by omega)]
    congr 1
    have := row_eq (ans_rel h hao) (ans_v hv) hao (x := x) (by omega)
    rw [← this]
    refine cn_congr 11 (fun i hi => ?_)
    unfold gA sA30
    rw [Nat.zero_add, if_pos rfl, show (11 * x + i) / 11 = x by omega, show (11 * x + i) % 11 = i by omega]
theorem gA_cn (h : relA pl M ao al ar S) (hv : mV pl M) (hao : ao < 10) {j : Nat} (hj : j < 110) (hg : gA S j = true) : ansB M ao al ar (fA pl ao j) = true ∧ cn_ (gA S) j = cn_ (ansB M ao al ar) (fA pl ao j) := by
  have hr := (h _ _).mp hg
  refine ⟨hr.2, ?_⟩
  have e := gA_blk h hv hao (j / 11) (by omega)
  have hj' : j = 11 * (j / 11) + j % 11 := by omega
  have hm : j % 11 < 11 := Nat.mod_lt _ (by omega)
  have hvd := hr.1
  have ef : fA pl ao j = 100 * ao + 10 * (j / 11) + (j % 11 - 1) := by unfold fA ix3; omega
  rw [ef]
  generalize j / 11 = x at *
  generalize j % 11 = u at *
  subst hj'
  rw [cn_app, cn_app, e]
  congr 1
  by_cases e1 : pl ao = 1
  · have : u = 0 := hvd.2.2.1 e1
    subst this
    rfl
  · have hu := hvd.2.2.2 e1
    obtain ⟨y, rfl⟩ : ∃ y, u = y + 1 := ⟨u - 1, by omega⟩
    rw [cn_1]
    have e0 : gA S (11 * x + 0) = false := by
      cases q : gA S (11 * x + 0) with
      | false => rfl
      | true =>
        unfold gA at q
        rw [show (11 * x + 0) % 11 = 0 by omega] at q
        have := ((h _ _).mp q).1.2.2.2 e1
        omega
    rw [e0, show y + 1 - 1 = y by omega]
    have : cn_ (fun i => gA S (11 * x + (i + 1))) y = cn_ (fun i => ansB M ao al ar (100 * ao + 10 * x + i)) y := cn_congr y (fun i hi => by
      unfold gA
      rw [show (11 * x + (i + 1)) / 11 = x by omega, show (11 * x + (i + 1)) % 11 = i + 1 by omega]
      have hi := h (x + 1) (i + 1)
      have hvi : vd pl ao (x + 1) (i + 1) := ⟨by omega, hvd.2.1, fun z => absurd z e1, fun _ => by omega⟩
      have ei : ix3 ao (x + 1) (i + 1) = 100 * ao + 10 * x + i := by unfold ix3; omega
      rw [ei] at hi
      cases a1 : S 30 (x + 1) (i + 1) <;> cases a2 : ansB M ao al ar (100 * ao + 10 * x + i)
      · rfl
      · rw [a1, a2] at hi; exact absurd (hi.mpr ⟨hvi, rfl⟩) Bool.false_ne_true
      · rw [a1, a2] at hi; exact absurd (hi.mp rfl).2 Bool.false_ne_true
      · rfl)
    rw [this]
    simp
/-- its answer, in the reference's numbers -/
theorem lh_answer {post : Int32 → Prop} {i : Int32} (h : relA pl M ao al ar S) (hv : mV pl M) (hao : ao < 10)
    (h1 : ∀ f, f < 1000 → ansB M ao al ar f = true → i = nI (cn_ (ansB M ao al ar) f) → post (if pl ao = 1 then nI (f / 10 % 10) else nI (f % 100)))
    (h0 : (∀ f, f < 1000 → ansB M ao al ar f = true → i ≠ nI (cn_ (ansB M ao al ar) f)) → post (-1)) : wp_Qd_answer post (rF S) i := by
  unfold wp_Qd_answer
  refine xL_up (fun x s => s.1 = nI x ∧ s.2 = nI (cn_ (gA S) (11 * x)) ∧ ∀ j, j < 11 * x → gA S j = true → i ≠ nI (cn_ (gA S) j)) 10 ?_ (Nat.zero_le _) ⟨rfl, rfl, fun j hj => by omega⟩
  rintro x ⟨xi, n⟩ hx ⟨z1, z2, z3⟩ K hK
  dsimp only at z1 z2 ⊢
  rw [z1, z2, nI10 hx]
  refine ⟨fun e => h0 (fun f hf ha hi => ?_), fun e => ?_⟩
  · subst e
    -- a fact's place in that order
    have hp := ansB_t.mp ha
    have hmv := (hv f hp.2.1).2
    rw [hp.1] at hmv
    have hS : S 30 (f / 10 % 10 + 1) (if pl ao = 1 then 0 else f % 10 + 1) = true := by
      refine (h _ _).mpr ⟨⟨by omega, by omega, fun z => if_pos z, fun z => by rw [if_neg z]; omega⟩, ?_⟩
      have : ix3 ao (f / 10 % 10 + 1) (if pl ao = 1 then 0 else f % 10 + 1) = f := by
        have := hp.1
        unfold ix3
        by_cases e : pl ao = 1
        · have := hmv e
          rw [if_pos e]; omega
        · rw [if_neg e]; omega
      rw [this]; exact ha
    have hu : (if pl ao = 1 then 0 else f % 10 + 1) < 11 := by split <;> omega
    generalize hu' : (if pl ao = 1 then 0 else f % 10 + 1) = u at hS hu
    have hg : gA S (11 * (f / 10 % 10) + u) = true := by
      unfold gA
      rw [show (11 * (f / 10 % 10) + u) / 11 = f / 10 % 10 by omega, show (11 * (f / 10 % 10) + u) % 11 = u by omega]
      exact hS
    obtain ⟨-, ec⟩ := gA_cn h hv hao (by omega) hg
    have ef : fA pl ao (11 * (f / 10 % 10) + u) = f := by
      unfold fA
      rw [show (11 * (f / 10 % 10) + u) / 11 = f / 10 % 10 by omega, show (11 * (f / 10 % 10) + u) % 11 = u by omega, ← hu']
      have := hp.1
      unfold ix3
      by_cases e : pl ao = 1
      · have := hmv e
        rw [if_pos e]; omega
      · rw [if_neg e]; omega
    rw [ef] at ec
    exact z3 _ (by omega) hg (by rw [ec]; exact hi)
  · have hx10 : x < 10 := by omega
    refine xL_up (fun u s => s.1 = xb_t u ∧ s.2 = nI (cn_ (gA S) (11 * x + u)) ∧ ∀ j, j < 11 * x + u → gA S j = true → i ≠ nI (cn_ (gA S) j)) 11 ?_ (Nat.zero_le _) ⟨(by show (-1 : Int32) = xb_t 0; decide), rfl, z3⟩
    rintro u ⟨ui, m⟩ hu ⟨y1, y2, y3⟩ K4 hK4
    dsimp only at y1 y2 ⊢
    rw [y1, y2, xt_11 u hu]
    refine ⟨fun e x5 e5 => hK hx10 _ ⟨by rw [e5, nI_1], ?_, ?_⟩, fun e => ?_⟩
    · show nI (cn_ (gA S) (11 * x + u)) = nI (cn_ (gA S) (11 * (x + 1)))
      rw [e]; rfl
    · rw [e] at y3; exact y3
    · have hgj : gA S (11 * x + u) = S 30 (x + 1) u := by
        unfold gA
        rw [show (11 * x + u) / 11 = x by omega, show (11 * x + u) % 11 = u by omega]
      rw [← xb_t1 x, show (30 : Int32) = nI 30 from rfl]
      refine q_has (by omega) (by omega) (by omega) ?_
      rw [← hgj]
      refine xj_P (fun v => v = nI (cn_ (gA S) (11 * x + (u + 1))) ∧ (gA S (11 * x + u) = true → i ≠ nI (cn_ (gA S) (11 * x + u)))) (fun v hv' x10 e10 => hK4 (by omega) _ ⟨by rw [e10, xb_t_add, xb_t1], hv'.1, fun j hj hg => ?_⟩) (fun J9 hJ9 => ?_)
      · by_cases ej : j = 11 * x + u
        · subst ej; exact hv'.2 hg
        · exact y3 j (by omega) hg
      · rw [bI_t, bI_f]
        refine ⟨fun q => hJ9 _ ⟨?_, fun z => by rw [q] at z; cases z⟩, fun q => ⟨fun q2 x11 e11 => hJ9 _ ⟨?_, fun _ z => q2 z.symm⟩, fun q2 => ?_⟩⟩
        · rw [show 11 * x + (u + 1) = 11 * x + u + 1 by omega, cn_sf q]
        · rw [e11, nI_1, show 11 * x + (u + 1) = 11 * x + u + 1 by omega, cn_st q]
        · obtain ⟨ha, ec⟩ := gA_cn h hv hao (by omega) q
          have ef : fA pl ao (11 * x + u) = ix3 ao (x + 1) u := by
            unfold fA
            rw [show (11 * x + u) / 11 = x by omega, show (11 * x + u) % 11 = u by omega]
          rw [ef] at ha ec
          have hvd := ((h (x + 1) u).mp (by rw [← hgj]; exact q)).1
          have hb := ix_back hvd hao
          have := h1 (ix3 ao (x + 1) u) hb.2.2.2.2 ha (by rw [← ec]; exact q2.symm)
          unfold xj
          rw [xt_f u (by omega), xb_t1]
          refine ⟨fun u0 => ?_, fun u0 => ?_⟩
          · have hp1 : pl ao ≠ 1 := fun z => u0 (hvd.2.2.1 z)
            rw [if_neg hp1] at this
            obtain ⟨v, rfl⟩ : ∃ v, u = v + 1 := ⟨u - 1, by omega⟩
            rw [xb_t1, show (10 : Int32) = nI 10 from rfl, pk_mul, nI_add]
            have e2 : ix3 ao (x + 1) (v + 1) % 100 = 10 * x + v := by unfold ix3; omega
            rw [e2] at this
            exact this
          · have hp1 : pl ao = 1 := by
              apply Classical.byContradiction
              intro z
              have := hvd.2.2.2 z
              omega
            rw [if_pos hp1] at this
            have e2 : ix3 ao (x + 1) u / 10 % 10 = x := by unfold ix3; omega
            rw [e2] at this
            exact this
/-- .. and the reference's -/
theorem m_answer {post : Int32 → Int32 → Prop} {mp md : Nat → Int32} {aq : Bool} {th i : Int32} (hpl : ∀ i, i < 10 → mp i = nI (pl i)) (hp2 : ∀ i, pl i ≤ 2) (hM : mB md M 1000) (hao : ao < 10) (hal1 : 1 ≤ al) (hal : al ≤ 18) (har : ar ≤ 18)
    (h1 : aq = true → ∀ f, f < 1000 → ansB M ao al ar f = true → i = nI (cn_ (ansB M ao al ar) f) → post (if pl ao = 1 then nI (f / 10 % 10) else nI (f % 100)) 0)
    (h0 : (aq = false ∨ ∀ f, f < 1000 → ansB M ao al ar f = true → i ≠ nI (cn_ (ansB M ao al ar) f)) → post (-1) 0) : wp_Mo_answer post mp md (bI aq) (nI ao) (xb_t al) (xb_t ar) th i := by
  unfold wp_Mo_answer
  refine xL_up (fun f s => s.1 = nI f ∧ s.2 = nI (cn_ (ansB M ao al ar) f) ∧ ∀ j, j < f → ansB M ao al ar j = true → i ≠ nI (cn_ (ansB M ao al ar) j)) 1000 ?_ (Nat.zero_le _) ⟨rfl, rfl, fun j hj => by omega⟩
  rintro f ⟨fi, n⟩ hf ⟨z1, z2, z3⟩ K hK
  dsimp only at z1 z2 ⊢
  rw [z1, z2, show (1000 : Int32) = nI 1000 from rfl, nI_leX 1000 hf (by omega)]
  refine xj_P (fun _ => aq = false ∨ f = 1000) (fun _ h => h0 (h.elim Or.inl (fun e => Or.inr (fun j hj => z3 j (by omega))))) (fun J hJ => ?_)
  rw [bI_t, bI_f]
  refine ⟨fun q => hJ _ (Or.inr q), fun q => ⟨fun q2 => hJ _ (Or.inl q2), fun q2 => q_isAns hM (by omega) hao hal1 hal har ?_⟩⟩
  refine xj_P (fun v => v = nI (cn_ (ansB M ao al ar) (f + 1)) ∧ (ansB M ao al ar f = true → i ≠ nI (cn_ (ansB M ao al ar) f))) (fun v hv' x9 e9 => hK (by omega) _ ⟨by rw [e9, nI_1], hv'.1, fun j hj hg => ?_⟩) (fun J8 hJ8 => ?_)
  · by_cases ej : j = f
    · subst ej; exact hv'.2 hg
    · exact z3 j (by omega) hg
  · rw [bI_t, bI_f]
    refine ⟨fun q3 => hJ8 _ ⟨by rw [cn_sf q3], fun z => by rw [q3] at z; cases z⟩, fun q3 => ⟨fun q4 x10 e10 => hJ8 _ ⟨by rw [e10, nI_1, cn_st q3], fun _ z => q4 z.symm⟩, fun q4 => ⟨vp_in_nI hao (by decide), ?_⟩⟩⟩
    have := h1 q2 f (by omega) q3 q4.symm
    unfold xj
    rw [nI_clamp (by omega), hpl ao hao, show (1 : Int32) = nI 1 from rfl, nI_eq (by have := hp2 ao; omega) (by omega)]
    refine ⟨fun e => ?_, fun e => ?_⟩
    · rw [if_neg e] at this
      rw [show (100 : Int32) = nI 100 from rfl, pk_rem (by omega) (by omega) (by omega)]
      exact this
    · rw [if_pos e] at this
      rw [show (10 : Int32) = nI 10 from rfl, pk_div (show f < 2 ^ 31 by omega) (show 0 < 10 by omega) (by omega), pk_rem (by omega) (by omega) (by omega)]
      exact this
theorem cn_uniq {f : Nat → Bool} {a b : Nat} (ha : f a = true) (hb : f b = true) (h : cn_ f a = cn_ f b) : a = b := by
  have key : ∀ a b, a < b → f a = true → cn_ f a < cn_ f b := by
    intro a b hab hfa
    obtain ⟨d, rfl⟩ : ∃ d, b = a + (d + 1) := ⟨b - a - 1, by omega⟩
    rw [cn_app, cn_1]
    rw [Nat.add_zero, if_pos hfa]
    omega
  rcases Nat.lt_trichotomy a b with z | z | z
  · have := key a b z ha; omega
  · exact z
  · have := key b a z hb; omega
end AN
