section PT
/-! THE REFERENCE'S PATTERNS -/
def bn (R : RU) (j pt t : Nat) : Bool := decide (1 ≤ t ∧ t ≤ 10) || (decide (11 ≤ t) && ((decide (pt % 2 = 1) && decide (R.fs 0 = t)) || (decide (pt / 2 = 1) && decide (R.sn 0 = t)))) || (decide (11 ≤ t) && an_ (fun i => decide (R.fs (i + 1) = t) || decide (R.sn (i + 1) = t)) j)
theorem xt_l : ∀ t, t ≤ 18 → (xb_t t < 10 ↔ t ≤ 10) := by decide +kernel
theorem xt_inj : ∀ a, a ≤ 18 → ∀ b, b ≤ 18 → (xb_t a = xb_t b ↔ a = b) := by decide +kernel
theorem pt_1 : ∀ p, p < 4 → (nI p &&& 1 = 1 ↔ p % 2 = 1) := by decide +kernel
theorem pt_2 : ∀ p, p < 4 → (nI p &&& 2 = 2 ↔ p / 2 = 1) := by decide +kernel
theorem q_isBound {post : Int32 → Prop} {oa la ga sz : Nat → Int32} {R : RU} {pl : Nat → Nat} {r j pt t : Nat} (hR : rR oa la ga sz r R) (hw : wfR pl R) (hr : r < 30) (hj : j ≤ R.n) (hpt : pt < 4) (ht : t ≤ 18) (hp : post (bI (bn R j pt t))) : wp_Mo_isBound post la ga (xb_t t) (nI r) (nI j) (nI pt) := by
  have h3 := hw.n3
  have hl0 : la (4 * r) = _ := hR.l 0 (by omega)
  have hg0 : ga (4 * r) = _ := hR.g 0 (by omega)
  have f180 := hw.f18 0 (by omega)
  have c180 := hw.c18 0 (by omega)
  unfold wp_Mo_isBound
  intro x1 e1
  rw [show (4 : Int32) = nI 4 from rfl, pk_mul] at e1
  subst e1
  have hin1 : vp_in (nI (4 * r)) 124 := vp_in_nI (by omega) (by decide)
  rw [nI_clamp (by omega), hl0, hg0, xt_l t ht, xt_n t ht, pt_1 pt hpt, pt_2 pt hpt, xt_inj _ f180 _ ht, xt_inj _ c180 _ ht]
  refine xj_of ?_ (fun v => v = bI (decide (1 ≤ t ∧ t ≤ 10) || (decide (11 ≤ t) && ((decide (pt % 2 = 1) && decide (R.fs 0 = t)) || (decide (pt / 2 = 1) && decide (R.sn 0 = t)))))) ?_ ?_
  · intro P Q h z
    unfold xj at z ⊢
    exact ⟨fun q => ⟨fun q2 => h _ ((z.1 q).1 q2), fun q2 => ⟨fun q3 => ⟨fun q4 => h _ ((((z.1 q).2 q2).1 q3).1 q4), fun q4 => ⟨((((z.1 q).2 q2).1 q3).2 q4).1, fun q5 => h _ (((((z.1 q).2 q2).1 q3).2 q4).2.1 q5), fun q5 => h _ (((((z.1 q).2 q2).1 q3).2 q4).2.2 q5)⟩⟩, fun q3 => ⟨(((z.1 q).2 q2).2 q3).1, fun q4 => h _ ((((z.1 q).2 q2).2 q3).2.1 q4), fun q4 => ⟨fun q5 => h _ (((((z.1 q).2 q2).2 q3).2.2 q4).1 q5), fun q5 => ⟨(((((z.1 q).2 q2).2 q3).2.2 q4).2 q5).1, fun q6 => h _ ((((((z.1 q).2 q2).2 q3).2.2 q4).2 q5).2.1 q6), fun q6 => h _ ((((((z.1 q).2 q2).2 q3).2.2 q4).2 q5).2.2 q6)⟩⟩⟩⟩⟩, fun q => ⟨fun q2 => h _ ((z.2 q).1 q2), fun q2 => ⟨fun q2' => h _ (((z.2 q).2 q2).1 q2'), fun q2' => ⟨fun q3 => ⟨fun q4 => h _ (((((z.2 q).2 q2).2 q2').1 q3).1 q4), fun q4 => ⟨(((((z.2 q).2 q2).2 q2').1 q3).2 q4).1, fun q5 => h _ ((((((z.2 q).2 q2).2 q2').1 q3).2 q4).2.1 q5), fun q5 => h _ ((((((z.2 q).2 q2).2 q2').1 q3).2 q4).2.2 q5)⟩⟩, fun q3 => ⟨((((z.2 q).2 q2).2 q2').2 q3).1, fun q4 => h _ (((((z.2 q).2 q2).2 q2').2 q3).2.1 q4), fun q4 => ⟨fun q5 => h _ ((((((z.2 q).2 q2).2 q2').2 q3).2.2 q4).1 q5), fun q5 => ⟨((((((z.2 q).2 q2).2 q2').2 q3).2.2 q4).2 q5).1, fun q6 => h _ (((((((z.2 q).2 q2).2 q2').2 q3).2.2 q4).2 q5).2.1 q6), fun q6 => h _ (((((((z.2 q).2 q2).2 q2').2 q3).2.2 q4).2 q5).2.2 q6)⟩⟩⟩⟩⟩⟩⟩
  · intro v hv x4 e4
    rw [nI_1] at e4
    subst e4
    rw [nI_add]
    refine xL_up (fun i s => s.1 = nI (4 * r + 1 + i) ∧ s.2 = bI (decide (1 ≤ t ∧ t ≤ 10) || (decide (11 ≤ t) && ((decide (pt % 2 = 1) && decide (R.fs 0 = t)) || (decide (pt / 2 = 1) && decide (R.sn 0 = t)))) || (decide (11 ≤ t) && an_ (fun i => decide (R.fs (i + 1) = t) || decide (R.sn (i + 1) = t)) i))) j ?_ (Nat.zero_le _) ⟨rfl, by rw [hv]; simp only [an_, Bool.and_false, Bool.or_false]⟩
    rintro i ⟨k, s⟩ hi ⟨z1, z2⟩ K hK
    dsimp only at z1 z2 ⊢
    rw [z1, nI_ltI (by omega) (by omega)]
    refine ⟨fun h => ?_, fun h => ?_⟩
    · have : i = j := by omega
      subst this
      rw [z2]
      exact ⟨bI_nar _, hp⟩
    · have hl : la (4 * r + (i + 1)) = _ := hR.l (i + 1) (by omega)
      have hg : ga (4 * r + (i + 1)) = _ := hR.g (i + 1) (by omega)
      have f18 := hw.f18 (i + 1) (by omega)
      have c18 := hw.c18 (i + 1) (by omega)
      have hin : vp_in (nI (4 * r + (i + 1))) 124 := vp_in_nI (by omega) (by decide)
      rw [show 4 * r + 1 + i = 4 * r + (i + 1) by omega, nI_clamp (by omega), hl, hg, xt_inj _ f18 _ ht, xt_inj _ c18 _ ht, z2]
      generalize hs : (decide (1 ≤ t ∧ t ≤ 10) || (decide (11 ≤ t) && ((decide (pt % 2 = 1) && decide (R.fs 0 = t)) || (decide (pt / 2 = 1) && decide (R.sn 0 = t))))) = s0 at hK ⊢
      have nx : ∀ z : Int32, z = bI (s0 || (decide (11 ≤ t) && an_ (fun i => decide (R.fs (i + 1) = t) || decide (R.sn (i + 1) = t)) (i + 1))) → ∀ x9 : Int32, x9 = nI (4 * r + (i + 1)) + 1 → K (x9, z) := fun z hz x9 e9 => hK (by omega) _ ⟨by rw [e9, nI_1]; exact congrArg nI (by omega), hz⟩
      unfold xj
      rw [bI_t, bI_f]
      simp only [an_] at nx
      refine ⟨fun h1 => nx _ ?_, fun h1 => ⟨fun h2 => nx _ ?_, fun h2 => ⟨hin, fun h3 => nx _ ?_, fun h3 => ⟨hin, fun h4 => nx _ ?_, fun h4 => nx _ ?_⟩⟩⟩⟩
      · cases s0 with
        | true => rfl
        | false =>
          rw [Bool.false_or, Bool.and_eq_true] at h1
          rw [h1.1, h1.2]; rfl
      · rw [Bool.or_eq_false_iff] at h1
        rw [h1.1, decide_eq_false (show ¬ 11 ≤ t by omega)]; rfl
      · rw [decide_eq_true (show 11 ≤ t by omega), decide_eq_true h3]; simp [bI, nI]
      · rw [Bool.or_eq_false_iff] at h1
        have h5 := h1.2
        rw [decide_eq_true (show 11 ≤ t by omega), Bool.true_and] at h5
        rw [h1.1, decide_eq_true (show 11 ≤ t by omega), decide_eq_false h3, decide_eq_false h4, h5]; rfl
      · rw [decide_eq_true (show 11 ≤ t by omega), decide_eq_true h4]; simp [bI, nI]
  · unfold xj
    by_cases a : t ≤ 10
    · by_cases b : t = 0
      · subst b
        refine ⟨fun _ => ⟨fun _ => rfl, fun h => absurd a h⟩, fun h => absurd rfl h⟩
      · have e : decide (1 ≤ t ∧ t ≤ 10) = true := decide_eq_true ⟨by omega, a⟩
        rw [e, Bool.true_or]
        exact ⟨fun h => absurd h b, fun _ => ⟨fun _ => rfl, fun h => absurd a h⟩⟩
    · have e : decide (1 ≤ t ∧ t ≤ 10) = false := decide_eq_false (fun z => a z.2)
      rw [e, decide_eq_true (show 11 ≤ t by omega), Bool.false_or, Bool.true_and]
      have main : ((¬ pt % 2 = 1 → (¬ pt / 2 = 1 → (0 : Int32) = bI ((decide (pt % 2 = 1) && decide (R.fs 0 = t)) || (decide (pt / 2 = 1) && decide (R.sn 0 = t)))) ∧ (pt / 2 = 1 → vp_in (nI (4 * r)) 124 ∧ (¬ R.sn 0 = t → (0 : Int32) = bI ((decide (pt % 2 = 1) && decide (R.fs 0 = t)) || (decide (pt / 2 = 1) && decide (R.sn 0 = t)))) ∧ (R.sn 0 = t → (1 : Int32) = bI ((decide (pt % 2 = 1) && decide (R.fs 0 = t)) || (decide (pt / 2 = 1) && decide (R.sn 0 = t)))))) ∧ (pt % 2 = 1 → vp_in (nI (4 * r)) 124 ∧ (R.fs 0 = t → (1 : Int32) = bI ((decide (pt % 2 = 1) && decide (R.fs 0 = t)) || (decide (pt / 2 = 1) && decide (R.sn 0 = t)))) ∧ (¬ R.fs 0 = t → (¬ pt / 2 = 1 → (0 : Int32) = bI ((decide (pt % 2 = 1) && decide (R.fs 0 = t)) || (decide (pt / 2 = 1) && decide (R.sn 0 = t)))) ∧ (pt / 2 = 1 → vp_in (nI (4 * r)) 124 ∧ (¬ R.sn 0 = t → (0 : Int32) = bI ((decide (pt % 2 = 1) && decide (R.fs 0 = t)) || (decide (pt / 2 = 1) && decide (R.sn 0 = t)))) ∧ (R.sn 0 = t → (1 : Int32) = bI ((decide (pt % 2 = 1) && decide (R.fs 0 = t)) || (decide (pt / 2 = 1) && decide (R.sn 0 = t)))))))) := by
        refine ⟨fun h1 => ⟨fun h2 => ?_, fun h2 => ⟨hin1, fun h4 => ?_, fun h4 => ?_⟩⟩, fun h1 => ⟨hin1, fun h2 => ?_, fun h2 => ⟨fun h4 => ?_, fun h4 => ⟨hin1, fun h5 => ?_, fun h5 => ?_⟩⟩⟩⟩
        · rw [decide_eq_false h1, decide_eq_false h2]; rfl
        · rw [decide_eq_false h1, decide_eq_false h4, Bool.and_false]; rfl
        · rw [decide_eq_true h2, decide_eq_true h4]; simp [bI, nI]
        · rw [decide_eq_true h1, decide_eq_true h2]; simp [bI, nI]
        · rw [decide_eq_false h2, decide_eq_false h4, Bool.and_false]; rfl
        · rw [decide_eq_false h2, decide_eq_false h5, Bool.and_false, Bool.and_false]; rfl
        · rw [decide_eq_true h4, decide_eq_true h5]; simp [bI, nI]
      exact ⟨fun h => by omega, fun _ => ⟨fun h => absurd h a, fun _ => ⟨fun h => absurd h a, fun _ => main⟩⟩⟩
end PT
theorem xj_P {σ : Type} {jb : σ → Prop} {b : (σ → Prop) → Prop} (P : σ → Prop) (h1 : ∀ v, P v → jb v) (h2 : ∀ J : σ → Prop, (∀ v, P v → J v) → b J) : xj jb b := h2 jb h1
theorem cn_st {f : Nat → Bool} {n : Nat} (h : f n = true) : cn_ f (n + 1) = cn_ f n + 1 := by
  show cn_ f n + (if f n = true then 1 else 0) = _
  rw [if_pos h]
theorem cn_sf {f : Nat → Bool} {n : Nat} (h : f n = false) : cn_ f (n + 1) = cn_ f n := by
  show cn_ f n + (if f n = true then 1 else 0) = _
  rw [if_neg (by rw [h]; exact Bool.false_ne_true)]
  rfl
section PT2
def sm (f : Nat → Nat) : Nat → Nat
  | 0 => 0
  | n + 1 => sm f n + f n
variable {RS : Nat → RU} {nr : Nat} {Ru : Nat → Bool}
/-- a pattern's number for an atom -/
def pb (R : RU) (j pt : Nat) : Nat := (if bn R j pt (R.fs (j + 1)) = true then 1 else 0) + (if bn R j pt (R.sn (j + 1)) = true then 2 else 0)
theorem pb_lt (R : RU) (j pt : Nat) : pb R j pt < 4 := by unfold pb; split <;> split <;> omega
def rwS (Ru : Nat → Bool) (R : RU) (q : Nat) (C : Nat → Bool) (m : Nat) : Prop := R.st 0 = q / 4 → ∀ j, j < m → Ru (R.st (j + 1)) = true → C (4 * R.st (j + 1) + pb R j (q % 4)) = true
def rwC (RS : Nat → RU) (nr : Nat) (Ru : Nat → Bool) (C : Nat → Bool) : Prop := ∀ q, C q = true → ∀ r, r < nr → rwS Ru (RS r) q C (RS r).n
def lfP (RS : Nat → RU) (nr : Nat) (Ru : Nat → Bool) (q0 z : Nat) : Prop := ∀ C : Nat → Bool, C q0 = true → rwC RS nr Ru C → C z = true
def wtR (Ru : Nat → Bool) (R : RU) : Nat := 1 + cn_ (fun j => Ru (R.st (j + 1))) R.n
def rwG (RS : Nat → RU) (Ru : Nat → Bool) (q : Nat) : Nat → Nat := fun r => if (RS r).st 0 = q / 4 then wtR Ru (RS r) else 0
def rwF (RS : Nat → RU) (nr : Nat) (Ru : Nat → Bool) (P : Nat → Bool) : Nat → Nat := fun q => if P q = true then sm (rwG RS Ru q) nr else 0
/-- what stands while the patterns are gone through -/
abbrev pI (RS : Nat → RU) (nr : Nat) (Ru : Nat → Bool) (q0 : Nat) (Pp Pc : Nat → Bool) (b : Bool) : Prop := (∀ i, Pp i = true → Pc i = true) ∧ (b = false → Pc = Pp) ∧ (b = true → ∃ i, i < 40 ∧ Pc i = true ∧ Pp i = false) ∧ (∀ C : Nat → Bool, C q0 = true → rwC RS nr Ru C → ∀ i, Pc i = true → C i = true) ∧ (∀ i, Pc i = true → i < 40)
theorem pI.sub {RS : Nat → RU} {nr : Nat} {Ru : Nat → Bool} {q0 : Nat} {Pp Pc : Nat → Bool} {b : Bool} (h_ : pI RS nr Ru q0 Pp Pc b) : ∀ i, Pp i = true → Pc i = true := h_.1
theorem pI.same {RS : Nat → RU} {nr : Nat} {Ru : Nat → Bool} {q0 : Nat} {Pp Pc : Nat → Bool} {b : Bool} (h_ : pI RS nr Ru q0 Pp Pc b) : b = false → Pc = Pp := h_.2.1
theorem pI.more {RS : Nat → RU} {nr : Nat} {Ru : Nat → Bool} {q0 : Nat} {Pp Pc : Nat → Bool} {b : Bool} (h_ : pI RS nr Ru q0 Pp Pc b) : b = true → ∃ i, i < 40 ∧ Pc i = true ∧ Pp i = false := h_.2.2.1
theorem pI.mid {RS : Nat → RU} {nr : Nat} {Ru : Nat → Bool} {q0 : Nat} {Pp Pc : Nat → Bool} {b : Bool} (h_ : pI RS nr Ru q0 Pp Pc b) : ∀ C : Nat → Bool, C q0 = true → rwC RS nr Ru C → ∀ i, Pc i = true → C i = true := h_.2.2.2.1
theorem pI.lt {RS : Nat → RU} {nr : Nat} {Ru : Nat → Bool} {q0 : Nat} {Pp Pc : Nat → Bool} {b : Bool} (h_ : pI RS nr Ru q0 Pp Pc b) : ∀ i, Pc i = true → i < 40 := h_.2.2.2.2
theorem pI.step {q0 : Nat} {Pp Pc : Nat → Bool} {b : Bool} {pl : Nat → Nat} (h : pI RS nr Ru q0 Pp Pc b) {r j q : Nat} (hr : r < nr) (hR : wfR pl (RS r)) (hj : j < (RS r).n) (hq : Pc q = true) (he : (RS r).st 0 = q / 4) (hu : Ru ((RS r).st (j + 1)) = true) : pI RS nr Ru q0 Pp (mS Pc (4 * (RS r).st (j + 1) + pb (RS r) j (q % 4))) (b || !(Pc (4 * (RS r).st (j + 1) + pb (RS r) j (q % 4)))) := by
  have h10 := hR.s10 (j + 1) (by omega)
  have h4 := pb_lt (RS r) j (q % 4)
  generalize hf : 4 * (RS r).st (j + 1) + pb (RS r) j (q % 4) = f
  have hf40 : f < 40 := by omega
  have hsub : ∀ i, Pc i = true → mS Pc f i = true := fun i q => by unfold mS; split <;> first | rfl | exact q
  refine ⟨fun i q => hsub i (h.sub i q), fun q => ?_, fun q => ?_, fun C h1 h2 i q => ?_, fun i q => ?_⟩
  · rw [Bool.or_eq_false_iff] at q
    rw [mS_same (by simpa using q.2)]
    exact h.same q.1
  · cases hbq : b with
    | true =>
      obtain ⟨i, i1, i2, i3⟩ := h.more hbq
      exact ⟨i, i1, hsub i i2, i3⟩
    | false =>
      rw [hbq, Bool.false_or] at q
      have q : Pc f = false := by simpa using q
      refine ⟨_, hf40, by simp [mS], ?_⟩
      rw [← h.same hbq]; exact q
  · unfold mS at q
    by_cases e : i = f
    · subst e
      rw [← hf]
      exact h2 _ (h.mid C h1 h2 _ hq) r hr he j hj hu
    · rw [if_neg e] at q
      exact h.mid C h1 h2 i q
  · unfold mS at q
    by_cases e : i = f
    · omega
    · rw [if_neg e] at q
      exact h.lt i q
/-- the pattern of the question -/
def pq (al ar : Nat) : Nat := (if al ≤ 10 then 1 else 0) + (if 1 ≤ ar ∧ ar ≤ 10 then 2 else 0)
theorem xt_pl : ∀ t, t ≤ 18 → 1 ≤ t → (10 ≤ xb_t t → (if t ≤ 10 then 1 else 0) = 0) ∧ (¬ 10 ≤ xb_t t → (if t ≤ 10 then 1 else 0) = 1) := by decide +kernel
theorem xt_pr : ∀ t, t ≤ 18 → (bI (decide (1 ≤ t ∧ t ≤ 10)) = 0 → (if 1 ≤ t ∧ t ≤ 10 then 2 else 0) = 0) ∧ (¬ bI (decide (1 ≤ t ∧ t ≤ 10)) = 0 → (if 1 ≤ t ∧ t ≤ 10 then 2 else 0) = 2) := by decide +kernel
theorem q_rewrites {post : (Nat → Int32) → Int32 → Prop} {rd oa la ga sz pa : Nat → Int32} {rw0 : Int32} {pl : Nat → Nat} {ao al ar : Nat}
    (hR : ∀ r, r < nr → rR oa la ga sz r (RS r)) (hwf : ∀ r, r < nr → wfR pl (RS r)) (hnr : nr ≤ 30) (hRu : mB rd Ru 10) (hao : ao < 10) (hal1 : 1 ≤ al) (hal : al ≤ 18) (har : ar ≤ 18)
    (hp0 : Ru ao = false → ∀ pa', mB pa' (fun _ => false) 40 → post pa' 0)
    (hp1 : Ru ao = true → ∀ pa' P, mB pa' P 40 → (∀ z, P z = true → z < 40) → (∀ z, P z = true ↔ lfP RS nr Ru (4 * ao + pq al ar) z) → post pa' (nI (sm (rwF RS nr Ru P) 40))) :
    wp_Mo_rewrites post rd oa la ga sz (nI nr) (nI ao) (xb_t al) (xb_t ar) pa rw0 := by
  unfold wp_Mo_rewrites
  refine xL_up (fun j s => s.1 = nI j ∧ ∀ i, i < j → s.2.1 i = bI false) 40 ?_ (Nat.zero_le _) ⟨rfl, fun i hi => by omega⟩
  rintro j ⟨j1, pa1, rw1⟩ hj ⟨e1, e2⟩ K hK
  dsimp only at e1 e2 ⊢
  rw [e1, show (40 : Int32) = nI 40 from rfl, nI_leX 40 hj (by omega)]
  refine ⟨fun hjj => ⟨vp_in_nI hao (by decide), ?_⟩, fun hjj => ?_⟩
  · subst hjj
    rw [nI_clamp (by omega), hRu ao hao, bI_t, bI_f]
    refine ⟨fun hrd => ?_, fun hrd => hp0 hrd _ e2⟩
    have hp1 := hp1 hrd
    refine xj_of (fun P Q h z => ⟨fun q => h _ (z.1 q), fun q => h _ (z.2 q)⟩) (fun v => v = nI (if al ≤ 10 then 1 else 0)) ?_ ⟨fun q => by rw [(xt_pl al hal hal1).1 q]; rfl, fun q => by rw [(xt_pl al hal hal1).2 q]; rfl⟩
    intro x hx
    subst hx
    refine q_in ?_
    rw [xt_in ar har]
    refine xj_of (fun P Q h z => ⟨fun q => h _ (z.1 q), fun q => h _ (z.2 q)⟩) (fun v => v = nI (if 1 ≤ ar ∧ ar ≤ 10 then 2 else 0)) ?_ ⟨fun q => by rw [(xt_pr ar har).1 q]; rfl, fun q => by rw [(xt_pr ar har).2 q]; rfl⟩
    intro y hy
    subst hy
    have hq40 : 4 * ao + pq al ar < 40 := by unfold pq; split <;> split <;> omega
    have e4 : 4 * nI ao + nI (if al ≤ 10 then 1 else 0) + nI (if 1 ≤ ar ∧ ar ≤ 10 then 2 else 0) = nI (4 * ao + pq al ar) := by
      rw [show (4 : Int32) = nI 4 from rfl, pk_mul, nI_add, nI_add, Nat.add_assoc]; rfl
    rw [e4, nI_clamp (by omega), nar_1]
    generalize 4 * ao + pq al ar = q0 at hq40 hp1 ⊢
    refine ⟨vp_in_nI hq40 (by decide), fun pa9 e9 => ?_⟩
    have hpa9 : mB pa9 (mS (fun _ => false) q0) 40 := by rw [e9]; exact mB_up e2
    have hP0 : ∀ z, mS (fun _ => false) q0 z = true → z = q0 := fun z hz => by
      unfold mS at hz
      by_cases e : z = q0
      · exact e
      · rw [if_neg e] at hz; cases hz
    refine xL_by (fun j s => ∃ (P : Nat → Bool) (b : Bool), j = 2 * cn_ P 40 + (if b = true then 0 else 1) ∧ s.1 = bI b ∧ mB s.2.1 P 40 ∧ P q0 = true ∧ pI RS nr Ru q0 P P false ∧ (b = false → s.2.2 = nI (sm (rwF RS nr Ru P) 40) ∧ rwC RS nr Ru P)) 81 ?_ ?_ (j := 2 * cn_ (mS (fun _ => false) q0) 40) ⟨_, true, rfl, rfl, hpa9, if_pos rfl, ⟨fun _ q => q, fun _ => rfl, fun q => (by cases q), fun C h1 _ i hi => (by rw [hP0 i hi]; exact h1), fun i hi => (by rw [hP0 i hi]; exact hq40)⟩, fun q => (by cases q)⟩
    · rintro j s ⟨P, b, rfl, -⟩
      have := cn_le P 40
      split <;> omega
    · rintro j ⟨mo, pa2, rw2⟩ ⟨Pp, b, rfl, q1, q2, q3, q4, q5⟩ K11 hK11
      dsimp only at q1 q2 q5 ⊢
      rw [q1]
      refine ⟨fun hb => ?_, fun hb => ?_⟩
      · obtain ⟨z1, z2⟩ := q5 (bI_f.mp hb)
        rw [z1]
        exact hp1 _ Pp q2 q4.lt (fun z => ⟨fun hz C h1 h2 => q4.mid C h1 h2 z hz, fun hz => hz Pp q3 z2⟩)
      · have hb := bI_t.mp hb
        subst hb
        refine xL_up (fun q s => s.1 = nI q ∧ ∃ (Pc : Nat → Bool) (b : Bool), s.2.1 = bI b ∧ mB s.2.2.1 Pc 40 ∧ pI RS nr Ru q0 Pp Pc b ∧ (b = false → s.2.2.2 = nI (sm (rwF RS nr Ru Pp) q)) ∧ ∀ q', q' < q → Pp q' = true → ∀ r, r < nr → rwS Ru (RS r) q' Pc (RS r).n) 40 ?_ (Nat.zero_le _) ⟨rfl, Pp, false, rfl, q2, q4, fun _ => rfl, fun q hq => by omega⟩
        rintro q ⟨qi, mo3, pa3, rw3⟩ hq ⟨g1, Pc, b, g2, g3, g4, g5, g6⟩ K13 hK13
        dsimp only at g1 g2 g3 g5 ⊢
        rw [g1, nI_leX 40 hq (by omega)]
        refine ⟨fun hqq => ?_, fun hqq => ?_⟩
        · subst hqq
          refine hK11 (2 * cn_ Pc 40 + (if b = true then 0 else 1)) _ ?_ ⟨Pc, b, rfl, g2, g3, g4.sub _ q3, ⟨fun _ q => q, fun _ => rfl, fun q => (by cases q), g4.mid, g4.lt⟩, fun hb => ?_⟩
          · cases hb : b with
            | true =>
              have := cn_lt 40 (fun i _ q => g4.sub i q) (g4.more hb)
              simp
              omega
            | false => rw [g4.same hb]; simp
          · rw [g4.same hb] at g6 ⊢
            exact ⟨g5 hb, fun q hq r hr => g6 q (q4.lt q hq) hq r hr⟩
        · have hq : q < 40 := by omega
          have hinq : vp_in (nI q) 40 := vp_in_nI hq (by decide)
          rw [nI_clamp (show q < 2 ^ 31 by omega), show (4 : Int32) = nI 4 from rfl, pk_rem (by omega) (by omega) (by omega), pk_div (by omega) (by omega) (by omega)]
          refine xL_up (fun r s => s.1 = nI r ∧ ∃ (Pc : Nat → Bool) (b : Bool), s.2.1 = bI b ∧ mB s.2.2.1 Pc 40 ∧ pI RS nr Ru q0 Pp Pc b ∧ (b = false → s.2.2.2 = nI (sm (rwF RS nr Ru Pp) q + if Pp q = true then sm (rwG RS Ru q) r else 0)) ∧ (∀ q', q' < q → Pp q' = true → ∀ r, r < nr → rwS Ru (RS r) q' Pc (RS r).n) ∧ (Pp q = true → ∀ r', r' < r → rwS Ru (RS r') q Pc (RS r').n)) nr ?_ (Nat.zero_le _) ⟨rfl, Pc, b, g2, g3, g4, fun hb => (by rw [show (0, mo3, pa3, rw3).2.2.2 = rw3 from rfl, g5 hb]; simp [sm]), g6, fun _ r' h => by omega⟩
          rintro r ⟨ri, mo4, pa4, rw4⟩ hr ⟨y1, Pd, bd, y2, y3, y4, y5, y6, y7⟩ K15 hK15
          dsimp only at y1 y2 y3 y5 ⊢
          have exit : (Pp q = true → r = nr) → ∀ x_18 : Int32, x_18 = nI q + 1 → K13 (x_18, mo4, pa4, rw4) := by
            intro hex x18 e18
            refine hK13 hq _ ⟨by rw [e18, nI_1], Pd, bd, y2, y3, y4, fun hb => ?_, fun q' hq' hpp r' hr' => ?_⟩
            · show rw4 = nI (sm (rwF RS nr Ru Pp) q + rwF RS nr Ru Pp q)
              rw [y5 hb]
              unfold rwF
              by_cases hpq : Pp q = true
              · rw [if_pos hpq, if_pos hpq, hex hpq]
              · rw [if_neg hpq, if_neg hpq]
            · by_cases e : q' = q
              · subst e; exact y7 hpp r' (by have := hex hpp; omega)
              · exact y6 q' (by omega) hpp r' hr'
          refine xj_of (fun P Q h z => ⟨fun q => h _ (z.1 q), fun q => ⟨(z.2 q).1, fun q2 => h _ ((z.2 q).2.1 q2), fun q2 => (z.2 q).2.2 q2⟩⟩) (fun _ => Pp q = true → r = nr) (fun _ h => exit h) ?_
          rw [y1, nI_leX nr hr (by omega), y3 q hq, bI_t, bI_f]
          refine ⟨fun hrr _ => hrr, fun hrr => ⟨hinq, fun hz hpp => ?_, fun hz => ?_⟩⟩
          · rw [y4.sub q hpp] at hz; cases hz
          · have hr : r < nr := by omega
            have hw := hwf r hr
            have hRr := hR r hr
            have h3 := hw.n3
            have h10 := hw.s10 0 (by omega)
            have ho0 : oa (4 * r) = _ := hRr.o 0 (by omega)
            rw [pk_mul, nI_clamp (show 4 * r < 2 ^ 31 by omega), ho0, nI_eq (by omega) (by omega), nI_clamp (show r < 2 ^ 31 by omega), hRr.z, nI_1]
            refine ⟨vp_in_nI (by omega) (by decide), ?_⟩
            refine xj_P (fun s => ∃ (Pc : Nat → Bool) (b : Bool), s.1 = bI b ∧ mB s.2.1 Pc 40 ∧ pI RS nr Ru q0 Pp Pc b ∧ (b = false → s.2.2 = nI (sm (rwF RS nr Ru Pp) q + if Pp q = true then sm (rwG RS Ru q) (r + 1) else 0)) ∧ (∀ i, Pd i = true → Pc i = true) ∧ rwS Ru (RS r) q Pc (RS r).n) ?_ ?_
            · rintro ⟨mo5, pa5, rw5⟩ ⟨Pe, be, w1, w2, w3, w4, w5, w6⟩
              dsimp only at w1 w2 w4 ⊢
              intro x21 e21
              refine hK15 hr _ ⟨e21, Pe, be, w1, w2, w3, w4, fun q' hq' hpp r' hr' h0 j hj hu => w5 _ (y6 q' hq' hpp r' hr' h0 j hj hu), fun hpp r' hr' => ?_⟩
              by_cases e : r' = r
              · subst e; exact w6
              · exact fun h0 j hj hu => w5 _ (y7 hpp r' (by omega) h0 j hj hu)
            · intro J20 hJ20
              refine ⟨fun heq => ?_, fun hne => hJ20 _ ⟨Pd, bd, y2, y3, y4, fun hb => ?_, fun _ z => z, fun h0 => absurd h0 hne⟩⟩
              · refine xL_up (fun j s => s.1 = nI j ∧ ∃ (Pe : Nat → Bool) (be : Bool), s.2.1 = bI be ∧ mB s.2.2.1 Pe 40 ∧ pI RS nr Ru q0 Pp Pe be ∧ (be = false → s.2.2.2 = nI (sm (rwF RS nr Ru Pp) q + (sm (rwG RS Ru q) r + (1 + cn_ (fun j => Ru ((RS r).st (j + 1))) j)))) ∧ (∀ i, Pd i = true → Pe i = true) ∧ rwS Ru (RS r) q Pe j) (RS r).n ?_ (Nat.zero_le _) ⟨rfl, Pd, bd, y2, y3, y4, fun hb => ?_, fun _ z => z, fun _ j hj => by omega⟩
                · rintro j ⟨ji, mo5, pa5, rw5⟩ hj ⟨w1, Pe, be, w2, w3, w4, w5, w6, w7⟩ K23 hK23
                  dsimp only at w1 w2 w3 w5 ⊢
                  rw [w1, nI_leX _ hj (by omega)]
                  refine ⟨vp_in_nI (by omega) (by decide), fun hjn => hJ20 _ ⟨Pe, be, w2, w3, w4, fun hb => ?_, w6, hjn ▸ w7⟩, fun hjn x24 e24 => ?_⟩
                  · have hpq : Pp q = true := by
                      rw [← w4.same hb]; exact w6 q hz
                    show rw5 = _
                    rw [w5 hb, if_pos hpq]
                    simp only [sm]
                    unfold rwG wtR
                    rw [if_pos heq, hjn]
                  · have hj : j < (RS r).n := by omega
                    have ho : oa (4 * r + (j + 1)) = _ := hRr.o (j + 1) (by omega)
                    have hl : la (4 * r + (j + 1)) = _ := hRr.l (j + 1) (by omega)
                    have hg : ga (4 * r + (j + 1)) = _ := hRr.g (j + 1) (by omega)
                    have hj10 := hw.s10 (j + 1) (by omega)
                    have f18 := hw.f18 (j + 1) (by omega)
                    have c18 := hw.c18 (j + 1) (by omega)
                    rw [nI_1, nI_add, show 4 * r + 1 + j = 4 * r + (j + 1) by omega] at e24
                    subst e24
                    have hin : vp_in (nI (4 * r + (j + 1))) 124 := vp_in_nI (by omega) (by decide)
                    rw [nI_clamp (show 4 * r + (j + 1) < 2 ^ 31 by omega), ho, hl, hg, nI_clamp (by omega), hRu _ hj10, bI_t, bI_f, nI_1]
                    refine ⟨hin, vp_in_nI hj10 (by decide), ?_⟩
                    refine xj_P (fun s => ∃ (Pf : Nat → Bool) (bf : Bool), s.1 = bI bf ∧ mB s.2.1 Pf 40 ∧ pI RS nr Ru q0 Pp Pf bf ∧ (bf = false → s.2.2 = nI (sm (rwF RS nr Ru Pp) q + (sm (rwG RS Ru q) r + (1 + cn_ (fun j => Ru ((RS r).st (j + 1))) (j + 1))))) ∧ (∀ i, Pe i = true → Pf i = true) ∧ (Ru ((RS r).st (j + 1)) = true → Pf (4 * (RS r).st (j + 1) + pb (RS r) j (q % 4)) = true)) ?_ ?_
                    · rintro ⟨mo6, pa6, rw6⟩ ⟨Pf, bf, v1, v2, v3, v4, v5, v6⟩
                      dsimp only at v1 v2 v4 ⊢
                      intro x27 e27
                      refine hK23 hj _ ⟨e27, Pf, bf, v1, v2, v3, v4, fun i z => v5 i (w6 i z), fun h0 j' hj' hu => ?_⟩
                      by_cases e : j' = j
                      · subst e; exact v6 hu
                      · exact v5 _ (w7 h0 j' (by omega) hu)
                    · intro J26 hJ26
                      refine ⟨fun hu => hJ26 _ ⟨Pe, be, w2, w3, w4, fun hb => ?_, fun _ z => z, fun h => by rw [hu] at h; cases h⟩, fun hu => ⟨hin, hin, ?_⟩⟩
                      · show rw5 = _
                        rw [w5 hb, cn_sf (f := fun j => Ru ((RS r).st (j + 1))) hu]
                      · refine q_isBound hRr hw (by omega) (by omega) (Nat.mod_lt _ (by omega)) f18 ?_
                        refine xj_P (fun v => v = nI (if bn (RS r) j (q % 4) ((RS r).fs (j + 1)) = true then 1 else 0)) ?_ (fun J hJ => ⟨fun h => hJ _ ?_, fun h => hJ _ ?_⟩)
                        · intro v30 hv30
                          subst hv30
                          refine ⟨hin, q_isBound hRr hw (by omega) (by omega) (Nat.mod_lt _ (by omega)) c18 ?_⟩
                          refine xj_P (fun v => v = nI (if bn (RS r) j (q % 4) ((RS r).sn (j + 1)) = true then 2 else 0)) ?_ (fun J hJ => ⟨fun h => hJ _ ?_, fun h => hJ _ ?_⟩)
                          · intro v34 hv34
                            subst hv34
                            intro x36 e36
                            have e37 : x36 = nI (4 * (RS r).st (j + 1) + pb (RS r) j (q % 4)) := by
                              rw [e36, pk_mul, nI_add, nI_add, Nat.add_assoc]; rfl
                            have hst := w4.step hr hw hj (w6 q hz) heq hu
                            have hlt := pb_lt (RS r) j (q % 4)
                            have hf40 : 4 * (RS r).st (j + 1) + pb (RS r) j (q % 4) < 40 := by omega
                            rw [e37]
                            generalize 4 * (RS r).st (j + 1) + pb (RS r) j (q % 4) = f at hJ26 hst hf40 ⊢
                            have hinf : vp_in (nI f) 40 := vp_in_nI hf40 (by decide)
                            rw [nI_clamp (by omega), w3 f hf40, w2]
                            refine xj_P (fun v => v = bI (be || !(Pe f))) (fun v hv => ⟨hinf, fun pa39 e39 => hJ26 _ ⟨_, _, hv, by rw [e39]; exact mB_up w3, hst, fun hb => ?_, fun i z => by unfold mS; split <;> first | rfl | exact z, fun _ => if_pos rfl⟩⟩) (fun J hJ => ?_)
                            · show rw5 + 1 = _
                              rw [w5 (Bool.or_eq_false_iff.mp hb).1, nI_1, cn_st (f := fun j => Ru ((RS r).st (j + 1))) hu]
                              exact congrArg nI (by omega)
                            · unfold xj
                              refine ⟨fun h => hJ _ ?_, fun h => ⟨hinf, fun h2 => hJ _ ?_, fun h2 => hJ _ ?_⟩⟩
                              · rw [bI_t.mp h]; rfl
                              · rw [bI_f.mp h, bI_t.mp h2]; rfl
                              · rw [bI_f.mp h, bI_f.mp h2]; rfl
                          · rw [bI_f.mp h]; rfl
                          · rw [bI_t.mp h]; rfl
                        · rw [bI_f.mp h]; rfl
                        · rw [bI_t.mp h]; rfl
                · have hpq : Pp q = true := by
                    rw [← y4.same hb]; exact hz
                  show rw4 + 1 = _
                  rw [y5 hb, if_pos hpq, nI_1]
                  rfl
              · show rw4 = _
                rw [y5 hb]
                simp only [sm]
                unfold rwG
                rw [if_neg hne]
                rfl
  · have hin : vp_in (nI j) 40 := vp_in_nI (by omega) (by decide)
    rw [nI_clamp (by omega), show vp_nar .boolean 0 = bI false from rfl]
    refine ⟨hin, fun c39 e39 x40 e40 => hK (by omega) _ ⟨by rw [e40, nI_1], fun i hi => ?_⟩⟩
    show c39 i = _
    rw [e39]
    unfold upd
    by_cases e : i = j
    · rw [if_pos e]
    · rw [if_neg e]; exact e2 i (by omega)
end PT2
