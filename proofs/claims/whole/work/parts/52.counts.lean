section RC
variable {np : Nat} {pl : Nat → Nat} {Ru : Nat → Bool} {mp mr : Nat → Int32} {M CL P T : Nat → Bool} {md cl pa td : Nat → Int32}
def cC (CL : Nat → Bool) (p : Nat) : Nat := cn_ (fun i => CL (121 * p + i)) 121
def cW (M CL Ru : Nat → Bool) (p : Nat) : Nat := cn_ (fun i => Ru p && wF M CL (100 * p + i)) 100
theorem m_count {post : Int32 → Int32 → Prop} {aq : Bool} {hp nr : Nat} {th rw0 wh : Int32} (hRu : mB mr Ru 10) (hM : mB md M 1000) (hC : mB cl CL 1210) (hP : mB pa P 40) (hT : mB td T 1000) (hhp : hp ≤ 10)
    (h0 : wh = 0 → post (nI np) 0) (h1 : wh = 1 → post (nI nr) 0) (h2 : wh = 2 → post (nI (cn_ T 1000)) 0)
    (h3 : wh = 3 → aq = true → post (nI (sm (pS P) hp)) 0) (h4 : wh = 4 → aq = true → post rw0 0) (h5 : wh = 5 → aq = true → post (nI (sm (cC CL) hp)) 0) (h6 : wh = 6 → aq = true → post (nI (sm (cW M CL Ru) hp)) 0)
    (hn : (wh.toInt < 0 ∨ 2 < wh.toInt) → (aq = false ∨ (wh.toInt < 0 ∨ 6 < wh.toInt)) → post (-1) 0) :
    wp_Mo_count post mr (nI np) td md (nI nr) (bI aq) (nI hp) cl pa rw0 th wh := by
  unfold wp_Mo_count
  refine xj_P (fun v => (wh = 3 → v = 3) ∧ (wh = 5 → v = 2) ∧ (wh = 6 → v = 1)) ?_ (fun J hJ => ⟨fun q => ⟨fun q2 => hJ _ ⟨fun z => absurd z q, fun z => absurd z q2, fun _ => rfl⟩, fun q2 => hJ _ ⟨fun z => absurd z q, fun _ => rfl, fun z => by rw [z] at q2; exact absurd q2 (by decide)⟩⟩, fun q => hJ _ ⟨fun _ => rfl, fun z => by rw [z] at q; exact absurd q (by decide), fun z => by rw [z] at q; exact absurd q (by decide)⟩⟩)
  rintro v1 ⟨v13, v15, v16⟩
  have hw : (3 ≤ wh ∧ wh ≤ 6) ↔ ¬ (wh.toInt < 3 ∨ 6 < wh.toInt) := by
    rw [Int32.le_iff_toInt_le, Int32.le_iff_toInt_le, show (3 : Int32).toInt = 3 from by decide, show (6 : Int32).toInt = 6 from by decide]
    omega
  refine xL_up (fun j s => s.1 = nI j ∧ (wh = 3 → s.2.1 = nI (sm (pS P) j)) ∧ (wh = 5 → s.2.1 = nI (sm (cC CL) j)) ∧ (wh = 6 → s.2.1 = nI (sm (cW M CL Ru) j)) ∧ (wh = 2 → s.2.1 = 0)) hp ?_ (Nat.zero_le _) ⟨rfl, fun _ => rfl, fun _ => rfl, fun _ => rfl, fun _ => rfl⟩
  rintro j ⟨pi, n, th'⟩ hj ⟨z1, z3, z5, z6, z2⟩ K hK
  dsimp only at z1 z2 z3 z5 z6 ⊢
  rw [z1, nI_leX hp hj (by omega)]
  refine xj_P (fun _ => j = hp ∨ aq = false ∨ (wh.toInt < 3 ∨ 6 < wh.toInt)) (fun _ hex => ?_) (fun J6 hJ6 => ?_)
  · -- the told facts
    refine xL_up (fun i s => s.1 = nI i ∧ (wh ≠ 2 → s.2 = n) ∧ (wh = 2 → s.2 = nI (cn_ T i)) ∧ (wh ≠ 2 → i = 0)) 1000 ?_ (Nat.zero_le _) ⟨rfl, fun _ => rfl, fun e => z2 e, fun _ => rfl⟩
    rintro i ⟨fi, m⟩ hi ⟨y1, y2, y3, y4⟩ K8 hK8
    dsimp only at y1 y2 y3 ⊢
    rw [y1, show (1000 : Int32) = nI 1000 from rfl, nI_leX 1000 hi (by omega)]
    refine xj_P (fun _ => wh ≠ 2 ∨ i = 1000) (fun _ hx => ?_) (fun J10 hJ10 => ⟨fun q => hJ10 _ (Or.inr q), fun q => ⟨fun q2 => hJ10 _ (Or.inl q2), fun q2 => ⟨vp_in_nI (by omega) (by decide), ?_⟩⟩⟩)
    · have hm : wh ≠ 2 → m = n := y2
      have ask : ∀ (w : Int32), wh = w → w ≠ 2 → (3 : Int32).toInt ≤ w.toInt → w.toInt ≤ 6 → (aq = true → post m 0) → xj (fun (v : Int32) => post v 0) (fun (J : Int32 → Prop) => ((bI aq = 0 → J (-1)) ∧ (¬ bI aq = 0 → J m))) := by
        intro w e h2 h3 h6' h
        unfold xj
        rw [bI_t, bI_f]
        refine ⟨fun q => hn ?_ (Or.inl q), fun q => h q⟩
        rw [e]
        have : (3 : Int32).toInt = 3 := by decide
        omega
      have jhp : ∀ (w : Int32), wh = w → 3 ≤ w.toInt → w.toInt ≤ 6 → aq = true → j = hp := by
        intro w e a b c
        rcases hex with h | h | h
        · exact h
        · rw [c] at h; cases h
        · rw [e] at h; omega
      refine ⟨h0, h1, fun e => ?_, fun e => ask 3 e (by decide) (by decide) (by decide) (fun q => ?_), fun e => ?_, fun e => ask 5 e (by decide) (by decide) (by decide) (fun q => ?_), fun e => ask 6 e (by decide) (by decide) (by decide) (fun q => ?_), fun e => hn (by omega) (Or.inr e)⟩
      · have : i = 1000 := hx.resolve_left (fun z => z e)
        rw [y3 e, this]; exact h2 e
      · rw [hm (by rw [e]; decide), z3 e, jhp 3 e (by decide) (by decide) q]; exact h3 e q
      · unfold xj
        rw [bI_t, bI_f]
        refine ⟨fun q => hn ?_ (Or.inl q), fun q => h4 e q⟩
        rw [e]; decide
      · rw [hm (by rw [e]; decide), z5 e, jhp 5 e (by decide) (by decide) q]; exact h5 e q
      · rw [hm (by rw [e]; decide), z6 e, jhp 6 e (by decide) (by decide) q]; exact h6 e q
    · rw [nI_clamp (by omega)]
      refine lh_inc (hT i (by omega)) (fun x21 e21 x22 e22 => hK8 (by omega) _ ⟨by rw [e22, nI_1], fun z => absurd q2 z, fun _ => ?_, fun z => absurd q2 z⟩)
      show x21 = _
      rw [e21, y3 q2, nI_add]
      rfl
  · rw [bI_t, bI_f]
    refine ⟨fun q => hJ6 _ (Or.inl q), fun q => ⟨fun q2 => hJ6 _ (Or.inr (Or.inl q2)), fun q2 => q_in ?_⟩⟩
    rw [bI_t, bI_f]
    refine ⟨fun q3 => hJ6 _ (Or.inr (Or.inr (Classical.not_not.mp (fun z => of_decide_eq_false q3 (hw.mpr z))))), fun q3 => ?_⟩
    have hw3 := hw.mp (of_decide_eq_true q3)
    refine xj_P (fun s => (wh = 3 → s.1 = nI (pS P j)) ∧ (wh = 5 → s.1 = nI (cC CL j)) ∧ (wh = 6 → s.1 = nI (cW M CL Ru j))) ?_ (fun J26 hJ26 => ⟨fun q4 => ?_, fun q4 => hJ26 _ ⟨fun z => by rw [z] at q4; exact absurd q4 (by decide), fun z => by rw [z] at q4; exact absurd q4 (by decide), fun z => by rw [z] at q4; exact absurd q4 (by decide)⟩⟩)
    · rintro ⟨c, t⟩ ⟨c3, c5, c6⟩
      dsimp only at c3 c5 c6 ⊢
      intro x27 e27 x28 e28
      refine hK (by omega) _ ⟨by rw [e28, nI_1], fun e => ?_, fun e => ?_, fun e => ?_, fun e => ?_⟩
      · show x27 = _
        rw [e27, z3 e, c3 e, nI_add]; rfl
      · show x27 = _
        rw [e27, z5 e, c5 e, nI_add]; rfl
      · show x27 = _
        rw [e27, z6 e, c6 e, nI_add]; rfl
      · exfalso
        rw [e] at hw3
        exact hw3 (Or.inl (by decide))
    · have hwh : wh = 3 ∨ wh = 5 ∨ wh = 6 := by
        have e : wh = nI wh.toInt.toNat := Int32.toInt_inj.mp (by rw [nI_toInt (by omega)]; omega)
        have hh : wh.toInt.toNat = 3 ∨ wh.toInt.toNat = 4 ∨ wh.toInt.toNat = 5 ∨ wh.toInt.toNat = 6 := by omega
        rcases hh with h | h | h | h <;> rw [h] at e
        · exact Or.inl e
        · exact absurd e q4
        · exact Or.inr (Or.inl e)
        · exact Or.inr (Or.inr e)
      rw [q2]
      have hv : v1 = 3 ∨ v1 = 2 ∨ v1 = 1 := by
        rcases hwh with h | h | h
        · exact Or.inl (v13 h)
        · exact Or.inr (Or.inl (v15 h))
        · exact Or.inr (Or.inr (v16 h))
      refine m_of (aq := true) hRu hM hC hP hhp (fun h => ?_) (fun _ p hp' ep => ?_)
      · exfalso
        rcases h with h | h | h
        · cases h
        · exact h ⟨j, by omega, rfl⟩
        · rcases hv with e | e | e <;> (rw [e] at h; revert h; decide)
      · have epp : j = p := (nI_eq (by omega) (by omega)).mp ep
        subst epp
        refine ⟨fun e => ?_, fun e => hJ26 _ ⟨fun z => ?_, fun z => ?_, fun _ => rfl⟩, fun e => hJ26 _ ⟨fun z => ?_, fun _ => rfl, fun z => ?_⟩, fun e => hJ26 _ ⟨fun _ => rfl, fun z => ?_, fun z => ?_⟩⟩
        · rcases hv with h | h | h <;> (rw [h] at e; exact absurd e (by decide))
        · have := v13 z; rw [e] at this; exact absurd this (by decide)
        · have := v15 z; rw [e] at this; exact absurd this (by decide)
        · have := v13 z; rw [e] at this; exact absurd this (by decide)
        · have := v16 z; rw [e] at this; exact absurd this (by decide)
        · have := v15 z; rw [e] at this; exact absurd this (by decide)
        · have := v16 z; rw [e] at this; exact absurd this (by decide)
end RC
section EQ
/-! BOTH COUNT THE SAME -/
theorem cn_app (f : Nat → Bool) (a : Nat) : ∀ b, cn_ f (a + b) = cn_ f a + cn_ (fun i => f (a + i)) b
  | 0 => rfl
  | b + 1 => by
    show cn_ f (a + b) + (if f (a + b) = true then 1 else 0) = cn_ f a + (cn_ (fun i => f (a + i)) b + (if f (a + b) = true then 1 else 0))
    rw [cn_app f a b]
    omega
theorem cn_0 {f : Nat → Bool} : ∀ n, (∀ i, i < n → f i = false) → cn_ f n = 0
  | 0, _ => rfl
  | n + 1, h => by rw [cn_sf (h n (by omega)), cn_0 n (fun i hi => h i (by omega))]
theorem cn_1 (f : Nat → Bool) (n : Nat) : cn_ f (n + 1) = (if f 0 = true then 1 else 0) + cn_ (fun i => f (i + 1)) n := by
  rw [Nat.add_comm n 1, cn_app f 1 n]
  have : cn_ f 1 = (if f 0 = true then 1 else 0) := by
    show 0 + (if f 0 = true then 1 else 0) = _
    omega
  rw [this]
  congr 1
  exact cn_congr n (fun i _ => by rw [Nat.add_comm 1 i])
theorem sm_congr {f g : Nat → Nat} : ∀ n, (∀ i, i < n → f i = g i) → sm f n = sm g n
  | 0, _ => rfl
  | n + 1, h => by
    show sm f n + f n = sm g n + g n
    rw [sm_congr n (fun i hi => h i (by omega)), h n (by omega)]
theorem sm_1 (f : Nat → Nat) : ∀ n, sm f (n + 1) = f 0 + sm (fun i => f (i + 1)) n
  | 0 => by show 0 + f 0 = f 0 + 0; omega
  | n + 1 => by
    show sm f (n + 1) + f (n + 1) = f 0 + (sm (fun i => f (i + 1)) n + f (n + 1))
    rw [sm_1 f n]; omega
theorem cn_blk (f : Nat → Bool) (m : Nat) : ∀ n, cn_ f (m * n) = sm (fun a => cn_ (fun b => f (m * a + b)) m) n
  | 0 => by rw [Nat.mul_zero]; rfl
  | n + 1 => by
    rw [Nat.mul_succ, cn_app, cn_blk f m n]
    rfl
variable {pl : Nat → Nat} {M : Nat → Bool} {S : SS} {o k : Nat}
/-- a row of a set, and of the numbers -/
theorem row_eq (h : relM pl M S o) (hv : mV pl M) (hk : k < 10) {x : Nat} (hx : x < 10) : cn_ (S (o + k) (x + 1)) 11 = cn_ (fun y => M (100 * k + 10 * x + y)) 10 := by
  rw [cn_1]
  by_cases e : pl k = 1
  · have e0 : S (o + k) (x + 1) 0 = M (100 * k + 10 * x) := by
      have := h.eq hk (x := x + 1) (y := 0) ⟨by omega, by omega, fun _ => rfl, fun z => absurd e z⟩
      rw [this]
      unfold ix3
      congr 1
    have e1 : cn_ (fun i => S (o + k) (x + 1) (i + 1)) 10 = 0 := cn_0 10 (fun i hi => by
      cases q : S (o + k) (x + 1) (i + 1) with
      | false => rfl
      | true =>
        have := ((h k hk _ _).mp q).1.2.2.1 e
        omega)
    have e2 : cn_ (fun y => M (100 * k + 10 * x + y)) 10 = (if M (100 * k + 10 * x) = true then 1 else 0) + cn_ (fun i => M (100 * k + 10 * x + (i + 1))) 9 := cn_1 _ 9
    have e3 : cn_ (fun i => M (100 * k + 10 * x + (i + 1))) 9 = 0 := cn_0 9 (fun i hi => by
      cases q : M (100 * k + 10 * x + (i + 1)) with
      | false => rfl
      | true =>
        have := (hv _ q).2
        rw [show (100 * k + 10 * x + (i + 1)) / 100 = k by omega] at this
        have := this e
        omega)
    rw [e1, e2, e3, e0]
  · have e0 : S (o + k) (x + 1) 0 = false := by
      cases q : S (o + k) (x + 1) 0 with
      | false => rfl
      | true =>
        have := ((h k hk _ _).mp q).1.2.2.2 e
        omega
    rw [e0]
    have : cn_ (fun i => S (o + k) (x + 1) (i + 1)) 10 = cn_ (fun y => M (100 * k + 10 * x + y)) 10 := cn_congr 10 (fun i hi => by
      have := h.eq hk (x := x + 1) (y := i + 1) ⟨by omega, by omega, fun z => absurd z e, fun _ => by omega⟩
      rw [this]
      unfold ix3
      congr 1)
    rw [this]
    simp
theorem sz_row (h : relM pl M S o) (hk : k < 10) : szS S (o + k) = sm (fun x => cn_ (S (o + k) (x + 1)) 11) 10 := by
  unfold szS
  rw [sm_1]
  have : cn_ (S (o + k) 0) 11 = 0 := cn_0 11 (fun i _ => by
    cases q : S (o + k) 0 i with
    | false => rfl
    | true => have := ((h k hk _ _).mp q).1.1; omega)
  rw [this, Nat.zero_add]
theorem rows_eq (h : relM pl M S o) (hv : mV pl M) (hk : k < 10) : sm (fun x => cn_ (S (o + k) (x + 1)) 11) 10 = cn_ (fun i => M (100 * k + i)) 100 := by
  rw [show (100 : Nat) = 10 * 10 from rfl, cn_blk]
  refine sm_congr 10 (fun x hx => ?_)
  rw [row_eq h hv hk hx]
  refine cn_congr 10 (fun y _ => ?_)
  show M _ = M _
  congr 1
  omega
theorem size_eq (h : relM pl M S o) (hv : mV pl M) (hk : k < 10) : szS S (o + k) = cn_ (fun i => M (100 * k + i)) 100 := by rw [sz_row h hk, rows_eq h hv hk]
theorem told_eq (h : relM pl M S o) (hv : mV pl M) : sm (fun p => szS S (o + p)) 10 = cn_ M 1000 := by
  rw [show (1000 : Nat) = 100 * 10 from rfl, cn_blk]
  exact sm_congr 10 (fun p hp => size_eq h hv hp)
theorem sm_rot (g : Nat → Nat) : sm g 11 = sm (fun i => g (eX i)) 11 := by
  simp [sm, eX]; omega
theorem cn_rot (g : Nat → Bool) : cn_ g 11 = cn_ (fun i => g (eX i)) 11 := by
  simp [cn_, eX]; omega
def relC (CL : Nat → Bool) (S : SS) : Prop := ∀ p, p < 10 → ∀ x y, x < 11 → y < 11 → S (10 + p) x y = CL (ci p x y)
theorem calls_eq {CL : Nat → Bool} {p : Nat} (h : relC CL S) (hp : p < 10) : szS S (10 + p) = cC CL p := by
  unfold szS cC
  rw [show (121 : Nat) = 11 * 11 from rfl, cn_blk, sm_rot]
  refine sm_congr 11 (fun a ha => ?_)
  rw [cn_rot]
  refine cn_congr 11 (fun b hb => ?_)
  have := h p hp (eX a) (eX b) (eX_lt ha) (eX_lt hb)
  rw [this]
  unfold ci
  rw [ed ha, ed hb]
  congr 1
  omega
/-- calls are of predicates of rules, and have no second place where there is one alone -/
def cV (pl : Nat → Nat) (Ru : Nat → Bool) (CL : Nat → Bool) : Prop := ∀ c, CL c = true → c < 1210 ∧ Ru (c / 121) = true ∧ (pl (c / 121) = 1 → c % 11 = 10)
theorem want_rel {CL Ru : Nat → Bool} (hM : relM pl M S 0) (hC : relC CL S) (hcv : cV pl Ru CL) : relM pl (fun f => Ru (f / 100) && wF M CL f) (fun k x y => wG S k x y) 0 := by
  intro k hk x y
  rw [Nat.zero_add]
  show wG S k x y = true ↔ _
  unfold wG wF
  constructor
  · intro h
    rw [Bool.and_eq_true] at h
    obtain ⟨h1, h2⟩ := h
    have hm := (hM k hk x y).mp (by rw [Nat.zero_add]; exact h1)
    refine ⟨hm.1, ?_⟩
    obtain ⟨b1, b2, b3, b4, b5⟩ := ix_back hm.1 hk
    -- the call
    have hcall : ∃ x' y', x' < 11 ∧ y' < 11 ∧ (x' = 0 ∨ x' = x) ∧ (y' = 0 ∨ y' = y) ∧ S (10 + k) x' y' = true := by
      have hy : y ≤ 10 := u10 hm.1.2.2.1 hm.1.2.2.2
      have hx := hm.1.2.1
      rw [Bool.or_eq_true, Bool.or_eq_true, Bool.or_eq_true] at h2
      rcases h2 with (h | h) | (h | h)
      · exact ⟨0, 0, by omega, by omega, Or.inl rfl, Or.inl rfl, h⟩
      · exact ⟨x, 0, by omega, by omega, Or.inr rfl, Or.inl rfl, h⟩
      · exact ⟨0, y, by omega, by omega, Or.inl rfl, Or.inr rfl, h⟩
      · exact ⟨x, y, by omega, by omega, Or.inr rfl, Or.inr rfl, h⟩
    obtain ⟨x', y', hx', hy', ex, ey, hS⟩ := hcall
    rw [hC k hk x' y' hx' hy'] at hS
    have hv := hcv _ hS
    obtain ⟨c1, c2, c3⟩ := ci_1 (p := k) hx' hy'
    show (Ru (ix3 k x y / 100) && (an_ (wQ CL (ix3 k x y)) 121 && M (ix3 k x y))) = true
    rw [b1]
    rw [c1] at hv
    have dx := dX_lt hx'
    have dy := dX_lt hy'
    rw [hv.2.1, Bool.true_and, Bool.and_eq_true]
    refine ⟨an_iff.mpr ⟨11 * dX x' + dX y', by omega, ?_⟩, hm.2⟩
    unfold wQ
    rw [b1, show 121 * k + (11 * dX x' + dX y') = ci k x' y' by unfold ci; omega, hS, Bool.true_and, show (11 * dX x' + dX y') / 11 = dX x' by omega, show (11 * dX x' + dX y') % 11 = dX y' by omega, Bool.and_eq_true]
    have hx1 := hm.1.1
    refine ⟨decide_eq_true ?_, decide_eq_true ?_⟩
    · rcases ex with e | e
      · left; rw [e]; rfl
      · right
        rw [e]
        unfold dX
        rw [if_neg (by omega)]
        omega
    · rcases ey with e | e
      · left; rw [e]; rfl
      · by_cases e0 : y = 0
        · left; rw [e, e0]; rfl
        · right
          rw [e]
          have hp1 : pl k ≠ 1 := fun z => e0 (hm.1.2.2.1 z)
          rw [if_neg hp1] at b3
          unfold dX
          rw [if_neg e0]
          omega
  · rintro ⟨hv, h⟩
    obtain ⟨b1, b2, b3, b4, b5⟩ := ix_back hv hk
    rw [Bool.and_eq_true, Bool.and_eq_true] at h
    obtain ⟨h1, h2, h3⟩ := h
    rw [Bool.and_eq_true]
    have hy : y ≤ 10 := u10 hv.2.2.1 hv.2.2.2
    have hx2 := hv.2.1
    have hx1 := hv.1
    refine ⟨?_, ?_⟩
    · have := (hM k hk x y).mpr ⟨hv, h3⟩
      rw [Nat.zero_add] at this
      exact this
    · obtain ⟨i, i1, i2⟩ := an_iff.mp h2
      unfold wQ at i2
      rw [b1, Bool.and_eq_true, Bool.and_eq_true] at i2
      obtain ⟨j1, j2, j3⟩ := i2
      have j2 := of_decide_eq_true j2
      have j3 := of_decide_eq_true j3
      have hv2 := hcv _ j1
      rw [show (121 * k + i) / 121 = k by omega, show (121 * k + i) % 11 = i % 11 by omega] at hv2
      have hc : 121 * k + i = ci k (eX (i / 11)) (eX (i % 11)) := by
        unfold ci
        rw [ed (by omega), ed (by omega)]
        omega
      rw [hc, ← hC k hk _ _ (eX_lt (by omega)) (eX_lt (by omega))] at j1
      have ex : eX (i / 11) = 0 ∨ eX (i / 11) = x := by
        unfold eX
        by_cases e : i / 11 = 10
        · rw [if_pos e]; exact Or.inl rfl
        · rw [if_neg e]
          have := j2.resolve_left e
          right; omega
      have ey : eX (i % 11) = 0 ∨ eX (i % 11) = y := by
        unfold eX
        by_cases e : i % 11 = 10
        · rw [if_pos e]; exact Or.inl rfl
        · rw [if_neg e]
          have hp1 : pl k ≠ 1 := fun z => e (hv2.2.2 z)
          rw [if_neg hp1] at b3
          have := j3.resolve_left e
          right; omega
      rw [Bool.or_eq_true, Bool.or_eq_true, Bool.or_eq_true]
      rcases ex with ex | ex <;> rcases ey with ey | ey <;> rw [ex, ey] at j1
      · exact Or.inl (Or.inl j1)
      · exact Or.inr (Or.inl j1)
      · exact Or.inl (Or.inr j1)
      · exact Or.inr (Or.inr j1)
theorem want_v {CL Ru : Nat → Bool} (hv : mV pl M) : mV pl (fun f => Ru (f / 100) && wF M CL f) := by
  intro f h
  rw [Bool.and_eq_true] at h
  unfold wF at h
  rw [Bool.and_eq_true] at h
  exact hv f h.2.2
theorem want_eq {CL Ru : Nat → Bool} {p : Nat} (hM : relM pl M S 0) (hv : mV pl M) (hC : relC CL S) (hcv : cV pl Ru CL) (hp : p < 10) : wS S p = cW M CL Ru p := by
  have h := rows_eq (want_rel hM hC hcv) (want_v hv) hp
  unfold wS cW
  rw [Nat.zero_add] at h
  rw [h]
  refine cn_congr 100 (fun i hi => ?_)
  rw [show (100 * p + i) / 100 = p by omega]
/-- what is summed over the predicates there were, and over all -/
theorem sm_cut {f : Nat → Nat} {h : Nat} (hh : h ≤ 10) (hz : ∀ p, h ≤ p → p < 10 → f p = 0) : sm f 10 = sm f h := by
  have key : ∀ d, h + d ≤ 10 → sm f (h + d) = sm f h := by
    intro d
    induction d with
    | zero => intro _; rfl
    | succ d ih =>
      intro hd
      show sm f (h + d) + f (h + d) = sm f h
      rw [ih (by omega), hz (h + d) (by omega) (by omega)]
      rfl
  have := key (10 - h) (by omega)
  rw [show h + (10 - h) = 10 by omega] at this
  exact this
end EQ
