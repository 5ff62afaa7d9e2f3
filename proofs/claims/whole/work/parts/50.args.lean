section HP
/-! ARGUMENTS: a predicate and its places -/
theorem xt_toInt {t : Nat} (h : t < 2 ^ 30) : (xb_t t).toInt = (t : Int) - 1 := by
  unfold xb_t
  rw [show (1 : Int32) = nI 1 from rfl, pk_sub_toInt h (by omega)]
  rfl
theorem xt_rng {x : Int32} {lo hi : Nat} (hh : hi < 2 ^ 30) (hlh : lo ≤ hi) : (xb_t lo ≤ x ∧ x ≤ xb_t hi) ↔ ∃ t, lo ≤ t ∧ t ≤ hi ∧ x = xb_t t := by
  rw [Int32.le_iff_toInt_le, Int32.le_iff_toInt_le, xt_toInt (by omega), xt_toInt hh]
  constructor
  · rintro ⟨h1, h2⟩
    refine ⟨(x.toInt + 1).toNat, by omega, by omega, Int32.toInt_inj.mp ?_⟩
    rw [xt_toInt (by omega)]
    omega
  · rintro ⟨t, h1, h2, rfl⟩
    rw [xt_toInt (by omega)]
    omega
theorem xt_un {a b : Nat} (ha : a < 2 ^ 30) (hb : b < 2 ^ 30) : xb_t a = xb_t b ↔ a = b := by
  rw [← Int32.toInt_inj, xt_toInt ha, xt_toInt hb]
  omega
def okA (np : Nat) (pl : Nat → Nat) (lo hi : Nat) (a x y : Int32) : Prop := ∃ p t u, a = nI p ∧ p < np ∧ x = xb_t t ∧ lo ≤ t ∧ t ≤ hi ∧ y = xb_t u ∧ (pl p = 1 → u = 0) ∧ (pl p ≠ 1 → lo ≤ u ∧ u ≤ hi)
theorem nI_rng {x : Int32} {n : Nat} (hn : n < 2 ^ 31) : (¬ x < 0 ∧ ¬ nI n ≤ x) ↔ ∃ p, p < n ∧ x = nI p := by
  constructor
  · rintro ⟨h1, h2⟩
    obtain ⟨j, hj, rfl⟩ := nI_of h1
    rw [nI_leI hn hj] at h2
    exact ⟨j, by omega, rfl⟩
  · rintro ⟨p, h1, rfl⟩
    rw [nI_leI hn (by omega)]
    exact ⟨nI_pos (by omega), by omega⟩
theorem lt_le {x y : Int32} : ¬ x < y ↔ y ≤ x := by
  rw [Int32.lt_iff_toInt_lt, Int32.le_iff_toInt_le]; omega
theorem q_hasP {post : Int32 → Prop} {np : Nat} {pl : Nat → Nat} {qpl : Nat → Int32} {lo hi : Nat} {a x y : Int32} (hnp : np ≤ 10) (hpl : ∀ i, i < 10 → qpl i = nI (pl i)) (hp2 : ∀ i, pl i ≤ 2) (hlh : lo ≤ hi) (hhi : hi ≤ 18)
    (h1 : okA np pl lo hi a x y → post 1) (h0 : ¬ okA np pl lo hi a x y → post 0) : wp_Qd_hasPlaces post (nI np) qpl a x y (xb_t lo) (xb_t hi) := by
  unfold wp_Qd_hasPlaces
  refine xj_P (fun _ => ¬ okA np pl lo hi a x y) (fun _ h => h0 h) (fun J hJ => ?_)
  have hrx := xt_rng (x := x) (hi := hi) (lo := lo) (by omega) hlh
  have hry := xt_rng (x := y) (hi := hi) (lo := lo) (by omega) hlh
  have hra := nI_rng (x := a) (n := np) (by omega)
  refine ⟨fun q => hJ _ ?_, fun q1 => ⟨fun q => hJ _ ?_, fun q2 => ?_⟩⟩
  · rintro ⟨p, t, u, rfl, hp, -⟩
    exact nI_pos (by omega) q
  · rintro ⟨p, t, u, rfl, hp, -⟩
    rw [nI_leI (by omega) (by omega)] at q
    omega
  · obtain ⟨p, hp, rfl⟩ := hra.mp ⟨q1, q2⟩
    have pinj : ∀ p', nI p = nI p' → p' < np → p' = p := fun p' e hp' => ((nI_eq (by omega) (by omega)).mp e).symm
    have hnx : ¬ (xb_t lo ≤ x ∧ x ≤ xb_t hi) → ¬ okA np pl lo hi (nI p) x y := by
      rintro h ⟨p', t, u, -, -, ex, t1, t2, -⟩
      exact h (hrx.mpr ⟨t, t1, t2, ex⟩)
    refine ⟨fun q => hJ _ (hnx (fun z => lt_le.mpr z.1 q)), fun q3 => ⟨fun q4 => ⟨vp_in_nI (by omega) (by decide), ?_⟩, fun q4 => hJ _ (hnx (fun z => q4 z.2))⟩⟩
    obtain ⟨t, t1, t2, ex⟩ := hrx.mp ⟨lt_le.mp q3, q4⟩
    rw [nI_clamp (by omega), hpl p (by omega), show (1 : Int32) = nI 1 from rfl, nI_eq (by have := hp2 p; omega) (by omega)]
    have fin : ∀ (b : Bool), (b = true ↔ okA np pl lo hi (nI p) x y) → narrow .boolean (.int (bI b)) = .int (bI b) ∧ post (bI b) := by
      intro b hb
      refine ⟨bI_nar b, ?_⟩
      cases b with
      | true => exact h1 (hb.mp rfl)
      | false => exact h0 (fun z => by have := hb.mpr z; cases this)
    refine xj_P (fun v => ∃ b : Bool, v = bI b ∧ (b = true ↔ okA np pl lo hi (nI p) x y)) (fun v hv => ?_) (fun J4 hJ4 => ⟨fun h => ?_, fun h => ?_⟩)
    · obtain ⟨b, rfl, hb⟩ := hv
      exact fin b hb
    · have hny : ¬ (xb_t lo ≤ y ∧ y ≤ xb_t hi) → ¬ okA np pl lo hi (nI p) x y := by
        rintro h' ⟨p', t, u, ep, hp', -, -, -, ey, -, hu⟩
        have := pinj p' ep hp'
        subst this
        exact h' (hry.mpr ⟨u, (hu h).1, (hu h).2, ey⟩)
      unfold xj
      refine ⟨fun q => hJ4 _ ⟨false, rfl, ?_⟩, fun q => ⟨fun q5 => hJ4 _ ⟨false, rfl, ?_⟩, fun q5 => hJ4 _ ⟨true, rfl, ?_⟩⟩⟩
      · exact ⟨fun z => (by cases z), fun z => absurd z (hny (fun w => lt_le.mpr w.1 q))⟩
      · exact ⟨fun z => (by cases z), fun z => absurd z (hny (fun w => lt_le.mpr w.2 q5))⟩
      · obtain ⟨u, u1, u2, ey⟩ := hry.mp ⟨lt_le.mp q, lt_le.mp q5⟩
        exact ⟨fun _ => ⟨p, t, u, rfl, hp, ex, t1, t2, ey, fun z => absurd z h, fun _ => ⟨u1, u2⟩⟩, fun _ => rfl⟩
    · refine ⟨fun q => hJ4 _ ⟨false, rfl, ⟨fun z => (by cases z), ?_⟩⟩, fun q => hJ4 _ ⟨true, rfl, ⟨fun _ => ⟨p, t, 0, rfl, hp, ex, t1, t2, ?_, fun _ => rfl, fun z => absurd h z⟩, fun _ => rfl⟩⟩⟩
      · rintro ⟨p', t, u, ep, hp', -, -, -, ey, hu, -⟩
        have := pinj p' ep hp'
        subst this
        rw [hu h] at ey
        exact absurd ey q
      · rw [q]; decide
/-- .. and the reference's -/
theorem q_isPred {post : Int32 → Prop} {np : Nat} {a : Int32} (hnp : np ≤ 10) (h1 : (∃ p, p < np ∧ a = nI p) → post 1) (h0 : (¬ ∃ p, p < np ∧ a = nI p) → post 0) : wp_Mo_isPredicate post (nI np) a := by
  unfold wp_Mo_isPredicate
  have e : nI np - 1 = xb_t np := rfl
  rw [e]
  refine q_in ?_
  have key : (0 ≤ a ∧ a ≤ xb_t np) ↔ ∃ p, p < np ∧ a = nI p := by
    rw [Int32.le_iff_toInt_le, Int32.le_iff_toInt_le, xt_toInt (by omega), show (0 : Int32).toInt = 0 from by decide]
    constructor
    · rintro ⟨h2, h3⟩
      refine ⟨a.toInt.toNat, by omega, Int32.toInt_inj.mp ?_⟩
      rw [nI_toInt (by omega)]
      omega
    · rintro ⟨p, h2, rfl⟩
      rw [nI_toInt (by omega)]
      omega
  by_cases h : ∃ p, p < np ∧ a = nI p
  · rw [decide_eq_true (key.mpr h)]; exact ⟨rfl, h1 h⟩
  · rw [decide_eq_false (fun z => h (key.mp z))]; exact ⟨rfl, h0 h⟩
theorem q_fit {post : Int32 → Prop} {np : Nat} {pl : Nat → Nat} {mp : Nat → Int32} {hi p : Nat} {x y : Int32} (hnp : np ≤ 10) (hpl : ∀ i, i < 10 → mp i = nI (pl i)) (hp2 : ∀ i, pl i ≤ 2) (hhi : hi ≤ 18) (hhi1 : 1 ≤ hi) (hp : p < np)
    (h1 : okA np pl 1 hi (nI p) x y → post 1) (h0 : ¬ okA np pl 1 hi (nI p) x y → post 0) : wp_Mo_fit post mp (nI p) x y (xb_t hi) := by
  unfold wp_Mo_fit
  have hrx := xt_rng (x := x) (hi := hi) (lo := 1) (by omega) hhi1
  have hry := xt_rng (x := y) (hi := hi) (lo := 1) (by omega) hhi1
  have e1 : xb_t 1 = 0 := by decide
  rw [e1] at hrx hry
  have pinj : ∀ p', nI p = nI p' → p' < np → p' = p := fun p' e hp' => ((nI_eq (by omega) (by omega)).mp e).symm
  refine q_in ?_
  refine xj_P (fun v => ∃ b : Bool, v = bI b ∧ (b = true ↔ okA np pl 1 hi (nI p) x y)) (fun v hv => ?_) (fun J4 hJ4 => ?_)
  · obtain ⟨b, rfl, hb⟩ := hv
    refine ⟨bI_nar b, ?_⟩
    cases b with
    | true => exact h1 (hb.mp rfl)
    | false => exact h0 (fun z => by have := hb.mpr z; cases this)
  refine xj_P (fun _ => ¬ okA np pl 1 hi (nI p) x y) (fun _ h => hJ4 _ ⟨false, rfl, fun z => (by cases z), fun z => absurd z h⟩) (fun J6 hJ6 => ?_)
  rw [bI_t, bI_f]
  refine ⟨fun q => hJ6 _ ?_, fun q => ⟨vp_in_nI (by omega) (by decide), ?_⟩⟩
  · rintro ⟨p', t, u, -, -, ex, t1, t2, -⟩
    exact of_decide_eq_false q (hrx.mpr ⟨t, t1, t2, ex⟩)
  · obtain ⟨t, t1, t2, ex⟩ := hrx.mp (of_decide_eq_true q)
    refine xj_P (fun _ => okA np pl 1 hi (nI p) x y) (fun _ h => hJ4 _ ⟨true, rfl, fun _ => h, fun _ => rfl⟩) (fun J8 hJ8 => ?_)
    rw [nI_clamp (by omega), hpl p (by omega), show (1 : Int32) = nI 1 from rfl, nI_eq (by have := hp2 p; omega) (by omega)]
    refine ⟨fun h => q_in ?_, fun h => ⟨fun q2 => hJ6 _ ?_, fun q2 => hJ8 _ ?_⟩⟩
    · rw [bI_t, bI_f]
      refine ⟨fun q2 => hJ6 _ ?_, fun q2 => hJ8 _ ?_⟩
      · rintro ⟨p', t, u, ep, hp', -, -, -, ey, -, hu⟩
        have := pinj p' ep hp'
        subst this
        exact of_decide_eq_false q2 (hry.mpr ⟨u, (hu h).1, (hu h).2, ey⟩)
      · obtain ⟨u, u1, u2, ey⟩ := hry.mp (of_decide_eq_true q2)
        exact ⟨p, t, u, rfl, hp, ex, t1, t2, ey, fun z => absurd z h, fun _ => ⟨u1, u2⟩⟩
    · rintro ⟨p', t, u, ep, hp', -, -, -, ey, hu, -⟩
      have := pinj p' ep hp'
      subst this
      rw [hu h] at ey
      exact absurd ey q2
    · exact ⟨p, t, 0, rfl, hp, ex, t1, t2, by rw [q2]; decide, fun _ => rfl, fun z => absurd h z⟩
theorem q_place2 {post : Int32 → Prop} {p t u : Nat} (hp10 : p < 10) (ht1 : 1 ≤ t) (ht : t ≤ 10) (hu : u ≤ 10) (hp : post (nI (ix3 p t u))) : wp_Mo_place post (nI p) (xb_t t) (xb_t u) := by
  unfold wp_Mo_place xj
  obtain ⟨v, rfl⟩ : ∃ v, t = v + 1 := ⟨t - 1, by omega⟩
  rw [xb_t1, show (100 : Int32) = nI 100 from rfl, show (10 : Int32) = nI 10 from rfl, pk_mul, pk_mul, nI_add, xt_p u (by omega)]
  unfold ix3 at hp
  refine ⟨fun h => ?_, fun h => ?_⟩
  · obtain ⟨z, rfl⟩ : ∃ z, u = z + 1 := ⟨u - 1, by omega⟩
    show post (nI (100 * p + 10 * v) + xb_t (z + 1))
    rw [xb_t1, nI_add]
    exact hp
  · have : u = 0 := by omega
    subst this
    show post (nI (100 * p + 10 * v) + nI 0)
    rw [nI_add]
    exact hp
/-- a told fact, of the reference: b is whether it is told or dropped -/
def mC (M : Nat → Bool) (f : Nat) (b : Bool) : Nat → Bool := fun i => if i = f then b else M i
theorem mC_same {M : Nat → Bool} {f : Nat} {b : Bool} (h : M f = b) : mC M f b = M := by
  funext i
  unfold mC
  by_cases e : i = f
  · subst e; rw [if_pos rfl, h]
  · rw [if_neg e]
theorem bI_inj {a b : Bool} : bI a = bI b ↔ a = b := by cases a <;> cases b <;> decide
theorem vd_ok {np : Nat} {pl : Nat → Nat} {p t u : Nat} (hp2 : ∀ i, i < np → 1 ≤ pl i) (hp : p < np) (t1 : 1 ≤ t) (t2 : t ≤ 10) (h1 : pl p = 1 → u = 0) (h2 : pl p ≠ 1 → 1 ≤ u ∧ u ≤ 10) : vd pl p t u := ⟨t1, t2, h1, h2⟩
theorem q_tells {post : Int32 → Int32 → (Nat → Int32) → Prop} {np : Nat} {pl : Nat → Nat} {Ru T : Nat → Bool} {mp mr td : Nat → Int32} {th a x y : Int32} (b : Bool) (hnp : np ≤ 10) (hpl : ∀ i, i < 10 → mp i = nI (pl i)) (hp2 : ∀ i, pl i ≤ 2) (hRu : mB mr Ru 10) (hT : mB td T 1000)
    (h1 : ∀ p t u, a = nI p → p < np → Ru p = false → x = xb_t t → y = xb_t u → vd pl p t u → ∀ td', mB td' (mC T (ix3 p t u) b) 1000 → post (bI (!(T (ix3 p t u) == b))) 0 td')
    (h0 : (¬ ∃ p, p < np ∧ a = nI p ∧ Ru p = false ∧ okA np pl 1 10 a x y) → post 0 1 td) : wp_Mo_tells post mp mr (nI np) th td a x y (bI b) := by
  unfold wp_Mo_tells
  have fin : okA np pl 1 10 a x y → ∀ p, a = nI p → p < np → Ru p = false → xj (fun (v_5 : Unit) => post 0 0 td) (fun (J_6 : Unit → Prop) => (((0 : Int32) < 0 → J_6 ()) ∧ (¬ (0 : Int32) < 0 → wp_Mo_place (fun r_7 => vp_in r_7 1000 ∧ ((¬ (td (Int32.toNatClampNeg r_7)) = bI b → wp_Mo_place (fun r_9 => vp_in r_9 1000 ∧ ∀ m_told_11 : Nat → Int32, m_told_11 = upd td (Int32.toNatClampNeg r_9) (vp_nar .boolean (bI b)) → post 1 0 m_told_11) a x y) ∧ ((td (Int32.toNatClampNeg r_7)) = bI b → J_6 ()))) a x y))) := by
    rintro ⟨p', t, u, e1, hp', ex, t1, t2, ey, hu1, hu2⟩ p ea hp hru
    have epp : p' = p := by
      rw [e1] at ea
      exact (nI_eq (by omega) (by omega)).mp ea
    subst epp
    subst ea ex ey
    have hv : vd pl p' t u := ⟨t1, t2, hu1, hu2⟩
    have hu10 : u ≤ 10 := by
      by_cases z : pl p' = 1
      · rw [hu1 z]; omega
      · exact (hu2 z).2
    have hix := (ix_back hv (by omega)).2.2.2.2
    have hin : vp_in (nI (ix3 p' t u)) 1000 := vp_in_nI hix (by decide)
    unfold xj
    refine ⟨fun q => absurd q (by decide), fun _ => q_place2 (by omega) t1 t2 hu10 ⟨hin, ?_⟩⟩
    rw [nI_clamp (by omega), hT _ hix, bI_inj]
    refine ⟨fun q => q_place2 (by omega) t1 t2 hu10 ⟨hin, fun td' e' => ?_⟩, fun q => ?_⟩
    · have := h1 p' t u rfl hp' hru rfl rfl hv td' ?_
      · have e : (!(T (ix3 p' t u) == b)) = true := by
          cases hb : T (ix3 p' t u) <;> cases b <;> simp_all
        rw [e] at this
        exact this
      · rw [e', nI_clamp (by omega), nar_b]
        intro i hi
        unfold upd mC
        by_cases z : i = ix3 p' t u
        · rw [if_pos z, if_pos z]
        · rw [if_neg z, if_neg z]; exact hT i hi
    · have := h1 p' t u rfl hp' hru rfl rfl hv td (by rw [mC_same q]; exact hT)
      have e : (!(T (ix3 p' t u) == b)) = false := by
        rw [q]; simp
      rw [e] at this
      exact this
  refine q_isPred hnp (fun hp => ?_) (fun hp => ?_)
  · obtain ⟨p, hp, rfl⟩ := hp
    refine xj_P (fun v => (v = 0 ∧ okA np pl 1 10 (nI p) x y ∧ Ru p = false) ∨ (v = 1 ∧ ¬ (okA np pl 1 10 (nI p) x y ∧ Ru p = false))) ?_ (fun J4 hJ4 => ?_)
    · rintro v (⟨rfl, hok, hru⟩ | ⟨rfl, hno⟩)
      · exact fin hok p rfl hp hru
      · unfold xj
        refine ⟨fun _ => h0 ?_, fun q => absurd (by decide) q⟩
        rintro ⟨p', hp', e, hru, hok⟩
        have hp'' : p = p' := (nI_eq (by omega) (by omega)).mp e
        subst hp''
        exact hno ⟨hok, hru⟩
    · refine xj_P (fun _ => ¬ (okA np pl 1 10 (nI p) x y ∧ Ru p = false)) (fun _ h => hJ4 _ (Or.inr ⟨rfl, h⟩)) (fun J hJ => ?_)
      rw [nI_clamp (by omega), hRu p (by omega), bI_t, bI_f]
      refine ⟨fun q => absurd q (by decide), fun _ => ⟨vp_in_nI (by omega) (by decide), fun q => hJ _ (fun z => by rw [z.2] at q; cases q), fun q => ?_⟩⟩
      refine q_fit (hi := 10) hnp hpl hp2 (by omega) (by omega) hp (fun h => ⟨fun z => absurd z (by decide), fun _ => hJ4 _ (Or.inl ⟨rfl, h, q⟩)⟩) (fun h => ⟨fun _ => hJ _ (fun z => h z.1), fun z => absurd rfl z⟩)
  · unfold xj
    refine ⟨fun _ => ⟨fun _ => h0 ?_, fun q => absurd (by decide) q⟩, fun q => absurd rfl q⟩
    rintro ⟨p', hp', e, -⟩
    exact hp ⟨p', hp', e⟩
end HP
section LH
/-! THE CLASS'S CALLS, AS THE LAW'S HELPERS MAKE THEM -/
abbrev kA (np : Nat) (pl : Nat → Nat) (Ru : Nat → Bool) (qpl qbr : Nat → Int32) : Prop := np ≤ 10 ∧ (∀ i, i < 10 → qpl i = nI (pl i)) ∧ (∀ i, pl i ≤ 2) ∧ (∀ i, i < np → 1 ≤ pl i) ∧ (∀ i, np ≤ i → pl i = 0 ∧ Ru i = false) ∧ mB qbr Ru 10
def lI (b : Bool) : Int64 := if b = true then 1 else 0
variable {np : Nat} {pl : Nat → Nat} {Ru : Nat → Bool} {qpl qbr : Nat → Int32}
theorem in01 : vp_in 0 1 := vp_in_nI (n := 0) (by omega) (by decide)
theorem lh_bool {r : Int32} {b : Bool} {oc : Nat → Int64} {Q : (Nat → Int64) → Prop} (hr : r = bI b) (h : ∀ oc', oc' 0 = lI b → Q oc') : xj (fun (v : Int64) => vp_in 0 1 ∧ ∀ oc6 : Nat → Int64, oc6 = vp_updL oc (Int32.toNatClampNeg 0) v → Q oc6) (fun (J : Int64 → Prop) => ((r = 0 → J 0) ∧ (¬ r = 0 → J 1))) := by
  subst hr
  unfold xj
  cases b with
  | true => exact ⟨fun q => absurd q (by decide), fun _ => ⟨in01, fun oc6 e => h oc6 (by rw [e]; rfl)⟩⟩
  | false => exact ⟨fun _ => ⟨in01, fun oc6 e => h oc6 (by rw [e]; rfl)⟩, fun q => absurd rfl q⟩
/-- the arguments are right, and the predicate is of rules (or not) -/
def okF (np : Nat) (pl : Nat → Nat) (Ru : Nat → Bool) (b : Bool) (lo hi : Nat) (a x y : Int32) : Prop := ∃ p t u, a = nI p ∧ p < np ∧ Ru p = b ∧ x = xb_t t ∧ lo ≤ t ∧ t ≤ hi ∧ y = xb_t u ∧ (pl p = 1 → u = 0) ∧ (pl p ≠ 1 → lo ≤ u ∧ u ≤ hi)
theorem u10 {pl : Nat → Nat} {p u lo hi : Nat} (hu1 : pl p = 1 → u = 0) (hu2 : pl p ≠ 1 → lo ≤ u ∧ u ≤ hi) : u ≤ hi := by
  by_cases z : pl p = 1
  · rw [hu1 z]; omega
  · exact (hu2 z).2
theorem nI_a {x : Nat} (k : Nat) : nI k + nI x = nI (k + x) := nI_add k x
theorem lh_told {W : (Int32 → (Nat → Int32) → Prop) → (Nat → Int32) → Int32 → Int32 → Int32 → Prop} {post : Int32 → (Nat → Int32) → (Nat → Int64) → Prop} {f : Nat → Int32} {oc : Nat → Int64} {a x y : Int32} (hk : kA np pl Ru qpl qbr)
    (h1 : ∀ p t u, a = nI p → p < np → Ru p = false → x = xb_t t → y = xb_t u → vd pl p t u → W (fun r_7 f_9 => (narrow .boolean (.int r_7) = .int r_7 ∧ xj (fun (v : Int64) => vp_in 0 1 ∧ ∀ oc6 : Nat → Int64, oc6 = vp_updL oc (Int32.toNatClampNeg 0) v → post 0 f_9 oc6) (fun (J : Int64 → Prop) => ((r_7 = 0 → J 0) ∧ (¬ r_7 = 0 → J 1))))) f (nI (20 + p)) (xb_t t) (xb_t u))
    (h0 : ¬ okF np pl Ru false 1 10 a x y → post 1 f oc) :
    wp_Qd_hasPlaces (fun r_1 => xj (fun (v_3 : Int32) => wp_Qd_demand (W (fun r_7 f_9 => (narrow .boolean (.int r_7) = .int r_7 ∧ xj (fun (v : Int64) => vp_in 0 1 ∧ ∀ oc6 : Nat → Int64, oc6 = vp_updL oc (Int32.toNatClampNeg 0) v → post 0 f_9 oc6) (fun (J : Int64 → Prop) => ((r_7 = 0 → J 0) ∧ (¬ r_7 = 0 → J 1))))) f (20 + a) x y) (fun E => (E = "java/lang/IllegalArgumentException" ∧ post 1 f oc)) v_3) (fun (J_4 : Int32 → Prop) => xj (fun (v_10 : Unit) => J_4 0) (fun (J_11 : Unit → Prop) => ((r_1 = 0 → J_11 ()) ∧ (¬ r_1 = 0 → vp_in a 10 ∧ ((¬ (qbr (Int32.toNatClampNeg a)) = 0 → J_11 ()) ∧ ((qbr (Int32.toNatClampNeg a)) = 0 → J_4 1))))))) (nI np) qpl a x y 0 9 := by
  obtain ⟨k1, k2, k3, k4, k5, k6⟩ := hk
  refine q_hasP (lo := 1) (hi := 10) k1 k2 k3 (by omega) (by omega) (fun hok => ?_) (fun hok => ?_)
  · obtain ⟨p, t, u, rfl, hp, rfl, t1, t2, rfl, hu1, hu2⟩ := hok
    unfold xj
    refine ⟨fun q => absurd q (by decide), fun _ => ⟨vp_in_nI (by omega) (by decide), ?_⟩⟩
    rw [nI_clamp (by omega), k6 p (by omega), bI_t, bI_f]
    refine ⟨fun q => ?_, fun q => ?_⟩
    · unfold wp_Qd_demand
      refine ⟨fun z => absurd rfl z, fun _ => ⟨rfl, h0 ?_⟩⟩
      rintro ⟨p', t', u', e, hp', hr, -⟩
      have := (nI_eq (by omega) (by omega)).mp e
      subst this
      rw [q] at hr; cases hr
    · unfold wp_Qd_demand
      refine ⟨fun _ => ?_, fun z => absurd z (by decide)⟩
      have := h1 p t u rfl hp q rfl rfl ⟨t1, t2, hu1, hu2⟩
      rw [← nI_add] at this
      exact this
  · unfold xj
    refine ⟨fun _ => ?_, fun q => absurd rfl q⟩
    unfold wp_Qd_demand
    refine ⟨fun z => absurd rfl z, fun _ => ⟨rfl, h0 ?_⟩⟩
    rintro ⟨p, t, u, e1, e2, e3, e4, e5, e6, e7, e8, e9⟩
    exact hok ⟨p, t, u, e1, e2, e4, e5, e6, e7, e8, e9⟩
theorem lh_fact {post : Int32 → (Nat → Int32) → (Nat → Int64) → Prop} {S : SS} {T : Nat → Bool} {oc : Nat → Int64} {a x y : Int32} (hk : kA np pl Ru qpl qbr) (hT : relM pl T S 20)
    (h1 : ∀ p t u, a = nI p → p < np → Ru p = false → x = xb_t t → y = xb_t u → vd pl p t u → ∀ oc', oc' 0 = lI (!(T (ix3 p t u))) → post 0 (rF (ms_put S (20 + p) t u)) oc')
    (h0 : ¬ okF np pl Ru false 1 10 a x y → post 1 (rF S) oc) : wp_La_fact post (nI np) qpl qbr (rF S) oc a x y := by
  unfold wp_La_fact wp_Qd_fact
  refine lh_told (W := fun P f k x y => wp_Pr_put P f k x y) hk (fun p t u e1 e2 e3 e4 e5 hv => ?_) h0
  have h10 : p < 10 := Nat.lt_of_lt_of_le e2 hk.1
  have hu := u10 hv.2.2.1 hv.2.2.2
  have hS : S (20 + p) t u = T (ix3 p t u) := by
    have := hT p h10 t u
    cases a1 : S (20 + p) t u <;> cases a2 : T (ix3 p t u)
    · rfl
    · rw [a1, a2] at this; exact absurd (this.mpr ⟨hv, rfl⟩) Bool.false_ne_true
    · rw [a1, a2] at this; exact absurd (this.mp rfl).2 Bool.false_ne_true
    · rfl
  refine q_put (by omega) (by have := hv.2.1; omega) (by omega) ⟨bI_nar _, lh_bool rfl (fun oc' ho => h1 p t u e1 e2 e3 e4 e5 hv oc' ?_)⟩
  rw [ho, hS]
theorem lh_drop {post : Int32 → (Nat → Int32) → (Nat → Int64) → Prop} {S : SS} {T : Nat → Bool} {oc : Nat → Int64} {a x y : Int32} (hk : kA np pl Ru qpl qbr) (hT : relM pl T S 20)
    (h1 : ∀ p t u, a = nI p → p < np → Ru p = false → x = xb_t t → y = xb_t u → vd pl p t u → ∀ oc', oc' 0 = lI (T (ix3 p t u)) → post 0 (rF (ms_del S (20 + p) t u)) oc')
    (h0 : ¬ okF np pl Ru false 1 10 a x y → post 1 (rF S) oc) : wp_La_drop post (nI np) qpl qbr (rF S) oc a x y := by
  unfold wp_La_drop wp_Qd_drop
  refine lh_told (W := fun P f k x y => wp_Pr_remove P f k x y) hk (fun p t u e1 e2 e3 e4 e5 hv => ?_) h0
  have h10 : p < 10 := Nat.lt_of_lt_of_le e2 hk.1
  have hu := u10 hv.2.2.1 hv.2.2.2
  have hS : S (20 + p) t u = T (ix3 p t u) := by
    have := hT p h10 t u
    cases a1 : S (20 + p) t u <;> cases a2 : T (ix3 p t u)
    · rfl
    · rw [a1, a2] at this; exact absurd (this.mpr ⟨hv, rfl⟩) Bool.false_ne_true
    · rw [a1, a2] at this; exact absurd (this.mp rfl).2 Bool.false_ne_true
    · rfl
  refine q_remove (by omega) (by have := hv.2.1; omega) (by omega) ⟨bI_nar _, lh_bool rfl (fun oc' ho => h1 p t u e1 e2 e3 e4 e5 hv oc' ?_)⟩
  rw [ho, hS]
theorem lh_dem {Q : Prop} {post : Prop} {lo hi : Nat} {lo' hi' a x y : Int32} (hk : kA np pl Ru qpl qbr) (hlo : lo' = xb_t lo) (hhi : hi' = xb_t hi) (hlh : lo ≤ hi) (h18 : hi ≤ 18)
    (h1 : ∀ p t u, a = nI p → p < np → x = xb_t t → lo ≤ t → t ≤ hi → y = xb_t u → (pl p = 1 → u = 0) → (pl p ≠ 1 → lo ≤ u ∧ u ≤ hi) → Q)
    (h0 : ¬ okA np pl lo hi a x y → post) : wp_Qd_hasPlaces (fun r_1 => wp_Qd_demand Q (fun E => (E = "java/lang/IllegalArgumentException" ∧ post)) r_1) (nI np) qpl a x y lo' hi' := by
  obtain ⟨k1, k2, k3, k4, k5, k6⟩ := hk
  subst hlo hhi
  refine q_hasP k1 k2 k3 hlh h18 (fun hok => ?_) (fun hok => ?_)
  · obtain ⟨p, t, u, e1, hp, e2, t1, t2, e3, hu1, hu2⟩ := hok
    exact ⟨fun _ => h1 p t u e1 hp e2 t1 t2 e3 hu1 hu2, fun z => absurd z (by decide)⟩
  · exact ⟨fun z => absurd rfl z, fun _ => ⟨rfl, h0 hok⟩⟩
theorem relM.eq {M : Nat → Bool} {S : SS} {o k x y : Nat} (h : relM pl M S o) (hk : k < 10) (hv : vd pl k x y) : S (o + k) x y = M (ix3 k x y) := by
  have := h k hk x y
  cases a1 : S (o + k) x y <;> cases a2 : M (ix3 k x y)
  · rfl
  · rw [a1, a2] at this; exact absurd (this.mpr ⟨hv, rfl⟩) Bool.false_ne_true
  · rw [a1, a2] at this; exact absurd (this.mp rfl).2 Bool.false_ne_true
  · rfl
theorem lh_holds {post : Int32 → (Nat → Int64) → Prop} {S : SS} {M : Nat → Bool} {oc : Nat → Int64} {a x y : Int32} (hk : kA np pl Ru qpl qbr) (hM : relM pl M S 0)
    (h1 : ∀ p t u, a = nI p → p < np → x = xb_t t → y = xb_t u → vd pl p t u → ∀ oc', oc' 0 = lI (M (ix3 p t u)) → post 0 oc')
    (h0 : ¬ okA np pl 1 10 a x y → post 1 oc) : wp_La_holds post (nI np) qpl (rF S) oc a x y := by
  unfold wp_La_holds wp_Qd_holds
  refine lh_dem (lo := 1) (hi := 10) hk (by decide) (by decide) (by omega) (by omega) (fun p t u e1 e2 e3 t1 t2 e4 hu1 hu2 => ?_) h0
  have h10 : p < 10 := Nat.lt_of_lt_of_le e2 hk.1
  have hu := u10 hu1 hu2
  rw [e1, e3, e4, show (0 : Int32) = nI 0 from rfl, nI_add]
  refine q_has (by omega) (by omega) (by omega) ⟨bI_nar _, lh_bool rfl (fun oc' ho => h1 p t u e1 e2 e3 e4 ⟨t1, t2, hu1, hu2⟩ oc' ?_)⟩
  rw [ho, hM.eq h10 ⟨t1, t2, hu1, hu2⟩]
theorem lh_called {post : Int32 → (Nat → Int64) → Prop} {S : SS} {oc : Nat → Int64} {a x y : Int32} (hk : kA np pl Ru qpl qbr)
    (h1 : ∀ p t u, a = nI p → p < np → x = xb_t t → t ≤ 10 → y = xb_t u → (pl p = 1 → u = 0) → u ≤ 10 → ∀ oc', oc' 0 = lI (S (10 + p) t u) → post 0 oc')
    (h0 : ¬ okA np pl 0 10 a x y → post 1 oc) : wp_La_called post (nI np) qpl (rF S) oc a x y := by
  unfold wp_La_called wp_Qd_called
  refine lh_dem (lo := 0) (hi := 10) hk (by decide) (by decide) (by omega) (by omega) (fun p t u e1 e2 e3 t1 t2 e4 hu1 hu2 => ?_) h0
  have h10 : p < 10 := Nat.lt_of_lt_of_le e2 hk.1
  have hu := u10 hu1 hu2
  rw [e1, e3, e4, show (10 : Int32) = nI 10 from rfl, nI_add]
  exact q_has (by omega) (by omega) (by omega) ⟨bI_nar _, lh_bool rfl (fun oc' ho => h1 p t u e1 e2 e3 t2 e4 hu1 hu oc' ho)⟩
end LH
