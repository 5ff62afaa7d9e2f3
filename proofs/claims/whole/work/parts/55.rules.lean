section RG
/-! RULES THAT BEGIN, ARE DONE AND TAKEN AWAY: THE REFERENCE'S -/
variable {np : Nat} {pl : Nat → Nat} {Ru : Nat → Bool} {mp mr oa la ga sz : Nat → Int32}
theorem m_pred {post : Int32 → Int32 → (Nat → Int32) → (Nat → Int32) → Int32 → Prop} {th a : Int32} (b : Bool) (hk : kA np pl Ru mp mr)
    (h0 : ¬ (a = 1 ∨ a = 2) → post 0 1 mp mr (nI np)) (h1 : (a = 1 ∨ a = 2) → np = 10 → post (-1) 0 mp mr (nI np))
    (h2 : ∀ v, (v = 1 ∨ v = 2) → a = nI v → np < 10 → ∀ mp' mr', kA (np + 1) (cU pl np v) (fun i => if i = np then b else Ru i) mp' mr' → post (nI np) 0 mp' mr' (nI (np + 1))) : wp_Mo_predicate post th mp mr (nI np) a (bI b) := by
  obtain ⟨k1, k2, k3, k4, k5, k6⟩ := hk
  unfold wp_Mo_predicate
  refine q_in ?_
  have key : (1 ≤ a ∧ a ≤ 2) ↔ (a = 1 ∨ a = 2) := by
    rw [Int32.le_iff_toInt_le, Int32.le_iff_toInt_le, show (1 : Int32).toInt = 1 from by decide, show (2 : Int32).toInt = 2 from by decide, ← Int32.toInt_inj, ← Int32.toInt_inj, show (1 : Int32).toInt = 1 from by decide, show (2 : Int32).toInt = 2 from by decide]
    omega
  by_cases ha : a = 1 ∨ a = 2
  · rw [decide_eq_true (key.mpr ha)]
    unfold xj
    refine ⟨fun q => absurd q (by decide), fun _ => ⟨fun _ => ?_, fun q => absurd (by decide) q⟩⟩
    rw [show (10 : Int32) = nI 10 from rfl, nI_eq (by omega) (by omega)]
    refine ⟨fun e => ?_, fun e => h1 ha e⟩
    have hin : vp_in (nI np) 10 := vp_in_nI (by omega) (by decide)
    rw [nI_clamp (by omega), nar_b, nI_1, nI_pred]
    obtain ⟨v, hv, ev⟩ : ∃ v, (v = 1 ∨ v = 2) ∧ a = nI v := by
      rcases ha with h | h
      · exact ⟨1, Or.inl rfl, h⟩
      · exact ⟨2, Or.inr rfl, h⟩
    refine ⟨hin, fun mp5 e5 => ⟨hin, fun mr6 e6 => h2 v hv ev (by omega) mp5 mr6 ⟨by omega, fun i hi => ?_, fun i => ?_, fun i hi => ?_, fun i hi => ?_, fun i hi => ?_⟩⟩⟩
    · rw [e5]
      unfold upd cU
      by_cases q : i = np
      · rw [if_pos q, if_pos q, ev]
      · rw [if_neg q, if_neg q]; exact k2 i hi
    · unfold cU
      split
      · omega
      · exact k3 i
    · unfold cU
      split
      · omega
      · exact k4 i (by omega)
    · have := k5 i (by omega)
      dsimp only
      rw [if_neg (show ¬ i = np by omega), cU_n (by omega)]
      exact this
    · rw [e6]
      unfold upd
      dsimp only
      by_cases q : i = np
      · rw [if_pos q, if_pos q]
      · rw [if_neg q, if_neg q]; exact k6 i hi
  · rw [decide_eq_false (fun z => ha (key.mp z))]
    unfold xj
    exact ⟨fun _ => ⟨fun q => absurd q (by decide), fun _ => h0 ha⟩, fun q => absurd rfl q⟩
theorem q_atom {post : (Nat → Int32) → (Nat → Int32) → (Nat → Int32) → Prop} {k : Nat} {a b c : Int32} (hk : k < 124) (h : post (upd oa k a) (upd la k b) (upd ga k c)) : wp_Mo_atom post oa la ga (nI k) a b c := by
  unfold wp_Mo_atom
  have hin : vp_in (nI k) 124 := vp_in_nI hk (by decide)
  rw [nI_clamp (by omega)]
  exact ⟨hin, fun o1 e1 => ⟨hin, fun l2 e2 => ⟨hin, fun g3 e3 => by subst e1 e2 e3; exact h⟩⟩⟩
/-- the rules below the thirtieth stay -/
def kp (oa la ga sz oa' la' ga' sz' : Nat → Int32) : Prop := ∀ r, r < 30 → ∀ R : RU, R.n ≤ 3 → rR oa la ga sz r R → rR oa' la' ga' sz' r R
/-- a rule that has begun -/
def wfB (np : Nat) (pl : Nat → Nat) (R : RU) : Prop := R.n ≤ 3 ∧ ∀ k, k ≤ R.n → R.st k < np ∧ 1 ≤ R.fs k ∧ R.fs k ≤ 18 ∧ R.sn k ≤ 18 ∧ (pl (R.st k) = 1 ↔ R.sn k = 0)
theorem m_head {post : Int32 → (Nat → Int32) → (Nat → Int32) → (Nat → Int32) → (Nat → Int32) → Int32 → Prop} {th bg a x y : Int32} (hk : kA np pl Ru mp mr)
    (h0 : ¬ okF np pl Ru true 1 18 a x y → post 1 oa la ga sz bg)
    (h1 : ∀ p t u, a = nI p → p < np → Ru p = true → x = xb_t t → 1 ≤ t → t ≤ 18 → y = xb_t u → (pl p = 1 ↔ u = 0) → u ≤ 18 → ∀ oa' la' ga' sz', rR oa' la' ga' sz' 30 (fun _ => p, fun _ => t, fun _ => u, 0) → kp oa la ga sz oa' la' ga' sz' → post 0 oa' la' ga' sz' 1) : wp_Mo_head post mp mr (nI np) th oa la ga sz bg a x y := by
  have hk' := hk
  obtain ⟨k1, k2, k3, k4, k5, k6⟩ := hk
  unfold wp_Mo_head
  have bad : ¬ okF np pl Ru true 1 18 a x y → ((1 : Int32) ≤ 0 → wp_Mo_atom (fun m_ofAtom_7 m_left_8 m_right_9 => vp_in 30 31 ∧ ∀ m_size_10 : Nat → Int32, m_size_10 = upd sz (Int32.toNatClampNeg 30) 0 → post 1 m_ofAtom_7 m_left_8 m_right_9 m_size_10 1) oa la ga 120 a x y) ∧ (¬ (1 : Int32) ≤ 0 → post 1 oa la ga sz bg) := fun h => ⟨fun q => absurd q (by decide), fun _ => h0 h⟩
  refine q_isPred k1 (fun hp => ?_) (fun hp => ?_)
  · obtain ⟨p, hp, rfl⟩ := hp
    refine xj_P (fun v => (v = 0 ∧ okA np pl 1 18 (nI p) x y ∧ Ru p = true) ∨ (v = 1 ∧ ¬ (okA np pl 1 18 (nI p) x y ∧ Ru p = true))) ?_ (fun J4 hJ4 => ?_)
    · rintro v (⟨rfl, hok, hru⟩ | ⟨rfl, hno⟩)
      · refine ⟨fun _ => ?_, fun q => absurd (by decide) q⟩
        obtain ⟨p', t, u, e1, hp', e2, t1, t2, e3, hu1, hu2⟩ := hok
        have epp := (nI_eq (by omega) (by omega)).mp e1
        subst epp
        have hu := u10 hu1 hu2
        refine q_atom (k := 120) (by omega) ⟨vp_in_nI (n := 30) (by omega) (by decide), fun sz10 e10 => h1 p t u rfl hp hru e2 t1 t2 e3 ⟨hu1, fun z => ?_⟩ hu _ _ _ _ ⟨?_, fun k hk => ?_, fun k hk => ?_, fun k hk => ?_⟩ (fun r hr R hR3 hR => ⟨?_, fun k hk => ?_, fun k hk => ?_, fun k hk => ?_⟩)⟩
        · apply Classical.byContradiction
          intro w
          have := (hu2 w).1
          omega
        · rw [e10]; rfl
        · have : k = 0 := by
            have : k ≤ 0 := hk
            omega
          subst this; rfl
        · have : k = 0 := by
            have : k ≤ 0 := hk
            omega
          subst this
          show upd la 120 x 120 = xb_t t
          rw [e2]; rfl
        · have : k = 0 := by
            have : k ≤ 0 := hk
            omega
          subst this
          show upd ga 120 y 120 = xb_t u
          rw [e3]; rfl
        · rw [e10]
          have : upd sz (Int32.toNatClampNeg 30) 0 r = sz r := if_neg (by rw [show Int32.toNatClampNeg 30 = 30 from by decide]; omega)
          rw [this]; exact hR.z
        · have : upd oa 120 (nI p) (4 * r + k) = oa (4 * r + k) := if_neg (by omega)
          rw [this]; exact hR.o k hk
        · have : upd la 120 x (4 * r + k) = la (4 * r + k) := if_neg (by omega)
          rw [this]; exact hR.l k hk
        · have : upd ga 120 y (4 * r + k) = ga (4 * r + k) := if_neg (by omega)
          rw [this]; exact hR.g k hk
      · refine bad ?_
        rintro ⟨p', t, u, e1, hp', hru, e2, t1, t2, e3, hu1, hu2⟩
        have epp := (nI_eq (by omega) (by omega)).mp e1
        subst epp
        exact hno ⟨⟨p, t, u, rfl, hp, e2, t1, t2, e3, hu1, hu2⟩, hru⟩
    · refine xj_P (fun _ => ¬ (okA np pl 1 18 (nI p) x y ∧ Ru p = true)) (fun _ h => hJ4 _ (Or.inr ⟨rfl, h⟩)) (fun J hJ => ?_)
      rw [nI_clamp (by omega), k6 p (by omega), bI_t, bI_f]
      refine ⟨fun q => absurd q (by decide), fun _ => ⟨vp_in_nI (by omega) (by decide), fun q => hJ _ (fun z => by rw [z.2] at q; cases q), fun q => ?_⟩⟩
      exact q_fit (hi := 18) k1 k2 k3 (by omega) (by omega) hp (fun h => ⟨fun z => absurd z (by decide), fun _ => hJ4 _ (Or.inl ⟨rfl, h, q⟩)⟩) (fun h => ⟨fun _ => hJ _ (fun z => h z.1), fun z => absurd rfl z⟩)
  · unfold xj
    refine ⟨fun _ => bad ?_, fun q => absurd rfl q⟩
    rintro ⟨p', t, u, e, hp', -⟩
    exact hp ⟨p', hp', e⟩
abbrev apR (R : RU) (p t u : Nat) : RU := (cU R.st (R.n + 1) p, cU R.fs (R.n + 1) t, cU R.sn (R.n + 1) u, R.n + 1)
theorem m_body {post : Int32 → Int32 → (Nat → Int32) → (Nat → Int32) → (Nat → Int32) → (Nat → Int32) → Prop} {th a x y : Int32} (bgn : Bool) {R : RU} (hk : kA np pl Ru mp mr) (hR : bgn = true → rR oa la ga sz 30 R ∧ R.n ≤ 3)
    (h0 : (bgn = false ∨ R.n = 3) → post 0 1 oa la ga sz)
    (h2 : bgn = true → R.n < 3 → ¬ okA np pl 1 18 a x y → post 0 2 oa la ga sz)
    (h1 : bgn = true → R.n < 3 → ∀ p t u, a = nI p → p < np → x = xb_t t → 1 ≤ t → t ≤ 18 → y = xb_t u → (pl p = 1 ↔ u = 0) → u ≤ 18 → ∀ oa' la' ga' sz', rR oa' la' ga' sz' 30 (apR R p t u) → kp oa la ga sz oa' la' ga' sz' → post (nI (R.n + 1)) 0 oa' la' ga' sz') : wp_Mo_body post mp (nI np) (bI bgn) th oa la ga sz a x y := by
  obtain ⟨k1, k2, k3, k4, k5, k6⟩ := hk
  unfold wp_Mo_body
  have c30 : Int32.toNatClampNeg 30 = 30 := by decide
  have i30 : vp_in 30 31 := vp_in_nI (n := 30) (by omega) (by decide)
  rw [c30]
  refine xj_P (fun v => (v = 0 ∧ bgn = true ∧ R.n < 3 ∧ okA np pl 1 18 a x y) ∨ (v = 1 ∧ (bgn = false ∨ R.n = 3)) ∨ (v = 2 ∧ bgn = true ∧ R.n < 3 ∧ ¬ okA np pl 1 18 a x y)) ?_ (fun J2 hJ2 => ?_)
  · rintro v (⟨rfl, hb, hn, hok⟩ | ⟨rfl, hb⟩ | ⟨rfl, hb, hn, hok⟩)
    · obtain ⟨hR1, hR3⟩ := hR hb
      refine ⟨fun _ => ⟨i30, i30, fun sz3 e3 => ⟨i30, ?_⟩⟩, fun q => absurd (by decide) q⟩
      rw [hR1.z, nI_1] at e3
      have es : sz3 30 = nI (R.n + 1) := by rw [e3]; exact if_pos rfl
      rw [es, show (120 : Int32) + nI (R.n + 1) = nI (120 + (R.n + 1)) from nI_add 120 _]
      obtain ⟨p, t, u, e1, hp, e2, t1, t2, e4, hu1, hu2⟩ := hok
      have hu := u10 hu1 hu2
      refine q_atom (by omega) ⟨i30, h1 hb hn p t u e1 hp e2 t1 t2 e4 ⟨hu1, fun z => ?_⟩ hu _ _ _ _ ⟨es, fun k hk => ?_, fun k hk => ?_, fun k hk => ?_⟩ (fun r hr R' hR3' hR' => ⟨?_, fun k hk => ?_, fun k hk => ?_, fun k hk => ?_⟩)⟩
      · apply Classical.byContradiction
        intro w
        have := (hu2 w).1
        omega
      · show upd oa (120 + (R.n + 1)) a (4 * 30 + k) = nI (cU R.st (R.n + 1) p k)
        unfold upd cU
        have hk : k ≤ R.n + 1 := hk
        by_cases e : k = R.n + 1
        · rw [if_pos (by omega), if_pos e, e1]
        · rw [if_neg (by omega), if_neg e]; exact hR1.o k (by omega)
      · show upd la (120 + (R.n + 1)) x (4 * 30 + k) = xb_t (cU R.fs (R.n + 1) t k)
        unfold upd cU
        have hk : k ≤ R.n + 1 := hk
        by_cases e : k = R.n + 1
        · rw [if_pos (by omega), if_pos e, e2]
        · rw [if_neg (by omega), if_neg e]; exact hR1.l k (by omega)
      · show upd ga (120 + (R.n + 1)) y (4 * 30 + k) = xb_t (cU R.sn (R.n + 1) u k)
        unfold upd cU
        have hk : k ≤ R.n + 1 := hk
        by_cases e : k = R.n + 1
        · rw [if_pos (by omega), if_pos e, e4]
        · rw [if_neg (by omega), if_neg e]; exact hR1.g k (by omega)
      · have : sz3 r = sz r := by rw [e3]; exact if_neg (by omega)
        rw [this]; exact hR'.z
      · have : upd oa (120 + (R.n + 1)) a (4 * r + k) = oa (4 * r + k) := if_neg (by omega)
        rw [this]; exact hR'.o k hk
      · have : upd la (120 + (R.n + 1)) x (4 * r + k) = la (4 * r + k) := if_neg (by omega)
        rw [this]; exact hR'.l k hk
      · have : upd ga (120 + (R.n + 1)) y (4 * r + k) = ga (4 * r + k) := if_neg (by omega)
        rw [this]; exact hR'.g k hk
    · exact ⟨fun q => absurd q (by decide), fun _ => h0 hb⟩
    · exact ⟨fun q => absurd q (by decide), fun _ => h2 hb hn hok⟩
  · refine xj_P (fun _ => bgn = false ∨ R.n = 3) (fun _ h => hJ2 _ (Or.inr (Or.inl ⟨rfl, h⟩))) (fun J10 hJ10 => ?_)
    rw [bI_t, bI_f]
    refine ⟨fun q => hJ10 _ (Or.inl q), fun hb => ⟨i30, ?_⟩⟩
    obtain ⟨hR1, hR3⟩ := hR hb
    rw [hR1.z, show (3 : Int32) = nI 3 from rfl, nI_eq (by omega) (by omega)]
    refine ⟨fun hn => ?_, fun q => hJ10 _ (Or.inr q)⟩
    have hn : R.n < 3 := by omega
    refine q_isPred k1 (fun hp => ?_) (fun hp => ?_)
    · obtain ⟨p, hp, rfl⟩ := hp
      unfold xj
      exact ⟨fun q => absurd q (by decide), fun _ => q_fit (hi := 18) k1 k2 k3 (by omega) (by omega) hp (fun h => ⟨fun _ => hJ2 _ (Or.inl ⟨rfl, hb, hn, h⟩), fun z => absurd z (by decide)⟩) (fun h => ⟨fun z => absurd rfl z, fun _ => hJ2 _ (Or.inr (Or.inr ⟨rfl, hb, hn, h⟩))⟩)⟩
    · unfold xj
      refine ⟨fun _ => hJ2 _ (Or.inr (Or.inr ⟨rfl, hb, hn, ?_⟩)), fun q => absurd rfl q⟩
      rintro ⟨p', t, u, e, hp', -⟩
      exact hp ⟨p', hp', e⟩
end RG
section RH
variable {np : Nat} {pl : Nat → Nat} {Ru : Nat → Bool} {mp mr oa la ga sz : Nat → Int32}
def cpy4 (f : Nat → Int32) (fr to : Nat) : Nat → Int32 := fun i => if 4 * to ≤ i ∧ i < 4 * to + 4 then f (4 * fr + (i - 4 * to)) else f i
theorem q_copies {post : (Nat → Int32) → (Nat → Int32) → (Nat → Int32) → (Nat → Int32) → Prop} {fr to : Nat} (hfr : fr < 31) (hto : to < 31) (hne : fr ≠ to) (h : post (cpy4 oa fr to) (cpy4 la fr to) (cpy4 ga fr to) (upd sz to (sz fr))) : wp_Mo_copies post oa la ga sz (nI fr) (nI to) := by
  unfold wp_Mo_copies
  rw [nI_clamp (by omega), nI_clamp (by omega)]
  refine ⟨vp_in_nI hfr (by decide), vp_in_nI hto (by decide), fun sz1 e1 => ?_⟩
  have stp : ∀ (f : Nat → Int32) (j : Nat), j < 4 → upd (fun i => if 4 * to ≤ i ∧ i < 4 * to + j then f (4 * fr + (i - 4 * to)) else f i) (4 * to + j) ((fun i => if 4 * to ≤ i ∧ i < 4 * to + j then f (4 * fr + (i - 4 * to)) else f i) (4 * fr + j)) = fun i => if 4 * to ≤ i ∧ i < 4 * to + (j + 1) then f (4 * fr + (i - 4 * to)) else f i := by
    intro f j hj
    funext i
    unfold upd
    dsimp only
    have e0 : ¬ (4 * to ≤ 4 * fr + j ∧ 4 * fr + j < 4 * to + j) := by omega
    rw [if_neg e0]
    by_cases e : i = 4 * to + j
    · rw [if_pos e, if_pos (by omega)]
      congr 1
      omega
    · rw [if_neg e]
      by_cases e2 : 4 * to ≤ i ∧ i < 4 * to + j
      · rw [if_pos e2, if_pos (by omega)]
      · rw [if_neg e2, if_neg (show ¬ (4 * to ≤ i ∧ i < 4 * to + (j + 1)) by omega)]
  have sta : ∀ f : Nat → Int32, f = fun i => if 4 * to ≤ i ∧ i < 4 * to + 0 then f (4 * fr + (i - 4 * to)) else f i := by
    intro f
    funext i
    rw [if_neg (by omega)]
  refine xL_up (fun j s => s.1 = nI j ∧ s.2.1 = (fun i => if 4 * to ≤ i ∧ i < 4 * to + j then oa (4 * fr + (i - 4 * to)) else oa i) ∧ s.2.2.1 = (fun i => if 4 * to ≤ i ∧ i < 4 * to + j then la (4 * fr + (i - 4 * to)) else la i) ∧ s.2.2.2.1 = (fun i => if 4 * to ≤ i ∧ i < 4 * to + j then ga (4 * fr + (i - 4 * to)) else ga i) ∧ s.2.2.2.2 = sz1) 4 ?_ (Nat.zero_le _) ⟨rfl, sta oa, sta la, sta ga, rfl⟩
  rintro j ⟨ji, o1, l1, g1, s1⟩ hj ⟨z1, z2, z3, z4, z5⟩ K hK
  dsimp only at z1 z2 z3 z4 z5 ⊢
  rw [z1, z5, nI4 hj]
  refine ⟨fun e => ?_, fun e => ?_⟩
  · subst e
    rw [z2, z3, z4, e1]
    exact h
  · rw [show (4 : Int32) = nI 4 from rfl, pk_mul, pk_mul, nI_add, nI_add, nI_clamp (by omega)]
    have hin : vp_in (nI (4 * fr + j)) 124 := vp_in_nI (by omega) (by decide)
    refine ⟨hin, hin, hin, q_atom (by omega) (fun x9 e9 => hK (by omega) _ ⟨by rw [e9, nI_1], ?_, ?_, ?_, rfl⟩)⟩
    · show upd o1 _ _ = _
      rw [z2]; exact stp oa j (by omega)
    · show upd l1 _ _ = _
      rw [z3]; exact stp la j (by omega)
    · show upd g1 _ _ = _
      rw [z4]; exact stp ga j (by omega)
theorem cpy4_to {f : Nat → Int32} {fr to k : Nat} (hk : k < 4) : cpy4 f fr to (4 * to + k) = f (4 * fr + k) := by
  unfold cpy4
  rw [if_pos (by omega)]
  congr 1
  omega
theorem cpy4_ne {f : Nat → Int32} {fr to r k : Nat} (hk : k < 4) (hr : r ≠ to) : cpy4 f fr to (4 * r + k) = f (4 * r + k) := by
  unfold cpy4
  rw [if_neg (by omega)]
theorem rR.cp {fr to : Nat} {R : RU} (h3 : R.n ≤ 3) (h : rR oa la ga sz fr R) : rR (cpy4 oa fr to) (cpy4 la fr to) (cpy4 ga fr to) (upd sz to (sz fr)) to R := by
  refine ⟨?_, fun k hk => ?_, fun k hk => ?_, fun k hk => ?_⟩
  · show (if to = to then sz fr else sz to) = _
    rw [if_pos rfl]; exact h.z
  · rw [cpy4_to (by omega)]; exact h.o k hk
  · rw [cpy4_to (by omega)]; exact h.l k hk
  · rw [cpy4_to (by omega)]; exact h.g k hk
theorem rR.cpn {fr to r : Nat} {R : RU} (h3 : R.n ≤ 3) (hr : r ≠ to) (h : rR oa la ga sz r R) : rR (cpy4 oa fr to) (cpy4 la fr to) (cpy4 ga fr to) (upd sz to (sz fr)) r R := by
  refine ⟨?_, fun k hk => ?_, fun k hk => ?_, fun k hk => ?_⟩
  · show (if r = to then sz fr else sz r) = _
    rw [if_neg hr]; exact h.z
  · rw [cpy4_ne (by omega) hr]; exact h.o k hk
  · rw [cpy4_ne (by omega) hr]; exact h.l k hk
  · rw [cpy4_ne (by omega) hr]; exact h.g k hk
/-- a term of the head is safe -/
def sfT (R : RU) (t : Nat) : Prop := t ≤ 10 ∨ ∃ i, 1 ≤ i ∧ i ≤ R.n ∧ (R.fs i = t ∨ R.sn i = t)
theorem m_isSafe {post : Int32 → Prop} {R : RU} {t : Nat} (hR : rR oa la ga sz 30 R) (hn : R.n ≤ 3) (hf : ∀ k, k ≤ R.n → R.fs k ≤ 18 ∧ R.sn k ≤ 18) (ht : t ≤ 18) (h1 : sfT R t → post 1) (h0 : ¬ sfT R t → post 0) : wp_Mo_isSafe post la ga sz (xb_t t) := by
  unfold wp_Mo_isSafe
  have c30 : Int32.toNatClampNeg 30 = 30 := by decide
  have i30 : vp_in 30 31 := vp_in_nI (n := 30) (by omega) (by decide)
  rw [c30, hR.z, xt_0 t ht]
  refine xj_P (fun v => v = bI (decide (t ≤ 10))) ?_ (fun J hJ => ⟨fun q => hJ _ (by rw [decide_eq_false (by omega)]; rfl), fun q => hJ _ (by rw [decide_eq_true (by omega)]; rfl)⟩)
  rintro v1 rfl
  refine xL_up (fun j s => s.1 = nI (j + 1) ∧ s.2 = bI (decide (t ≤ 10) || an_ (fun i => on (R.fs (i + 1)) t || on (R.sn (i + 1)) t) j)) R.n ?_ (Nat.zero_le _) ⟨rfl, by simp only [an_, Bool.or_false]⟩
  rintro j ⟨ji, b⟩ hj ⟨z1, z2⟩ K hK
  dsimp only at z1 z2 ⊢
  rw [z1, z2, nI_ltI (by omega) (by omega)]
  refine ⟨i30, fun e => ⟨bI_nar _, ?_⟩, fun e => ?_⟩
  · have : j = R.n := by omega
    subst this
    have key : (decide (t ≤ 10) || an_ (fun i => on (R.fs (i + 1)) t || on (R.sn (i + 1)) t) R.n) = true ↔ sfT R t := by
      unfold sfT
      rw [Bool.or_eq_true, an_iff]
      constructor
      · rintro (h | ⟨i, i1, i2⟩)
        · exact Or.inl (of_decide_eq_true h)
        · rw [Bool.or_eq_true] at i2
          refine Or.inr ⟨i + 1, by omega, by omega, ?_⟩
          exact i2.elim (fun z => Or.inl (of_decide_eq_true z).symm) (fun z => Or.inr (of_decide_eq_true z).symm)
      · rintro (h | ⟨i, i1, i2, i3⟩)
        · exact Or.inl (decide_eq_true h)
        · refine Or.inr ⟨i - 1, by omega, ?_⟩
          rw [show i - 1 + 1 = i by omega, Bool.or_eq_true]
          exact i3.elim (fun z => Or.inl (decide_eq_true z.symm)) (fun z => Or.inr (decide_eq_true z.symm))
    cases hb : (decide (t ≤ 10) || an_ (fun i => on (R.fs (i + 1)) t || on (R.sn (i + 1)) t) R.n) with
    | true => exact h1 (key.mp hb)
    | false => exact h0 (fun z => by rw [key.mpr z] at hb; cases hb)
  · have hj : j + 1 ≤ R.n := by omega
    have hl : la (120 + (j + 1)) = _ := hR.l (j + 1) hj
    have hg : ga (120 + (j + 1)) = _ := hR.g (j + 1) hj
    have hff := hf (j + 1) hj
    have hin : vp_in (nI (120 + (j + 1))) 124 := vp_in_nI (by omega) (by decide)
    rw [show (120 : Int32) + nI (j + 1) = nI (120 + (j + 1)) from nI_add 120 _, nI_clamp (by omega), hl, hg, xt_inj _ hff.1 _ ht, xt_inj _ hff.2 _ ht]
    generalize hs : (decide (t ≤ 10) || an_ (fun i => on (R.fs (i + 1)) t || on (R.sn (i + 1)) t) j) = s0 at z2 ⊢
    refine xj_P (fun v => v = bI (s0 || (on (R.fs (j + 1)) t || on (R.sn (j + 1)) t))) (fun v hv x7 e7 => hK (by omega) _ ⟨by rw [e7, nI_1], ?_⟩) (fun J6 hJ6 => ?_)
    · show v = _
      rw [hv, ← hs]
      simp only [an_]
      rw [Bool.or_assoc]
    · unfold on at hJ6
      refine xj_P (fun _ => (s0 || (decide (t = R.fs (j + 1)) || decide (t = R.sn (j + 1)))) = true) (fun _ q => hJ6 _ (by rw [q]; rfl)) (fun J9 hJ9 => ?_)
      rw [bI_t, bI_f]
      refine ⟨fun q => hJ9 _ (by rw [q]; rfl), fun q => ⟨hin, fun q2 => hJ9 _ (by rw [decide_eq_true q2.symm]; simp), fun q2 => ⟨hin, fun q3 => hJ6 _ ?_, fun q3 => hJ9 _ (by rw [decide_eq_true q3.symm]; simp)⟩⟩⟩
      rw [q, decide_eq_false (fun z => q2 z.symm), decide_eq_false (fun z => q3 z.symm)]
      rfl
/-- a rule that has begun is right when it is done -/
theorem wfB.wf {R : RU} (hn : np ≤ 10) (h : wfB np pl R) (h1 : R.n ≠ 0) (hs1 : sfT R (R.fs 0)) (hs2 : sfT R (R.sn 0)) : wfR pl R := by
  obtain ⟨h3, hk⟩ := h
  refine ⟨by omega, h3, fun k hk' => ?_, fun k hk' => (hk k hk').2.1, fun k hk' => (hk k hk').2.2.1, fun k hk' => (hk k hk').2.2.2.1, fun k hk' => (hk k hk').2.2.2.2, fun t h11 ht => ?_⟩
  · have := (hk k hk').1; omega
  · rcases ht with ht | ht
    · rw [← ht] at hs1
      exact hs1.resolve_left (by omega)
    · rw [← ht] at hs2
      exact hs2.resolve_left (by omega)
theorem m_done {post : Int32 → Int32 → (Nat → Int32) → (Nat → Int32) → (Nat → Int32) → (Nat → Int32) → Int32 → Int32 → Prop} {th : Int32} (bgn : Bool) {R : RU} {nr : Nat} (hnr : nr ≤ 30) (hR : bgn = true → rR oa la ga sz 30 R ∧ wfB np pl R)
    (h0 : bgn = false → post 0 1 oa la ga sz (nI nr) 0)
    (h2 : bgn = true → (R.n = 0 ∨ nr = 30 ∨ ¬ (sfT R (R.fs 0) ∧ sfT R (R.sn 0))) → post (-1) 0 oa la ga sz (nI nr) 0)
    (h1 : bgn = true → R.n ≠ 0 → nr < 30 → sfT R (R.fs 0) → sfT R (R.sn 0) → post (nI nr) 0 (cpy4 oa 30 nr) (cpy4 la 30 nr) (cpy4 ga 30 nr) (upd sz nr (sz 30)) (nI (nr + 1)) 0) : wp_Mo_done post th oa la ga sz (nI nr) (bI bgn) := by
  unfold wp_Mo_done
  have c30 : Int32.toNatClampNeg 30 = 30 := by decide
  have c120 : Int32.toNatClampNeg 120 = 120 := by decide
  have i30 : vp_in 30 31 := vp_in_nI (n := 30) (by omega) (by decide)
  have i120 : vp_in 120 124 := vp_in_nI (n := 120) (by omega) (by decide)
  rw [c30, c120]
  refine xj_P (fun v => v = bI (!bgn)) ?_ (fun J hJ => ?_)
  · rintro v rfl
    cases hb : bgn with
    | false =>
      refine ⟨fun q => absurd q (by decide), fun _ => ?_⟩
      have := h0 hb
      exact this
    | true =>
      refine ⟨fun _ => ⟨i30, ?_⟩, fun q => absurd (by decide) q⟩
      obtain ⟨hR1, hw⟩ := hR hb
      have hk := hw.2
      have hn3 := hw.1
      have hff : ∀ k, k ≤ R.n → R.fs k ≤ 18 ∧ R.sn k ≤ 18 := fun k hk' => ⟨(hk k hk').2.2.1, (hk k hk').2.2.2.1⟩
      have hl : la 120 = _ := hR1.l 0 (by omega)
      have hg : ga 120 = _ := hR1.g 0 (by omega)
      refine xj_P (fun _ => R.n = 0 ∨ nr = 30 ∨ ¬ (sfT R (R.fs 0) ∧ sfT R (R.sn 0))) (fun _ h => h2 hb h) (fun J4 hJ4 => ?_)
      rw [hR1.z, show (0 : Int32) = nI 0 from rfl, nI_eq (by omega) (by omega), show (30 : Int32) = nI 30 from rfl, nI_eq (by omega) (by omega), hl, hg]
      refine ⟨fun q => hJ4 _ (Or.inl q), fun q => ⟨fun q2 => hJ4 _ (Or.inr (Or.inl q2)), fun q2 => ⟨i120, ?_⟩⟩⟩
      refine m_isSafe hR1 hn3 hff (hff 0 (by omega)).1 (fun s1 => ⟨fun z => absurd z (by decide), fun _ => ⟨i120, m_isSafe hR1 hn3 hff (hff 0 (by omega)).2 (fun s2 => ⟨fun _ => ?_, fun z => absurd z (by decide)⟩) (fun s2 => ⟨fun z => absurd rfl z, fun _ => hJ4 _ (Or.inr (Or.inr (fun z => s2 z.2)))⟩)⟩⟩) (fun s1 => ⟨fun _ => hJ4 _ (Or.inr (Or.inr (fun z => s1 z.1))), fun z => absurd rfl z⟩)
      refine q_copies (by omega) (by omega) (by omega) ?_
      rw [nI_1, nI_pred]
      exact h1 hb q (by omega) s1 s2
  · cases hb : bgn with
    | false => exact ⟨fun _ => hJ _ (by rw [hb]; rfl), fun q => absurd rfl q⟩
    | true => exact ⟨fun q => absurd q (by decide), fun _ => hJ _ (by rw [hb]; rfl)⟩
abbrev tkR (RS : Nat → RU) (i : Nat) : Nat → RU := fun r => if r < i then RS r else RS (r + 1)
theorem m_take {post : Int32 → Int32 → (Nat → Int32) → (Nat → Int32) → (Nat → Int32) → (Nat → Int32) → Int32 → Prop} {th a : Int32} {RS : Nat → RU} {nr : Nat} (hnr : nr ≤ 30) (hR : ∀ r, r < nr → rR oa la ga sz r (RS r)) (h3 : ∀ r, r < nr → (RS r).n ≤ 3)
    (h0 : (¬ ∃ i, i < nr ∧ a = nI i) → post 0 0 oa la ga sz (nI nr))
    (h1 : ∀ i, i < nr → a = nI i → ∀ oa' la' ga' sz', (∀ r, r < nr - 1 → rR oa' la' ga' sz' r (tkR RS i r)) → (∀ R : RU, R.n ≤ 3 → rR oa la ga sz 30 R → rR oa' la' ga' sz' 30 R) → post 1 0 oa' la' ga' sz' (nI (nr - 1))) : wp_Mo_take post th oa la ga sz (nI nr) a := by
  unfold wp_Mo_take
  refine q_in ?_
  have key : (0 ≤ a ∧ a ≤ nI nr - 1) ↔ ∃ p, p < nr ∧ a = nI p := by
    rw [show nI nr - 1 = xb_t nr from rfl, Int32.le_iff_toInt_le, Int32.le_iff_toInt_le, xt_toInt (by omega), show (0 : Int32).toInt = 0 from by decide]
    constructor
    · rintro ⟨h2, h3⟩
      refine ⟨a.toInt.toNat, by omega, Int32.toInt_inj.mp ?_⟩
      rw [nI_toInt (by omega)]
      omega
    · rintro ⟨p, h2, rfl⟩
      rw [nI_toInt (by omega)]
      omega
  rw [bI_t, bI_f]
  refine ⟨fun q => ?_, fun q => h0 (fun z => of_decide_eq_false q (key.mpr z))⟩
  obtain ⟨i, hi, rfl⟩ := key.mp (of_decide_eq_true q)
  obtain ⟨m, rfl⟩ : ∃ m, nr = m + 1 := ⟨nr - 1, by omega⟩
  rw [nI_pred]
  have h1 := h1 i hi rfl
  rw [show m + 1 - 1 = m by omega] at h1
  refine xL_up (fun j s => i ≤ j ∧ s.1 = nI j ∧ s.2.1 = 0 ∧ s.2.2.2.2.2.2 = nI m ∧ (∀ r, r < j → rR s.2.2.1 s.2.2.2.1 s.2.2.2.2.1 s.2.2.2.2.2.1 r (tkR RS i r)) ∧ (∀ r, j < r → r ≤ m → rR s.2.2.1 s.2.2.2.1 s.2.2.2.2.1 s.2.2.2.2.2.1 r (RS r)) ∧ (∀ R : RU, R.n ≤ 3 → rR oa la ga sz 30 R → rR s.2.2.1 s.2.2.2.1 s.2.2.2.2.1 s.2.2.2.2.2.1 30 R)) m ?_ (j := i) (by omega) ⟨Nat.le_refl _, rfl, rfl, rfl, fun r hr => (by unfold tkR; rw [if_pos hr]; exact hR r (by omega)), fun r h2 h3 => hR r (by omega), fun R _ h => h⟩
  rintro j ⟨ji, t1, o1, l1, g1, s1, n1⟩ hj ⟨ij, z1, z2, z3, z4, z5, z6⟩ K hK
  dsimp only at z1 z2 z3 z4 z5 z6 ⊢
  rw [z1, z2, z3, nI_leI (by omega) (by omega)]
  refine ⟨fun e => ?_, fun e => ?_⟩
  · have : j = m := by omega
    subst this
    exact h1 _ _ _ _ z4 z6
  · rw [nI_1]
    refine q_copies (by omega) (by omega) (by omega) (fun x11 e11 => hK (by omega) _ ⟨by omega, e11, rfl, rfl, fun r hr => ?_, fun r h2 h4 => ?_, fun R hR3 h => ?_⟩)
    · by_cases e2 : r = j
      · subst e2
        have : tkR RS i r = RS (r + 1) := by unfold tkR; rw [if_neg (by omega)]
        rw [this]
        exact rR.cp (h3 _ (by omega)) (z5 (r + 1) (by omega) (by omega))
      · refine rR.cpn ?_ e2 (z4 r (by omega))
        unfold tkR
        split
        · exact h3 _ (by omega)
        · exact h3 _ (by omega)
    · exact rR.cpn (h3 _ (by omega)) (by omega) (z5 r (by omega) h4)
    · exact rR.cpn hR3 (by omega) (z6 R hR3 h)
end RH
