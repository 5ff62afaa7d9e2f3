section LW4
variable {sL : Nat} {sx : Nat → Int32} {i : Int32} {np : Nat} {pl : Nat → Nat} {Ru : Nat → Bool} {qpl qbr mp mr oa la ga zz wrs wrf wrc : Nat → Int32} {wna : Int32} {oc : Nat → Int64} {th : Int32} {R : RU} {nr : Nat}
theorem wfB.ap {p t u : Nat} (h : wfB np pl R) (hn : R.n < 3) (hp : p < np) (t1 : 1 ≤ t) (t2 : t ≤ 18) (hu : u ≤ 18) (hpu : pl p = 1 ↔ u = 0) : wfB np pl (apR R p t u) := by
  refine ⟨by show R.n + 1 ≤ 3; omega, fun k hk => ?_⟩
  have hk : k ≤ R.n + 1 := hk
  by_cases q : k = R.n + 1
  · subst q
    show cU R.st (R.n + 1) p (R.n + 1) < np ∧ 1 ≤ cU R.fs (R.n + 1) t (R.n + 1) ∧ cU R.fs (R.n + 1) t (R.n + 1) ≤ 18 ∧ cU R.sn (R.n + 1) u (R.n + 1) ≤ 18 ∧ (pl (cU R.st (R.n + 1) p (R.n + 1)) = 1 ↔ cU R.sn (R.n + 1) u (R.n + 1) = 0)
    rw [cU_s, cU_s, cU_s]
    exact ⟨hp, t1, t2, hu, hpu⟩
  · show cU R.st (R.n + 1) p k < np ∧ 1 ≤ cU R.fs (R.n + 1) t k ∧ cU R.fs (R.n + 1) t k ≤ 18 ∧ cU R.sn (R.n + 1) u k ≤ 18 ∧ (pl (cU R.st (R.n + 1) p k) = 1 ↔ cU R.sn (R.n + 1) u k = 0)
    rw [cU_n q, cU_n q, cU_n q]
    exact h.2 k (by omega)
theorem zc_bodyS {E : Int32 × (Nat → Int32) × (Nat → Int32) × (Nat → Int32) × Int32 × (Nat → Int64) × Int32 × (Nat → Int32) × (Nat → Int32) × (Nat → Int32) × (Nat → Int32) → Prop} (h1 : vp_in (i + 1) sL) (h2 : vp_in (i + 2) sL) (h3 : vp_in (i + 3) sL) (hk : kA np pl Ru qpl qbr) (hk2 : kA np pl Ru mp mr) (hR : rq wrs wrf wrc wna R.st R.fs R.sn R.n) (hZ : rR oa la ga zz 30 R) (hB : wfB np pl R)
    (hE0 : ∀ oc' th', E (i + 4, wrs, wrf, wrc, wna, oc', th', oa, la, ga, zz))
    (hE1 : ∀ (R' : RU) wrs' wrf' wrc' wna' oc' th' oa' la' ga' zz', rq wrs' wrf' wrc' wna' R'.st R'.fs R'.sn R'.n → rR oa' la' ga' zz' 30 R' → wfB np pl R' → kp oa la ga zz oa' la' ga' zz' → E (i + 4, wrs', wrf', wrc', wna', oc', th', oa', la', ga', zz')) :
    wp_Law_bodyS E sL sx (nI np) qpl mp (nI np) (bI true) wrs wrf wrc wna oc th oa la ga zz i := by
  have hn10 := hk.1
  unfold wp_Law_bodyS
  refine ⟨h1, h2, h3, lh_bodyS hk hR (fun e => ⟨h1, h2, h3, ?_⟩) (fun hlt hn => ⟨h1, h2, h3, ?_⟩) (fun hlt p t u e1 hp e2 t1 t2 e3 hpu hu wrs' wrf' wrc' wna' oc' hR' ho => ⟨h1, h2, h3, ?_⟩)⟩
  · refine m_body true hk2 (fun _ => ⟨hZ, hB.1⟩) (fun _ => ?_) (fun _ q => absurd e (by omega)) (fun _ q => absurd e (by omega))
    exact tl_thr (by decide) (fun x e => by subst e; exact hE0 _ _)
  · refine m_body true hk2 (fun _ => ⟨hZ, hB.1⟩) (fun q => ?_) (fun _ _ _ => ?_) (fun _ _ p t u e1 hp e2 t1 t2 e3 hpu hu => absurd ?_ hn)
    · rcases q with q | q
      · cases q
      · omega
    · exact tl_thr (by decide) (fun x e => by subst e; exact hE0 _ _)
    · refine ⟨p, t, u, e1, hp, e2, t1, t2, e3, hpu.mp, fun q => ⟨?_, hu⟩⟩
      have : ¬ u = 0 := fun z => q (hpu.mpr z)
      omega
  · refine m_body true hk2 (fun _ => ⟨hZ, hB.1⟩) (fun q => ?_) (fun _ _ q => absurd ?_ q) (fun _ _ p' t' u' e1' hp' e2' t1' t2' e3' hpu' hu' oa' la' ga' zz' hZ' hkp => ?_)
    · rcases q with q | q
      · cases q
      · omega
    · refine ⟨p, t, u, e1, hp, e2, t1, t2, e3, hpu.mp, fun q => ⟨?_, hu⟩⟩
      have : ¬ u = 0 := fun z => q (hpu.mpr z)
      omega
    · have a1 : p' = p := ((nI_eq (by omega) (by omega)).mp (e1.symm.trans e1')).symm
      have a2 : t' = t := ((xt_un (by omega) (by omega)).mp (e2.symm.trans e2')).symm
      have a3 : u' = u := ((xt_un (by omega) (by omega)).mp (e3.symm.trans e3')).symm
      subst a1 a2 a3
      exact tl_int ho (fun x e => by subst e; exact hE1 _ _ _ _ _ _ _ _ _ _ _ hR' hZ' (hB.ap hlt hp t1 t2 hu hpu) hkp)
theorem zc_bodyN {E : Int32 × (Nat → Int64) × Int32 × (Nat → Int32) × (Nat → Int32) × (Nat → Int32) × (Nat → Int32) → Prop} (h1 : vp_in (i + 1) sL) (h2 : vp_in (i + 2) sL) (h3 : vp_in (i + 3) sL) (hk2 : kA np pl Ru mp mr)
    (hE0 : ∀ oc' th', E (i + 4, oc', th', oa, la, ga, zz)) : wp_Law_bodyN E sL sx (nI np) qpl mp (nI np) (bI false) oc th oa la ga zz i := by
  unfold wp_Law_bodyN
  refine ⟨h1, h2, h3, ?_⟩
  unfold wp_La_bodyN wp_Qd_bodyN
  refine Or.inl ⟨rfl, h1, h2, h3, ?_⟩
  refine m_body (R := (fun _ => 0, fun _ => 0, fun _ => 0, 0)) false hk2 (fun q => by cases q) (fun _ => ?_) (fun q => by cases q) (fun q => by cases q)
  exact tl_thr (by decide) (fun x e => by subst e; exact hE0 _ _)
theorem zc_doneN {E : Int32 × (Nat → Int64) × Int32 × (Nat → Int32) × (Nat → Int32) × (Nat → Int32) × (Nat → Int32) × Int32 × Int32 → Prop} (hnr : nr ≤ 30)
    (hE0 : ∀ oc' th', E (i + 4, oc', th', oa, la, ga, zz, nI nr, bI false)) : wp_Law_doneN E sL sx oc th oa la ga zz (nI nr) (bI false) i := by
  unfold wp_Law_doneN wp_La_doneN wp_Qd_doneN
  refine ⟨rfl, ?_⟩
  refine m_done (np := 0) (pl := fun _ => 0) (R := (fun _ => 0, fun _ => 0, fun _ => 0, 0)) false hnr (fun q => by cases q) (fun _ => ?_) (fun q => by cases q) (fun q => by cases q)
  exact tl_thr (by decide) (fun x e => by subst e; exact hE0 _ _)
theorem sf_iff (hB : wfB np pl R) : sfB R.fs R.sn R.n ↔ sfT R (R.fs 0) ∧ sfT R (R.sn 0) := by
  have b := hB.2 0 (Nat.zero_le _)
  constructor
  · intro h
    refine ⟨?_, ?_⟩
    · by_cases q : R.fs 0 ≤ 10
      · exact Or.inl q
      · exact Or.inr (h (R.fs 0) (by omega) b.2.2.1 (Or.inl rfl))
    · by_cases q : R.sn 0 ≤ 10
      · exact Or.inl q
      · exact Or.inr (h (R.sn 0) (by omega) b.2.2.2.1 (Or.inr rfl))
  · rintro ⟨h1, h2⟩ t ht ht' (e | e)
    · subst e
      rcases h1 with q | q
      · omega
      · exact q
    · subst e
      rcases h2 with q | q
      · omega
      · exact q
theorem q_doneX {X : Prop} {Y : (Nat → Int32) → (Nat → Int32) → Prop} (hr : rq wrs wrf wrc wna R.st R.fs R.sn R.n) (hB : wfB np pl R) (hnr : nr ≤ 30)
    (hf : (R.n = 0 ∨ nr = 30 ∨ ¬ (sfT R (R.fs 0) ∧ sfT R (R.sn 0))) → X) (hs : R.n ≠ 0 → nr < 30 → sfT R (R.fs 0) → sfT R (R.sn 0) → ∀ rf' rc', rB wrs rf' rc' wna R → Y rf' rc') :
    xj (fun (_ : Unit) => X) (fun (J : Unit → Prop) => ((wna = 0 → J ()) ∧ (¬ wna = 0 → wp_Ru_isSafe (fun r_3 => ((r_3 = 0 → J ()) ∧ (¬ r_3 = 0 → wp_Al_size (fun r_5 => ((r_5 < 30 → wp_Ru_blankLoneVariables (fun a b => Y a b) wna wrf wrc) ∧ (¬ r_5 < 30 → J ()))) (nI nr)))) wrf wrc wna))) := by
  have hf9 : ∀ i, i ≤ R.n → R.fs i ≤ 19 := fun i hi => by have := (hB.2 i hi).2.2.1; omega
  have hc9 : ∀ i, i ≤ R.n → R.sn i ≤ 19 := fun i hi => by have := (hB.2 i hi).2.2.2.1; omega
  have h3 := hB.1
  unfold xj
  refine ⟨fun q => hf (Or.inl ?_), fun q => ?_⟩
  · rw [hr.na] at q
    exact (nI_eq (by omega) (by omega)).mp q
  · have hn0 : R.n ≠ 0 := fun e => q (by rw [hr.na, e]; rfl)
    refine q_safe hr hf9 hc9 (fun hs1 => ⟨fun z => absurd z (by decide), fun _ => ?_⟩) (fun hs1 => ⟨fun _ => hf (Or.inr (Or.inr (fun z => hs1 ((sf_iff hB).mpr z)))), fun z => absurd rfl z⟩)
    have hs2 := (sf_iff hB).mp hs1
    refine ⟨fun w => ?_, fun w => hf (Or.inr (Or.inl ?_))⟩
    · have : nr < 30 := (nI_ltI (by omega) (by omega)).mp w
      exact q_blank hr hf9 hc9 (fun rf' rc' h => hs hn0 this hs2.1 hs2.2 rf' rc' h)
    · have : ¬ nr < 30 := fun z => w ((nI_ltI (a := nr) (b := 30) (by omega) (by omega)).mpr z)
      omega
theorem zc_doneA {E : Int32 × Value × (Nat → Int32) × (Nat → Int32) × Int32 × Int32 × (Nat → Option Nat) × (Nat → Int64) × Int32 × (Nat → Int32) × (Nat → Int32) × (Nat → Int32) × (Nat → Int32) × Int32 × Int32 → Prop} {ad : Nat → Nat} {iw nE : Nat} {mo : Int32} {ec : Nat → Option Nat} (hr : rq wrs wrf wrc wna R.st R.fs R.sn R.n) (hZ : rR oa la ga zz 30 R) (hB : wfB np pl R) (hnr : nr ≤ 30) (hE : nr < nE) (hE31 : nE < 2 ^ 31)
    (hE0 : ∀ oc' th', E (i + 4, .null, wrf, wrc, nI nr, mo, ec, oc', th', oa, la, ga, zz, nI nr, bI false))
    (hE1 : R.n ≠ 0 → nr < 30 → sfT R (R.fs 0) → sfT R (R.sn 0) → ∀ wrf' wrc' mo' oc' th', rB wrs wrf' wrc' wna R → E (i + 4, .null, wrf', wrc', nI (nr + 1), mo', va_up ec nr (some (ad iw)), oc', th', cpy4 oa 30 nr, cpy4 la 30 nr, cpy4 ga 30 nr, upd zz nr (zz 30), nI (nr + 1), bI false)) :
    wp_Law_doneA E ad iw sL sx nE wna wrf wrc (nI nr) mo ec oc th oa la ga zz (nI nr) (bI true) i := by
  unfold wp_Law_doneA wp_La_doneA wp_Qd_doneA
  refine q_doneX hr hB hnr (fun hf => ⟨in01, fun oc' eo => ?_⟩) (fun hn0 hlt hs1 hs2 wrf' wrc' hb => ?_)
  · refine m_done true hnr (fun _ => ⟨hZ, hB⟩) (fun q => by cases q) (fun _ _ => ?_) (fun _ q1 q2 q3 q4 => ?_)
    · exact tl_int (by rw [eo]; rfl) (fun x e => by subst e; exact hE0 _ _)
    · exfalso
      rcases hf with q | q | q
      · exact q1 q
      · omega
      · exact q ⟨q3, q4⟩
  · unfold wp_Al_addA wp_Al_add3A
    refine ⟨fun _ => ⟨vp_in_nI hE hE31, fun ec' ee => ?_⟩, fun q => ?_⟩
    · refine ⟨in01, fun oc' eo => ?_⟩
      refine m_done true hnr (fun _ => ⟨hZ, hB⟩) (fun q => by cases q) (fun _ q => ?_) (fun _ q1 q2 q3 q4 => ?_)
      · exfalso
        rcases q with q | q | q
        · exact hn0 q
        · omega
        · exact q ⟨hs1, hs2⟩
      · rw [nI_1] at eo
        rw [nI_1]
        refine tl_int (by rw [eo, xt_m1]; rfl) (fun x e => ?_)
        subst e ee
        rw [nI_clamp (by omega)]
        exact hE1 hn0 hlt hs1 hs2 _ _ _ _ _ hb
    · have : nr = nE := (nI_eq (by omega) hE31).mp q
      omega
/-- the reference's part of done, once the desk's is known -/
theorem zc_done2f {E : Int32 × Int32 × (Nat → Int32) × (Nat → Int32) × (Nat → Int32) × (Nat → Int32) × Int32 × Int32 → Prop} (hZ : rR oa la ga zz 30 R) (hB : wfB np pl R) (hnr : nr ≤ 30) (hf : R.n = 0 ∨ nr = 30 ∨ ¬ (sfT R (R.fs 0) ∧ sfT R (R.sn 0))) (ho : oc 0 = (-1 : Int32).toInt64)
    (hE : ∀ th', E (i + 4, th', oa, la, ga, zz, nI nr, bI false)) : wp_Law_done2 E sL sx oc th oa la ga zz (nI nr) (bI true) i 0 := by
  unfold wp_Law_done2
  refine m_done true hnr (fun _ => ⟨hZ, hB⟩) (fun q => by cases q) (fun _ _ => ?_) (fun _ q1 q2 q3 q4 => ?_)
  · exact tl_int ho (fun x e => by subst e; exact hE _)
  · exfalso
    rcases hf with q | q | q
    · exact q1 q
    · omega
    · exact q ⟨q3, q4⟩
theorem zc_done2s {E : Int32 × Int32 × (Nat → Int32) × (Nat → Int32) × (Nat → Int32) × (Nat → Int32) × Int32 × Int32 → Prop} (hZ : rR oa la ga zz 30 R) (hB : wfB np pl R) (hn0 : R.n ≠ 0) (hlt : nr < 30) (hs1 : sfT R (R.fs 0)) (hs2 : sfT R (R.sn 0)) (ho : oc 0 = (nI nr).toInt64)
    (hE : ∀ th', E (i + 4, th', cpy4 oa 30 nr, cpy4 la 30 nr, cpy4 ga 30 nr, upd zz nr (zz 30), nI (nr + 1), bI false)) : wp_Law_done2 E sL sx oc th oa la ga zz (nI nr) (bI true) i 0 := by
  unfold wp_Law_done2
  refine m_done true (by omega) (fun _ => ⟨hZ, hB⟩) (fun q => by cases q) (fun _ q => ?_) (fun _ q1 q2 q3 q4 => ?_)
  · exfalso
    rcases q with q | q | q
    · exact hn0 q
    · omega
    · exact q ⟨hs1, hs2⟩
  · exact tl_int ho (fun x e => by subst e; exact hE _)
theorem zc_head2 {E : Int32 × Int32 × (Nat → Int32) × (Nat → Int32) × (Nat → Int32) × (Nat → Int32) × Int32 → Prop} {bg : Int32} (h1 : vp_in (i + 1) sL) (h2 : vp_in (i + 2) sL) (h3 : vp_in (i + 3) sL) (hk2 : kA np pl Ru mp mr) {p t u : Nat} (e1 : sx (Int32.toNatClampNeg (i + 1)) = nI p) (hp : p < np) (hru : Ru p = true) (e2 : sx (Int32.toNatClampNeg (i + 2)) = xb_t t) (t1 : 1 ≤ t) (t2 : t ≤ 18) (e3 : sx (Int32.toNatClampNeg (i + 3)) = xb_t u) (hpu : pl p = 1 ↔ u = 0) (hu : u ≤ 18)
    (hE : ∀ th' oa' la' ga' zz', rR oa' la' ga' zz' 30 (fun _ => p, fun _ => t, fun _ => u, 0) → kp oa la ga zz oa' la' ga' zz' → E (i + 4, th', oa', la', ga', zz', bI true)) : wp_Law_head2 E sL sx mp mr (nI np) th oa la ga zz bg i 0 := by
  have hn10 := hk2.1
  unfold wp_Law_head2
  refine ⟨h1, h2, h3, m_head hk2 (fun q => absurd ?_ q) (fun p' t' u' e1' hp' hru' e2' t1' t2' e3' hpu' hu' oa' la' ga' zz' hZ hkp => ?_)⟩
  · refine ⟨p, t, u, e1, hp, hru, e2, t1, t2, e3, hpu.mp, fun q => ⟨?_, hu⟩⟩
    have : ¬ u = 0 := fun z => q (hpu.mpr z)
    omega
  · have a1 : p' = p := ((nI_eq (by omega) (by omega)).mp (e1.symm.trans e1')).symm
    have a2 : t' = t := ((xt_un (by omega) (by omega)).mp (e2.symm.trans e2')).symm
    have a3 : u' = u := ((xt_un (by omega) (by omega)).mp (e3.symm.trans e3')).symm
    subst a1 a2 a3
    exact ⟨fun _ x e => by subst e; exact hE _ _ _ _ _ hZ hkp, fun q => q rfl⟩
theorem zc_head2n {E : Int32 × Int32 × (Nat → Int32) × (Nat → Int32) × (Nat → Int32) × (Nat → Int32) × Int32 → Prop} {bg : Int32} (h1 : vp_in (i + 1) sL) (h2 : vp_in (i + 2) sL) (h3 : vp_in (i + 3) sL) (hk2 : kA np pl Ru mp mr) (hn : ¬ okF np pl Ru true 1 18 (sx (Int32.toNatClampNeg (i + 1))) (sx (Int32.toNatClampNeg (i + 2))) (sx (Int32.toNatClampNeg (i + 3))))
    (hE : ∀ th', E (i + 4, th', oa, la, ga, zz, bg)) : wp_Law_head2 E sL sx mp mr (nI np) th oa la ga zz bg i 1 := by
  unfold wp_Law_head2
  refine ⟨h1, h2, h3, m_head hk2 (fun _ => ?_) (fun p t u e1 hp hru e2 t1 t2 e3 hpu hu => absurd ?_ hn)⟩
  · exact ⟨fun _ x e => by subst e; exact hE _, fun q => q rfl⟩
  · refine ⟨p, t, u, e1, hp, hru, e2, t1, t2, e3, hpu.mp, fun q => ⟨?_, hu⟩⟩
    have : ¬ u = 0 := fun z => q (hpu.mpr z)
    omega
end LW4
section LW5
theorem q_findModel0 {post : (Nat → Int32) → (Nat → Int32) → Prop} {S0 : SS} (RS : Nat → RU) (hin : ms_in S0)
    (hp : ∀ S, ms_in S → ms_H (PA RS 0) S false S → (∀ k x y, S k x y = true ↔ ms_lfp (PA RS 0) S0 k x y) → post (rF S) (vF vi0)) : wp_Qd_findModel0 post (nI 0) (rF S0) (vF vi0) := by
  have hno : ∀ C k x y, ¬ PA RS 0 C k x y := fun C k x y ⟨r, hr, _⟩ => absurd hr (by omega)
  have h := hp S0 hin (ms_H.none (fun k x y q => absurd q (hno _ _ _ _))) (fun k x y => ⟨fun q C hC _ => hC k x y q, fun q => q S0 ms_sub.rf (fun k x y q => absurd q (hno _ _ _ _))⟩)
  unfold wp_Qd_findModel0
  refine ⟨2, ?_⟩
  refine ⟨fun q => absurd q (by decide), fun _ => ⟨fun q => absurd q (by decide), fun _ => ⟨fun _ x e => ?_, fun q => q (by decide)⟩⟩⟩
  exact ⟨fun _ => h, fun q => absurd rfl q⟩
theorem q_countR0 {post : Int32 → Prop} {qbr qpt : Nat → Int32} (h : post 0) : wp_Qd_countRewrittenRules0 post (nI 0) qbr qpt :=
  ⟨fun _ => h, fun q => q (by decide)⟩
theorem q_spread0 {post : (Nat → Int32) → (Nat → Int32) → (Nat → Int32) → (Nat → Int32) → Int32 → (Nat → Int32) → (Nat → Int32) → Prop} {qbr qpt rs rf rc : Nat → Int32} {na : Int32} {P0 : Nat → Bool} {S0 : SS} {Ru : Nat → Bool} (RS : Nat → RU)
    (hq : ∀ i, i < 10 → qpt i = nI (pm P0 i)) (hP : ∀ i, P0 i = true → i < 40) (hin : ms_in S0) (hz : nz S0)
    (hp : ∀ P S qpt' rs' rf' rc' na', (∀ i, i < 10 → qpt' i = nI (pm P i)) → (∀ i, P i = true → i < 40) → ms_in S → nz S → ms_H (DU RS 0 Ru) (ov P S) false (ov P S) → (∀ k x y, ov P S k x y = true ↔ ms_lfp (DU RS 0 Ru) (ov P0 S0) k x y) → post qpt' rs' rf' rc' na' (rF S) (vF vi0)) :
    wp_Qd_spreadCalls0 post (nI 0) qbr qpt rs rf rc na (rF S0) (vF vi0) := by
  have hno : ∀ C k x y, ¬ DU RS 0 Ru C k x y := fun C k x y ⟨r, hr, _⟩ => absurd hr (by omega)
  have h := hp P0 S0 qpt rs rf rc na hq hP hin hz (ms_H.none (fun k x y q => absurd q (hno _ _ _ _))) (fun k x y => ⟨fun q C hC _ => hC k x y q, fun q => q _ ms_sub.rf (fun k x y q => absurd q (hno _ _ _ _))⟩)
  unfold wp_Qd_spreadCalls0
  refine ⟨2, ?_⟩
  refine ⟨fun q => absurd q (by decide), fun _ => ⟨fun q => absurd q (by decide), fun _ => ⟨fun _ x e => ?_, fun q => q (by decide)⟩⟩⟩
  exact ⟨fun _ => h, fun q => absurd rfl q⟩
variable {np : Nat} {pl : Nat → Nat} {Ru : Nat → Bool} {T : Nat → Bool} {qpl qbr : Nat → Int32}
theorem lh_ask0 {post : Int32 → Int32 → Int32 → Int32 → (Nat → Int32) → (Nat → Int32) → (Nat → Int32) → (Nat → Int32) → Int32 → (Nat → Int32) → (Nat → Int32) → (Nat → Int64) → Prop} {qpt rs rf rc : Nat → Int32} {na rw0 aq pn a x y : Int32} {S : SS} {oc : Nat → Int64}
    (hk : kA np pl Ru qpl qbr) (RS : Nat → RU) (hT : relM pl T S 20) (hTv : mV pl T) (hin : ms_in S)
    (h1 : ∀ ao al ar, a = nI ao → ao < np → x = xb_t al → 1 ≤ al → al ≤ 18 → y = xb_t ar → (pl ao = 1 → ar = 0) → (pl ao ≠ 1 → 1 ≤ ar ∧ ar ≤ 18) → ∀ M CL P, (∀ i, M i = true ↔ lfM RS 0 T i) → spC M RS 0 Ru ao al ar CL → spP RS 0 Ru ao al ar P → ∀ S' qpt' rs' rf' rc' na' oc', ms_in S' → relM pl M S' 0 → relC CL S' → relM pl T S' 20 → relA pl M ao al ar S' → (∀ i, i < 10 → qpt' i = nI (pm P i)) → oc' 0 = (nI (cn_ (ansB M ao al ar) 1000)).toInt64 → post 0 (nI (sm (rwF RS 0 Ru P) 40)) 1 (nI np) qpt' rs' rf' rc' na' (rF S') (vF vi0) oc')
    (h0 : ¬ okA np pl 1 18 a x y → post 1 rw0 aq pn qpt rs rf rc na (rF S) (vF vi0) oc) :
    wp_La_ask0 post (nI np) qpl qbr (nI 0) rw0 aq pn qpt rs rf rc na (rF S) (vF vi0) oc a x y := by
  have hwf : ∀ r, r < 0 → wfR pl (RS r) := fun r h => absurd h (by omega)
  have hst : ∀ r, r < 0 → ∀ k, k ≤ (RS r).n → (RS r).st k < np := fun r h => absurd h (by omega)
  unfold wp_La_ask0 wp_Qd_ask0
  refine lh_dem (lo := 1) (hi := 18) hk (by decide) (by decide) (by omega) (by omega) (fun ao al ar e1 hao e2 al1 al2 e3 hu1 hu2 => ?_) h0
  have h1 := h1 ao al ar e1 hao e2 al1 al2 e3 hu1 hu2
  have hn := hk.1
  have hRu := hk.2.2.2.2.2
  have hao10 : ao < 10 := by omega
  have har : ar ≤ 18 := u10 hu1 hu2
  have hpa : pl ao = 1 ↔ ar = 0 := ⟨hu1, fun z => by
    apply Classical.byContradiction
    intro w
    have := (hu2 w).1
    omega⟩
  rw [e1, e2, e3]
  refine q_stq ?_
  have hSQ : relM pl T (SQ S) 0 := by
    intro k hk' x y
    have e : SQ S (0 + k) x y = S (20 + k) x y := by
      unfold SQ
      rw [Nat.zero_add, if_pos hk']
    rw [e]
    exact hT k hk' x y
  have hSQin : ms_in (SQ S) := by
    intro k x y q
    unfold SQ at q
    by_cases h10 : k < 10
    · rw [if_pos h10] at q
      have := hin _ _ _ q
      omega
    · rw [if_neg h10] at q
      by_cases h20 : k < 20
      · rw [if_pos h20] at q; cases q
      · rw [if_neg h20] at q
        by_cases h30 : k = 30
        · rw [if_pos h30] at q; cases q
        · rw [if_neg h30] at q; exact hin _ _ _ q
  refine q_findModel0 RS hSQin (fun S1 hin1 hH1 hl1 => ?_)
  -- the model
  have hM : ∀ i, (fun i => @decide (lfM RS 0 T i) (Classical.propDecidable _)) i = true ↔ lfM RS 0 T i := fun i => @decide_eq_true_iff _ (Classical.propDecidable _)
  generalize hMd : (fun i => @decide (lfM RS 0 T i) (Classical.propDecidable _)) = M at hM
  have hMv := lfM_v hwf hTv hM
  obtain ⟨hrel1, hk1⟩ := model_eq hwf hTv hSQ hM hin1 hH1 hl1
  refine q_findA hao10 al2 har hin1 (fun x y => ?_) (fun rs14 rf15 rc16 na17 S2 hin2 hk2 ha2 => ?_)
  · rw [hk1 30 x y (by omega)]
    unfold SQ
    rw [if_neg (by omega), if_neg (by omega), if_pos rfl]
  have hrel2 : relM pl M S2 0 := hrel1.congr (fun k x y hk' => hk2 _ _ _ (by omega))
  have hans2 : relA pl M ao al ar S2 := ans_of hao10 al1 al2 har hpa hrel1 ha2
  have hT2 : relM pl T S2 20 := hT.congr (fun k x y hk' => by
    rw [hk2 _ _ _ (by omega), hk1 _ _ _ (by omega)]
    unfold SQ
    rw [if_neg (by omega), if_neg (by omega), if_neg (by omega)])
  have hC2 : ∀ k x y, 10 ≤ k → k < 20 → S2 k x y = false := fun k x y h10 h20 => by
    rw [hk2 _ _ _ (by omega), hk1 _ _ _ h10]
    unfold SQ
    rw [if_neg (by omega), if_pos h20]
  have hcnt := ans_size hans2 hMv hao10
  -- the end of it, once the calls are spread
  have fin : ∀ CL P S3 qpt26 rs27 rf28 rc29 na30, spC M RS 0 Ru ao al ar CL → spP RS 0 Ru ao al ar P → ms_in S3 → (∀ k x y, (k < 10 ∨ 20 ≤ k) → S3 k x y = S2 k x y) → relC CL S3 → (∀ i, i < 10 → qpt26 i = nI (pm P i)) →
      wp_Qd_countRewrittenRules0 (fun r_33 => wp_Pr_size (fun r_35 => vp_in 0 1 ∧ ∀ oc_13 : Nat → Int64, oc_13 = vp_updL oc (Int32.toNatClampNeg 0) r_35.toInt64 → post 0 r_33 1 (nI np) qpt26 rs27 rf28 rc29 na30 (rF S3) (vF vi0) oc_13) (rF S3) 30) (nI 0) qbr qpt26 := by
    intro CL P S3 qpt26 rs27 rf28 rc29 na30 hC hP hin3 hk3 hrc hq
    refine q_countR0 ?_
    have hz0 : nI (sm (rwF RS 0 Ru P) 40) = 0 := by rw [rw_eq hwf]; rfl
    rw [show (30 : Int32) = nI 30 from rfl]
    refine q_size (by omega) ⟨in01, fun oc13 e13 => ?_⟩
    have hh := h1 M CL P hM hC hP S3 qpt26 rs27 rf28 rc29 na30 oc13
    rw [hz0] at hh
    refine hh hin3 (hrel2.congr (fun k x y hk' => hk3 _ _ _ (by omega))) hrc (hT2.congr (fun k x y hk' => hk3 _ _ _ (by omega))) (fun a b => by rw [hk3 30 a b (by omega)]; exact hans2 a b) hq ?_
    rw [e13]
    show (nI (szS S3 30)).toInt64 = _
    have : szS S3 30 = szS S2 30 := by
      unfold szS
      refine sm_congr 11 (fun x _ => cn_congr 11 (fun y _ => hk3 30 x y (by omega)))
    rw [this, hcnt]
  refine q_startC hRu hao10 al2 har (fun hru qpt22 hq22 => ?_) (fun hru qpt22 hq22 => ?_)
  · refine q_spread0 (Ru := Ru) RS hq22 (fun i hi => by cases hi) hin2 hrel2.nz (fun P S3 qpt26 rs27 rf28 rc29 na30 hq26 hP40 hin3 hz3 hH3 hU3 => ?_)
    have hsub : ∀ k x y, ov P S3 k x y = true → ov (fun _ => false) S2 k x y = true := by
      intro k x y q
      refine (hU3 k x y).mp q _ ms_sub.rf (fun k x y q => ?_)
      obtain ⟨r, hr, pt, hpt, g1, -⟩ := q
      rw [ov_p ((hwf r hr).s10 0 (by omega)) hpt] at g1
      cases g1
    have hsup : ∀ k x y, ov (fun _ => false) S2 k x y = true → ov P S3 k x y = true := fun k x y q => (hU3 k x y).mpr (fun C hC _ => hC k x y q)
    have hkeep := spread_keep hwf hz3 hrel2.nz hU3
    refine fin (fun _ => false) P S3 _ _ _ _ _ ⟨fun z hz => (by cases hz), fun _ _ => rfl, fun h => (by rw [hru] at h; cases h)⟩ ⟨hP40, fun _ z => ?_, fun h => (by rw [hru] at h; cases h)⟩ hin3 hkeep (fun p hp x y hx hy => ?_) hq26
    · cases hz : P z with
      | false => rfl
      | true =>
        have h40 := hP40 z hz
        have := hsub (z / 4) 0 (z % 4) (by rw [ov_p (by omega) (by omega), show 4 * (z / 4) + z % 4 = z by omega]; exact hz)
        rw [ov_p (by omega) (by omega)] at this
        cases this
    · cases hz : S3 (10 + p) x y with
      | false => rfl
      | true =>
        have := hsub (10 + p) x y (by rw [ov_s (Or.inl (by omega))]; exact hz)
        rw [ov_s (Or.inl (by omega)), hC2 _ _ _ (by omega) (by omega)] at this
        cases this
  · have hpx := pX_lt (b0 al) (b0 ar)
    have l1 := b0_le (t := al)
    have l2 := b0_le (t := ar)
    have hS0 : ∀ k x y, k < 10 ∨ 20 ≤ k → ms_put S2 (10 + ao) (b0 al) (b0 ar) k x y = S2 k x y := fun k x y hk' => by
      unfold ms_put
      rw [if_neg (by omega)]
    have hin0 : ms_in (ms_put S2 (10 + ao) (b0 al) (b0 ar)) := by
      intro k x y q
      unfold ms_put at q
      by_cases e : k = 10 + ao ∧ x = b0 al ∧ y = b0 ar
      · omega
      · rw [if_neg e] at q; exact hin2 k x y q
    have hrel0 : relM pl M (ms_put S2 (10 + ao) (b0 al) (b0 ar)) 0 := hrel2.congr (fun k x y hk' => hS0 _ _ _ (by omega))
    have hP1 : ∀ i, mS (fun _ => false) (4 * ao + pX (b0 al) (b0 ar)) i = true ↔ i = 4 * ao + pX (b0 al) (b0 ar) := fun i => by
      unfold mS
      by_cases e : i = 4 * ao + pX (b0 al) (b0 ar)
      · rw [if_pos e]; exact ⟨fun _ => e, fun _ => rfl⟩
      · rw [if_neg e]; exact ⟨fun z => (by cases z), fun z => absurd z e⟩
    refine q_spread0 (Ru := Ru) RS hq22 (fun i hi => by have := (hP1 i).mp hi; omega) hin0 hrel0.nz (fun P S3 qpt26 rs27 rf28 rc29 na30 hq26 hP40 hin3 hz3 hH3 hU3 => ?_)
    have hkeep := spread_keep hwf hz3 hrel0.nz hU3
    have hkeep2 : ∀ k x y, (k < 10 ∨ 20 ≤ k) → S3 k x y = S2 k x y := fun k x y hk' => (hkeep k x y hk').trans (hS0 k x y hk')
    have hrel3 : relM pl M S3 0 := hrel2.congr (fun k x y hk' => hkeep2 _ _ _ (by omega))
    have hcall := spread_call hwf hrel3 hz3 hrel0.nz hin3 hao10 (show b0 al < 11 by omega) (show b0 ar < 11 by omega) (fun e => by rw [hu1 e]; rfl) hP1 (fun k x y h10 h20 => by
      unfold ms_put
      by_cases e : k = 10 + ao ∧ x = b0 al ∧ y = b0 ar
      · rw [if_pos e]; exact ⟨fun _ => e, fun _ => rfl⟩
      · rw [if_neg e, hC2 k x y h10 h20]; exact ⟨fun z => (by cases z), fun z => absurd z e⟩) hH3 hU3
    have hci : ci ao (b0 al) (b0 ar) = 121 * ao + 11 * cq al + cq ar := by
      unfold ci
      rw [dX_cq, dX_cq]
    have hCLd : ∀ z, (fun z => @decide (lfC M RS 0 Ru (121 * ao + 11 * cq al + cq ar) z) (Classical.propDecidable _)) z = true ↔ lfC M RS 0 Ru (121 * ao + 11 * cq al + cq ar) z := fun z => @decide_eq_true_iff _ (Classical.propDecidable _)
    generalize (fun z => @decide (lfC M RS 0 Ru (121 * ao + 11 * cq al + cq ar) z) (Classical.propDecidable _)) = CL at hCLd
    refine fin CL P S3 _ _ _ _ _ ⟨fun z hz => (lfC_v hst hwf hao hn hru hu1 ((hCLd z).mp hz)).1, fun h => (by rw [hru] at h; cases h), fun _ => hCLd⟩ ⟨hP40, fun h => (by rw [hru] at h; cases h), fun _ z => ?_⟩ hin3 hkeep2 (fun p hp x y hx hy => ?_) hq26
    · have := spread_pat hwf (q0 := 4 * ao + pX (b0 al) (b0 ar)) (by omega) hP40 hP1 hH3 hU3 z
      rw [pX_pq al1] at this
      exact this
    · have hc := hcall p x y hp hx hy
      rw [hci] at hc
      cases a1 : S3 (10 + p) x y <;> cases a2 : CL (ci p x y)
      · rfl
      · rw [hc.mpr ((hCLd _).mp a2)] at a1; cases a1
      · rw [(hCLd _).mpr (hc.mp a1)] at a2; cases a2
      · rfl
end LW5
section LW6
variable {sL : Nat} {sx : Nat → Int32} {i : Int32} {np : Nat} {pl : Nat → Nat} {Ru : Nat → Bool} {qpl qbr mp mr td md cl pa qpt oa la ga zz rs rf rc row vl bY ch : Nat → Int32} {na rw0 aqI pn th aqm aof alf arg had ir rwm ru att dp : Int32} {oc : Nat → Int64} {S : SS} {T : Nat → Bool} {RS : Nat → RU} {nr : Nat}
variable {ad : Nat → Nat} {RV : Nat → Prop} {grs grf grc : Nat → Nat → Int32} {gna : Nat → Int32} {nE : Nat} {ec : Nat → Option Nat}
/-- the rules of the reference -/
abbrev J3 (np : Nat) (pl : Nat → Nat) (oa la ga zz : Nat → Int32) (RS : Nat → RU) (nr : Nat) : Prop := nr ≤ 30 ∧ (∀ r, r < nr → rR oa la ga zz r (RS r)) ∧ (∀ r, r < nr → wfR pl (RS r)) ∧ ∀ r, r < nr → ∀ k, k ≤ (RS r).n → (RS r).st k < np
theorem bl_ext {f g : Nat → Bool} {p : Nat → Prop} (h1 : ∀ z, f z = true ↔ p z) (h2 : ∀ z, g z = true ↔ p z) : f = g := by
  funext z
  cases a : f z <;> cases b : g z
  · rfl
  · rw [(h1 z).mpr ((h2 z).mp b)] at a; cases a
  · rw [(h2 z).mpr ((h1 z).mp a)] at b; cases b
  · rfl
theorem spC_un {M CL CL' : Nat → Bool} {ao al ar : Nat} (h : spC M RS nr Ru ao al ar CL) (h' : spC M RS nr Ru ao al ar CL') : CL' = CL := by
  cases e : Ru ao with
  | true => exact bl_ext (h'.2.2 e) (h.2.2 e)
  | false => funext z; rw [h.2.1 e z, h'.2.1 e z]
theorem spP_un {P P' : Nat → Bool} {ao al ar : Nat} (h : spP RS nr Ru ao al ar P) (h' : spP RS nr Ru ao al ar P') : P' = P := by
  cases e : Ru ao with
  | true => exact bl_ext (h'.2.2 e) (h.2.2 e)
  | false => funext z; rw [h.2.1 e z, h'.2.1 e z]
theorem ask_J6 {M CL P : Nat → Bool} {ao al ar : Nat} {S' : SS} (hn : np ≤ 10) (h3 : J3 np pl oa la ga zz RS nr) (hT : J2 np pl T S td) (hao : ao < np) (al1 : 1 ≤ al) (al2 : al ≤ 18) (hu1 : pl ao = 1 → ar = 0) (har : ar ≤ 18) (hM : ∀ i, M i = true ↔ lfM RS nr T i) (hC : spC M RS nr Ru ao al ar CL) (hP : spP RS nr Ru ao al ar P) (hv : mV pl M) (hmd : mB md M 1000) (hcl : mB cl CL 1210) (hpa : mB pa P 40) (hin : ms_in S') (hM0 : relM pl M S' 0) (hC0 : relC CL S') (hA : relA pl M ao al ar S') (hq : ∀ i, i < 10 → qpt i = nI (pm P i)) : J6 np pl Ru S' M CL P ao al ar np true md cl pa qpt := by
  have hc : ∀ z, CL z = true → z < 1210 ∧ Ru (z / 121) = true ∧ (pl (z / 121) = 1 → z % 11 = 10) ∧ z / 121 < np := by
    intro z hz
    cases e : Ru ao with
    | true => exact lfC_v h3.2.2.2 h3.2.2.1 hao hn e hu1 ((hC.2.2 e z).mp hz)
    | false => rw [hC.2.1 e z] at hz; cases hz
  have hp : ∀ z, P z = true → z / 4 < np := by
    intro z hz
    cases e : Ru ao with
    | true => exact (lfP_v h3.2.2.2 hao hn ((hP.2.2 e z).mp hz)).2
    | false => rw [hP.2.1 e z] at hz; cases hz
  exact ⟨hM0, hmd, hv, hC0, hcl, fun z hz => ⟨(hc z hz).1, (hc z hz).2.1, (hc z hz).2.2.1⟩, hq, hpa, hA, hin, Nat.le_refl _, ⟨by omega, al1, al2, har⟩, lfM_n (fun r hr => h3.2.2.2 r hr 0 (Nat.zero_le _)) h3.2.2.1 hT.2.2.2 hM, fun z hz => (hc z hz).2.2.2, hp, fun q => (Bool.false_ne_true q.symm).elim, fun _ => hao⟩
theorem zc_ask {E : Int32 × Int32 × Int32 × Int32 × (Nat → Int32) × (Nat → Int32) × (Nat → Int32) × (Nat → Int32) × Int32 × (Nat → Int32) × (Nat → Int32) × (Nat → Int64) × Int32 × (Nat → Int32) × Int32 × Int32 × Int32 × Int32 × Int32 × (Nat → Int32) × (Nat → Int32) × Int32 × (Nat → Int32) × Int32 × (Nat → Int32) × (Nat → Int32) × (Nat → Int32) × Int32 × Int32 × Int32 → Prop} (h1 : vp_in (i + 1) sL) (h2 : vp_in (i + 2) sL) (h3 : vp_in (i + 3) sL) (hk : kA np pl Ru qpl qbr) (hk2 : kA np pl Ru mp mr) (hl : lsR ad RV grs grf grc gna nE ec RS nr) (h3' : J3 np pl oa la ga zz RS nr) (hT : J2 np pl T S td) (hin : ms_in S)
    (hE0 : ∀ oc' th', E (i + 4, rw0, aqI, pn, qpt, rs, rf, rc, na, rF S, vF vi0, oc', th', md, aqm, aof, alf, arg, had, cl, row, ir, pa, rwm, vl, bY, ch, ru, att, dp))
    (hE1 : ∀ ao al ar M CL P S' rwI qpt' rs' rf' rc' na' oc' th' md' cl' row' ir' pa' vl' bY' ch' ru' at' dp', J6 np pl Ru S' M CL P ao al ar np true md' cl' pa' qpt' → J2 np pl T S' td → E (i + 4, rwI, bI true, nI np, qpt', rs', rf', rc', na', rF S', vF vi0, oc', th', md', bI true, nI ao, xb_t al, xb_t ar, nI np, cl', row', ir', pa', rwI, vl', bY', ch', ru', at', dp')) :
    wp_Law_ask E ad RV grs grf grc gna sL sx (nI np) qpl qbr nE ec (nI nr) mp mr (nI np) td oa la ga zz (nI nr) rw0 aqI pn qpt rs rf rc na (rF S) (vF vi0) oc th md aqm aof alf arg had cl row ir pa rwm vl bY ch ru att dp i := by
  have hn10 := hk.1
  unfold wp_Law_ask
  refine ⟨h1, h2, h3, lh_ask hk hl h3'.2.2.1 h3'.2.2.2 hT.1 hT.2.2.1 hin (fun ao al ar e1 hao e2 al1 al2 e3 hu1 hu2 M CL P hM hC hP S' qpt' rs' rf' rc' na' oc' hin' hM0 hC0 hT0 hA hq ho => ⟨h1, h2, h3, ?_⟩) (fun hn => ⟨h1, h2, h3, ?_⟩)⟩
  · refine m_ask hk2 hT.2.1 hT.2.2.1 h3'.2.1 h3'.2.2.1 h3'.1 (fun ao' al' ar' e1' hao' e2' al1' al2' e3' hu1' hu2' M' CL' P' hv' hM' hC' hP' md' cl' row' ir' pa' vl' bY' ch' ru' at' dp' hmd hcl hpa => ?_) (fun q => absurd ⟨ao, al, ar, e1, hao, e2, al1, al2, e3, hu1, hu2⟩ q)
    have b1 := u10 hu1 hu2
    have b2 := u10 hu1' hu2'
    have a1 : ao' = ao := ((nI_eq (by omega) (by omega)).mp (e1.symm.trans e1')).symm
    have a2 : al' = al := ((xt_un (by omega) (by omega)).mp (e2.symm.trans e2')).symm
    have a3 : ar' = ar := ((xt_un (by omega) (by omega)).mp (e3.symm.trans e3')).symm
    subst a1 a2 a3
    have a4 : M' = M := bl_ext hM' hM
    subst a4
    have a5 := spC_un hC hC'
    have a6 := spP_un hP hP'
    subst a5 a6
    rw [e1, e2, e3]
    exact tl_int ho (fun x e => by subst e; exact hE1 _ _ _ _ _ _ _ _ _ _ _ _ _ _ _ _ _ _ _ _ _ _ _ _ _ _ (ask_J6 hn10 h3' hT hao al1 al2 hu1 b1 hM hC hP hv' hmd hcl hpa hin' hM0 hC0 hA hq) ⟨hT0, hT.2.1, hT.2.2.1, hT.2.2.2⟩)
  · refine m_ask hk2 hT.2.1 hT.2.2.1 h3'.2.1 h3'.2.2.1 h3'.1 (fun ao al ar e1 hao e2 al1 al2 e3 hu1 hu2 => absurd ⟨ao, al, ar, e1, hao, e2, al1, al2, e3, hu1, hu2⟩ hn) (fun q => ?_)
    exact tl_thr (by decide) (fun x e => by subst e; exact hE0 _ _)
theorem zc_ask0 {E : Int32 × Int32 × Int32 × Int32 × (Nat → Int32) × (Nat → Int32) × (Nat → Int32) × (Nat → Int32) × Int32 × (Nat → Int32) × (Nat → Int32) × (Nat → Int64) × Int32 × (Nat → Int32) × Int32 × Int32 × Int32 × Int32 × Int32 × (Nat → Int32) × (Nat → Int32) × Int32 × (Nat → Int32) × Int32 × (Nat → Int32) × (Nat → Int32) × (Nat → Int32) × Int32 × Int32 × Int32 → Prop} (h1 : vp_in (i + 1) sL) (h2 : vp_in (i + 2) sL) (h3 : vp_in (i + 3) sL) (hk : kA np pl Ru qpl qbr) (hk2 : kA np pl Ru mp mr) (h3' : J3 np pl oa la ga zz RS 0) (hT : J2 np pl T S td) (hin : ms_in S)
    (hE0 : ∀ oc' th', E (i + 4, rw0, aqI, pn, qpt, rs, rf, rc, na, rF S, vF vi0, oc', th', md, aqm, aof, alf, arg, had, cl, row, ir, pa, rwm, vl, bY, ch, ru, att, dp))
    (hE1 : ∀ ao al ar M CL P S' rwI qpt' rs' rf' rc' na' oc' th' md' cl' row' ir' pa' vl' bY' ch' ru' at' dp', J6 np pl Ru S' M CL P ao al ar np true md' cl' pa' qpt' → J2 np pl T S' td → E (i + 4, rwI, bI true, nI np, qpt', rs', rf', rc', na', rF S', vF vi0, oc', th', md', bI true, nI ao, xb_t al, xb_t ar, nI np, cl', row', ir', pa', rwI, vl', bY', ch', ru', at', dp')) :
    wp_Law_ask0 E  sL sx (nI np) qpl qbr (nI 0) mp mr (nI np) td oa la ga zz (nI 0) rw0 aqI pn qpt rs rf rc na (rF S) (vF vi0) oc th md aqm aof alf arg had cl row ir pa rwm vl bY ch ru att dp i := by
  have hn10 := hk.1
  unfold wp_Law_ask0
  refine ⟨h1, h2, h3, lh_ask0 hk RS hT.1 hT.2.2.1 hin (fun ao al ar e1 hao e2 al1 al2 e3 hu1 hu2 M CL P hM hC hP S' qpt' rs' rf' rc' na' oc' hin' hM0 hC0 hT0 hA hq ho => ⟨h1, h2, h3, ?_⟩) (fun hn => ⟨h1, h2, h3, ?_⟩)⟩
  · refine m_ask hk2 hT.2.1 hT.2.2.1 h3'.2.1 h3'.2.2.1 h3'.1 (fun ao' al' ar' e1' hao' e2' al1' al2' e3' hu1' hu2' M' CL' P' hv' hM' hC' hP' md' cl' row' ir' pa' vl' bY' ch' ru' at' dp' hmd hcl hpa => ?_) (fun q => absurd ⟨ao, al, ar, e1, hao, e2, al1, al2, e3, hu1, hu2⟩ q)
    have b1 := u10 hu1 hu2
    have b2 := u10 hu1' hu2'
    have a1 : ao' = ao := ((nI_eq (by omega) (by omega)).mp (e1.symm.trans e1')).symm
    have a2 : al' = al := ((xt_un (by omega) (by omega)).mp (e2.symm.trans e2')).symm
    have a3 : ar' = ar := ((xt_un (by omega) (by omega)).mp (e3.symm.trans e3')).symm
    subst a1 a2 a3
    have a4 : M' = M := bl_ext hM' hM
    subst a4
    have a5 := spC_un hC hC'
    have a6 := spP_un hP hP'
    subst a5 a6
    rw [e1, e2, e3]
    exact tl_int ho (fun x e => by subst e; exact hE1 _ _ _ _ _ _ _ _ _ _ _ _ _ _ _ _ _ _ _ _ _ _ _ _ _ _ (ask_J6 hn10 h3' hT hao al1 al2 hu1 b1 hM hC hP hv' hmd hcl hpa hin' hM0 hC0 hA hq) ⟨hT0, hT.2.1, hT.2.2.1, hT.2.2.2⟩)
  · refine m_ask hk2 hT.2.1 hT.2.2.1 h3'.2.1 h3'.2.2.1 h3'.1 (fun ao al ar e1 hao e2 al1 al2 e3 hu1 hu2 => absurd ⟨ao, al, ar, e1, hao, e2, al1, al2, e3, hu1, hu2⟩ hn) (fun q => ?_)
    exact tl_thr (by decide) (fun x e => by subst e; exact hE0 _ _)
theorem zc_take {E : Int32 × Int32 × Int32 × (Nat → Option Nat) × Int32 × (Nat → Int32) × (Nat → Int32) × (Nat → Int32) × (Nat → Int32) × Int32 → Prop} {mo : Int32} (h1 : vp_in (i + 1) sL) (hl : lsR ad RV grs grf grc gna nE ec RS nr) (h3 : J3 np pl oa la ga zz RS nr)
    (hE0 : ∀ th', E (i + 4, nI nr, mo, ec, th', oa, la, ga, zz, nI nr))
    (hE1 : ∀ k mo' ec' th' oa' la' ga' zz', k < nr → lsR ad RV grs grf grc gna nE ec' (tkR RS k) (nr - 1) → J3 np pl oa' la' ga' zz' (tkR RS k) (nr - 1) → (∀ R : RU, R.n ≤ 3 → rR oa la ga zz 30 R → rR oa' la' ga' zz' 30 R) → E (i + 4, nI (nr - 1), mo', ec', th', oa', la', ga', zz', nI (nr - 1))) :
    wp_Law_take E ad RV grs grf grc gna sL sx nE (nI nr) mo ec th oa la ga zz (nI nr) i := by
  unfold wp_Law_take
  have hz := h3.1
  refine ⟨h1, lh_take hl (fun hn => ⟨h1, ?_⟩) (fun k hk e mo' ec' hl' => ⟨h1, ?_⟩)⟩
  · refine m_take h3.1 h3.2.1 (fun r hr => (h3.2.2.1 r hr).n3) (fun _ => ?_) (fun k hk e => absurd ⟨k, hk, e⟩ hn)
    exact ⟨fun _ x e => by subst e; exact hE0 _, fun q => q rfl⟩
  · refine m_take h3.1 h3.2.1 (fun r hr => (h3.2.2.1 r hr).n3) (fun q => absurd ⟨k, hk, e⟩ q) (fun k' hk' e' oa' la' ga' zz' hR' h30 => ?_)
    have : k' = k := ((nI_eq (by omega) (by omega)).mp (e.symm.trans e')).symm
    subst this
    refine ⟨fun _ x e => ?_, fun q => q rfl⟩
    subst e
    refine hE1 k' _ _ _ _ _ _ _ hk hl' ⟨by omega, hR', fun r hr => ?_, fun r hr => ?_⟩ h30
    · show wfR pl (if r < k' then RS r else RS (r + 1))
      by_cases q : r < k'
      · rw [if_pos q]; exact h3.2.2.1 r (by omega)
      · rw [if_neg q]; exact h3.2.2.1 (r + 1) (by omega)
    · show ∀ k, k ≤ RU.n (if r < k' then RS r else RS (r + 1)) → RU.st (if r < k' then RS r else RS (r + 1)) k < np
      by_cases q : r < k'
      · rw [if_pos q]; exact h3.2.2.2 r (by omega)
      · rw [if_neg q]; exact h3.2.2.2 (r + 1) (by omega)
theorem zc_take0 {E : Int32 × Int32 × (Nat → Int32) × (Nat → Int32) × (Nat → Int32) × (Nat → Int32) × Int32 → Prop} (h1 : vp_in (i + 1) sL)
    (hE0 : ∀ th', E (i + 4, th', oa, la, ga, zz, nI 0)) : wp_Law_take0 E sL sx (nI 0) th oa la ga zz (nI 0) i := by
  have fin : vp_in (i + 1) sL ∧ wp_Mo_take (fun r_6 m_thrown_8 m_ofAtom_9 m_left_10 m_right_11 m_size_12 m_rules_13 => (((0 : Int32) = r_6 → ∀ x_14 : Int32, x_14 = i + 4 → E (x_14, m_thrown_8, m_ofAtom_9, m_left_10, m_right_11, m_size_12, m_rules_13)) ∧ (¬ (0 : Int32) = r_6 → False))) th oa la ga zz (nI 0) (sx (Int32.toNatClampNeg (i + 1))) := by
    refine ⟨h1, m_take (RS := fun _ => (fun _ => 0, fun _ => 0, fun _ => 0, 0)) (nr := 0) (by omega) (fun r hr => absurd hr (by omega)) (fun r hr => absurd hr (by omega)) (fun _ => ?_) (fun k hk => absurd hk (by omega))⟩
    exact ⟨fun _ x e => by subst e; exact hE0 _, fun q => q rfl⟩
  unfold wp_Law_take0 wp_Qd_take0
  refine ⟨h1, ?_⟩
  unfold xj
  exact ⟨fun _ => fin, fun q => ⟨fun w => absurd w q, fun _ => fin⟩⟩
theorem lh_head {post : Int32 → (Nat → Option va_E) → Prop} {cI cO : ClassId} {b : Nat} {CE : Value → Nat → Option va_E} {iQ ipl ibr iL iP iM iU ipt : Nat} {bg : Value} {a x y : Int32} (hk : kA np pl Ru qpl qbr)
    (h1 : ∀ p t u, a = nI p → p < np → Ru p = true → x = xb_t t → 1 ≤ t → t ≤ 18 → y = xb_t u → (pl p = 1 ↔ u = 0) → u ≤ 18 → ∀ ix, b ≤ ix → (∀ k, k < 4 → CE bg (ix + k) = none) → ∀ rs rf rc na, rq rs rf rc na (fun _ => p) (fun _ => t) (fun _ => u) 0 → post 0 (xr4 cI ad (CE (.ref (ad ix))) ix rs rf rc na))
    (h0 : ¬ okF np pl Ru true 1 18 a x y → post 1 (CE bg)) : wp_La_head post ad cI cO b CE iQ ipl ibr iL iP iM iU ipt (nI np) qpl qbr bg a x y := by
  obtain ⟨k1, k2, k3, k4, k5, k6⟩ := hk
  unfold wp_La_head wp_Qd_head
  refine q_hasP (lo := 1) (hi := 18) k1 k2 k3 (by omega) (by omega) (fun hok => ?_) (fun hok => ?_)
  · obtain ⟨p, t, u, rfl, hp, rfl, t1, t2, rfl, hu1, hu2⟩ := hok
    unfold xj
    refine ⟨fun q => absurd q (by decide), fun _ => ⟨vp_in_nI (by omega) (by decide), ?_⟩⟩
    rw [nI_clamp (by omega), k6 p (by omega), bI_f]
    refine ⟨fun q => ?_, fun q => ?_⟩
    · unfold wp_Qd_demand
      refine ⟨fun z => absurd rfl z, fun _ => ⟨rfl, h0 ?_⟩⟩
      rintro ⟨p', t', u', e, hp', hr, -⟩
      have := (nI_eq (by omega) (by omega)).mp e
      subst this
      rw [q] at hr; cases hr
    · rw [Bool.not_eq_false] at q
      unfold wp_Qd_demand
      refine ⟨fun _ => fun ix hix hfr => ?_, fun z => absurd z (by decide)⟩
      rw [show (0 : Int32) + nI p = nI (0 + p) from nI_add 0 p, Nat.zero_add]
      refine q_begin (st := fun _ => p) (fs := fun _ => t) (sn := fun _ => u) (fun rs rf rc na h => ?_)
      have hpu : pl p = 1 ↔ u = 0 := ⟨hu1, fun z => by
        apply Classical.byContradiction
        intro w
        have := (hu2 w).1
        omega⟩
      refine h1 p t u rfl hp q rfl t1 t2 rfl hpu (u10 hu1 hu2) ix hix hfr rs rf rc na (h.congr (fun i hi => ?_) (fun i hi => ?_) (fun i hi => ?_))
      all_goals (have : i = 0 := by omega); subst this; exact cU_s
  · unfold xj
    refine ⟨fun _ => ?_, fun q => absurd rfl q⟩
    unfold wp_Qd_demand
    refine ⟨fun z => absurd rfl z, fun _ => ⟨rfl, h0 ?_⟩⟩
    rintro ⟨p, t, u, e1, e2, e3, e4, e5, e6, e7, e8, e9⟩
    exact hok ⟨p, t, u, e1, e2, e4, e5, e6, e7, e8, e9⟩
variable {R : RU} {wrs wrf wrc : Nat → Int32} {wna mo : Int32}
theorem lh_doneF {post : Int32 → (Nat → Option va_E) → Prop} {cI cO cJ : ClassId} {b : Nat} {CE : Value → (Nat → Int32) → (Nat → Int32) → (Nat → Int64) → Nat → Option va_E} {iQ ipl ibr iL iP iM iU ipt iE iwU iwA iwB iwC iO n : Nat} (hr : rq wrs wrf wrc wna R.st R.fs R.sn R.n) (hB : wfB np pl R) (hn : n ≤ 30) (hn2 : 2 ≤ n)
    (hO : ∀ wrf wrc, CE .null wrf wrc oc iO = some (.inl (cJ, 1, .inr (.inl oc)))) (hOL : iO ≠ iL)
    (hel : ∀ wrf wrc i, i < n → ∀ y, ec i = some y → ∃ (j : Nat) (vs : List Value), y = ad j ∧ CE .null wrf wrc oc j = some (.inr (3, vs)))
    (hf : (R.n = 0 ∨ n = 30 ∨ ¬ (sfT R (R.fs 0) ∧ sfT R (R.sn 0))) → ∀ oc2 : Nat → Int64, oc2 0 = (-1 : Int32).toInt64 → post 0 (va_up (CE .null wrf wrc oc) iO (some (.inl (cJ, 1, .inr (.inl oc2))))))
    (hs : R.n ≠ 0 → n < 30 → sfT R (R.fs 0) → sfT R (R.sn 0) → ∀ wrf' wrc', rB wrs wrf' wrc' wna R → ∀ j, b ≤ j → CE .null wrf' wrc' oc j = none → ∀ oc2 : Nat → Int64, oc2 0 = (nI n).toInt64 → post 0 (va_up (va_up (va_up (CE .null wrf' wrc' oc) j (some (.inl (cO, (n + n / 2), .inr (.inr (.inr (.inr (va_up (va_cpy ec (fun _ => none) 0 0 n) n (some (ad iwU)))))))))) iL (some (.inr (5, [.ref (ad j), .int (nI (n + 1)), .int (mo + 1)])))) iO (some (.inl (cJ, 1, .inr (.inl oc2)))))) :
    wp_La_doneF post ad cI cO cJ b CE iQ ipl ibr iL iP iM iU ipt iE iwU iwA iwB iwC iO n wna mo ec wrf wrc oc := by
  unfold wp_La_doneF wp_Qd_doneF
  refine q_doneX hr hB hn (fun hfl => ⟨hO _ _, fun oc2 e => hf hfl oc2 (by rw [e]; rfl)⟩) (fun h0 hlt s1 s2 wrf' wrc' hb => ⟨hn2, by omega, hel _ _, fun j hj hfr => ⟨?_, fun oc2 e => ?_⟩⟩)
  · have hne : iO ≠ j := fun e => by
      have := hO wrf' wrc'
      rw [e] at this
      have hfr : CE .null wrf' wrc' oc j = none := hfr
      rw [hfr] at this; cases this
    rw [va_up_ne _ _ hOL, va_up_ne _ _ hne]
    exact hO _ _
  · refine hs h0 hlt s1 s2 wrf' wrc' hb j hj hfr oc2 ?_
    rw [e, xt_m1]; rfl
theorem lh_done0 {post : Int32 → (Nat → Option va_E) → Prop} {cI cO cJ : ClassId} {b : Nat} {CE : Value → (Nat → Int32) → (Nat → Int32) → (Nat → Int64) → Nat → Option va_E} {iQ ipl ibr iL iP iM iU ipt iwU iwA iwB iwC iO : Nat} (hr : rq wrs wrf wrc wna R.st R.fs R.sn R.n) (hB : wfB np pl R)
    (hO : ∀ wrf wrc, CE .null wrf wrc oc iO = some (.inl (cJ, 1, .inr (.inl oc)))) (hOL : iO ≠ iL)
    (hf : (R.n = 0 ∨ 0 = 30 ∨ ¬ (sfT R (R.fs 0) ∧ sfT R (R.sn 0))) → ∀ oc2 : Nat → Int64, oc2 0 = (-1 : Int32).toInt64 → post 0 (va_up (CE .null wrf wrc oc) iO (some (.inl (cJ, 1, .inr (.inl oc2))))))
    (hs : R.n ≠ 0 → sfT R (R.fs 0) → sfT R (R.sn 0) → ∀ wrf' wrc', rB wrs wrf' wrc' wna R → ∀ j, b ≤ j → CE .null wrf' wrc' oc j = none → ∀ oc2 : Nat → Int64, oc2 0 = (nI 0).toInt64 → post 0 (va_up (va_up (va_up (CE .null wrf' wrc' oc) j (some (.inl (cO, 10, .inr (.inr (.inr (.inr (va_up (fun _ => none) 0 (some (ad iwU)))))))))) iL (some (.inr (5, [.ref (ad j), .int 1, .int (mo + 1)])))) iO (some (.inl (cJ, 1, .inr (.inl oc2)))))) :
    wp_La_done0 post ad cI cO cJ b CE iQ ipl ibr iL iP iM iU ipt iwU iwA iwB iwC iO wna mo wrf wrc oc := by
  unfold wp_La_done0 wp_Qd_done0
  refine q_doneX (nr := 0) hr hB (by omega) (fun hfl => ⟨hO _ _, fun oc2 e => hf hfl oc2 (by rw [e]; rfl)⟩) (fun h0 hlt s1 s2 wrf' wrc' hb => fun j hj hfr => ⟨?_, fun oc2 e => ?_⟩)
  · have hne : iO ≠ j := fun e => by
      have := hO wrf' wrc'
      rw [e] at this
      have hfr : CE .null wrf' wrc' oc j = none := hfr
      rw [hfr] at this; cases this
    rw [va_up_ne _ _ hOL, va_up_ne _ _ hne]
    exact hO _ _
  · refine hs h0 s1 s2 wrf' wrc' hb j hj hfr oc2 ?_
    rw [e]; rfl
end LW6
