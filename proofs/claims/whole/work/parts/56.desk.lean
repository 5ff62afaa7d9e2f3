section LG
/-! RULES THAT BEGIN, ARE DONE AND TAKEN AWAY: THE DESK'S -/
variable {np : Nat} {pl : Nat → Nat} {Ru : Nat → Bool} {qpl qbr : Nat → Int32}
theorem lh_int {r : Int32} {oc : Nat → Int64} {Q : (Nat → Int64) → Prop} (h : ∀ oc', oc' 0 = r.toInt64 → Q oc') : vp_in 0 1 ∧ ∀ oc6 : Nat → Int64, oc6 = vp_updL oc (Int32.toNatClampNeg 0) r.toInt64 → Q oc6 := ⟨in01, fun oc6 e => h oc6 (by rw [e]; rfl)⟩
theorem lh_pred {post : Int32 → Int32 → (Nat → Int32) → (Nat → Int32) → (Nat → Int64) → Prop} {oc : Nat → Int64} {a : Int32} (b : Bool) (hk : kA np pl Ru qpl qbr)
    (h0 : ¬ (a = 1 ∨ a = 2) → post 1 (nI np) qpl qbr oc) (h1 : (a = 1 ∨ a = 2) → np = 10 → ∀ oc', oc' 0 = (-1 : Int32).toInt64 → post 0 (nI np) qpl qbr oc')
    (h2 : ∀ v, (v = 1 ∨ v = 2) → a = nI v → np < 10 → ∀ qpl' qbr' oc', kA (np + 1) (cU pl np v) (fun i => if i = np then b else Ru i) qpl' qbr' → oc' 0 = (nI np).toInt64 → post 0 (nI (np + 1)) qpl' qbr' oc') : wp_La_predicate post (nI np) qpl qbr oc a (bI b) := by
  obtain ⟨k1, k2, k3, k4, k5, k6⟩ := hk
  unfold wp_La_predicate wp_Qd_predicate
  refine xj_P (fun v => (v = 1 ∧ (a = 1 ∨ a = 2)) ∨ (v = 0 ∧ ¬ (a = 1 ∨ a = 2))) ?_ (fun J hJ => ?_)
  · rintro v (⟨rfl, ha⟩ | ⟨rfl, ha⟩)
    · refine ⟨fun _ => ?_, fun z => absurd z (by decide)⟩
      rw [show (10 : Int32) = nI 10 from rfl, nI_ltI (by omega) (by omega)]
      refine ⟨fun e => ?_, fun e => lh_int (fun oc' ho => h1 ha (by omega) oc' ho)⟩
      have hin : vp_in (nI np) 10 := vp_in_nI (by omega) (by decide)
      rw [nI_clamp (by omega), nar_b, nI_1]
      obtain ⟨v, hv, ev⟩ : ∃ v, (v = 1 ∨ v = 2) ∧ a = nI v := by
        rcases ha with h | h
        · exact ⟨1, Or.inl rfl, h⟩
        · exact ⟨2, Or.inr rfl, h⟩
      refine ⟨hin, fun mp5 e5 => ⟨hin, fun mr6 e6 => lh_int (fun oc' ho => h2 v hv ev (by omega) mp5 mr6 oc' ⟨by omega, fun i hi => ?_, fun i => ?_, fun i hi => ?_, fun i hi => ?_, fun i hi => ?_⟩ ho)⟩⟩
      · rw [e5]
        unfold upd cU
        by_cases q : i = np
        · rw [if_pos q, if_pos q, ev]
        · rw [if_neg q, if_neg q]; exact k2 i hi
      · unfold cU
        split
        · omega
        · exact k3 i
      · unfold cU
        split
        · omega
        · exact k4 i (by omega)
      · have := k5 i (by omega)
        dsimp only
        rw [if_neg (show ¬ i = np by omega), cU_n (by omega)]
        exact this
      · rw [e6]
        unfold upd
        dsimp only
        by_cases q : i = np
        · rw [if_pos q, if_pos q]
        · rw [if_neg q, if_neg q]; exact k6 i hi
    · exact ⟨fun z => absurd rfl z, fun _ => ⟨rfl, h0 ha⟩⟩
  · unfold xj
    refine ⟨fun q => hJ _ (Or.inl ⟨rfl, Or.inl q⟩), fun q => ⟨fun q2 => hJ _ (Or.inr ⟨rfl, fun z => z.elim q q2⟩), fun q2 => hJ _ (Or.inl ⟨rfl, Or.inr q2⟩)⟩⟩
theorem lh_bodyS {post : Int32 → (Nat → Int32) → (Nat → Int32) → (Nat → Int32) → Int32 → (Nat → Int64) → Prop} {wrs wrf wrc : Nat → Int32} {wna : Int32} {oc : Nat → Int64} {a x y : Int32} {R : RU} (hk : kA np pl Ru qpl qbr) (hR : rq wrs wrf wrc wna R.st R.fs R.sn R.n)
    (h0 : R.n = 3 → post 1 wrs wrf wrc wna oc) (h2 : R.n < 3 → ¬ okA np pl 1 18 a x y → post 2 wrs wrf wrc wna oc)
    (h1 : R.n < 3 → ∀ p t u, a = nI p → p < np → x = xb_t t → 1 ≤ t → t ≤ 18 → y = xb_t u → (pl p = 1 ↔ u = 0) → u ≤ 18 → ∀ wrs' wrf' wrc' wna' oc', rq wrs' wrf' wrc' wna' (apR R p t u).st (apR R p t u).fs (apR R p t u).sn (apR R p t u).n → oc' 0 = (nI (R.n + 1)).toInt64 → post 0 wrs' wrf' wrc' wna' oc') : wp_La_bodyS post (nI np) qpl wrs wrf wrc wna oc a x y := by
  obtain ⟨k1, k2, k3, k4, k5, k6⟩ := hk
  have hn3 := hR.n3
  have hna := hR.na
  subst hna
  unfold wp_La_bodyS wp_Qd_bodyS
  rw [show (3 : Int32) = nI 3 from rfl, nI_ltI (by omega) (by omega)]
  refine ⟨fun hn => ?_, fun hn => Or.inl ⟨rfl, h0 (by omega)⟩⟩
  refine q_hasP (lo := 1) (hi := 18) k1 k2 k3 (by omega) (by omega) (fun hok => ?_) (fun hok => ?_)
  · refine ⟨fun _ => ?_, fun z => absurd z (by decide)⟩
    obtain ⟨p, t, u, e1, hp, e2, t1, t2, e3, hu1, hu2⟩ := hok
    have hu := u10 hu1 hu2
    have h1' := h1 hn p t u e1 hp e2 t1 t2 e3 ⟨hu1, fun z => (by
      apply Classical.byContradiction
      intro w
      have := (hu2 w).1
      omega)⟩ hu
    rw [e1, e2, e3, show (0 : Int32) + nI p = nI p from by rw [show (0 : Int32) = nI 0 from rfl, nI_add, Nat.zero_add]]
    refine q_append hR hn (fun rs' rf' rc' na' hq => ?_)
    have hna' := hq.na
    refine lh_int (fun oc' ho => h1' rs' rf' rc' na' oc' hq ?_)
    rw [ho, hna']
  · exact ⟨fun z => absurd rfl z, fun _ => Or.inr ⟨rfl, h2 hn hok⟩⟩
variable {ad : Nat → Nat} {RV : Nat → Prop} {grs grf grc : Nat → Nat → Int32} {gna : Nat → Int32} {nE : Nat} {ec : Nat → Option Nat} {RS : Nat → RU} {nr : Nat}
theorem lh_take {post : Int32 → Int32 → Int32 → (Nat → Option Nat) → Prop} {mo a : Int32} (hl : lsR ad RV grs grf grc gna nE ec RS nr)
    (h0 : (¬ ∃ i, i < nr ∧ a = nI i) → post 0 (nI nr) mo ec)
    (h1 : ∀ i, i < nr → a = nI i → ∀ mo' ec', lsR ad RV grs grf grc gna nE ec' (tkR RS i) (nr - 1) → post 1 (nI (nr - 1)) mo' ec') : wp_Qd_take post ad RV grs grf grc gna nE (nI nr) mo ec a := by
  have hle := hl.le
  have h30 := hl.l30
  have he := hl.e31
  unfold wp_Qd_take
  refine xj_P (fun _ => ¬ ∃ i, i < nr ∧ a = nI i) (fun _ h => h0 h) (fun J hJ => ⟨fun q => hJ _ ?_, fun q => ?_⟩)
  · rintro ⟨i, hi, rfl⟩
    exact nI_pos (by omega) q
  · obtain ⟨i, hi31, rfl⟩ := nI_of q
    show (nI i < nI nr → _) ∧ (¬ nI i < nI nr → _)
    rw [nI_ltI (by omega) (by omega)]
    refine ⟨fun hi => ?_, fun hi => hJ _ (fun ⟨i', h1', e⟩ => hi (by rw [(nI_eq (by omega) (by omega)).mp e]; exact h1'))⟩
    have h1 := h1 i hi rfl
    obtain ⟨ix, g1, g2, g3⟩ := hl.g i hi
    unfold wp_Al_remove wp_Ob_checkIndex wp_Pc_checkIndex xj
    rw [nI_ltI (by omega) (by omega)]
    refine ⟨fun z => absurd z (nI_pos (by omega)), fun _ => ⟨fun _ => ⟨vp_in_nI (by omega) he, ix, ?_, ?_⟩, fun z => absurd hi z⟩⟩
    · rw [nI_clamp (by omega)]; exact g1
    · obtain ⟨m, rfl⟩ : ∃ m, nr = m + 1 := ⟨nr - 1, by omega⟩
      rw [show m + 1 - 1 = m by omega] at h1
      unfold wp_Al_fastRemove
      rw [nI_pred]
      intro x1 e1
      subst e1
      refine xj_P (fun s => ∀ j, j < m → ∃ ix, s.2.2 j = some (ad ix) ∧ RV ix ∧ rB (grs ix) (grf ix) (grc ix) (gna ix) (tkR RS i j)) ?_ (fun J3 hJ3 => ?_)
      · rintro ⟨l2, mo2, ec2⟩ hs
        dsimp only at hs ⊢
        refine ⟨vp_in_nI (by omega) he, fun ec4 e4 => h1 mo2 ec4 ⟨by omega, by omega, he, fun j hj => ?_⟩⟩
        obtain ⟨ix, a1, a2, a3⟩ := hs j hj
        refine ⟨ix, ?_, a2, a3⟩
        rw [e4, nI_clamp (by omega)]
        show (if j = m then none else ec2 j) = _
        rw [if_neg (by omega)]
        exact a1
      · rw [nI_leI (by omega) (by omega), nI_1]
        refine ⟨fun e => hJ3 _ (fun j hj => ?_), fun e => ?_⟩
        · obtain ⟨ix, a1, a2, a3⟩ := hl.g j (by omega)
          refine ⟨ix, a1, a2, ?_⟩
          unfold tkR
          rw [if_pos (by omega)]
          exact a3
        · rw [pk_sub (show i ≤ m by omega), nI_clamp (by omega), nI_clamp (by omega), nI_clamp (by omega)]
          refine ⟨nI_pos (by omega), nI_pos (by omega), nI_pos (by omega), by omega, by omega, fun j hj y hy => ?_, fun ec5 e5 => hJ3 _ (fun j hj => ?_)⟩
          · obtain ⟨ix, a1, a2, a3⟩ := hl.g (i + 1 + j) (by omega)
            rw [a1] at hy
            cases hy
            exact ⟨ix, a2, rfl⟩
          · show ∃ ix, ec5 j = _ ∧ _
            rw [e5]
            by_cases q2 : i ≤ j
            · rw [pk_cpy_in q2 (by omega)]
              obtain ⟨ix, a1, a2, a3⟩ := hl.g (j + 1) (by omega)
              refine ⟨ix, ?_, a2, ?_⟩
              · rw [show i + 1 + (j - i) = j + 1 by omega]; exact a1
              · unfold tkR
                rw [if_neg (by omega)]
                exact a3
            · rw [pk_cpy_out (Or.inl (by omega))]
              obtain ⟨ix, a1, a2, a3⟩ := hl.g j (by omega)
              refine ⟨ix, a1, a2, ?_⟩
              unfold tkR
              rw [if_pos (by omega)]
              exact a3
end LG
