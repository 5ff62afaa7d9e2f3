section SC
variable {ad : Nat → Nat} {RV : Nat → Prop} {grs grf grc : Nat → Nat → Int32} {gna : Nat → Int32} {nE : Nat} {ec : Nat → Option Nat} {RS : Nat → RU} {nr : Nat} {pl : Nat → Nat} {Ru : Nat → Bool}
/-- what is due by a rule and one of its patterns -/
def DP (Ru : Nat → Bool) (R : RU) (pt : Nat) (C : SS) (k x y : Nat) : Prop := C (R.st 0) 0 pt = true ∧ DJ Ru R pt R.n C k x y
def DU (RS : Nat → RU) (nr : Nat) (Ru : Nat → Bool) (C : SS) (k x y : Nat) : Prop := ∃ r, r < nr ∧ ∃ pt, pt < 4 ∧ DP Ru (RS r) pt C k x y
theorem DP.mono {R : RU} {pt : Nat} {C C' : SS} (h : ms_sub C C') {k x y : Nat} (q : DP Ru R pt C k x y) : DP Ru R pt C' k x y := ⟨h _ _ _ q.1, q.2.mono h⟩
theorem nI4 {j : Nat} (hj : j ≤ 4) : 4 ≤ nI j ↔ j = 4 := by
  rw [show (4 : Int32) = nI 4 from rfl, nI_leI (by omega) (by omega)]
  omega
theorem q_spread {post : (Nat → Int32) → (Nat → Int32) → (Nat → Int32) → (Nat → Int32) → Int32 → (Nat → Int32) → (Nat → Int32) → Prop} {qbr qpt rs rf rc : Nat → Int32} {na : Int32} {P0 : Nat → Bool} {S0 : SS}
    (hl : lsR ad RV grs grf grc gna nE ec RS nr) (hwf : ∀ r, r < nr → wfR pl (RS r)) (hRu : mB qbr Ru 10) (hq : ∀ i, i < 10 → qpt i = nI (pm P0 i)) (hP : ∀ i, P0 i = true → i < 40) (hin : ms_in S0) (hz : nz S0)
    (hp : ∀ P S qpt' rs' rf' rc' na', (∀ i, i < 10 → qpt' i = nI (pm P i)) → (∀ i, P i = true → i < 40) → ms_in S → nz S → ms_H (DU RS nr Ru) (ov P S) false (ov P S) → (∀ k x y, ov P S k x y = true ↔ ms_lfp (DU RS nr Ru) (ov P0 S0) k x y) → post qpt' rs' rf' rc' na' (rF S) (vF vi0)) :
    wp_Qd_spreadCalls post ad RV grs grf grc gna nE ec (nI nr) qbr qpt rs rf rc na (rF S0) (vF vi0) := by
  have h30 := hl.l30
  have hin0 : vp_in 0 4 := vp_in_nI (n := 0) (by omega) (by decide)
  unfold wp_Qd_spreadCalls
  refine xL_by (fun j s => ∃ (P : Nat → Bool) (S : SS) (b : Bool) (p : Nat), j = 2 * ms_cnt (ov P S) + (if b = true then 0 else 1) ∧ s.1 = nI p ∧ s.2.1 = bI b ∧ (∀ i, i < 10 → s.2.2.1 i = nI (pm P i)) ∧ (∀ i, P i = true → i < 40) ∧ s.2.2.2.2.2.2.2.1 = rF S ∧ s.2.2.2.2.2.2.2.2 = vF vi0 ∧ ms_in S ∧ nz S ∧ ms_mid (DU RS nr Ru) (ov P0 S0) (ov P S) ∧ (b = true → p ≤ ms_cnt (ov P S)) ∧ p ≤ ms_cnt (ov P S) + 1 ∧ (b = false → ms_H (DU RS nr Ru) (ov P S) false (ov P S))) 7503 ?_ ?_ (j := 2 * ms_cnt (ov P0 S0)) ⟨P0, S0, true, 0, rfl, rfl, rfl, hq, hP, rfl, rfl, hin, hz, ms_mid.rf, fun _ => by omega, by omega, fun q => by cases q⟩
  · rintro j s ⟨P, S, b, p, rfl, -⟩
    have := ms_cnt_le (ov P S)
    split <;> omega
  · rintro j ⟨p1, b1, qp1, rs1, rf1, rc1, na1, f1, v1⟩ ⟨P, S, b, p, rfl, q1, q2, q3, q4, q5, q6, q7, q8, q9, q10, q11, q12⟩ K hK
    dsimp only at q1 q2 q3 q5 q6 ⊢
    rw [q1, q2, q5, q6]
    have hc := ms_cnt_le (ov P S)
    refine xj_P (fun _ => b = false) (fun _ hb => hp P S _ _ _ _ _ q3 q4 q7 q8 (q12 hb) (q9.fin (q12 hb))) (fun J4 hJ4 => ?_)
    refine ⟨fun hb => hJ4 _ (bI_f.mp hb), fun hb => ?_⟩
    · have hb := bI_t.mp hb
      subst hb
      have q10 := q10 rfl
      rw [show (10000 : Int32) = nI 10000 from rfl, nI_leI (by omega) (by omega)]
      refine ⟨fun q => by omega, fun _ => ?_⟩
      refine xL_up (fun r s => s.1 = nI r ∧ ∃ (P' : Nat → Bool) (S' : SS) (b : Bool), s.2.1 = bI b ∧ (∀ i, i < 10 → s.2.2.1 i = nI (pm P' i)) ∧ (∀ i, P' i = true → i < 40) ∧ s.2.2.2.2.2.2.2.1 = rF S' ∧ s.2.2.2.2.2.2.2.2 = vF vi0 ∧ ms_in S' ∧ nz S' ∧ ms_H (fun C k x y => ∃ r', r' < r ∧ ∃ pt, pt < 4 ∧ DP Ru (RS r') pt C k x y) (ov P S) b (ov P' S')) nr ?_ (Nat.zero_le _) ⟨rfl, P, S, false, rfl, q3, q4, rfl, rfl, q7, q8, ms_H.none (fun k x y h => by obtain ⟨r', h1, -⟩ := h; omega)⟩
      rintro r ⟨r1, b2, qp2, rs2, rf2, rc2, na2, f2, v2⟩ hr ⟨z1, P', S', b', z2, z3, z4, z5, z6, z7, z8, z9⟩ K6 hK6
      dsimp only at z1 z2 z3 z5 z6 ⊢
      rw [z1, z2, z5, z6]
      show (nI nr ≤ nI r → _) ∧ (¬ nI nr ≤ nI r → _)
      rw [nI_leX nr hr (by omega)]
      refine ⟨fun e x9 e9 => ?_, fun e => ?_⟩
      · subst e
        have hH : ms_H (DU RS r Ru) (ov P S) b' (ov P' S') := z9
        have hmid : ms_mid (DU RS r Ru) (ov P0 S0) (ov P' S') := q9.step hH
        cases hb' : b' with
        | true =>
          rw [hb'] at hH
          have hlt := ms_cnt_lt hH.1 (ov_in z7) (hH.2.2.2.2 rfl)
          refine hK (2 * ms_cnt (ov P' S') + (if true = true then 0 else 1)) _ (by simp; omega) ⟨P', S', true, p + 1, rfl, by rw [e9, nI_1], rfl, z3, z4, rfl, rfl, z7, z8, hmid, fun _ => by omega, by omega, fun q => by cases q⟩
        | false =>
          rw [hb'] at hH
          have e : ov P' S' = ov P S := hH.2.2.2.1 rfl
          rw [← e] at hH q10 hK
          refine hK (2 * ms_cnt (ov P' S') + (if false = true then 0 else 1)) _ (by simp) ⟨P', S', false, p + 1, rfl, by rw [e9, nI_1], rfl, z3, z4, rfl, rfl, z7, z8, hmid, fun q => (by cases q), by omega, fun _ => hH⟩
      · have hr : r < nr := by omega
        have hR := hwf r hr
        have h10 := hR.s10 0 (by omega)
        refine q_get hl hr (fun ix hix hB => ⟨hix, ?_⟩)
        refine xL_up (fun pt s => s.1 = nI pt ∧ ∃ (P2 : Nat → Bool) (S2 : SS) (b : Bool), s.2.1 = bI b ∧ (∀ i, i < 10 → s.2.2.1 i = nI (pm P2 i)) ∧ (∀ i, P2 i = true → i < 40) ∧ s.2.2.2.2.2.2.2.1 = rF S2 ∧ s.2.2.2.2.2.2.2.2 = vF vi0 ∧ ms_in S2 ∧ nz S2 ∧ ms_H (fun C k x y => (∃ r', r' < r ∧ ∃ pt, pt < 4 ∧ DP Ru (RS r') pt C k x y) ∨ ∃ pt', pt' < pt ∧ DP Ru (RS r) pt' C k x y) (ov P S) b (ov P2 S2)) 4 ?_ (Nat.zero_le _) ⟨rfl, P', S', b', rfl, z3, z4, rfl, rfl, z7, z8, z9.conv (fun _ _ _ _ _ q => Or.inl q) (fun k x y q => q.elim id (fun ⟨pt', h, _⟩ => by omega))⟩
        rintro pt ⟨pt1, b3, qp3, rs3, rf3, rc3, na3, f3, v3⟩ hpt ⟨y1, P2, S2, bb, y2, y3, y4, y5, y6, y7, y8, y9⟩ K14 hK14
        dsimp only at y1 y2 y3 y5 y6 ⊢
        rw [y1, y2, y5, y6, nI4 hpt]
        refine ⟨fun e x15 e15 => hK6 hr _ ⟨by rw [e15, nI_1], P2, S2, bb, rfl, y3, y4, rfl, rfl, y7, y8, y9.conv (fun C _ k x y q => ?_) (fun k x y q => ?_)⟩, fun e => ?_⟩
        · rcases q with ⟨r', h1, h2⟩ | ⟨pt', h1, h2⟩
          · exact ⟨r', by omega, h2⟩
          · exact ⟨r, by omega, pt', by omega, h2⟩
        · obtain ⟨r', h1, pt', h2, h3⟩ := q
          by_cases er : r' = r
          · subst er; exact Or.inr ⟨pt', by omega, h3⟩
          · exact Or.inl ⟨r', by omega, pt', h2, h3⟩
        · have hpt : pt < 4 := by omega
          rw [c0_, hB.s 0 (by omega), nI_clamp (by omega), y3 _ h10, pm_test hpt, bI_t, bI_f]
          refine ⟨hin0, vp_in_nI h10 (by decide), ?_⟩
          refine xj_P (fun s => ∃ (P3 : Nat → Bool) (S3 : SS) (b : Bool), s.1 = bI b ∧ (∀ i, i < 10 → s.2.1 i = nI (pm P3 i)) ∧ (∀ i, P3 i = true → i < 40) ∧ s.2.2.2.2.2.2.1 = rF S3 ∧ s.2.2.2.2.2.2.2 = vF vi0 ∧ ms_in S3 ∧ nz S3 ∧ ms_H (fun C k x y => (∃ r', r' < r ∧ ∃ pt, pt < 4 ∧ DP Ru (RS r') pt C k x y) ∨ ∃ pt', pt' < pt + 1 ∧ DP Ru (RS r) pt' C k x y) (ov P S) b (ov P3 S3)) ?_ ?_
          · rintro ⟨b4, qp4, rs4, rf4, rc4, na4, f4, v4⟩ ⟨P3, S3, b5, w1, w2, w3, w4, w5, w6, w7, w8⟩
            dsimp only at w1 w2 w4 w5 ⊢
            exact fun x18 e18 => hK14 hpt _ ⟨by rw [e18, nI_1], P3, S3, b5, w1, w2, w3, w4, w5, w6, w7, w8⟩
          · intro J hJ
            -- one pattern's step
            have step : ∀ {b2 : Bool} {P3 : Nat → Bool} {S3 : SS}, ms_H (DP Ru (RS r) pt) (ov P2 S2) b2 (ov P3 S3) → ms_H (fun C k x y => (∃ r', r' < r ∧ ∃ pt, pt < 4 ∧ DP Ru (RS r') pt C k x y) ∨ ∃ pt', pt' < pt + 1 ∧ DP Ru (RS r) pt' C k x y) (ov P S) (bb || b2) (ov P3 S3) := by
              intro b2 P3 S3 hH
              refine (ms_H.seq (P2 := DP Ru (RS r) pt) (fun C C' h k x y q => q.mono h) y9 hH).conv (fun C _ k x y q => ?_) (fun k x y q => ?_)
              · rcases q with (q | ⟨pt', h1, h2⟩) | q
                · exact Or.inl q
                · exact Or.inr ⟨pt', by omega, h2⟩
                · exact Or.inr ⟨pt, by omega, q⟩
              · rcases q with q | ⟨pt', h1, h2⟩
                · exact Or.inl (Or.inl q)
                · by_cases e : pt' = pt
                  · subst e; exact Or.inr h2
                  · exact Or.inl (Or.inr ⟨pt', by omega, h2⟩)
            refine ⟨fun hb => hJ _ ⟨P2, S2, bb, rfl, y3, y4, rfl, rfl, y7, y8, ?_⟩, fun hb => ?_⟩
            · have := step (b2 := false) (P3 := P2) (S3 := S2) (ms_H.none (fun k x y q => by
                have := q.1
                rw [ov_p h10 hpt, hb] at this
                cases this))
              rw [Bool.or_false] at this
              exact this
            · refine q_cbp hB hR hpt hRu y3 y4 y7 y8 (fun rr P3 S3 qp' rs' rf' rc' na' g1 g2 g3 g4 g5 => ?_)
              intro x28 e28
              rw [bI_or] at e28
              refine hJ _ ⟨P3, S3, bb || rr, e28, g1, g2, rfl, rfl, g3, g4, step (g5.conv (fun C hC k x y q => ⟨hC _ _ _ ?_, q⟩) (fun k x y q => q.2))⟩
              rw [ov_p h10 hpt]; exact hb
end SC
