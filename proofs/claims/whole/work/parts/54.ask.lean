section QA
/-! THE CLASS'S QUESTION -/
def SQ (S : SS) : SS := fun k x y => if k < 10 then S (20 + k) x y else if k < 20 then false else if k = 30 then false else S k x y
theorem rF0 {S : SS} {k x : Nat} (hx : x < 11) (h : ∀ y, y < 11 → S k x y = false) : rF S (k * 11 + x) = 0 := by
  rw [rF_at S hx, xb_congr h, xb_zero]; rfl
theorem q_stq {post : (Nat → Int32) → Prop} {S : SS} (h : post (rF (SQ S))) : wp_Pr_startQuestion post (rF S) := by
  unfold wp_Pr_startQuestion
  refine xL_up (fun j s => s.1 = nI j ∧ s.2 = fun i => if i < j then rF S (220 + i) else if 110 ≤ i ∧ i < 110 + j then 0 else rF S i) 110 ?_ (Nat.zero_le _) ⟨rfl, ?_⟩
  · rintro j ⟨ji, f⟩ hj ⟨z1, z2⟩ K hK
    dsimp only at z1 z2 ⊢
    rw [z1, z2, show (110 : Int32) = nI 110 from rfl, nI_leX 110 hj (by omega)]
    refine ⟨fun e => ?_, fun e => ?_⟩
    · subst e
      refine xL_up (fun j s => s.1 = nI j ∧ s.2 = fun i => if 330 ≤ i ∧ i < 330 + j then 0 else (if i < 110 then rF S (220 + i) else if 110 ≤ i ∧ i < 110 + 110 then 0 else rF S i)) 11 ?_ (Nat.zero_le _) ⟨rfl, ?_⟩
      · rintro j ⟨ji, f⟩ hj ⟨y1, y2⟩ K4 hK4
        dsimp only at y1 y2 ⊢
        rw [y1, y2, show (11 : Int32) = nI 11 from rfl, nI_leX 11 hj (by omega), show (330 : Int32) + nI j = nI (330 + j) from nI_add 330 j]
        refine ⟨fun e => ?_, fun e => ⟨vp_in_nI (by omega) (by decide), fun f5 e5 x6 e6 => hK4 (by omega) _ ⟨by rw [e6, nI_1], ?_⟩⟩⟩
        · subst e
          have : (fun i => if 330 ≤ i ∧ i < 330 + 11 then (0 : Int32) else (if i < 110 then rF S (220 + i) else if 110 ≤ i ∧ i < 110 + 110 then 0 else rF S i)) = rF (SQ S) := by
            funext i
            unfold rF SQ
            by_cases h1 : 330 ≤ i ∧ i < 330 + 11
            · rw [if_pos h1]
              have : xb_enc ((fun k x y => if k < 10 then S (20 + k) x y else if k < 20 then false else if k = 30 then false else S k x y) (i / 11) (i % 11)) = 0 := by
                rw [← xb_zero]
                refine xb_congr (fun y _ => ?_)
                dsimp only
                rw [if_neg (by omega), if_neg (by omega), if_pos (by omega)]
              rw [this]; rfl
            · rw [if_neg h1]
              by_cases h2 : i < 110
              · rw [if_pos h2]
                congr 1
                refine xb_congr (fun y _ => ?_)
                rw [if_pos (by omega), show (220 + i) / 11 = 20 + i / 11 by omega, show (220 + i) % 11 = i % 11 by omega]
              · rw [if_neg h2]
                by_cases h3 : 110 ≤ i ∧ i < 110 + 110
                · rw [if_pos h3]
                  have : xb_enc ((fun k x y => if k < 10 then S (20 + k) x y else if k < 20 then false else if k = 30 then false else S k x y) (i / 11) (i % 11)) = 0 := by
                    rw [← xb_zero]
                    refine xb_congr (fun y _ => ?_)
                    dsimp only
                    rw [if_neg (by omega), if_pos (by omega)]
                  rw [this]; rfl
                · rw [if_neg h3]
                  congr 1
                  refine xb_congr (fun y _ => ?_)
                  rw [if_neg (by omega), if_neg (by omega), if_neg (by omega)]
          rw [this]; exact h
        · dsimp only
          rw [e5, nI_clamp (by omega)]
          funext i
          unfold upd
          dsimp only
          by_cases q : i = 330 + j
          · rw [if_pos q, if_pos (by omega)]
          · rw [if_neg q]
            by_cases q2 : 330 ≤ i ∧ i < 330 + j
            · rw [if_pos q2, if_pos (by omega)]
            · rw [if_neg q2, if_neg (show ¬ (330 ≤ i ∧ i < 330 + (j + 1)) by omega)]
      · funext i
        rw [if_neg (show ¬ (330 ≤ i ∧ i < 330 + 0) by omega)]
    · rw [show (220 : Int32) + nI j = nI (220 + j) from nI_add 220 j, show (0 : Int32) + nI j = nI j from by rw [show (0 : Int32) = nI 0 from rfl, nI_add, Nat.zero_add], show nI 110 + nI j = nI (110 + j) from nI_add 110 j]
      rw [nI_clamp (by omega), nI_clamp (by omega), nI_clamp (by omega)]
      refine ⟨vp_in_nI (by omega) (by decide), vp_in_nI (by omega) (by decide), fun f7 e7 => ⟨vp_in_nI (by omega) (by decide), fun f8 e8 x9 e9 => hK (by omega) _ ⟨by rw [e9, nI_1], ?_⟩⟩⟩
      dsimp only
      rw [e8, e7]
      funext i
      unfold upd
      dsimp only
      by_cases q : i = 110 + j
      · rw [if_pos q, if_neg (by omega), if_pos (by omega)]
      · rw [if_neg q]
        by_cases q2 : i = j
        · rw [if_pos q2, if_neg (by omega), if_neg (by omega), if_pos (show i < j + 1 by omega), q2]
        · rw [if_neg q2]
          by_cases q3 : i < j
          · rw [if_pos q3, if_pos (by omega)]
          · rw [if_neg q3, if_neg (show ¬ i < j + 1 by omega)]
            by_cases q4 : 110 ≤ i ∧ i < 110 + j
            · rw [if_pos q4, if_pos (by omega)]
            · rw [if_neg q4, if_neg (show ¬ (110 ≤ i ∧ i < 110 + (j + 1)) by omega)]
  · funext i
    dsimp only
    rw [if_neg (by omega), if_neg (show ¬ (110 ≤ i ∧ i < 110 + 0) by omega)]
/-- the answers are found -/
theorem q_findA {post : (Nat → Int32) → (Nat → Int32) → (Nat → Int32) → Int32 → (Nat → Int32) → (Nat → Int32) → Prop} {rs rf rc : Nat → Int32} {na : Int32} {S : SS} {ao al ar : Nat} (hao : ao < 10) (hal : al ≤ 18) (har : ar ≤ 18) (hin : ms_in S) (h30 : ∀ x y, S 30 x y = false)
    (hp : ∀ rs' rf' rc' na' S', ms_in S' → (∀ k x y, k ≠ 30 → S' k x y = S k x y) → (∀ x y, S' 30 x y = true ↔ ∃ w, bl_w w ∧ S ao (w al) (w ar) = true ∧ x = w al ∧ y = w ar) → post rs' rf' rc' na' (rF S') (vF vi0)) : wp_Qd_findAnswers post rs rf rc na (rF S) (vF vi0) (nI ao) (xb_t al) (xb_t ar) := by
  unfold wp_Qd_findAnswers
  rw [show (30 : Int32) = nI 30 from rfl, show (0 : Int32) + nI ao = nI ao from by rw [show (0 : Int32) = nI 0 from rfl, nI_add, Nat.zero_add]]
  refine q_begin (st := fun _ => ao) (fs := fun _ => al) (sn := fun _ => ar) (fun rs3 rf4 rc5 na6 h3 => q_append h3 (by omega) (fun rs9 rf10 rc11 na12 h9 => ?_))
  have h9' := h9.congr (st' := fun i => if i = 0 then 30 else ao) (fs' := fun _ => al) (sn' := fun _ => ar) (fun i hi => (by
    unfold cU
    by_cases e : i = 0
    · subst e; rfl
    · rw [if_pos (show i = 0 + 1 by omega), if_neg e])) (fun i hi => (by
    unfold cU
    by_cases e : i = 0
    · subst e; rfl
    · rw [if_pos (show i = 0 + 1 by omega)])) (fun i hi => (by
    unfold cU
    by_cases e : i = 0
    · subst e; rfl
    · rw [if_pos (show i = 0 + 1 by omega)]))
  have hT : ∀ q, q < 2 * 1 + 2 → bl_T (fun _ => al) (fun _ => ar) q ≤ 18 := fun q _ => by unfold bl_T; split <;> omega
  have hrl : rl_ rs9 rf10 rc11 na12 (fun i => if i = 0 then 30 else ao) (fun _ => al) (fun _ => ar) 1 := ⟨h9'.na, h9'.n3, h9'.s, fun i _ => (by dsimp only; split <;> omega), h9'.f, fun i _ => (by dsimp only; omega), h9'.c, fun i _ => (by dsimp only; omega), hal, har⟩
  refine q_follow hrl vi0_V (fun t ht hv => ⟨1, by omega, by omega, ht.elim (fun z => Or.inl z.symm) (fun z => Or.inr z.symm)⟩) (fun r S' hm => ?_)
  have hin' := ms_A_in hm vi0_V (show (if 0 = 0 then 30 else ao) < 31 by simp) hal har hin
  have hH := ms_G.H hm
  have due : ∀ (C : SS) w, ms_in C → (ms_PA (fun i => if i = 0 then 30 else ao) (fun _ => al) (fun _ => ar) 1 vi0 1 C w ↔ bl_w w ∧ C ao (w al) (w ar) = true) := by
    intro C w hC
    constructor
    · rintro ⟨h1, h2⟩
      obtain ⟨x, y, hx, hy, g1, g2, g3⟩ := h2 1 (by omega) (by omega)
      unfold ms_pl at g1 g2
      rw [if_neg (show ¬ al = 19 by omega)] at g1
      rw [if_neg (show ¬ ar = 19 by omega)] at g2
      subst g1 g2
      exact ⟨vi0_ok.mp h1, g3⟩
    · rintro ⟨h1, h2⟩
      refine ⟨vi0_ok.mpr h1, fun i i1 i2 => ?_⟩
      rw [show i = 1 by omega]
      have hd := hC _ _ _ h2
      refine ⟨w al, w ar, hd.2.1, hd.2.2, ?_, ?_, h2⟩
      · unfold ms_pl; rw [if_neg (show ¬ al = 19 by omega)]
      · unfold ms_pl; rw [if_neg (show ¬ ar = 19 by omega)]
  -- nothing else is put
  have up : ∀ k x y, S' k x y = true → S k x y = true ∨ (k = 30 ∧ ∃ w, bl_w w ∧ S ao (w al) (w ar) = true ∧ x = w al ∧ y = w ar) := by
    intro k x y hk
    have hC : ms_in (fun k x y => S k x y || @decide (k = 30 ∧ ∃ w, bl_w w ∧ S ao (w al) (w ar) = true ∧ x = w al ∧ y = w ar) (Classical.propDecidable _)) := by
      intro k x y q
      rw [Bool.or_eq_true] at q
      rcases q with q | q
      · exact hin k x y q
      · obtain ⟨e, w, w1, w2, rfl, rfl⟩ := @of_decide_eq_true _ (Classical.propDecidable _) q
        have := w1.le hal
        have := w1.le har
        omega
    have := hH.2.1 (fun k x y => S k x y || @decide (k = 30 ∧ ∃ w, bl_w w ∧ S ao (w al) (w ar) = true ∧ x = w al ∧ y = w ar) (Classical.propDecidable _)) (fun k x y q => (by dsimp only; rw [q]; rfl)) (fun k x y q => ?_) k x y hk
    · rw [Bool.or_eq_true] at this
      rcases this with q | q
      · exact Or.inl q
      · exact Or.inr (@of_decide_eq_true _ (Classical.propDecidable _) q)
    · obtain ⟨w, hw, e1, e2, e3⟩ := q
      obtain ⟨w1, w2⟩ := (due _ w hC).mp hw
      rw [Bool.or_eq_true] at w2
      try dsimp only
      rw [Bool.or_eq_true]
      right
      refine @decide_eq_true _ (Classical.propDecidable _) ⟨e1, w, w1, ?_, e2, e3⟩
      rcases w2 with w2 | w2
      · exact w2
      · have := (@of_decide_eq_true _ (Classical.propDecidable _) w2).1
        omega
  refine hp _ _ _ _ S' hin' (fun k x y hk => ?_) (fun x y => ⟨fun q => ?_, fun ⟨w, w1, w2, e1, e2⟩ => ?_⟩)
  · cases a : S' k x y <;> cases b : S k x y
    · rfl
    · rw [hH.1 k x y b] at a; cases a
    · rcases up k x y a with z | ⟨z, -⟩
      · rw [z] at b; cases b
      · exact absurd z hk
    · rfl
  · rcases up 30 x y q with z | ⟨-, z⟩
    · rw [h30] at z; cases z
    · exact z
  · exact hH.2.2.1 30 x y ⟨w, (due S w hin).mpr ⟨w1, w2⟩, rfl, e1, e2⟩
/-- the assignments of a question, and its answers -/
theorem ans_of {pl : Nat → Nat} {M : Nat → Bool} {S S' : SS} {ao al ar : Nat} (hao : ao < 10) (hal1 : 1 ≤ al) (hal : al ≤ 18) (har : ar ≤ 18) (hpa : pl ao = 1 ↔ ar = 0) (hM : relM pl M S 0) (h : ∀ x y, S' 30 x y = true ↔ ∃ w, bl_w w ∧ S ao (w al) (w ar) = true ∧ x = w al ∧ y = w ar) : relA pl M ao al ar S' := by
  intro a b
  rw [h]
  constructor
  · rintro ⟨w, w1, w2, rfl, rfl⟩
    have hr := (hM ao hao _ _).mp (by rw [Nat.zero_add]; exact w2)
    refine ⟨hr.1, ansB_t.mpr ?_⟩
    obtain ⟨b1, b2, b3, b4, b5⟩ := ix_back hr.1 hao
    refine ⟨b1, hr.2, fun h1 => ?_, fun h1 => ?_, fun h1 h2 => ?_⟩
    · have e := w1.1 al h1; omega
    · have hp1 : pl ao ≠ 1 := fun z => by have := hpa.mp z; omega
      rw [if_neg hp1] at b3
      have e := w1.1 ar h1.2
      omega
    · have hp1 : pl ao ≠ 1 := fun z => by have := hpa.mp z; omega
      rw [if_neg hp1] at b3
      subst h2
      omega
  · rintro ⟨hv, ha⟩
    obtain ⟨a1, a2, a3, a4, a5⟩ := ansB_t.mp ha
    obtain ⟨b1, b2, b3, b4, b5⟩ := ix_back hv hao
    have hS := (hM ao hao a b).mpr ⟨hv, a2⟩
    rw [Nat.zero_add] at hS
    have hb : ar ≠ 0 → 1 ≤ b ∧ b ≤ 10 := fun z => hv.2.2.2 (fun y => z (hpa.mp y))
    have hb0 : ar = 0 → b = 0 := fun z => hv.2.2.1 (hpa.mpr z)
    have e3 : ar ≠ 0 → ix3 ao a b % 10 + 1 = b := fun z => by
      have hp1 : pl ao ≠ 1 := fun y => z (hpa.mp y)
      rw [if_neg hp1] at b3
      exact b3
    have ha1 := hv.1
    have ha2 := hv.2.1
    have wal : (if al ≤ 10 then al else a) = a := by
      by_cases z : al ≤ 10
      · rw [if_pos z]; have := a3 z; omega
      · rw [if_neg z]
    have war : ar ≤ 10 → b = ar := fun z => by
      by_cases z0 : ar = 0
      · rw [hb0 z0, z0]
      · have := a4 ⟨by omega, z⟩
        have := e3 z0
        omega
    refine ⟨fun t => if t ≤ 10 then t else if t = al then a else if t = ar then b else 1, ⟨fun t ht => if_pos ht, fun t h1 h2 => ?_⟩, ?_, ?_, ?_⟩
    · dsimp only
      rw [if_neg (by omega)]
      split
      · omega
      · split
        · exact hb (by omega)
        · omega
    · have e1 : (if al ≤ 10 then al else if al = al then a else if al = ar then b else 1) = a := by
        rw [if_pos (rfl : al = al)]; exact wal
      have e2 : (if ar ≤ 10 then ar else if ar = al then a else if ar = ar then b else 1) = b := by
        by_cases z : ar ≤ 10
        · rw [if_pos z]; exact (war z).symm
        · rw [if_neg z, if_pos (rfl : ar = ar)]
          by_cases z2 : ar = al
          · rw [if_pos z2]
            have := a5 (by omega) z2.symm
            have := e3 (by omega)
            omega
          · rw [if_neg z2]
      dsimp only
      rw [e1, e2]
      exact hS
    · dsimp only
      rw [if_pos (rfl : al = al)]; exact wal.symm
    · dsimp only
      by_cases z : ar ≤ 10
      · rw [if_pos z]; exact war z
      · rw [if_neg z, if_pos (rfl : ar = ar)]
        by_cases z2 : ar = al
        · rw [if_pos z2]
          have := a5 (by omega) z2.symm
          have := e3 (by omega)
          omega
        · rw [if_neg z2]
end QA
section QB
variable {pl : Nat → Nat} {Ru : Nat → Bool} {RS : Nat → RU} {nr : Nat}
theorem pm_no (p : Nat) : pm (fun _ => false) p = 0 := by
  unfold pm
  simp [xb_e]
def b0 (t : Nat) : Nat := if t ≤ 10 then t else 0
theorem b0_le {t : Nat} : b0 t ≤ 10 := by unfold b0; split <;> omega
theorem bf_0 (t : Nat) : bf (fun _ => false) t = b0 t := by
  unfold bf b0
  by_cases h : t ≤ 10
  · rw [if_pos h, if_pos h]
  · rw [if_neg h, if_neg h, if_neg (fun z => by cases z.2)]
theorem mk_n : nI (mk (fun _ => false)) = 0 := by rw [mk_0 (fun _ _ _ => rfl)]; rfl
theorem pX_pq {al ar : Nat} (h1 : 1 ≤ al) : pX (b0 al) (b0 ar) = pq al ar := by
  unfold pX pq b0
  congr 1
  · by_cases h : al ≤ 10
    · rw [if_pos h, if_pos h, if_neg (by omega)]
    · rw [if_neg h, if_neg h, if_pos rfl]
  · by_cases h : ar ≤ 10
    · rw [if_pos h]
      by_cases h0 : ar = 0
      · rw [if_pos h0, if_neg (by omega)]
      · rw [if_neg h0, if_pos (by omega)]
    · rw [if_neg h, if_pos rfl, if_neg (by omega)]
theorem dX_cq (t : Nat) : dX (b0 t) = cq t := by
  unfold dX b0 cq
  by_cases h : t ≤ 10
  · rw [if_pos h]
    by_cases h0 : t = 0
    · rw [if_pos h0, if_neg (by omega)]
    · rw [if_neg h0, if_pos (by omega)]
  · rw [if_neg h, if_pos rfl, if_neg (by omega)]
theorem q_startC {post : (Nat → Int32) → (Nat → Int32) → Prop} {qbr qpt : Nat → Int32} {S : SS} {ao al ar : Nat} (hRu : mB qbr Ru 10) (hao : ao < 10) (hal : al ≤ 18) (har : ar ≤ 18)
    (h0 : Ru ao = false → ∀ qpt', (∀ i, i < 10 → qpt' i = nI (pm (fun _ => false) i)) → post qpt' (rF S))
    (h1 : Ru ao = true → ∀ qpt', (∀ i, i < 10 → qpt' i = nI (pm (mS (fun _ => false) (4 * ao + pX (b0 al) (b0 ar))) i)) → post qpt' (rF (ms_put S (10 + ao) (b0 al) (b0 ar)))) : wp_Qd_startCalls post qbr qpt (rF S) (nI ao) (xb_t al) (xb_t ar) := by
  unfold wp_Qd_startCalls
  refine xL_up (fun j s => s.1 = nI j ∧ (∀ i, i < j → s.2.1 i = 0) ∧ s.2.2 = rF S) 10 ?_ (Nat.zero_le _) ⟨rfl, fun i hi => by omega, rfl⟩
  rintro j ⟨ji, q1, f1⟩ hj ⟨z1, z2, z3⟩ K hK
  dsimp only at z1 z2 z3 ⊢
  rw [z1, z3, nI10 hj]
  refine ⟨fun e => ⟨vp_in_nI hao (by decide), ?_⟩, fun e => ⟨vp_in_nI (by omega) (by decide), fun q15 e15 x16 e16 => hK (by omega) _ ⟨by rw [e16, nI_1], fun i hi => ?_, rfl⟩⟩⟩
  · subst e
    have hq : ∀ i, i < 10 → q1 i = nI (pm (fun _ => false) i) := fun i hi => by rw [z2 i hi, pm_no]; rfl
    rw [nI_clamp (by omega), hRu ao hao]
    unfold xj
    rw [bI_t, bI_f]
    refine ⟨fun q => h0 q q1 hq, fun q => ?_⟩
    rw [← mk_n]
    refine q_bof (by omega) (q_bof (by omega) ?_)
    rw [bf_0, bf_0]
    have l1 := b0_le (t := al)
    have l2 := b0_le (t := ar)
    refine q_addP hq hao (by omega) (by omega) (fun q11 h11 => ?_)
    rw [ten_add]
    exact q_put (by omega) (by omega) (by omega) (h1 q q11 h11)
  · dsimp only
    rw [e15, nI_clamp (by omega)]
    unfold upd
    by_cases q : i = j
    · rw [if_pos q]
    · rw [if_neg q]; exact z2 i (by omega)
/-! how many rules there are in the rewritten program -/
theorem sm_add (f g : Nat → Nat) : ∀ n, sm (fun i => f i + g i) n = sm f n + sm g n
  | 0 => rfl
  | n + 1 => by
    show sm (fun i => f i + g i) n + (f n + g n) = sm f n + f n + (sm g n + g n)
    rw [sm_add f g n]; omega
theorem sm_comm (F : Nat → Nat → Nat) (m : Nat) : ∀ n, sm (fun a => sm (F a) m) n = sm (fun b => sm (fun a => F a b) n) m
  | 0 => (sm_zero m (fun _ _ => rfl)).symm
  | n + 1 => by
    show sm (fun a => sm (F a) m) n + sm (F n) m = _
    rw [sm_comm F m n, ← sm_add]
    rfl
theorem sm_blk4 (f : Nat → Nat) : ∀ n, sm f (4 * n) = sm (fun a => f (4 * a) + f (4 * a + 1) + f (4 * a + 2) + f (4 * a + 3)) n
  | 0 => rfl
  | n + 1 => by
    rw [show 4 * (n + 1) = 4 * n + 1 + 1 + 1 + 1 by omega]
    show sm f (4 * n) + f (4 * n) + f (4 * n + 1) + f (4 * n + 1 + 1) + f (4 * n + 1 + 1 + 1) = sm _ n + _
    rw [sm_blk4 f n]
    show _ = sm (fun a => f (4 * a) + f (4 * a + 1) + f (4 * a + 2) + f (4 * a + 3)) n + (f (4 * n) + f (4 * n + 1) + f (4 * n + 2) + f (4 * n + 3))
    rw [show 4 * n + 1 + 1 = 4 * n + 2 by omega, show 4 * n + 2 + 1 = 4 * n + 3 by omega]
    omega
theorem rw_eq {P : Nat → Bool} (hwf : ∀ r, r < nr → wfR pl (RS r)) : sm (rwF RS nr Ru P) 40 = sm (fun r => wtR Ru (RS r) * pS P ((RS r).st 0)) nr := by
  have e1 : sm (rwF RS nr Ru P) 40 = sm (fun q => sm (fun r => if P q = true then rwG RS Ru q r else 0) nr) 40 := sm_congr 40 (fun q _ => by
    unfold rwF
    by_cases h : P q = true
    · rw [if_pos h]
      exact sm_congr nr (fun r _ => by rw [if_pos h])
    · rw [if_neg h]
      exact (sm_zero nr (fun r _ => by rw [if_neg h])).symm)
  rw [e1, sm_comm]
  refine sm_congr nr (fun r hr => ?_)
  have h10 := (hwf r hr).s10 0 (by omega)
  rw [show (40 : Nat) = 4 * 10 from rfl, sm_blk4]
  generalize hh : (RS r).st 0 = h at h10
  rw [sm_one 10 h10 (fun i hi hne => ?_)]
  · unfold rwG pS
    rw [hh]
    rw [if_pos (show h = 4 * h / 4 by omega), if_pos (show h = (4 * h + 1) / 4 by omega), if_pos (show h = (4 * h + 2) / 4 by omega), if_pos (show h = (4 * h + 3) / 4 by omega)]
    show _ = wtR Ru (RS r) * (0 + (if P (4 * h + 0) = true then 1 else 0) + (if P (4 * h + 1) = true then 1 else 0) + (if P (4 * h + 2) = true then 1 else 0) + (if P (4 * h + 3) = true then 1 else 0))
    rw [Nat.add_zero]
    cases P (4 * h) <;> cases P (4 * h + 1) <;> cases P (4 * h + 2) <;> cases P (4 * h + 3) <;> simp <;> omega
  · unfold rwG
    rw [hh]
    rw [if_neg (show ¬ h = 4 * i / 4 by omega), if_neg (show ¬ h = (4 * i + 1) / 4 by omega), if_neg (show ¬ h = (4 * i + 2) / 4 by omega), if_neg (show ¬ h = (4 * i + 3) / 4 by omega)]
    simp
variable {ad : Nat → Nat} {RV : Nat → Prop} {grs grf grc : Nat → Nat → Int32} {gna : Nat → Int32} {nE : Nat} {ec : Nat → Option Nat}
theorem q_countR {post : Int32 → Prop} {qbr qpt : Nat → Int32} {P : Nat → Bool} (hl : lsR ad RV grs grf grc gna nE ec RS nr) (hwf : ∀ r, r < nr → wfR pl (RS r)) (hRu : mB qbr Ru 10) (hq : ∀ i, i < 10 → qpt i = nI (pm P i))
    (h : post (nI (sm (fun r => wtR Ru (RS r) * pS P ((RS r).st 0)) nr))) : wp_Qd_countRewrittenRules post ad RV grs grf grc gna nE ec (nI nr) qbr qpt := by
  have h30 := hl.l30
  have hin0 : vp_in 0 4 := vp_in_nI (n := 0) (by omega) (by decide)
  unfold wp_Qd_countRewrittenRules
  refine xL_up (fun r s => s.1 = nI r ∧ s.2 = nI (sm (fun r => wtR Ru (RS r) * pS P ((RS r).st 0)) r)) nr ?_ (Nat.zero_le _) ⟨rfl, rfl⟩
  rintro r ⟨ri, n⟩ hr ⟨z1, z2⟩ K hK
  dsimp only at z1 z2 ⊢
  rw [z1, z2]
  show (nI nr ≤ nI r → _) ∧ (¬ nI nr ≤ nI r → _)
  rw [nI_leX nr hr (by omega)]
  refine ⟨fun e => by subst e; exact h, fun e => q_get hl (by omega) (fun ix hix hB => ⟨hix, ?_⟩)⟩
  have hR := hwf r (by omega)
  have hn3 := hR.n3
  have h10 := hR.s10 0 (by omega)
  refine xL_up (fun j s => s.1 = nI (j + 1) ∧ s.2 = nI (1 + cn_ (fun j => Ru ((RS r).st (j + 1))) j)) (RS r).n ?_ (Nat.zero_le _) ⟨rfl, rfl⟩
  rintro j ⟨ji, m⟩ hj ⟨y1, y2⟩ K9 hK9
  dsimp only at y1 y2 ⊢
  rw [y1, y2, hB.na, nI_ltI (by omega) (by omega)]
  refine ⟨fun e => ⟨hin0, ?_⟩, fun e => ⟨vp_in_nI (by omega) (by decide), ?_⟩⟩
  · have : j = (RS r).n := by omega
    subst this
    rw [c0_, hB.s 0 (by omega), nI_clamp (by omega), hq _ h10]
    refine ⟨vp_in_nI h10 (by decide), q_pat (fun x12 e12 x13 e13 => hK (by omega) _ ⟨?_, ?_⟩)⟩
    · show x13 = _
      rw [e13, nI_1]
    · show x12 = _
      rw [e12, pk_mul, nI_add]
      rfl
  · have s10 := hR.s10 (j + 1) (by omega)
    rw [nI_clamp (show j + 1 < 2 ^ 31 by omega), hB.s (j + 1) (by omega), nI_clamp (by omega)]
    refine ⟨vp_in_nI s10 (by decide), lh_inc (hRu _ s10) (fun x16 e16 x17 e17 => hK9 (by omega) _ ⟨?_, ?_⟩)⟩
    · show x17 = _
      rw [e17, nI_1]
    · show x16 = _
      rw [e16, nI_add, Nat.add_assoc]
      rfl
end QB
section QC
variable {np : Nat} {pl : Nat → Nat} {Ru : Nat → Bool} {RS : Nat → RU} {nr : Nat} {T M CL P : Nat → Bool} {ao al ar : Nat}
theorem lfM_v (hwf : ∀ r, r < nr → wfR pl (RS r)) (hT : mV pl T) (h : ∀ i, M i = true ↔ lfM RS nr T i) : mV pl M := by
  intro f hf
  have := (h f).mp hf (fun f => decide (f < 1000 ∧ (pl (f / 100) = 1 → f % 10 = 0))) (fun i hi => decide_eq_true (hT i hi)) (fun r hr w hw hb => ?_)
  · exact of_decide_eq_true this
  · have hR := hwf r hr
    obtain ⟨e1, e2, e3, e4, e5⟩ := ix_back (hR.vd (wu_w hw) (k := 0) (by omega)) (hR.s10 0 (by omega))
    rw [hR.ix' (by omega)] at e1 e4 e5
    apply decide_eq_true
    rw [e1]
    exact ⟨e5, e4⟩
/-- a model has facts of the predicates that there are -/
theorem lfM_n (hst : ∀ r, r < nr → (RS r).st 0 < np) (hwf : ∀ r, r < nr → wfR pl (RS r)) (hT : ∀ f, T f = true → f / 100 < np) (h : ∀ i, M i = true ↔ lfM RS nr T i) : ∀ f, M f = true → f / 100 < np := by
  intro f hf
  have := (h f).mp hf (fun f => decide (f / 100 < np)) (fun i hi => decide_eq_true (hT i hi)) (fun r hr w hw hb => ?_)
  · exact of_decide_eq_true this
  · have hR := hwf r hr
    have e1 := (ix_back (hR.vd (wu_w hw) (k := 0) (by omega)) (hR.s10 0 (by omega))).1
    rw [hR.ix' (by omega)] at e1
    apply decide_eq_true
    rw [e1]
    exact hst r hr
theorem caB_lt {R : RU} {j x y t : Nat} {w : Nat → Nat} (hw : w10 w) (ht : t ≤ 18) : caB R j x y w t < 11 := by
  unfold caB
  split
  · omega
  · split
    · omega
    · split
      · have := hw (t - 11); omega
      · omega
theorem lfC_v (hst : ∀ r, r < nr → ∀ k, k ≤ (RS r).n → (RS r).st k < np) (hwf : ∀ r, r < nr → wfR pl (RS r)) (hao : ao < np) (hn : np ≤ 10) (hru : Ru ao = true) (hpa : pl ao = 1 → ar = 0) {z : Nat} (h : lfC M RS nr Ru (121 * ao + 11 * cq al + cq ar) z) : z < 1210 ∧ Ru (z / 121) = true ∧ (pl (z / 121) = 1 → z % 11 = 10) ∧ z / 121 < np := by
  have a := cq_lt al
  have b := cq_lt ar
  have key : z < 1210 ∧ Ru (z / 121) = true ∧ (pl (z / 121) = 1 → z % 11 = 10) ∧ z / 121 < np ↔ decide (z < 1210 ∧ Ru (z / 121) = true ∧ (pl (z / 121) = 1 → z % 11 = 10) ∧ z / 121 < np) = true := decide_eq_true_iff.symm
  rw [key]
  refine h (fun z => decide (z < 1210 ∧ Ru (z / 121) = true ∧ (pl (z / 121) = 1 → z % 11 = 10) ∧ z / 121 < np)) (decide_eq_true ?_) (fun c hc r hr h0 j hj hu w hcf => decide_eq_true ?_)
  · rw [show (121 * ao + 11 * cq al + cq ar) / 121 = ao by omega, show (121 * ao + 11 * cq al + cq ar) % 11 = cq ar by omega]
    refine ⟨by omega, hru, fun e => ?_, hao⟩
    rw [hpa e]; rfl
  · have hR := hwf r hr
    have s10 := hR.s10 (j + 1) (by omega)
    have c1 := caB_lt (R := RS r) (j := j) (x := c / 11 % 11) (y := c % 11) hcf.1 (hR.f18 (j + 1) (by omega))
    have c2 := caB_lt (R := RS r) (j := j) (x := c / 11 % 11) (y := c % 11) hcf.1 (hR.c18 (j + 1) (by omega))
    unfold caT
    generalize hcx : caB (RS r) j (c / 11 % 11) (c % 11) w ((RS r).fs (j + 1)) = cx at c1
    generalize hcy : caB (RS r) j (c / 11 % 11) (c % 11) w ((RS r).sn (j + 1)) = cy at c2
    rw [show (121 * (RS r).st (j + 1) + 11 * cx + cy) / 121 = (RS r).st (j + 1) by omega, show (121 * (RS r).st (j + 1) + 11 * cx + cy) % 11 = cy by omega]
    refine ⟨by omega, hu, fun e => ?_, hst r hr _ (by omega)⟩
    rw [← hcy, (hR.c0 (j + 1) (by omega)).mp e]
    rfl
theorem lfP_v (hst : ∀ r, r < nr → ∀ k, k ≤ (RS r).n → (RS r).st k < np) (hao : ao < np) (hn : np ≤ 10) {z : Nat} (h : lfP RS nr Ru (4 * ao + pq al ar) z) : z < 40 ∧ z / 4 < np := by
  have hq : pq al ar < 4 := by unfold pq; split <;> split <;> omega
  have key : (z < 40 ∧ z / 4 < np) ↔ decide (z < 40 ∧ z / 4 < np) = true := decide_eq_true_iff.symm
  rw [key]
  refine h (fun z => decide (z < 40 ∧ z / 4 < np)) (decide_eq_true ⟨by omega, by omega⟩) (fun q hq r hr h0 j hj hu => decide_eq_true ?_)
  have := hst r hr (j + 1) (by omega)
  have := pb_lt (RS r) j (q % 4)
  exact ⟨by omega, by omega⟩
variable {ad : Nat → Nat} {RV : Nat → Prop} {grs grf grc : Nat → Nat → Int32} {gna : Nat → Int32} {nE : Nat} {ec : Nat → Option Nat} {qpl qbr : Nat → Int32}
theorem relM.nz {S : SS} (h : relM pl M S 0) : nz S := by
  intro k y hk
  cases q : S k 0 y with
  | false => rfl
  | true =>
    have := (h k hk 0 y).mp (by rw [Nat.zero_add]; exact q)
    have := this.1.1
    omega
theorem relM.congr {S S' : SS} {o : Nat} (h : relM pl M S o) (he : ∀ k x y, k < 10 → S' (o + k) x y = S (o + k) x y) : relM pl M S' o := fun k hk x y => by rw [he k x y hk]; exact h k hk x y
theorem lh_ask {post : Int32 → Int32 → Int32 → Int32 → (Nat → Int32) → (Nat → Int32) → (Nat → Int32) → (Nat → Int32) → Int32 → (Nat → Int32) → (Nat → Int32) → (Nat → Int64) → Prop} {qpt rs rf rc : Nat → Int32} {na rw0 aq pn a x y : Int32} {S : SS} {oc : Nat → Int64}
    (hk : kA np pl Ru qpl qbr) (hl : lsR ad RV grs grf grc gna nE ec RS nr) (hwf : ∀ r, r < nr → wfR pl (RS r)) (hst : ∀ r, r < nr → ∀ k, k ≤ (RS r).n → (RS r).st k < np) (hT : relM pl T S 20) (hTv : mV pl T) (hin : ms_in S)
    (h1 : ∀ ao al ar, a = nI ao → ao < np → x = xb_t al → 1 ≤ al → al ≤ 18 → y = xb_t ar → (pl ao = 1 → ar = 0) → (pl ao ≠ 1 → 1 ≤ ar ∧ ar ≤ 18) → ∀ M CL P, (∀ i, M i = true ↔ lfM RS nr T i) → spC M RS nr Ru ao al ar CL → spP RS nr Ru ao al ar P → ∀ S' qpt' rs' rf' rc' na' oc', ms_in S' → relM pl M S' 0 → relC CL S' → relM pl T S' 20 → relA pl M ao al ar S' → (∀ i, i < 10 → qpt' i = nI (pm P i)) → oc' 0 = (nI (cn_ (ansB M ao al ar) 1000)).toInt64 → post 0 (nI (sm (rwF RS nr Ru P) 40)) 1 (nI np) qpt' rs' rf' rc' na' (rF S') (vF vi0) oc')
    (h0 : ¬ okA np pl 1 18 a x y → post 1 rw0 aq pn qpt rs rf rc na (rF S) (vF vi0) oc) :
    wp_La_ask post ad RV grs grf grc gna (nI np) qpl qbr nE ec (nI nr) rw0 aq pn qpt rs rf rc na (rF S) (vF vi0) oc a x y := by
  unfold wp_La_ask wp_Qd_ask
  refine lh_dem (lo := 1) (hi := 18) hk (by decide) (by decide) (by omega) (by omega) (fun ao al ar e1 hao e2 al1 al2 e3 hu1 hu2 => ?_) h0
  have h1 := h1 ao al ar e1 hao e2 al1 al2 e3 hu1 hu2
  have hn := hk.1
  have hRu := hk.2.2.2.2.2
  have hao10 : ao < 10 := by omega
  have har : ar ≤ 18 := u10 hu1 hu2
  have hpa : pl ao = 1 ↔ ar = 0 := ⟨hu1, fun z => by
    apply Classical.byContradiction
    intro w
    have := (hu2 w).1
    omega⟩
  rw [e1, e2, e3]
  refine q_stq ?_
  have hSQ : relM pl T (SQ S) 0 := by
    intro k hk' x y
    have e : SQ S (0 + k) x y = S (20 + k) x y := by
      unfold SQ
      rw [Nat.zero_add, if_pos hk']
    rw [e]
    exact hT k hk' x y
  have hSQin : ms_in (SQ S) := by
    intro k x y q
    unfold SQ at q
    by_cases h10 : k < 10
    · rw [if_pos h10] at q
      have := hin _ _ _ q
      omega
    · rw [if_neg h10] at q
      by_cases h20 : k < 20
      · rw [if_pos h20] at q; cases q
      · rw [if_neg h20] at q
        by_cases h30 : k = 30
        · rw [if_pos h30] at q; cases q
        · rw [if_neg h30] at q; exact hin _ _ _ q
  refine q_findModel hl hwf hSQin (fun S1 hin1 hH1 hl1 => ?_)
  -- the model
  have hM : ∀ i, (fun i => @decide (lfM RS nr T i) (Classical.propDecidable _)) i = true ↔ lfM RS nr T i := fun i => @decide_eq_true_iff _ (Classical.propDecidable _)
  generalize hMd : (fun i => @decide (lfM RS nr T i) (Classical.propDecidable _)) = M at hM
  have hMv := lfM_v hwf hTv hM
  obtain ⟨hrel1, hk1⟩ := model_eq hwf hTv hSQ hM hin1 hH1 hl1
  refine q_findA hao10 al2 har hin1 (fun x y => ?_) (fun rs14 rf15 rc16 na17 S2 hin2 hk2 ha2 => ?_)
  · rw [hk1 30 x y (by omega)]
    unfold SQ
    rw [if_neg (by omega), if_neg (by omega), if_pos rfl]
  have hrel2 : relM pl M S2 0 := hrel1.congr (fun k x y hk' => hk2 _ _ _ (by omega))
  have hans2 : relA pl M ao al ar S2 := ans_of hao10 al1 al2 har hpa hrel1 ha2
  have hT2 : relM pl T S2 20 := hT.congr (fun k x y hk' => by
    rw [hk2 _ _ _ (by omega), hk1 _ _ _ (by omega)]
    unfold SQ
    rw [if_neg (by omega), if_neg (by omega), if_neg (by omega)])
  have hC2 : ∀ k x y, 10 ≤ k → k < 20 → S2 k x y = false := fun k x y h10 h20 => by
    rw [hk2 _ _ _ (by omega), hk1 _ _ _ h10]
    unfold SQ
    rw [if_neg (by omega), if_pos h20]
  have hcnt := ans_size hans2 hMv hao10
  -- the end of it, once the calls are spread
  have fin : ∀ CL P S3 qpt26 rs27 rf28 rc29 na30, spC M RS nr Ru ao al ar CL → spP RS nr Ru ao al ar P → ms_in S3 → (∀ k x y, (k < 10 ∨ 20 ≤ k) → S3 k x y = S2 k x y) → relC CL S3 → (∀ i, i < 10 → qpt26 i = nI (pm P i)) →
      wp_Qd_countRewrittenRules (fun r_33 => wp_Pr_size (fun r_35 => vp_in 0 1 ∧ ∀ oc_13 : Nat → Int64, oc_13 = vp_updL oc (Int32.toNatClampNeg 0) r_35.toInt64 → post 0 r_33 1 (nI np) qpt26 rs27 rf28 rc29 na30 (rF S3) (vF vi0) oc_13) (rF S3) 30) ad RV grs grf grc gna nE ec (nI nr) qbr qpt26 := by
    intro CL P S3 qpt26 rs27 rf28 rc29 na30 hC hP hin3 hk3 hrc hq
    refine q_countR hl hwf hRu hq ?_
    rw [← rw_eq hwf]
    rw [show (30 : Int32) = nI 30 from rfl]
    refine q_size (by omega) ⟨in01, fun oc13 e13 => ?_⟩
    refine h1 M CL P hM hC hP S3 _ _ _ _ _ oc13 hin3 (hrel2.congr (fun k x y hk' => hk3 _ _ _ (by omega))) hrc (hT2.congr (fun k x y hk' => hk3 _ _ _ (by omega))) (fun a b => by rw [hk3 30 a b (by omega)]; exact hans2 a b) hq ?_
    rw [e13]
    show (nI (szS S3 30)).toInt64 = _
    have : szS S3 30 = szS S2 30 := by
      unfold szS
      refine sm_congr 11 (fun x _ => cn_congr 11 (fun y _ => hk3 30 x y (by omega)))
    rw [this, hcnt]
  refine q_startC hRu hao10 al2 har (fun hru qpt22 hq22 => ?_) (fun hru qpt22 hq22 => ?_)
  · refine q_spread hl hwf hRu hq22 (fun i hi => by cases hi) hin2 hrel2.nz (fun P S3 qpt26 rs27 rf28 rc29 na30 hq26 hP40 hin3 hz3 hH3 hU3 => ?_)
    have hsub : ∀ k x y, ov P S3 k x y = true → ov (fun _ => false) S2 k x y = true := by
      intro k x y q
      refine (hU3 k x y).mp q _ ms_sub.rf (fun k x y q => ?_)
      obtain ⟨r, hr, pt, hpt, g1, -⟩ := q
      rw [ov_p ((hwf r hr).s10 0 (by omega)) hpt] at g1
      cases g1
    have hsup : ∀ k x y, ov (fun _ => false) S2 k x y = true → ov P S3 k x y = true := fun k x y q => (hU3 k x y).mpr (fun C hC _ => hC k x y q)
    have hkeep := spread_keep hwf hz3 hrel2.nz hU3
    refine fin (fun _ => false) P S3 _ _ _ _ _ ⟨fun z hz => (by cases hz), fun _ _ => rfl, fun h => (by rw [hru] at h; cases h)⟩ ⟨hP40, fun _ z => ?_, fun h => (by rw [hru] at h; cases h)⟩ hin3 hkeep (fun p hp x y hx hy => ?_) hq26
    · cases hz : P z with
      | false => rfl
      | true =>
        have h40 := hP40 z hz
        have := hsub (z / 4) 0 (z % 4) (by rw [ov_p (by omega) (by omega), show 4 * (z / 4) + z % 4 = z by omega]; exact hz)
        rw [ov_p (by omega) (by omega)] at this
        cases this
    · cases hz : S3 (10 + p) x y with
      | false => rfl
      | true =>
        have := hsub (10 + p) x y (by rw [ov_s (Or.inl (by omega))]; exact hz)
        rw [ov_s (Or.inl (by omega)), hC2 _ _ _ (by omega) (by omega)] at this
        cases this
  · have hpx := pX_lt (b0 al) (b0 ar)
    have l1 := b0_le (t := al)
    have l2 := b0_le (t := ar)
    have hS0 : ∀ k x y, k < 10 ∨ 20 ≤ k → ms_put S2 (10 + ao) (b0 al) (b0 ar) k x y = S2 k x y := fun k x y hk' => by
      unfold ms_put
      rw [if_neg (by omega)]
    have hin0 : ms_in (ms_put S2 (10 + ao) (b0 al) (b0 ar)) := by
      intro k x y q
      unfold ms_put at q
      by_cases e : k = 10 + ao ∧ x = b0 al ∧ y = b0 ar
      · omega
      · rw [if_neg e] at q; exact hin2 k x y q
    have hrel0 : relM pl M (ms_put S2 (10 + ao) (b0 al) (b0 ar)) 0 := hrel2.congr (fun k x y hk' => hS0 _ _ _ (by omega))
    have hP1 : ∀ i, mS (fun _ => false) (4 * ao + pX (b0 al) (b0 ar)) i = true ↔ i = 4 * ao + pX (b0 al) (b0 ar) := fun i => by
      unfold mS
      by_cases e : i = 4 * ao + pX (b0 al) (b0 ar)
      · rw [if_pos e]; exact ⟨fun _ => e, fun _ => rfl⟩
      · rw [if_neg e]; exact ⟨fun z => (by cases z), fun z => absurd z e⟩
    refine q_spread hl hwf hRu hq22 (fun i hi => by have := (hP1 i).mp hi; omega) hin0 hrel0.nz (fun P S3 qpt26 rs27 rf28 rc29 na30 hq26 hP40 hin3 hz3 hH3 hU3 => ?_)
    have hkeep := spread_keep hwf hz3 hrel0.nz hU3
    have hkeep2 : ∀ k x y, (k < 10 ∨ 20 ≤ k) → S3 k x y = S2 k x y := fun k x y hk' => (hkeep k x y hk').trans (hS0 k x y hk')
    have hrel3 : relM pl M S3 0 := hrel2.congr (fun k x y hk' => hkeep2 _ _ _ (by omega))
    have hcall := spread_call hwf hrel3 hz3 hrel0.nz hin3 hao10 (show b0 al < 11 by omega) (show b0 ar < 11 by omega) (fun e => by rw [hu1 e]; rfl) hP1 (fun k x y h10 h20 => by
      unfold ms_put
      by_cases e : k = 10 + ao ∧ x = b0 al ∧ y = b0 ar
      · rw [if_pos e]; exact ⟨fun _ => e, fun _ => rfl⟩
      · rw [if_neg e, hC2 k x y h10 h20]; exact ⟨fun z => (by cases z), fun z => absurd z e⟩) hH3 hU3
    have hci : ci ao (b0 al) (b0 ar) = 121 * ao + 11 * cq al + cq ar := by
      unfold ci
      rw [dX_cq, dX_cq]
    have hCLd : ∀ z, (fun z => @decide (lfC M RS nr Ru (121 * ao + 11 * cq al + cq ar) z) (Classical.propDecidable _)) z = true ↔ lfC M RS nr Ru (121 * ao + 11 * cq al + cq ar) z := fun z => @decide_eq_true_iff _ (Classical.propDecidable _)
    generalize (fun z => @decide (lfC M RS nr Ru (121 * ao + 11 * cq al + cq ar) z) (Classical.propDecidable _)) = CL at hCLd
    refine fin CL P S3 _ _ _ _ _ ⟨fun z hz => (lfC_v hst hwf hao hn hru hu1 ((hCLd z).mp hz)).1, fun h => (by rw [hru] at h; cases h), fun _ => hCLd⟩ ⟨hP40, fun h => (by rw [hru] at h; cases h), fun _ z => ?_⟩ hin3 hkeep2 (fun p hp x y hx hy => ?_) hq26
    · have := spread_pat hwf (q0 := 4 * ao + pX (b0 al) (b0 ar)) (by omega) hP40 hP1 hH3 hU3 z
      rw [pX_pq al1] at this
      exact this
    · have hc := hcall p x y hp hx hy
      rw [hci] at hc
      cases a1 : S3 (10 + p) x y <;> cases a2 : CL (ci p x y)
      · rfl
      · rw [hc.mpr ((hCLd _).mp a2)] at a1; cases a1
      · rw [(hCLd _).mpr (hc.mp a1)] at a2; cases a2
      · rfl
end QC
