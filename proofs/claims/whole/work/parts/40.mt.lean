/-! THE MATCHER ON SETS -/
theorem c0_ : Int32.toNatClampNeg 0 = 0 := by decide
def oI : Option Nat → Int32
  | some x => xb_t x
  | none => -2
theorem vF_at (v : Nat → Option Nat) {j : Nat} (h : j < 20) : vF v j = oI (v j) := by
  unfold vF
  rw [if_pos h]
  cases v j <;> rfl
theorem xb_t_ne : ∀ x, x ≤ 19 → ¬ xb_t x = -2 := by decide +kernel
theorem vF_up (v : Nat → Option Nat) {t x : Nat} (ht : t < 20) : upd (vF v) t (xb_t x) = vF (ms_vu v t x) := by
  funext j
  unfold upd
  by_cases q : j = t
  · subst q
    rw [if_pos rfl, vF_at _ ht]
    simp [ms_vu, oI]
  · rw [if_neg q]
    unfold vF ms_vu
    by_cases h : j < 20
    · rw [if_pos h, if_pos h, if_neg q]
    · rw [if_neg h, if_neg h]
theorem vF_no (v : Nat → Option Nat) {t x : Nat} (ht : t < 20) (hv : v t = none) : upd (vF (ms_vu v t x)) t (-2) = vF v := by
  funext j
  unfold upd
  by_cases q : j = t
  · subst q
    rw [if_pos rfl, vF_at _ ht, hv]
    rfl
  · rw [if_neg q]
    unfold vF ms_vu
    by_cases h : j < 20
    · rw [if_pos h, if_pos h, if_neg q]
    · rw [if_neg h, if_neg h]
theorem vF_nn (v : Nat → Option Nat) {t : Nat} (ht : t < 20) (hv : v t = none) : upd (vF v) t (-2) = vF v := by
  funext j
  unfold upd
  by_cases q : j = t
  · subst q
    rw [if_pos rfl, vF_at _ ht, hv]
    rfl
  · rw [if_neg q]
theorem vF_uu (v : Nat → Option Nat) {t x y : Nat} (ht : t < 20) : upd (vF (ms_vu v t x)) t (xb_t y) = vF (ms_vu v t y) := by
  rw [vF_up _ ht]
  congr 1
  funext i
  simp only [ms_vu]
  by_cases q : i = t
  · rw [if_pos q, if_pos q]
  · rw [if_neg q, if_neg q, if_neg q]
/-- a rule in its arrays -/
abbrev rl_ (rs rf rc : Nat → Int32) (na : Int32) (st fs sn : Nat → Nat) (n : Nat) : Prop := (na = nI n) ∧ (n ≤ 3) ∧ (∀ i, i ≤ n → rs i = nI (st i)) ∧ (∀ i, i ≤ n → st i < 31) ∧ (∀ i, i ≤ n → rf i = xb_t (fs i)) ∧ (∀ i, i ≤ n → fs i ≤ 19) ∧ (∀ i, i ≤ n → rc i = xb_t (sn i)) ∧ (∀ i, i ≤ n → sn i ≤ 19) ∧ (fs 0 ≤ 18) ∧ (sn 0 ≤ 18)
theorem rl_.na {rs rf rc : Nat → Int32} {na : Int32} {st fs sn : Nat → Nat} {n : Nat} (h_ : rl_ rs rf rc na st fs sn n) : na = nI n := h_.1
theorem rl_.n3 {rs rf rc : Nat → Int32} {na : Int32} {st fs sn : Nat → Nat} {n : Nat} (h_ : rl_ rs rf rc na st fs sn n) : n ≤ 3 := h_.2.1
theorem rl_.s {rs rf rc : Nat → Int32} {na : Int32} {st fs sn : Nat → Nat} {n : Nat} (h_ : rl_ rs rf rc na st fs sn n) : ∀ i, i ≤ n → rs i = nI (st i) := h_.2.2.1
theorem rl_.s31 {rs rf rc : Nat → Int32} {na : Int32} {st fs sn : Nat → Nat} {n : Nat} (h_ : rl_ rs rf rc na st fs sn n) : ∀ i, i ≤ n → st i < 31 := h_.2.2.2.1
theorem rl_.f {rs rf rc : Nat → Int32} {na : Int32} {st fs sn : Nat → Nat} {n : Nat} (h_ : rl_ rs rf rc na st fs sn n) : ∀ i, i ≤ n → rf i = xb_t (fs i) := h_.2.2.2.2.1
theorem rl_.f19 {rs rf rc : Nat → Int32} {na : Int32} {st fs sn : Nat → Nat} {n : Nat} (h_ : rl_ rs rf rc na st fs sn n) : ∀ i, i ≤ n → fs i ≤ 19 := h_.2.2.2.2.2.1
theorem rl_.c {rs rf rc : Nat → Int32} {na : Int32} {st fs sn : Nat → Nat} {n : Nat} (h_ : rl_ rs rf rc na st fs sn n) : ∀ i, i ≤ n → rc i = xb_t (sn i) := h_.2.2.2.2.2.2.1
theorem rl_.c19 {rs rf rc : Nat → Int32} {na : Int32} {st fs sn : Nat → Nat} {n : Nat} (h_ : rl_ rs rf rc na st fs sn n) : ∀ i, i ≤ n → sn i ≤ 19 := h_.2.2.2.2.2.2.2.1
theorem rl_.f0 {rs rf rc : Nat → Int32} {na : Int32} {st fs sn : Nat → Nat} {n : Nat} (h_ : rl_ rs rf rc na st fs sn n) : fs 0 ≤ 18 := h_.2.2.2.2.2.2.2.2.1
theorem rl_.c0 {rs rf rc : Nat → Int32} {na : Int32} {st fs sn : Nat → Nat} {n : Nat} (h_ : rl_ rs rf rc na st fs sn n) : sn 0 ≤ 18 := h_.2.2.2.2.2.2.2.2.2
/-- a term of the head without a value stands in the atoms from a on -/
def rl_hd (fs sn : Nat → Nat) (n : Nat) (v : Nat → Option Nat) (a : Nat) : Prop := ∀ t, (t = fs 0 ∨ t = sn 0) → v t = none → ∃ i, a ≤ i ∧ i ≤ n ∧ (fs i = t ∨ sn i = t)
def rl_h2 (fs sn : Nat → Nat) (n : Nat) (v : Nat → Option Nat) (a : Nat) : Prop := ∀ t, (t = fs 0 ∨ t = sn 0) → v t = none → sn a = t ∨ ∃ i, a + 1 ≤ i ∧ i ≤ n ∧ (fs i = t ∨ sn i = t)
abbrev WAt : Type := (Int32 → (Nat → Int32) → (Nat → Int32) → Prop) → (Nat → Int32) → (Nat → Int32) → (Nat → Int32) → Int32 → (Nat → Int32) → (Nat → Int32) → Int32 → Prop
abbrev WSt : Type := (Int32 → (Nat → Int32) → (Nat → Int32) → Prop) → (Nat → Int32) → (Nat → Int32) → (Nat → Int32) → Int32 → (Nat → Int32) → (Nat → Int32) → Int32 → Int32 → Prop
def sA (WA : WAt) (rs rf rc : Nat → Int32) (na : Int32) (st fs sn : Nat → Nat) (n a : Nat) : Prop := ∀ (post : Int32 → (Nat → Int32) → (Nat → Int32) → Prop) (S : SS) (v : Nat → Option Nat), ms_V v → rl_hd fs sn n v a →
  (∀ r S', ms_A st fs sn n v a S r S' → post (bI r) (rF S') (vF v)) → WA post rs rf rc na (rF S) (vF v) (nI a)
def sB (WB : WSt) (rs rf rc : Nat → Int32) (na : Int32) (st fs sn : Nat → Nat) (n a : Nat) : Prop := ∀ (post : Int32 → (Nat → Int32) → (Nat → Int32) → Prop) (S : SS) (v : Nat → Option Nat) (g : Nat → Bool), ms_V v → rl_h2 fs sn n v a →
  (∀ r S', ms_B st fs sn n v a g S r S' → post (bI r) (rF S') (vF v)) → WB post rs rf rc na (rF S) (vF v) (nI a) (nI (xb_enc g))
theorem ms_V.lt {v : Nat → Option Nat} (hV : ms_V v) {t x : Nat} (ht : t ≤ 19) (h : v t = some x) : x < 11 := by
  by_cases q : t ≤ 10
  · rw [hV.1 t q] at h
    cases h
    omega
  · by_cases q2 : t ≤ 18
    · have := hV.2.1 t x (by omega) q2 h
      omega
    · have : t = 19 := by omega
      subst this
      rw [hV.2.2] at h
      cases h
theorem ms_V.no {v : Nat → Option Nat} (hV : ms_V v) {t : Nat} (ht : t ≤ 18) (h : v t = none) : 11 ≤ t := by
  by_cases q : t ≤ 10
  · rw [hV.1 t q] at h; cases h
  · omega
theorem bI_or (a b : Bool) : bI a ||| bI b = bI (a || b) := by cases a <;> cases b <;> decide
theorem bI_t {b : Bool} : ¬ bI b = 0 ↔ b = true := by cases b <;> decide
theorem bI_f {b : Bool} : bI b = 0 ↔ b = false := by cases b <;> decide
/-- the loop through the ten constants: x is nI j -/
theorem nI10 {j : Nat} (hj : j ≤ 10) : 10 ≤ nI j ↔ j = 10 := by
  rw [show (10 : Int32) = nI 10 from rfl, nI_leI (by omega) (by omega)]
  omega
theorem xL_up {σ : Type} {B : (σ → Prop) → σ → Prop} (I : Nat → σ → Prop) (e : Nat) (hs : ∀ j s, j ≤ e → I j s → ∀ K : σ → Prop, (j < e → ∀ s', I (j + 1) s' → K s') → B K s) {j : Nat} {s : σ} (hj : j ≤ e) (h : I j s) : xL B s := by
  have key : ∀ d j s, j ≤ e → e - j < d → I j s → xl B d s := by
    intro d
    induction d with
    | zero => intro j s _ h; omega
    | succ d ih => intro j s h1 h2 h3; exact hs j s h1 h3 _ (fun hl s' h4 => ih (j + 1) s' hl (by omega) h4)
  exact ⟨_, key (e - j + 1) j s hj (by omega) h⟩
def an_ (p : Nat → Bool) : Nat → Bool
  | 0 => false
  | n + 1 => an_ p n || p n
theorem an_iff {p : Nat → Bool} : ∀ {n : Nat}, an_ p n = true ↔ ∃ x, x < n ∧ p x = true
  | 0 => ⟨fun h => (by cases h), fun h => (by obtain ⟨x, h1, _⟩ := h; omega)⟩
  | n + 1 => by
    unfold an_
    rw [Bool.or_eq_true, an_iff]
    constructor
    · rintro (⟨x, h1, h2⟩ | h)
      · exact ⟨x, by omega, h2⟩
      · exact ⟨n, by omega, h⟩
    · rintro ⟨x, h1, h2⟩
      by_cases q : x = n
      · subst q; exact Or.inr h2
      · exact Or.inl ⟨x, by omega, h2⟩
theorem q_any {post : Int32 → Prop} {S : SS} {k : Nat} (hk : k < 31) (h : post (nI (xb_enc (fun y => an_ (fun x => S k (x + 1) y) 10)))) : wp_Pr_rowOfAny post (rF S) (nI k) := by
  unfold wp_Pr_rowOfAny
  refine xL_up (fun j s => s.1 = nI j ∧ s.2 = nI (xb_enc (fun y => an_ (fun x => S k (x + 1) y) j))) 10 ?_ (Nat.zero_le 10) ⟨rfl, by simp only [an_]; rw [xb_zero]; rfl⟩
  rintro j ⟨x, r⟩ hj ⟨e1, e2⟩ K hK
  dsimp only at e1 e2 ⊢
  rw [e1, e2, nI10 hj]
  refine ⟨fun e => by subst e; exact h, fun e => ?_⟩
  rw [← xb_t1 j]
  refine q_row hk (by omega) (fun x5 e5 x6 e6 => hK (by omega) _ ⟨by rw [e6, xb_t1, nI_1], ?_⟩)
  rw [e5, xb_orI, xb_or]
  simp only [an_]
theorem q_has_mono {P Q : Int32 → Prop} {f : Nat → Int32} {k x y : Int32} (h : ∀ r, P r → Q r) (z : wp_Pr_has P f k x y) : wp_Pr_has Q f k x y := by
  unfold wp_Pr_has wp_Pr_row wp_Pr_isIn xj at *
  exact ⟨z.1, fun q => ⟨(z.2.1 q).1, (z.2.1 q).2.1, h _ (z.2.1 q).2.2⟩, fun q => ⟨(z.2.2 q).1, (z.2.2 q).2.1, h _ (z.2.2 q).2.2⟩⟩
section MT
variable {rs rf rc : Nat → Int32} {na : Int32} {st fs sn : Nat → Nat} {n a : Nat}
theorem xt_19 : ∀ t, t ≤ 19 → (xb_t t = 18 ↔ t = 19) := by decide +kernel
theorem st_mA {WS : WSt} (hr : rl_ rs rf rc na st fs sn n) (hWS : a ≤ n → sB WS rs rf rc na st fs sn n a) (ha : a ≤ 4) (ha1 : 1 ≤ a) : sA (wp_Mt_matchAtom WS) rs rf rc na st fs sn n a := by
  intro post S v hV hd hp
  have hna := hr.na
  subst hna
  unfold wp_Mt_matchAtom
  have h3 := hr.n3
  have hf0 := hr.f0
  have hc0 := hr.c0
  rw [c0_, hr.f 0 (by omega), hr.c 0 (by omega), hr.s 0 (by omega), xb_t_add, xb_t_add, nI_clamp (by omega), nI_clamp (by omega)]
  rw [vF_at v (by omega), vF_at v (by omega)]
  have hin0 : vp_in 0 4 := vp_in_nI (n := 0) (by omega) (by decide)
  refine ⟨hin0, vp_in_nI (by omega) (by decide), ?_⟩
  intro x1 e1
  refine ⟨hin0, vp_in_nI (by omega) (by decide), ?_⟩
  intro x2 e2
  have hs0 := hr.s31 0 (by omega)
  refine xj_of ?_ (fun v3 => (v3 = 1 ∧ ∃ x y, v (fs 0) = some x ∧ v (sn 0) = some y) ∨ (v3 = 0 ∧ (v (fs 0) = none ∨ v (sn 0) = none))) ?_ ?_
  · intro P Q h
    unfold xj
    exact fun z => ⟨fun q => h _ (z.1 q), fun q => ⟨fun q2 => h _ ((z.2 q).1 q2), fun q2 => h _ ((z.2 q).2 q2)⟩⟩
  · intro v3 hv3
    refine xj_of ?_ (fun _ => True) ?_ ?_
    · intro P Q h z
      refine ⟨fun q => h _ (z.1 q), fun q => ⟨(z.2 q).1, ?_⟩⟩
      exact q_has_mono (fun r hr => ⟨fun q => h _ (hr.1 q), fun q => hr.2 q⟩) (z.2 q).2
    · intro _ _
      rw [nI_leI (by omega) (by omega)]
      refine ⟨fun han => ?_, fun han => ?_⟩
      · have hin : vp_in (nI a) 4 := vp_in_nI (by omega) (by decide)
        refine ⟨hin, ?_⟩
        rw [nI_clamp (by omega), hr.s a han, hr.f a han]
        intro x7 e7
        refine ⟨hin, ?_⟩
        intro x8 e8
        subst e7; subst e8
        have hfa := hr.f19 a han
        have hsa := hr.s31 a han
        rw [xt_19 _ hfa]
        have hB := hWS han
        refine ⟨fun h19 => ?_, fun h19 => ?_⟩
        · rw [xb_t_add, nI_clamp (by omega), vF_at v (by omega)]
          have hin2 : vp_in (nI (fs a)) 20 := vp_in_nI (by omega) (by decide)
          refine ⟨hin2, ?_⟩
          cases hva : v (fs a) with
          | none =>
            have h18 : fs a ≤ 18 := by omega
            have h11 := hV.no h18 hva
            refine ⟨fun _ => ?_, fun q => absurd rfl q⟩
            refine xL_up (fun j s => s.1 = nI j ∧ ∃ (r : Bool) (S' : SS) (v' : Nat → Option Nat), s.2.1 = bI r ∧ s.2.2.1 = rF S' ∧ s.2.2.2 = vF v' ∧ (v' = v ∨ ∃ x, v' = ms_vu v (fs a) x) ∧ ms_G (fun C w => ∃ x, 1 ≤ x ∧ x ≤ j ∧ ms_PA st fs sn n (ms_vu v (fs a) x) a C w) (st 0) (fs 0) (sn 0) S r S') 10 ?_ (Nat.zero_le 10) ⟨rfl, false, S, v, rfl, rfl, rfl, Or.inl rfl, ms_L0⟩
            rintro j ⟨j1, r1, f1, v1⟩ hj ⟨q1, r, S', v', q2, q3, q4, q5, q6⟩ K hK
            dsimp only at q1 q2 q3 q4 ⊢
            rw [q1, q2, q3, q4, nI10 hj]
            refine ⟨fun e10 => ⟨hin2, fun v11 e11 => ⟨bI_nar r, ?_⟩⟩, fun e10 => ⟨hin2, fun v12 e12 => ?_⟩⟩
            · have : v11 = vF v := by
                rw [e11]
                rcases q5 with rfl | ⟨x, rfl⟩
                · exact vF_nn _ (by omega) hva
                · exact vF_no _ (by omega) hva
              rw [this]
              subst e10
              exact hp r S' (ms_A_open rfl hva h11 h18 q6)
            · have : v12 = vF (ms_vu v (fs a) (j + 1)) := by
                rw [e12, ← xb_t1 j]
                rcases q5 with rfl | ⟨x, rfl⟩
                · exact vF_up _ (by omega)
                · exact vF_uu _ (by omega)
              rw [this, ← xb_t1 j]
              have hV' : ms_V (ms_vu v (fs a) (j + 1)) := hV.up h11 h18 (by omega) (by omega)
              have hva' : ms_vu v (fs a) (j + 1) (fs a) = some (j + 1) := if_pos rfl
              refine q_row hsa (by omega) (hB _ S' _ (S' (st a) (j + 1)) hV' ?_ (fun r' S'' hm => ?_))
              · intro t ht hv
                have hne : t ≠ fs a := fun e => by
                  rw [e, hva'] at hv
                  cases hv
                have hv0 : v t = none := by
                  have : (if t = fs a then some (j + 1) else v t) = none := hv
                  rwa [if_neg hne] at this
                obtain ⟨i, i1, i2, i3⟩ := hd t ht hv0
                by_cases qi : i = a
                · subst qi
                  rcases i3 with z | z
                  · exact absurd z.symm hne
                  · exact Or.inl z
                · exact Or.inr ⟨i, by omega, i2, i3⟩
              · intro x19 e19 x20 e20
                refine hK (by omega) _ ⟨by rw [e20, xb_t1, nI_1], r || r', S'', ms_vu v (fs a) (j + 1), by rw [e19, bI_or], rfl, rfl, Or.inr ⟨_, rfl⟩, ?_⟩
                exact ms_LS (F := fun x C w => ms_PA st fs sn n (ms_vu v (fs a) x) a C w) ms_PA_mono q6 (ms_A_val han h19 (by omega) hva' (fun _ _ => rfl) hm)
          | some x =>
            have hx := hV.lt hfa hva
            refine ⟨fun q => absurd q (xb_t_ne x (by omega)), fun _ => ⟨hin2, ?_⟩⟩
            have hh2 : rl_h2 fs sn n v a := fun t ht hv => by
              obtain ⟨i, i1, i2, i3⟩ := hd t ht hv
              by_cases qi : i = a
              · subst qi
                rcases i3 with z | z
                · rw [← z, hva] at hv; cases hv
                · exact Or.inl z
              · exact Or.inr ⟨i, by omega, i2, i3⟩
            refine q_row hsa hx (hB _ S v (S (st a) x) hV hh2 (fun r S' hm => ⟨bI_nar r, hp r S' ?_⟩))
            exact ms_A_val han h19 hx hva (fun _ _ => rfl) hm
        · have hh2 : rl_h2 fs sn n v a := fun t ht hv => by
            obtain ⟨i, i1, i2, i3⟩ := hd t ht hv
            by_cases qi : i = a
            · subst qi
              rcases i3 with z | z
              · rcases ht with ht | ht <;> omega
              · exact Or.inl z
            · exact Or.inr ⟨i, by omega, i2, i3⟩
          refine q_any hsa (hB _ S v _ hV hh2 (fun r S' hm => ⟨bI_nar r, hp r S' ?_⟩))
          refine ms_A_any han h19 (fun y hy => ?_) hm
          rw [an_iff]
          constructor
          · rintro ⟨x, h1, h2⟩; exact ⟨x + 1, by omega, by omega, h2⟩
          · rintro ⟨x, h1, h2, h4⟩; exact ⟨x - 1, by omega, by rw [show x - 1 + 1 = x by omega]; exact h4⟩
      · have hk : ∃ x y, v (fs 0) = some x ∧ v (sn 0) = some y := by
          cases g1 : v (fs 0) with
          | none =>
            obtain ⟨i, i1, i2, -⟩ := hd _ (Or.inl rfl) g1
            omega
          | some x =>
            cases g2 : v (sn 0) with
            | none =>
              obtain ⟨i, i1, i2, -⟩ := hd _ (Or.inr rfl) g2
              omega
            | some y => exact ⟨x, y, rfl, rfl⟩
        obtain ⟨x, y, g1, g2⟩ := hk
        unfold xj
        rcases hv3 with ⟨e3, -⟩ | ⟨-, g | g⟩
        · rw [e1, e2, g1, g2]
          refine ⟨fun q => absurd (e3.symm.trans q) (by decide), fun _ => ⟨hin0, ?_⟩⟩
          have hA := ms_A_end (st := st) (S := S) (fs := fs) (sn := sn) (n := n) (a := a) (by omega) hV g1 g2
          refine q_put hs0 (hV.lt (by omega) g1) (hV.lt (by omega) g2) ?_
          cases hs : S (st 0) x y with
          | true =>
            rw [hs] at hA
            exact ⟨fun _ => ⟨bI_nar false, hp false _ hA⟩, fun q => absurd rfl q⟩
          | false =>
            rw [hs] at hA
            exact ⟨fun q => absurd q (by decide), fun _ => ⟨bI_nar true, hp true _ hA⟩⟩
        · rw [g1] at g; cases g
        · rw [g2] at g; cases g
    · refine ⟨fun q => trivial, fun q => ⟨hin0, ?_⟩⟩
      rcases hv3 with ⟨e3, x, y, h1, h2⟩ | ⟨e3, -⟩
      · rw [e1, e2, h1, h2]
        refine q_has hs0 (hV.lt (by omega) h1) (hV.lt (by omega) h2) ⟨fun _ => trivial, fun hh => ?_⟩
        exact hp false S (ms_A_known h1 h2 (bI_t.mp hh))
      · exact absurd e3 q
  · unfold xj
    refine ⟨fun q => Or.inr ⟨rfl, Or.inl ?_⟩, fun q => ⟨fun q2 => Or.inr ⟨rfl, Or.inr ?_⟩, fun q2 => Or.inl ⟨rfl, ?_⟩⟩⟩
    · cases g : v (fs 0) with
      | none => rfl
      | some x => rw [g] at e1; exact absurd (e1.symm.trans q) (xb_t_ne x (by have := hV.lt (by omega) g; omega))
    · cases g : v (sn 0) with
      | none => rfl
      | some x => rw [g] at e2; exact absurd (e2.symm.trans q2) (xb_t_ne x (by have := hV.lt (by omega) g; omega))
    · cases g : v (fs 0) with
      | none => rw [g] at e1; exact absurd e1 q
      | some x =>
        cases g2 : v (sn 0) with
        | none => rw [g2] at e2; exact absurd e2 q2
        | some y => exact ⟨x, y, rfl, rfl⟩
end MT
section MT3
variable {rs rf rc : Nat → Int32} {na : Int32} {st fs sn : Nat → Nat} {n a : Nat}
theorem sh1 (g : Nat → Bool) : nI (xb_enc g) >>> (1 &&& 31) = 0 ↔ ∀ j, 1 ≤ j → j < 11 → g j = false := xb_shr0 g (k := 1) (by omega)
theorem st_mB {WA : WAt} (hr : rl_ rs rf rc na st fs sn n) (han : a ≤ n) (ha1 : 1 ≤ a) (hWA : sA WA rs rf rc na st fs sn n (a + 1)) : sB (wp_Mt_matchSecond WA) rs rf rc na st fs sn n a := by
  intro post S v g hV hd hp
  have h3 := hr.n3
  have hf0 := hr.f0
  have hc0 := hr.c0
  have hin : vp_in (nI a) 4 := vp_in_nI (by omega) (by decide)
  unfold wp_Mt_matchSecond
  rw [nI_clamp (by omega), hr.c a han]
  have hca := hr.c19 a han
  refine ⟨hin, ?_⟩
  intro x1 e1
  subst e1
  rw [xt_19 _ hca]
  have drop : ∀ {w : Nat → Option Nat}, ms_V w → (∀ t, (t = fs 0 ∨ t = sn 0) → w t = none → v t = none) → (sn a = 19 ∨ w (sn a) ≠ none) → rl_hd fs sn n w (a + 1) := by
    intro w hw hvw hs t ht hv
    rcases hd t ht (hvw t ht hv) with z | z
    · rcases hs with q | q
      · rcases ht with ht | ht <;> omega
      · rw [z] at q; exact absurd hv q
    · exact z
  refine ⟨fun h19 => ?_, fun h19 => ?_⟩
  · rw [xb_t_add, nI_clamp (by omega), vF_at v (by omega)]
    have hin2 : vp_in (nI (sn a)) 20 := vp_in_nI (by omega) (by decide)
    refine ⟨hin2, ?_⟩
    cases hva : v (sn a) with
    | none =>
      have h18 : sn a ≤ 18 := by omega
      have h11 := hV.no h18 hva
      refine ⟨fun _ => ?_, fun q => absurd rfl q⟩
      refine xL_up (fun j s => s.1 = nI j ∧ ∃ (r : Bool) (S' : SS) (v' : Nat → Option Nat), s.2.1 = bI r ∧ s.2.2.1 = rF S' ∧ s.2.2.2 = vF v' ∧ (v' = v ∨ ∃ x, v' = ms_vu v (sn a) x) ∧ ms_G (fun C w => ∃ y, 1 ≤ y ∧ y ≤ j ∧ (g y = true ∧ ms_PA st fs sn n (ms_vu v (sn a) y) (a + 1) C w)) (st 0) (fs 0) (sn 0) S r S') 10 ?_ (Nat.zero_le 10) ⟨rfl, false, S, v, rfl, rfl, rfl, Or.inl rfl, ms_L0⟩
      rintro j ⟨j1, r1, f1, v1⟩ hj ⟨q1, r, S', v', q2, q3, q4, q5, q6⟩ K hK
      dsimp only at q1 q2 q3 q4 ⊢
      rw [q1, q2, q3, q4, nI10 hj]
      have fin : ms_G (fun C w => ∃ y, 1 ≤ y ∧ y ≤ 10 ∧ (g y = true ∧ ms_PA st fs sn n (ms_vu v (sn a) y) (a + 1) C w)) (st 0) (fs 0) (sn 0) S r S' → vp_in (nI (sn a)) 20 ∧ ∀ (v_6 : Nat → Int32), v_6 = upd (vF v') (sn a) (-2) → narrow FieldType.boolean (Value.int (bI r)) = Value.int (bI r) ∧ post (bI r) (rF S') v_6 := by
        intro hG
        refine ⟨hin2, fun v11 e11 => ⟨bI_nar r, ?_⟩⟩
        have : v11 = vF v := by
          rw [e11]
          rcases q5 with rfl | ⟨x, rfl⟩
          · exact vF_nn _ (by omega) hva
          · exact vF_no _ (by omega) hva
        rw [this]
        exact hp r S' (ms_B_open rfl hva h11 h18 hG)
      unfold xj
      refine ⟨fun e10 => ?_, fun e10 => ?_⟩
      · subst e10
        exact fin q6
      · have hj10 : j < 10 := by omega
        rw [nI_1, xb_shr0 g (by omega)]
        refine ⟨fun hz => fin (ms_Lx hj (fun x C w z1 z2 z3 => ?_) q6), fun hz => ?_⟩
        · rw [hz x (by omega) (by omega)] at z3
          exact Bool.noConfusion z3.1
        · rw [← xb_t1 j]
          refine q_isIn (by omega) ?_
          cases hg : g (j + 1) with
          | false =>
            refine ⟨fun _ x11 e11 => hK hj10 _ ⟨e11, r, S', v', rfl, rfl, rfl, q5, ?_⟩, fun q => absurd rfl q⟩
            have h0 : ms_G (fun C w => g (j + 1) = true ∧ ms_PA st fs sn n (ms_vu v (sn a) (j + 1)) (a + 1) C w) (st 0) (fs 0) (sn 0) S' false S' := ms_G.none (fun w hw => by rw [hg] at hw; exact Bool.noConfusion hw.1)
            have h1 := ms_LS (F := fun y C w => g y = true ∧ ms_PA st fs sn n (ms_vu v (sn a) y) (a + 1) C w) (fun C C' hC w hw => ⟨hw.1, ms_PA_mono C C' hC w hw.2⟩) q6 h0
            rw [Bool.or_false] at h1
            exact h1
          | true =>
            refine ⟨fun q => absurd q (by decide), fun _ => ⟨hin2, fun v12 e12 => ?_⟩⟩
            have : v12 = vF (ms_vu v (sn a) (j + 1)) := by
              rw [e12]
              rcases q5 with rfl | ⟨x, rfl⟩
              · exact vF_up _ (by omega)
              · exact vF_uu _ (by omega)
            rw [this, nI_1]
            have hV' : ms_V (ms_vu v (sn a) (j + 1)) := hV.up h11 h18 (by omega) (by omega)
            have hva' : ms_vu v (sn a) (j + 1) (sn a) = some (j + 1) := if_pos rfl
            refine hWA _ S' _ hV' (drop hV' ?_ (Or.inr (by rw [hva']; exact fun z => by cases z))) (fun r' S'' hm => ?_)
            · intro t ht hv
              have : (if t = sn a then some (j + 1) else v t) = none := hv
              by_cases e : t = sn a
              · rw [if_pos e] at this; cases this
              · rwa [if_neg e] at this
            · intro x17 e17 x11 e11
              refine hK hj10 _ ⟨e11, r || r', S'', ms_vu v (sn a) (j + 1), by rw [e17, bI_or], rfl, rfl, Or.inr ⟨_, rfl⟩, ?_⟩
              have h0 : ms_G (fun C w => g (j + 1) = true ∧ ms_PA st fs sn n (ms_vu v (sn a) (j + 1)) (a + 1) C w) (st 0) (fs 0) (sn 0) S' r' S'' := hm.conv (fun C _ w hw => ⟨hg, hw⟩) (fun w hw => hw.2)
              exact ms_LS (F := fun y C w => g y = true ∧ ms_PA st fs sn n (ms_vu v (sn a) y) (a + 1) C w) (fun C C' hC w hw => ⟨hw.1, ms_PA_mono C C' hC w hw.2⟩) q6 h0
    | some y =>
      have hy := hV.lt hca hva
      refine ⟨fun q => absurd q (xb_t_ne y (by omega)), fun _ => ⟨hin2, ?_⟩⟩
      refine q_isIn hy ?_
      unfold xj
      cases hg : g y with
      | false => exact ⟨fun _ => ⟨bI_nar false, hp false S (ms_B_val0 h19 hva hg)⟩, fun q => absurd rfl q⟩
      | true =>
        refine ⟨fun q => absurd q (by decide), fun _ => ?_⟩
        rw [nI_1]
        refine hWA _ S v hV (drop hV (fun _ _ h => h) (Or.inr (by rw [hva]; exact fun z => by cases z))) (fun r' S' hm => ?_)
        have hm' := ms_B_val h19 hy hva hg hm
        cases r' with
        | false => exact ⟨fun _ => ⟨bI_nar false, hp false S' hm'⟩, fun q => absurd rfl q⟩
        | true => exact ⟨fun q => absurd q (by decide), fun _ => ⟨bI_nar true, hp true S' hm'⟩⟩
  · unfold xj
    rw [sh1]
    refine ⟨fun hz => ⟨bI_nar false, hp false S (ms_B_any0 h19 hz)⟩, fun hz => ?_⟩
    have hex : ∃ y, 1 ≤ y ∧ y < 11 ∧ g y = true := by
      apply Classical.byContradiction
      intro hn
      apply hz
      intro j j1 j2
      cases hg : g j with
      | false => rfl
      | true => exact absurd ⟨j, j1, j2, hg⟩ hn
    rw [nI_1]
    refine hWA _ S v hV (drop hV (fun _ _ h => h) (Or.inl h19)) (fun r' S' hm => ?_)
    have hm' := ms_B_any h19 hex hm
    cases r' with
    | false => exact ⟨fun _ => ⟨bI_nar false, hp false S' hm'⟩, fun q => absurd rfl q⟩
    | true => exact ⟨fun q => absurd q (by decide), fun _ => ⟨bI_nar true, hp true S' hm'⟩⟩
/-- a rule is followed -/
theorem q_follow {post : Int32 → (Nat → Int32) → (Nat → Int32) → Prop} {S : SS} {v : Nat → Option Nat} (hr : rl_ rs rf rc na st fs sn n) (hV : ms_V v) (hd : rl_hd fs sn n v 1) (hp : ∀ r S', ms_A st fs sn n v 1 S r S' → post (bI r) (rF S') (vF v)) : wp_Mt_follow post rs rf rc na (rF S) (vF v) := by
  have h3 := hr.n3
  have A0 : ∀ a, 1 ≤ a → a ≤ 4 → n < a → sA wp_Mt_matchAtom_0 rs rf rc na st fs sn n a := fun a h1 h2 h4 => st_mA hr (fun q => by omega) h2 h1
  have A1 : ∀ a, 1 ≤ a → a ≤ 4 → n < a + 1 → sA wp_Mt_matchAtom_1 rs rf rc na st fs sn n a := fun a h1 h2 h4 => st_mA hr (fun q => st_mB hr q h1 (A0 (a + 1) (by omega) (by omega) (by omega))) h2 h1
  have A2 : ∀ a, 1 ≤ a → a ≤ 4 → n < a + 2 → sA wp_Mt_matchAtom_2 rs rf rc na st fs sn n a := fun a h1 h2 h4 => st_mA hr (fun q => st_mB hr q h1 (A1 (a + 1) (by omega) (by omega) (by omega))) h2 h1
  have A3 : ∀ a, 1 ≤ a → a ≤ 4 → n < a + 3 → sA wp_Mt_matchAtom_3 rs rf rc na st fs sn n a := fun a h1 h2 h4 => st_mA hr (fun q => st_mB hr q h1 (A2 (a + 1) (by omega) (by omega) (by omega))) h2 h1
  unfold wp_Mt_follow
  exact A3 1 (by omega) (by omega) (by omega) _ S v hV hd (fun r S' hm => ⟨bI_nar r, hp r S' hm⟩)
end MT3
