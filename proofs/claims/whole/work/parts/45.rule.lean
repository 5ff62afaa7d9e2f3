section MK
/-! MASKS OF VARIABLES: bit t - 1 stands for the place t, 11 .. 18 -/
def mk (g : Nat → Bool) : Nat := xb_e (fun b => decide (10 ≤ b) && g (b + 1)) 18
theorem mk_lt (g : Nat → Bool) : mk g < 262144 := xb_e_lt _ 18
theorem mk_bit (g : Nat → Bool) (j : Nat) : (mk g).testBit j = (decide (10 ≤ j ∧ j < 18) && g (j + 1)) := by
  unfold mk
  rw [xb_e_bit]
  by_cases h1 : j < 18 <;> by_cases h2 : 10 ≤ j <;> simp [h1, h2]
theorem mk_ext {g : Nat → Bool} {n : Nat} (h : ∀ j, n.testBit j = (decide (10 ≤ j ∧ j < 18) && g (j + 1))) : n = mk g := by
  apply Nat.eq_of_testBit_eq
  intro j
  rw [h j, mk_bit]
theorem mk_or (g k : Nat → Bool) : mk g ||| mk k = mk (fun t => g t || k t) := mk_ext (fun j => by rw [Nat.testBit_or, mk_bit, mk_bit, Bool.and_or_distrib_left])
theorem mk_and (g k : Nat → Bool) : mk g &&& mk k = mk (fun t => g t && k t) := mk_ext (fun j => by
  rw [Nat.testBit_and, mk_bit, mk_bit]
  cases decide (10 ≤ j ∧ j < 18) <;> simp)
theorem mk_congr {g k : Nat → Bool} (h : ∀ t, 11 ≤ t → t ≤ 18 → g t = k t) : mk g = mk k := mk_ext (fun j => by
  rw [mk_bit]
  by_cases q : 10 ≤ j ∧ j < 18
  · rw [h (j + 1) (by omega) (by omega)]
  · rw [decide_eq_false q]; rfl)
theorem mk_0 {g : Nat → Bool} (h : ∀ t, 11 ≤ t → t ≤ 18 → g t = false) : mk g = 0 := (mk_ext (fun j => by
  rw [Nat.zero_testBit]
  by_cases q : 10 ≤ j ∧ j < 18
  · rw [h (j + 1) (by omega) (by omega), Bool.and_false]
  · rw [decide_eq_false q]; rfl)).symm
theorem mk_n0 {g : Nat → Bool} {t : Nat} (h1 : 11 ≤ t) (h2 : t ≤ 18) (h : g t = true) : mk g ≠ 0 := by
  intro e
  have := mk_bit g (t - 1)
  rw [e, Nat.zero_testBit, decide_eq_true (show 10 ≤ t - 1 ∧ t - 1 < 18 by omega), show t - 1 + 1 = t by omega, h] at this
  cases this
theorem mkI_0 {g : Nat → Bool} : nI (mk g) = 0 ↔ ∀ t, 11 ≤ t → t ≤ 18 → g t = false := by
  have hl := mk_lt g
  rw [show (0 : Int32) = nI 0 from rfl, nI_eq (by omega) (by omega)]
  constructor
  · intro e t h1 h2
    cases hg : g t with
    | false => rfl
    | true => exact absurd e (mk_n0 h1 h2 hg)
  · exact mk_0
theorem mkI_or (g k : Nat → Bool) : nI (mk g) ||| nI (mk k) = nI (mk (fun t => g t || k t)) := by rw [xb_orI, mk_or]
theorem mkI_and (g k : Nat → Bool) : nI (mk g) &&& nI (mk k) = nI (mk (fun t => g t && k t)) := by rw [xb_andI, mk_and]
theorem mkI_not (g k : Nat → Bool) : nI (mk g) &&& (nI (mk k) ^^^ (-1)) = nI (mk (fun t => g t && !(k t))) := by
  apply Int32.toBitVec_inj.1
  show BitVec.ofNat 32 (mk g) &&& (BitVec.ofNat 32 (mk k) ^^^ (-1 : Int32).toBitVec) = BitVec.ofNat 32 (mk (fun t => g t && !(k t)))
  have e : (-1 : Int32).toBitVec = BitVec.allOnes 32 := by decide
  rw [e]
  apply BitVec.eq_of_getLsbD_eq
  intro i hi
  simp only [BitVec.getLsbD_and, BitVec.getLsbD_xor, BitVec.getLsbD_ofNat, BitVec.getLsbD_allOnes, hi, decide_true, Bool.true_and, mk_bit, Bool.xor_true]
  cases decide (10 ≤ i ∧ i < 18) <;> cases g (i + 1) <;> cases k (i + 1) <;> rfl
def on (t : Nat) : Nat → Bool := fun u => decide (u = t)
theorem vb_all : ∀ t, t ≤ 19 → 11 ≤ t ∧ t ≤ 18 → (1 : Int32) <<< (xb_t t &&& 31) = nI (mk (on t)) := by decide +kernel
theorem q_isVar {post : Int32 → Prop} {t : Nat} (ht : t ≤ 19) (h : post (bI (decide (11 ≤ t ∧ t ≤ 18)))) : wp_Qd_isVariable post (xb_t t) := by
  unfold wp_Qd_isVariable xj
  have a : ∀ t, t ≤ 19 → (xb_t t < 10 ↔ t ≤ 10) ∧ (17 < xb_t t ↔ t = 19) := by decide +kernel
  rw [(a t ht).1, (a t ht).2]
  refine ⟨fun q => ⟨rfl, ?_⟩, fun q => ⟨fun q2 => ⟨rfl, ?_⟩, fun q2 => ⟨rfl, ?_⟩⟩⟩
  · rw [decide_eq_false (by omega)] at h; exact h
  · rw [decide_eq_false (by omega)] at h; exact h
  · rw [decide_eq_true (by omega)] at h; exact h
theorem q_vb {post : Int32 → Prop} {t : Nat} (ht : t ≤ 19) (h : post (nI (mk (on t)))) : wp_Qd_variableBit post (xb_t t) := by
  unfold wp_Qd_variableBit
  refine q_isVar ht ?_
  unfold xj
  refine ⟨fun q => ?_, fun q => ?_⟩
  · have q := of_decide_eq_false (bI_f.mp q)
    have e : mk (on t) = 0 := mk_0 (fun u h1 h2 => decide_eq_false (by omega))
    rw [e] at h
    exact h
  · have q := of_decide_eq_true (bI_t.mp q)
    rw [vb_all t ht q]
    exact h
/-- a term that is known, or free -/
def bf (g : Nat → Bool) (t : Nat) : Nat := if t ≤ 10 then t else if t ≤ 18 ∧ g t = true then t else 0
theorem q_bof {post : Int32 → Prop} {t : Nat} {g : Nat → Bool} (ht : t ≤ 19) (h : post (xb_t (bf g t))) : wp_Qd_boundOrFree post (xb_t t) (nI (mk g)) := by
  unfold wp_Qd_boundOrFree xj
  have a : ∀ t, t ≤ 19 → (xb_t t < 10 ↔ t ≤ 10) := by decide +kernel
  rw [a t ht]
  unfold bf at h
  refine ⟨fun q => ?_, fun q => q_vb ht ?_⟩
  · rw [if_pos q] at h; exact h
  · rw [if_neg q] at h
    rw [mkI_and, mkI_0]
    refine ⟨fun q2 => ?_, fun q2 => ?_⟩
    · rw [if_neg] at h
      · exact h
      · rintro ⟨h1, h2⟩
        have := q2 t (by omega) h1
        unfold on at this
        rw [h2, decide_eq_true rfl] at this
        cases this
    · rw [if_pos] at h
      · exact h
      · apply Classical.byContradiction
        intro hn
        apply q2
        intro u h1 h2
        unfold on
        by_cases e : u = t
        · subst e
          cases hg : g u with
          | false => rw [Bool.and_false]
          | true => exact absurd ⟨h2, hg⟩ hn
        · rw [decide_eq_false e]; rfl
/-- a rule's contents -/
abbrev rq (rs rf rc : Nat → Int32) (na : Int32) (st fs sn : Nat → Nat) (n : Nat) : Prop := (na = nI n) ∧ (n ≤ 3) ∧ (∀ i, i ≤ n → rs i = nI (st i)) ∧ (∀ i, i ≤ n → rf i = xb_t (fs i)) ∧ (∀ i, i ≤ n → rc i = xb_t (sn i))
theorem rq.na {rs rf rc : Nat → Int32} {na : Int32} {st fs sn : Nat → Nat} {n : Nat} (h_ : rq rs rf rc na st fs sn n) : na = nI n := h_.1
theorem rq.n3 {rs rf rc : Nat → Int32} {na : Int32} {st fs sn : Nat → Nat} {n : Nat} (h_ : rq rs rf rc na st fs sn n) : n ≤ 3 := h_.2.1
theorem rq.s {rs rf rc : Nat → Int32} {na : Int32} {st fs sn : Nat → Nat} {n : Nat} (h_ : rq rs rf rc na st fs sn n) : ∀ i, i ≤ n → rs i = nI (st i) := h_.2.2.1
theorem rq.f {rs rf rc : Nat → Int32} {na : Int32} {st fs sn : Nat → Nat} {n : Nat} (h_ : rq rs rf rc na st fs sn n) : ∀ i, i ≤ n → rf i = xb_t (fs i) := h_.2.2.2.1
theorem rq.c {rs rf rc : Nat → Int32} {na : Int32} {st fs sn : Nat → Nat} {n : Nat} (h_ : rq rs rf rc na st fs sn n) : ∀ i, i ≤ n → rc i = xb_t (sn i) := h_.2.2.2.2
theorem q_begin {post : (Nat → Int32) → (Nat → Int32) → (Nat → Int32) → Int32 → Prop} {rs rf rc : Nat → Int32} {na : Int32} {k x y : Nat} {st fs sn : Nat → Nat} (h : ∀ rs' rf' rc' na', rq rs' rf' rc' na' (cU st 0 k) (cU fs 0 x) (cU sn 0 y) 0 → post rs' rf' rc' na') : wp_Ru_begin post rs rf rc na (nI k) (xb_t x) (xb_t y) := by
  unfold wp_Ru_begin wp_Ru_write
  have hin : vp_in 0 4 := vp_in_nI (n := 0) (by omega) (by decide)
  rw [c0_]
  refine ⟨hin, fun rs1 e1 => ⟨hin, fun rf2 e2 => ⟨hin, fun rc3 e3 => h _ _ _ _ ⟨rfl, by omega, fun i hi => ?_, fun i hi => ?_, fun i hi => ?_⟩⟩⟩⟩
  · rw [e1, show i = 0 by omega]; rfl
  · rw [e2, show i = 0 by omega]; rfl
  · rw [e3, show i = 0 by omega]; rfl
theorem q_append {post : (Nat → Int32) → (Nat → Int32) → (Nat → Int32) → Int32 → Prop} {rs rf rc : Nat → Int32} {na : Int32} {k x y n : Nat} {st fs sn : Nat → Nat} (hr : rq rs rf rc na st fs sn n) (hn : n < 3) (h : ∀ rs' rf' rc' na', rq rs' rf' rc' na' (cU st (n + 1) k) (cU fs (n + 1) x) (cU sn (n + 1) y) (n + 1) → post rs' rf' rc' na') : wp_Ru_append post rs rf rc na (nI k) (xb_t x) (xb_t y) := by
  unfold wp_Ru_append xj wp_Ru_write
  rw [hr.na, show (3 : Int32) = nI 3 from rfl, nI_leI (by omega) (by omega), nI_1]
  refine ⟨fun q => by omega, fun _ => ?_⟩
  have hin : vp_in (nI (n + 1)) 4 := vp_in_nI (by omega) (by decide)
  rw [nI_clamp (by omega)]
  have key : ∀ (g : Nat → Int32) (c : Int32) (i : Nat), i ≤ n + 1 → upd g (n + 1) c i = if i = n + 1 then c else g i := fun g c i _ => rfl
  refine ⟨hin, fun rs1 e1 => ⟨hin, fun rf2 e2 => ⟨hin, fun rc3 e3 => h _ _ _ _ ⟨rfl, by omega, fun i hi => ?_, fun i hi => ?_, fun i hi => ?_⟩⟩⟩⟩
  · dsimp only
    rw [e1, key _ _ i hi]
    by_cases e : i = n + 1
    · rw [if_pos e, e, cU_s]
    · rw [if_neg e, cU_n e]; exact hr.s i (by omega)
  · dsimp only
    rw [e2, key _ _ i hi]
    by_cases e : i = n + 1
    · rw [if_pos e, e, cU_s]
    · rw [if_neg e, cU_n e]; exact hr.f i (by omega)
  · dsimp only
    rw [e3, key _ _ i hi]
    by_cases e : i = n + 1
    · rw [if_pos e, e, cU_s]
    · rw [if_neg e, cU_n e]; exact hr.c i (by omega)
theorem rq.congr {rs rf rc : Nat → Int32} {na : Int32} {st fs sn st' fs' sn' : Nat → Nat} {n : Nat} (h : rq rs rf rc na st fs sn n) (h1 : ∀ i, i ≤ n → st i = st' i) (h2 : ∀ i, i ≤ n → fs i = fs' i) (h3 : ∀ i, i ≤ n → sn i = sn' i) : rq rs rf rc na st' fs' sn' n :=
  ⟨h.na, h.n3, fun i hi => by rw [h.s i hi, h1 i hi], fun i hi => by rw [h.f i hi, h2 i hi], fun i hi => by rw [h.c i hi, h3 i hi]⟩
theorem q_appendB {post : (Nat → Int32) → (Nat → Int32) → (Nat → Int32) → Int32 → Prop} {ors orf orc rs rf rc : Nat → Int32} {ona na : Int32} {m a : Nat} {st fs sn ost ofs osn : Nat → Nat} (ho : rq ors orf orc ona ost ofs osn m) (hr : rq rs rf rc na st fs sn 1) (ha1 : 1 ≤ a) (ha : a ≤ m)
    (h : ∀ rs' rf' rc' na', rq rs' rf' rc' na' (fun i => if i ≤ 1 then st i else ost (i - 1)) (fun i => if i ≤ 1 then fs i else ofs (i - 1)) (fun i => if i ≤ 1 then sn i else osn (i - 1)) a → post rs' rf' rc' na') : wp_Ru_appendBefore post ors orf orc ona rs rf rc na (nI a) := by
  have hm := ho.n3
  unfold wp_Ru_appendBefore
  refine xL_up (fun j s => 1 ≤ j ∧ s.1 = nI j ∧ rq s.2.1 s.2.2.1 s.2.2.2.1 s.2.2.2.2 (fun i => if i ≤ 1 then st i else ost (i - 1)) (fun i => if i ≤ 1 then fs i else ofs (i - 1)) (fun i => if i ≤ 1 then sn i else osn (i - 1)) j) a ?_ (j := 1) ha1 ⟨Nat.le_refl _, rfl, hr.congr (fun i hi => (if_pos hi).symm) (fun i hi => (if_pos hi).symm) (fun i hi => (if_pos hi).symm)⟩
  rintro j ⟨ji, rs1, rf1, rc1, na1⟩ hj ⟨j1, z1, z2⟩ K hK
  dsimp only at z1 z2 ⊢
  rw [z1, nI_leX a hj (by omega), ho.na, nI_ltI (by omega) (by omega)]
  unfold xj
  refine ⟨fun e => h _ _ _ _ (e ▸ z2), fun e => ⟨fun q => by omega, fun _ => ?_⟩⟩
  have hin : vp_in (nI j) 4 := vp_in_nI (by omega) (by decide)
  rw [nI_clamp (by omega), ho.s j (by omega), ho.f j (by omega), ho.c j (by omega)]
  refine ⟨hin, hin, hin, q_append z2 (by omega) (fun rs' rf' rc' na' hq x11 e11 => hK (by omega) _ ⟨by omega, by rw [e11, nI_1], hq.congr (fun i hi => ?_) (fun i hi => ?_) (fun i hi => ?_)⟩)⟩
  · by_cases e : i = j + 1
    · rw [e, cU_s, if_neg (by omega), show j + 1 - 1 = j by omega]
    · rw [cU_n e]
  · by_cases e : i = j + 1
    · rw [e, cU_s, if_neg (by omega), show j + 1 - 1 = j by omega]
    · rw [cU_n e]
  · by_cases e : i = j + 1
    · rw [e, cU_s, if_neg (by omega), show j + 1 - 1 = j by omega]
    · rw [cU_n e]
/-- the variables of an atom -/
theorem q_varsOf {post : Int32 → Prop} {rf rc : Nat → Int32} {fs sn : Nat → Nat} {a : Nat} (ha : a ≤ 3) (hf : rf a = xb_t (fs a)) (hc : rc a = xb_t (sn a)) (hf9 : fs a ≤ 19) (hc9 : sn a ≤ 19) (h : post (nI (mk (fun t => on (fs a) t || on (sn a) t)))) : wp_Ru_variablesOf post rf rc (nI a) := by
  unfold wp_Ru_variablesOf
  have hin : vp_in (nI a) 4 := vp_in_nI (by omega) (by decide)
  rw [nI_clamp (by omega), hf, hc]
  refine ⟨hin, q_vb hf9 ⟨hin, q_vb hc9 ?_⟩⟩
  rw [mkI_or]
  exact h
/-- whether each variable of the head is in the body -/
def sfB (fs sn : Nat → Nat) (n : Nat) : Prop := ∀ t, 11 ≤ t → t ≤ 18 → (fs 0 = t ∨ sn 0 = t) → ∃ i, 1 ≤ i ∧ i ≤ n ∧ (fs i = t ∨ sn i = t)
theorem q_safe {post : Int32 → Prop} {rs rf rc : Nat → Int32} {na : Int32} {st fs sn : Nat → Nat} {n : Nat} (hr : rq rs rf rc na st fs sn n) (hf9 : ∀ i, i ≤ n → fs i ≤ 19) (hc9 : ∀ i, i ≤ n → sn i ≤ 19) (h1 : sfB fs sn n → post 1) (h0 : ¬ sfB fs sn n → post 0) : wp_Ru_isSafe post rf rc na := by
  have hn := hr.n3
  unfold wp_Ru_isSafe
  rw [hr.na]
  refine xL_up (fun j s => s.1 = nI (j + 1) ∧ s.2 = nI (mk (fun t => an_ (fun i => on (fs (i + 1)) t || on (sn (i + 1)) t) j))) n ?_ (Nat.zero_le _) ⟨rfl, (by show nI 0 = nI _; exact (congrArg nI (mk_0 (fun t _ _ => rfl))).symm)⟩
  rintro j ⟨ji, b⟩ hj ⟨z1, z2⟩ K hK
  dsimp only at z1 z2 ⊢
  rw [z1, z2, nI_ltI (by omega) (by omega)]
  refine ⟨fun e => ?_, fun e => ?_⟩
  · have : j = n := by omega
    subst this
    refine q_varsOf (a := 0) (by omega) (hr.f 0 (by omega)) (hr.c 0 (by omega)) (hf9 0 (by omega)) (hc9 0 (by omega)) ?_
    rw [mkI_not, mkI_0]
    have key : (∀ t, 11 ≤ t → t ≤ 18 → ((on (fs 0) t || on (sn 0) t) && !(an_ (fun i => on (fs (i + 1)) t || on (sn (i + 1)) t) j)) = false) ↔ sfB fs sn j := by
      unfold sfB
      constructor
      · intro q t t1 t2 t3
        have := q t t1 t2
        rw [Bool.and_eq_false_iff] at this
        rcases this with z | z
        · exfalso
          unfold on at z
          rw [Bool.or_eq_false_iff] at z
          rcases t3 with t3 | t3
          · exact of_decide_eq_false z.1 t3.symm
          · exact of_decide_eq_false z.2 t3.symm
        · have z : an_ (fun i => on (fs (i + 1)) t || on (sn (i + 1)) t) j = true := by simpa using z
          obtain ⟨i, i1, i2⟩ := an_iff.mp z
          refine ⟨i + 1, by omega, by omega, ?_⟩
          rw [Bool.or_eq_true] at i2
          rcases i2 with i2 | i2
          · exact Or.inl (of_decide_eq_true i2).symm
          · exact Or.inr (of_decide_eq_true i2).symm
      · intro q t t1 t2
        by_cases z : fs 0 = t ∨ sn 0 = t
        · obtain ⟨i, i1, i2, i3⟩ := q t t1 t2 z
          have : an_ (fun i => on (fs (i + 1)) t || on (sn (i + 1)) t) j = true := by
            refine an_iff.mpr ⟨i - 1, by omega, ?_⟩
            rw [show i - 1 + 1 = i by omega, Bool.or_eq_true]
            rcases i3 with i3 | i3
            · exact Or.inl (decide_eq_true i3.symm)
            · exact Or.inr (decide_eq_true i3.symm)
          rw [this]; simp
        · have : (on (fs 0) t || on (sn 0) t) = false := by
            unfold on
            rw [decide_eq_false (fun e => z (Or.inl e.symm)), decide_eq_false (fun e => z (Or.inr e.symm))]; rfl
          rw [this]; rfl
    rw [key]
    unfold xj
    exact ⟨fun q => ⟨rfl, h0 q⟩, fun q => ⟨rfl, h1 q⟩⟩
  · refine q_varsOf (a := j + 1) (by omega) (hr.f _ (by omega)) (hr.c _ (by omega)) (hf9 _ (by omega)) (hc9 _ (by omega)) (fun x9 e9 x10 e10 => hK (by omega) _ ⟨by rw [e10, nI_1], ?_⟩)
    rw [e9, mkI_or]
    rfl
/-- a place's term once the lone variables are blanked -/
def blT (fs sn : Nat → Nat) (n q : Nat) : Nat := if 11 ≤ bl_T fs sn q ∧ bl_T fs sn q ≤ 18 ∧ ¬ (an_ (fun q' => on (bl_T fs sn q') (bl_T fs sn q) && an_ (fun p => on (bl_T fs sn p) (bl_T fs sn q)) q') (2 * n + 2) = true) then 19 else bl_T fs sn q
theorem q_bu {post : Int32 → Prop} {g : Nat → Bool} {t : Nat} (ht : t ≤ 19) (h : post (xb_t (if 11 ≤ t ∧ t ≤ 18 ∧ ¬ g t = true then 19 else t))) : wp_Ru_blankUnless post (nI (mk g)) (xb_t t) := by
  unfold wp_Ru_blankUnless
  refine q_isVar ht ?_
  unfold xj
  refine ⟨fun q => ?_, fun q => q_vb ht ?_⟩
  · have q := of_decide_eq_false (bI_f.mp q)
    rw [if_neg (fun z => q ⟨z.1, z.2.1⟩)] at h
    exact h
  · have q := of_decide_eq_true (bI_t.mp q)
    rw [mkI_and, mkI_0]
    have key : (∀ u, 11 ≤ u → u ≤ 18 → (on t u && g u) = false) ↔ ¬ g t = true := by
      constructor
      · intro z hg
        have := z t q.1 q.2
        unfold on at this
        rw [hg, decide_eq_true rfl] at this
        cases this
      · intro z u h1 h2
        unfold on
        by_cases e : u = t
        · subst e
          cases hg : g u with
          | false => rw [Bool.and_false]
          | true => exact absurd hg z
        · rw [decide_eq_false e]; rfl
    rw [key]
    refine ⟨fun z => ?_, fun z => ?_⟩
    · rw [if_neg (fun y => z y.2.2)] at h; exact h
    · rw [if_pos ⟨q.1, q.2, z⟩] at h; exact h
theorem q_blank {post : (Nat → Int32) → (Nat → Int32) → Prop} {rs rf rc : Nat → Int32} {na : Int32} {st fs sn : Nat → Nat} {n : Nat} (hr : rq rs rf rc na st fs sn n) (hf9 : ∀ i, i ≤ n → fs i ≤ 19) (hc9 : ∀ i, i ≤ n → sn i ≤ 19)
    (h : ∀ rf' rc', rq rs rf' rc' na st (fun i => blT fs sn n (2 * i)) (fun i => blT fs sn n (2 * i + 1)) n → post rf' rc') : wp_Ru_blankLoneVariables post na rf rc := by
  have hn := hr.n3
  have hna := hr.na
  subst hna
  unfold wp_Ru_blankLoneVariables
  refine xL_up (fun j s => s.1 = nI j ∧ s.2.1 = nI (mk (fun t => an_ (fun q' => on (bl_T fs sn q') t && an_ (fun p => on (bl_T fs sn p) t) q') (2 * j))) ∧ s.2.2 = nI (mk (fun t => an_ (fun p => on (bl_T fs sn p) t) (2 * j)))) (n + 1) ?_ (Nat.zero_le _) ⟨rfl, (by show nI 0 = nI _; exact (congrArg nI (mk_0 (fun t _ _ => rfl))).symm), (by show nI 0 = nI _; exact (congrArg nI (mk_0 (fun t _ _ => rfl))).symm)⟩
  rintro j ⟨ji, ag, on1⟩ hj ⟨z1, z2, z3⟩ K hK
  dsimp only at z1 z2 z3 ⊢
  rw [z1, z2, z3, nI_ltI (by omega) (by omega)]
  refine ⟨fun e => ?_, fun e => ?_⟩
  · have : j = n + 1 := by omega
    subst this
    rw [show 2 * (n + 1) = 2 * n + 2 by omega]
    refine xL_up (fun j s => s.1 = nI j ∧ (∀ i, i ≤ n → s.2.1 i = xb_t (if i < j then blT fs sn n (2 * i) else fs i)) ∧ (∀ i, i ≤ n → s.2.2 i = xb_t (if i < j then blT fs sn n (2 * i + 1) else sn i))) (n + 1) ?_ (Nat.zero_le _) ⟨rfl, fun i hi => (by rw [if_neg (by omega)]; exact hr.f i hi), fun i hi => (by rw [if_neg (by omega)]; exact hr.c i hi)⟩
    rintro j ⟨ji, rf1, rc1⟩ hj ⟨y1, y2, y3⟩ K4 hK4
    dsimp only at y1 y2 y3 ⊢
    rw [y1, nI_ltI (by omega) (by omega)]
    refine ⟨fun e => h _ _ ⟨rfl, hn, hr.s, fun i hi => (by rw [y2 i hi, if_pos (by omega)]), fun i hi => (by rw [y3 i hi, if_pos (by omega)])⟩, fun e => ?_⟩
    have hin : vp_in (nI j) 4 := vp_in_nI (by omega) (by decide)
    rw [nI_clamp (by omega), y2 j (by omega), y3 j (by omega), if_neg (by omega), if_neg (by omega)]
    refine ⟨hin, q_bu (hf9 j (by omega)) ⟨hin, fun rf7 e7 => ⟨hin, q_bu (hc9 j (by omega)) ⟨hin, fun rc10 e10 x11 e11 => hK4 (by omega) _ ⟨by rw [e11, nI_1], fun i hi => ?_, fun i hi => ?_⟩⟩⟩⟩⟩
    · dsimp only
      rw [e7]
      unfold upd
      by_cases q : i = j
      · rw [if_pos q, if_pos (show i < j + 1 by omega), q]
        unfold blT
        rw [bl_T0]
      · rw [if_neg q, y2 i hi]
        by_cases q2 : i < j
        · rw [if_pos q2, if_pos (show i < j + 1 by omega)]
        · rw [if_neg q2, if_neg (show ¬ i < j + 1 by omega)]
    · dsimp only
      rw [e10]
      unfold upd
      by_cases q : i = j
      · rw [if_pos q, if_pos (show i < j + 1 by omega), q]
        unfold blT
        rw [bl_T1]
      · rw [if_neg q, y3 i hi]
        by_cases q2 : i < j
        · rw [if_pos q2, if_pos (show i < j + 1 by omega)]
        · rw [if_neg q2, if_neg (show ¬ i < j + 1 by omega)]
  · have hin : vp_in (nI j) 4 := vp_in_nI (by omega) (by decide)
    have hf := hf9 j (by omega)
    have hc := hc9 j (by omega)
    rw [nI_clamp (by omega), hr.f j (by omega), hr.c j (by omega)]
    refine ⟨hin, q_vb hf (fun x14 e14 => ⟨hin, q_vb hf (fun x17 e17 => ⟨hin, q_vb hc (fun x20 e20 => ⟨hin, q_vb hc (fun x23 e23 x24 e24 => hK (by omega) _ ⟨(by rw [e24, nI_1]), ?_, ?_⟩)⟩)⟩)⟩)⟩
    · dsimp only
      rw [e20, e14, e17, mkI_and, mkI_or, mkI_or, mkI_and, mkI_or]
      refine congrArg nI (mk_congr (fun t _ _ => ?_))
      rw [show 2 * (j + 1) = 2 * j + 1 + 1 by omega]
      simp only [an_, bl_T0, bl_T1]
      generalize an_ (fun q' => on (bl_T fs sn q') t && an_ (fun p => on (bl_T fs sn p) t) q') (2 * j) = b1
      generalize an_ (fun p => on (bl_T fs sn p) t) (2 * j) = b2
      generalize on (fs j) t = b3
      generalize on (sn j) t = b4
      cases b1 <;> cases b2 <;> cases b3 <;> cases b4 <;> rfl
    · dsimp only
      rw [e23, e17, mkI_or, mkI_or]
      refine congrArg nI (mk_congr (fun t _ _ => ?_))
      rw [show 2 * (j + 1) = 2 * j + 1 + 1 by omega]
      simp only [an_, bl_T0, bl_T1]
end MK
