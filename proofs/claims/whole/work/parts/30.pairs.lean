/-! PAIRS' METHODS ON SETS: the rows of a set of pairs -/
def rF (S : SS) : Nat → Int32 := fun i => nI (xb_enc (S (i / 11) (i % 11)))
def bI (b : Bool) : Int32 := nI (if b = true then 1 else 0)
theorem bI_nar (b : Bool) : narrow .boolean (.int (bI b)) = .int (bI b) := by cases b <;> rfl
theorem rF_at (S : SS) {k x : Nat} (hx : x < 11) : rF S (k * 11 + x) = nI (xb_enc (S k x)) := by
  unfold rF
  rw [show (k * 11 + x) / 11 = k by omega, show (k * 11 + x) % 11 = x by omega]
theorem rF_congr {S T : SS} (h : ∀ k x y, x < 11 → y < 11 → S k x y = T k x y) : rF S = rF T := by
  funext i
  unfold rF
  rw [xb_congr (fun j hj => h _ _ j (Nat.mod_lt _ (by omega)) hj)]
theorem q_row {post : Int32 → Prop} {S : SS} {k x : Nat} (hk : k < 31) (hx : x < 11) (h : post (nI (xb_enc (S k x)))) : wp_Pr_row post (rF S) (nI k) (xb_t x) := by
  unfold wp_Pr_row
  rw [xb_ix]
  refine ⟨vp_in_nI (by omega) (by decide), ?_⟩
  rw [nI_clamp (by omega), rF_at S hx]
  exact h
theorem q_isIn {post : Int32 → Prop} {g : Nat → Bool} {y : Nat} (hy : y < 11) (h : post (bI (g y))) : wp_Pr_isIn post (nI (xb_enc g)) (xb_t y) := by
  unfold wp_Pr_isIn xj
  rw [xb_t_add, xb_isIn g hy]
  cases hg : g y with
  | true => rw [hg] at h; exact ⟨fun z => absurd z (by decide), fun _ => ⟨rfl, h⟩⟩
  | false => rw [hg] at h; exact ⟨fun _ => ⟨rfl, h⟩, fun z => absurd rfl z⟩
theorem q_has {post : Int32 → Prop} {S : SS} {k x y : Nat} (hk : k < 31) (hx : x < 11) (hy : y < 11) (h : post (bI (S k x y))) : wp_Pr_has post (rF S) (nI k) (xb_t x) (xb_t y) := by
  unfold wp_Pr_has
  exact q_row hk hx (q_isIn hy ⟨bI_nar _, h⟩)
theorem rF_put (S : SS) {k x y : Nat} (hx : x < 11) : upd (rF S) (k * 11 + x) (nI (xb_enc (xb_set (S k x) y true))) = rF (ms_put S k x y) := by
  funext i
  unfold upd
  by_cases hi : i = k * 11 + x
  · rw [if_pos hi, hi, rF_at _ hx]
    congr 2
    funext j
    unfold xb_set ms_put
    by_cases hj : j = y <;> simp [hj]
  · rw [if_neg hi]
    unfold rF
    congr 2
    funext j
    unfold ms_put
    rw [if_neg]
    rintro ⟨a, b, -⟩
    omega
theorem q_put {post : Int32 → (Nat → Int32) → Prop} {S : SS} {k x y : Nat} (hk : k < 31) (hx : x < 11) (hy : y < 11) (h : post (bI (!(S k x y))) (rF (ms_put S k x y))) : wp_Pr_put post (rF S) (nI k) (xb_t x) (xb_t y) := by
  unfold wp_Pr_put xj
  intro x1 e1
  rw [xb_ix] at e1
  subst e1
  have hin : vp_in (nI (k * 11 + x)) 341 := vp_in_nI (by omega) (by decide)
  refine ⟨hin, fun x2 e2 => ⟨hin, fun f3 e3 => ⟨hin, ?_⟩⟩⟩
  rw [nI_clamp (by omega), rF_at S hx] at e2
  rw [nI_clamp (by omega), e2, xb_t_add, xb_putI _ hy, rF_put S hx] at e3
  subst e2
  subst e3
  rw [nI_clamp (by omega), rF_at _ hx]
  have l1 := xb_lt (S k x)
  have l2 := xb_lt (ms_put S k x y k x)
  rw [nI_eq (by omega) (by omega)]
  cases hs : S k x y with
  | true =>
    rw [hs] at h
    rw [ms_put_same hs] at h ⊢
    exact ⟨fun _ => ⟨rfl, h⟩, fun z => absurd rfl z⟩
  | false =>
    rw [hs] at h
    refine ⟨fun z => ?_, fun _ => ⟨rfl, h⟩⟩
    have := xb_inj z hy
    rw [hs, ms_put_self] at this
    cases this
def ms_del (S : SS) (k x y : Nat) : SS := fun k' x' y' => if k' = k ∧ x' = x ∧ y' = y then false else S k' x' y'
theorem xb_not : ∀ k, k < 11 → ((1 : Int32) <<< (nI k &&& 31)) ^^^ (-1) = nI (4294967295 - 2 ^ k) := by decide +kernel
theorem xb_delN (g : Nat → Bool) {k : Nat} (hk : k < 11) : xb_enc g &&& (4294967295 - 2 ^ k) = xb_enc (xb_set g k false) := by
  have key : ∀ k, k < 11 → ∀ j, j < 11 → (4294967295 - 2 ^ k).testBit j = decide (j ≠ k) := by decide +kernel
  refine xb_ext (fun j q => ?_) (fun j q => ?_)
  · rw [Nat.testBit_and, xb_bit g q, key k hk j q]
    unfold xb_set
    by_cases e : j = k <;> simp [e]
  · rw [Nat.testBit_and, xb_bit0 g q, Bool.false_and]
theorem rF_del (S : SS) {k x y : Nat} (hx : x < 11) : upd (rF S) (k * 11 + x) (nI (xb_enc (xb_set (S k x) y false))) = rF (ms_del S k x y) := by
  funext i
  unfold upd
  by_cases hi : i = k * 11 + x
  · rw [if_pos hi, hi, rF_at _ hx]
    congr 2
    funext j
    unfold xb_set ms_del
    by_cases hj : j = y <;> simp [hj]
  · rw [if_neg hi]
    unfold rF
    congr 2
    funext j
    unfold ms_del
    rw [if_neg]
    rintro ⟨a, b, -⟩
    omega
theorem q_remove {post : Int32 → (Nat → Int32) → Prop} {S : SS} {k x y : Nat} (hk : k < 31) (hx : x < 11) (hy : y < 11) (h : post (bI (S k x y)) (rF (ms_del S k x y))) : wp_Pr_remove post (rF S) (nI k) (xb_t x) (xb_t y) := by
  unfold wp_Pr_remove xj
  intro x1 e1
  rw [xb_ix] at e1
  subst e1
  have hin : vp_in (nI (k * 11 + x)) 341 := vp_in_nI (by omega) (by decide)
  refine ⟨hin, fun x2 e2 => ⟨hin, fun f3 e3 => ⟨hin, ?_⟩⟩⟩
  rw [nI_clamp (by omega), rF_at S hx] at e2
  rw [nI_clamp (by omega), e2, xb_t_add, xb_not y hy, xb_andI, xb_delN _ hy, rF_del S hx] at e3
  subst e2
  subst e3
  rw [nI_clamp (by omega), rF_at _ hx]
  have l1 := xb_lt (S k x)
  have l2 := xb_lt (ms_del S k x y k x)
  rw [nI_eq (by omega) (by omega)]
  have hself : ms_del S k x y k x y = false := by simp [ms_del]
  cases hs : S k x y with
  | true =>
    rw [hs] at h
    refine ⟨fun z => ?_, fun _ => ⟨rfl, h⟩⟩
    have := xb_inj z hy
    rw [hs, hself] at this
    cases this
  | false =>
    rw [hs] at h
    have e : ms_del S k x y = S := by
      funext a b d
      unfold ms_del
      by_cases q : a = k ∧ b = x ∧ d = y
      · rw [if_pos q]; obtain ⟨rfl, rfl, rfl⟩ := q; exact hs.symm
      · rw [if_neg q]
    rw [e] at h ⊢
    exact ⟨fun _ => ⟨rfl, h⟩, fun z => absurd rfl z⟩
/-! bitCount -/
def bc_ (i : Int32) : Int32 :=
  let a := i - (((Int32.toUInt32 i >>> (Int32.toUInt32 1 &&& Int32.toUInt32 31)).toInt32) &&& 1431655765)
  let b := (a &&& 858993459) + (((Int32.toUInt32 a >>> (Int32.toUInt32 2 &&& Int32.toUInt32 31)).toInt32) &&& 858993459)
  let d := (b + ((Int32.toUInt32 b >>> (Int32.toUInt32 4 &&& Int32.toUInt32 31)).toInt32)) &&& 252645135
  let f := d + ((Int32.toUInt32 d >>> (Int32.toUInt32 8 &&& Int32.toUInt32 31)).toInt32)
  let g := f + ((Int32.toUInt32 f >>> (Int32.toUInt32 16 &&& Int32.toUInt32 31)).toInt32)
  g &&& 63
theorem bc_all : ∀ a, a < 32 → ∀ b, b < 64 → bc_ (nI (64 * a + b)) = nI (cn_ (fun j => (64 * a + b).testBit j) 11) := by decide +kernel
theorem q_bit {post : Int32 → Prop} {n : Nat} (hn : n < 2048) (h : post (nI (cn_ (fun j => n.testBit j) 11))) : wp_In_bitCount post (nI n) := by
  unfold wp_In_bitCount
  intro x1 e1 x2 e2 x3 e3 x4 e4 x5 e5
  have e := bc_all (n / 64) (by omega) (n % 64) (Nat.mod_lt _ (by omega))
  rw [show 64 * (n / 64) + n % 64 = n by omega] at e
  rw [← e] at h
  subst e1 e2 e3 e4 e5
  exact h
theorem q_bitG {post : Int32 → Prop} {g : Nat → Bool} (h : post (nI (cn_ g 11))) : wp_In_bitCount post (nI (xb_enc g)) := by
  refine q_bit (xb_lt g) ?_
  rw [cn_congr 11 (fun j hj => xb_bit g hj)]
  exact h
