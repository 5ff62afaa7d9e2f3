/-! the matcher's values: of each term (its number + 1) what it stands for; none: open -/
def vF (v : Nat → Option Nat) : Nat → Int32 := fun j => if j < 20 then (match v j with | some x => xb_t x | none => -2) else 0
def vi0 : Nat → Option Nat := fun t => if t ≤ 10 then some t else none
theorem vi_a : ∀ j, j ≤ 20 → 18 < xb_t j → j = 20 := by decide +kernel
theorem vi_b : ∀ j, j ≤ 20 → ¬ 18 < xb_t j → j ≤ 19 := by decide +kernel
theorem vi_c : ∀ j, j ≤ 19 → 10 ≤ xb_t j → 11 ≤ j := by decide +kernel
theorem vi_d : ∀ j, j ≤ 19 → ¬ 10 ≤ xb_t j → j ≤ 10 := by decide +kernel
theorem pq_Mt_init : wp_Mt_initL (fun v => v = vF vi0) (fun _ => 0) := by
  unfold wp_Mt_initL
  refine xL_of (fun s => ∃ j, j ≤ 20 ∧ s.1 = xb_t j ∧ s.2 = fun i => if i < j then vF vi0 i else 0) (fun s => 40 - (s.1 + 1).toNatClampNeg) ?_ ⟨0, by omega, by decide, by funext i; simp⟩
  rintro ⟨t, f⟩ ⟨j, hj, e1, e2⟩ K hK
  dsimp only at e1 e2 hK ⊢
  subst e1; subst e2
  have step : j ≤ 19 → ∀ z : Int32, z = vF vi0 j → vp_in (xb_t j + 1) 20 ∧ ∀ v_5 : Nat → Int32, v_5 = upd (fun i => if i < j then vF vi0 i else 0) (Int32.toNatClampNeg (xb_t j + 1)) z → ∀ x_6 : Int32, x_6 = xb_t j + 1 → K (x_6, v_5) := by
    intro h19 z hz
    rw [xb_t_add]
    refine ⟨vp_in_nI (by omega) (by decide), fun f' ef x ex => hK _ ⟨j + 1, by omega, by rw [xb_t1]; exact ex, ?_⟩ ?_⟩
    · rw [ef, nI_clamp (by omega)]
      funext i
      unfold upd
      dsimp only
      by_cases q : i = j
      · subst q
        rw [if_pos rfl, if_pos (by omega)]
        exact hz
      · rw [if_neg q]
        by_cases q2 : i < j
        · rw [if_pos q2, if_pos (by omega)]
        · rw [if_neg q2, if_neg (by omega)]
    · dsimp only
      rw [ex, xb_t_add, nI_1, nI_clamp (by omega), nI_clamp (by omega)]
      omega
  refine ⟨fun h => ?_, fun h => ?_⟩
  · have := vi_a j hj h
    subst this
    funext i
    by_cases q : i < 20
    · rw [if_pos q]
    · rw [if_neg q]
      unfold vF
      rw [if_neg q]
  · have h19 := vi_b j hj h
    unfold xj
    refine ⟨fun h1 => step h19 _ ?_, fun h1 => step h19 _ ?_⟩
    · have := vi_c j h19 h1
      unfold vF vi0
      rw [if_pos (by omega), if_neg (by omega)]
    · have := vi_d j h19 h1
      unfold vF vi0
      rw [if_pos (by omega), if_pos (by omega)]
