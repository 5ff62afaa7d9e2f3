/-! ROWS OF BITS: a row is a number below 2048; bit j stands for the second place j - 1 -/
def xb_e (g : Nat → Bool) : Nat → Nat
  | 0 => 0
  | n + 1 => xb_e g n + (if g n = true then 2 ^ n else 0)
def xb_enc (g : Nat → Bool) : Nat := xb_e g 11
theorem xb_e_lt (g : Nat → Bool) : ∀ n, xb_e g n < 2 ^ n
  | 0 => by simp [xb_e]
  | n + 1 => by
    have h := xb_e_lt g n
    unfold xb_e
    rw [Nat.pow_succ]
    split <;> omega
theorem xb_e_bit (g : Nat → Bool) : ∀ n j, (xb_e g n).testBit j = (decide (j < n) && g j)
  | 0, j => by simp [xb_e]
  | n + 1, j => by
    have h := xb_e_lt g n
    have ih := xb_e_bit g n j
    unfold xb_e
    by_cases hg : g n = true
    · rw [if_pos hg, Nat.add_comm]
      rcases Nat.lt_trichotomy j n with q | q | q
      · rw [Nat.testBit_two_pow_add_gt q, ih]
        simp [q, Nat.lt_succ_of_lt q]
      · subst q
        rw [Nat.testBit_two_pow_add_eq, Nat.testBit_lt_two_pow h]
        simp [hg]
      · have hlt : 2 ^ n + xb_e g n < 2 ^ j := by
          have : 2 ^ (n + 1) ≤ 2 ^ j := Nat.pow_le_pow_right (by omega) q
          rw [Nat.pow_succ] at this
          omega
        rw [Nat.testBit_lt_two_pow hlt]
        simp [show ¬ j < n + 1 by omega]
    · rw [if_neg hg, Nat.add_zero, ih]
      by_cases q : j = n
      · subst q
        simp [hg]
      · by_cases q2 : j < n
        · simp [q2, Nat.lt_succ_of_lt q2]
        · simp [q2, show ¬ j < n + 1 by omega]
theorem xb_lt (g : Nat → Bool) : xb_enc g < 2048 := xb_e_lt g 11
theorem xb_bit (g : Nat → Bool) {j : Nat} (h : j < 11) : (xb_enc g).testBit j = g j := by
  unfold xb_enc
  rw [xb_e_bit]
  simp [h]
theorem xb_bit0 (g : Nat → Bool) {j : Nat} (h : 11 ≤ j) : (xb_enc g).testBit j = false := by
  unfold xb_enc
  rw [xb_e_bit]
  simp [Nat.not_lt.mpr h]
theorem xb_ext {g : Nat → Bool} {n : Nat} (h : ∀ j, j < 11 → n.testBit j = g j) (h2 : ∀ j, 11 ≤ j → n.testBit j = false) : n = xb_enc g := by
  apply Nat.eq_of_testBit_eq
  intro j
  by_cases q : j < 11
  · rw [h j q, xb_bit g q]
  · rw [h2 j (by omega), xb_bit0 g (by omega)]
theorem xb_congr {g k : Nat → Bool} (h : ∀ j, j < 11 → g j = k j) : xb_enc g = xb_enc k := xb_ext (fun j q => by rw [xb_bit g q, h j q]) (fun j q => xb_bit0 g q)
theorem xb_inj {g k : Nat → Bool} (h : xb_enc g = xb_enc k) {j : Nat} (q : j < 11) : g j = k j := by rw [← xb_bit g q, h, xb_bit k q]
def xb_set (g : Nat → Bool) (k : Nat) (v : Bool) : Nat → Bool := fun j => if j = k then v else g j
theorem xb_or (g k : Nat → Bool) : xb_enc g ||| xb_enc k = xb_enc (fun j => g j || k j) := xb_ext (fun j q => by rw [Nat.testBit_or, xb_bit g q, xb_bit k q]) (fun j q => by rw [Nat.testBit_or, xb_bit0 g q, xb_bit0 k q]; rfl)
theorem xb_and (g k : Nat → Bool) : xb_enc g &&& xb_enc k = xb_enc (fun j => g j && k j) := xb_ext (fun j q => by rw [Nat.testBit_and, xb_bit g q, xb_bit k q]) (fun j q => by rw [Nat.testBit_and, xb_bit0 g q, xb_bit0 k q]; rfl)
theorem xb_put (g : Nat → Bool) {k : Nat} (hk : k < 11) : xb_enc g ||| 2 ^ k = xb_enc (xb_set g k true) := by
  refine xb_ext (fun j q => ?_) (fun j q => ?_)
  · rw [Nat.testBit_or, xb_bit g q, Nat.testBit_two_pow]
    unfold xb_set
    by_cases e : j = k
    · subst e; simp
    · simp [e, Ne.symm e]
  · rw [Nat.testBit_or, xb_bit0 g q, Nat.testBit_two_pow]
    simp [show ¬ k = j by omega]
theorem xb_zero : xb_enc (fun _ => false) = 0 := (xb_ext (fun j _ => by simp) (fun j _ => by simp)).symm
/-! the same on Int32 -/
def xb_t (x : Nat) : Int32 := nI x - 1
theorem xb_t1 (x : Nat) : xb_t (x + 1) = nI x := nI_pred x
theorem xb_t_add (x : Nat) : xb_t x + 1 = nI x := Int32.sub_add_cancel _ _
theorem xb_ix (k x : Nat) : nI k * 11 + xb_t x + 1 = nI (k * 11 + x) := by
  rw [Int32.add_assoc, xb_t_add, show (11 : Int32) = nI 11 from rfl, pk_mul, nI_add]
theorem xb_orI (a b : Nat) : nI a ||| nI b = nI (a ||| b) := by
  apply Int32.toBitVec_inj.1
  show BitVec.ofNat 32 a ||| BitVec.ofNat 32 b = BitVec.ofNat 32 (a ||| b)
  apply BitVec.eq_of_getLsbD_eq
  intro i hi
  simp [hi]
theorem xb_andI (a b : Nat) : nI a &&& nI b = nI (a &&& b) := by
  apply Int32.toBitVec_inj.1
  show BitVec.ofNat 32 a &&& BitVec.ofNat 32 b = BitVec.ofNat 32 (a &&& b)
  apply BitVec.eq_of_getLsbD_eq
  intro i hi
  simp [hi]
theorem xb_sl : ∀ n, n < 32 → ((nI n &&& 31).toBitVec.smod 32).toNat = n := by decide +kernel
theorem xb_one : ∀ n, n < 31 → (1 : Int32) <<< (nI n &&& 31) = nI (2 ^ n) := by decide +kernel
theorem xb_shr {a k : Nat} (ha : a < 2048) (hk : k < 32) : nI a >>> (nI k &&& 31) = nI (a / 2 ^ k) := pk_shrN (by omega) _ k (xb_sl k hk)
theorem xb_isIn (g : Nat → Bool) {k : Nat} (hk : k < 11) : (nI (xb_enc g) >>> (nI k &&& 31) &&& 1) = nI (if g k = true then 1 else 0) := by
  have h := xb_lt g
  rw [xb_shr h (by omega), show (1 : Int32) = nI 1 from rfl, xb_andI, Nat.and_one_is_mod]
  have e : xb_enc g / 2 ^ k % 2 = if g k = true then 1 else 0 := by
    have hb := xb_bit g hk
    rw [Nat.testBit_eq_decide_div_mod_eq] at hb
    by_cases q : g k = true
    · rw [if_pos q]
      rw [q] at hb
      simpa using hb
    · rw [if_neg q]
      have q2 : g k = false := by simpa using q
      rw [q2] at hb
      have hm : xb_enc g / 2 ^ k % 2 < 2 := Nat.mod_lt _ (by omega)
      have : ¬ xb_enc g / 2 ^ k % 2 = 1 := by simpa using hb
      omega
  rw [e]
theorem xb_putI (g : Nat → Bool) {k : Nat} (hk : k < 11) : nI (xb_enc g) ||| ((1 : Int32) <<< (nI k &&& 31)) = nI (xb_enc (xb_set g k true)) := by
  rw [xb_one k (by omega), xb_orI, xb_put g hk]
/-- nothing from bit k on -/
theorem xb_shr0 (g : Nat → Bool) {k : Nat} (hk : k < 11) : nI (xb_enc g) >>> (nI k &&& 31) = 0 ↔ ∀ j, k ≤ j → j < 11 → g j = false := by
  have h := xb_lt g
  rw [xb_shr h (by omega), show (0 : Int32) = nI 0 from rfl, nI_eq (by have := Nat.div_le_self (xb_enc g) (2 ^ k); omega) (by omega)]
  constructor
  · intro q j h1 h2
    have hlt : xb_enc g < 2 ^ k := by
      rcases Nat.div_eq_zero_iff.mp q with z | z
      · exact absurd z (Nat.ne_of_gt (Nat.two_pow_pos k))
      · exact z
    have : xb_enc g < 2 ^ j := Nat.lt_of_lt_of_le hlt (Nat.pow_le_pow_right (by omega) h1)
    rw [← xb_bit g h2, Nat.testBit_lt_two_pow this]
  · intro q
    apply Nat.div_eq_of_lt
    apply Nat.lt_pow_two_of_testBit
    intro j hj
    by_cases z : j < 11
    · rw [xb_bit g z]; exact q j hj z
    · exact xb_bit0 g (by omega)
