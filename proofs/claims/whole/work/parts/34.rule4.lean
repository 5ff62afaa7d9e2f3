/-! a rule's four cells, at a number and the three behind it -/
def xr4 (cI : ClassId) (ad : Nat → Nat) (ce : Nat → Option va_E) (ix : Nat) (rs rf rc : Nat → Int32) (na : Int32) : Nat → Option va_E :=
  va_up (va_up (va_up (va_up ce ix (some (.inr (3, [.ref (ad (ix + 1)), .ref (ad (ix + 2)), .ref (ad (ix + 3)), .int na])))) (ix + 1) (some (.inl (cI, 4, .inl rs)))) (ix + 2) (some (.inl (cI, 4, .inl rf)))) (ix + 3) (some (.inl (cI, 4, .inl rc)))
section XR4
variable {cI : ClassId} {ad : Nat → Nat} {ce : Nat → Option va_E} {ix : Nat} {rs rf rc rs' : Nat → Int32} {na na' : Int32}
theorem xr4_U : xr4 cI ad ce ix rs rf rc na ix = some (.inr (3, [.ref (ad (ix + 1)), .ref (ad (ix + 2)), .ref (ad (ix + 3)), .int na])) := by
  unfold xr4
  rw [va_up_ne _ _ (by omega), va_up_ne _ _ (by omega), va_up_ne _ _ (by omega), va_up_self]
theorem xr4_A : xr4 cI ad ce ix rs rf rc na (ix + 1) = some (.inl (cI, 4, .inl rs)) := by
  unfold xr4
  rw [va_up_ne _ _ (by omega), va_up_ne _ _ (by omega), va_up_self]
theorem xr4_B : xr4 cI ad ce ix rs rf rc na (ix + 2) = some (.inl (cI, 4, .inl rf)) := by
  unfold xr4
  rw [va_up_ne _ _ (by omega), va_up_self]
theorem xr4_C : xr4 cI ad ce ix rs rf rc na (ix + 3) = some (.inl (cI, 4, .inl rc)) := by
  unfold xr4
  rw [va_up_self]
theorem xr4_o {i : Nat} (h : i < ix ∨ ix + 3 < i) : xr4 cI ad ce ix rs rf rc na i = ce i := by
  unfold xr4
  rw [va_up_ne _ _ (by omega), va_up_ne _ _ (by omega), va_up_ne _ _ (by omega), va_up_ne _ _ (by omega)]
theorem xr4_uU : va_up (xr4 cI ad ce ix rs rf rc na) ix (some (.inr (3, [.ref (ad (ix + 1)), .ref (ad (ix + 2)), .ref (ad (ix + 3)), .int na']))) = xr4 cI ad ce ix rs rf rc na' := by
  unfold xr4
  rw [xa_uc _ (show ix + 3 ≠ ix by omega), xa_uc _ (show ix + 2 ≠ ix by omega), xa_uc _ (show ix + 1 ≠ ix by omega), xa_uu]
theorem xr4_uA : va_up (xr4 cI ad ce ix rs rf rc na) (ix + 1) (some (.inl (cI, 4, .inl rs'))) = xr4 cI ad ce ix rs' rf rc na := by
  unfold xr4
  rw [xa_uc _ (show ix + 3 ≠ ix + 1 by omega), xa_uc _ (show ix + 2 ≠ ix + 1 by omega), xa_uu]
theorem xr4_uB : va_up (xr4 cI ad ce ix rs rf rc na) (ix + 2) (some (.inl (cI, 4, .inl rs'))) = xr4 cI ad ce ix rs rs' rc na := by
  unfold xr4
  rw [xa_uc _ (show ix + 3 ≠ ix + 2 by omega), xa_uu]
theorem xr4_uC : va_up (xr4 cI ad ce ix rs rf rc na) (ix + 3) (some (.inl (cI, 4, .inl rs'))) = xr4 cI ad ce ix rs rf rs' na := by
  unfold xr4
  rw [xa_uu]
theorem xr4_eq {w : Nat → Option va_E} (hU : w ix = some (.inr (3, [.ref (ad (ix + 1)), .ref (ad (ix + 2)), .ref (ad (ix + 3)), .int na]))) (hA : w (ix + 1) = some (.inl (cI, 4, .inl rs))) (hB : w (ix + 2) = some (.inl (cI, 4, .inl rf))) (hC : w (ix + 3) = some (.inl (cI, 4, .inl rc))) (ho : ∀ i, i < ix ∨ ix + 3 < i → w i = ce i) : w = xr4 cI ad ce ix rs rf rc na := by
  funext i
  by_cases h0 : i = ix
  · subst h0; rw [hU, xr4_U]
  by_cases h1 : i = ix + 1
  · subst h1; rw [hA, xr4_A]
  by_cases h2 : i = ix + 2
  · subst h2; rw [hB, xr4_B]
  by_cases h3 : i = ix + 3
  · subst h3; rw [hC, xr4_C]
  rw [ho i (by omega), xr4_o (by omega)]
end XR4
