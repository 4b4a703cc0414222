theorem lw_i {i N : Nat} (hN : N ≤ 1536) (hi : i ≤ N + 2) (h : ¬ nI i > nI N - nI 3) : i + 3 ≤ N := by
  have h1 : ¬ (nI N - nI 3).toInt < (nI i).toInt := fun q => h (Int32.lt_iff_toInt_lt.mpr q)
  rw [nI_toInt (by omega)] at h1
  by_cases h3 : 3 ≤ N
  · rw [xi_sub h3, nI_toInt (by omega)] at h1; omega
  · exfalso
    rcases (show N = 0 ∨ N = 1 ∨ N = 2 by omega) with rfl | rfl | rfl
    · have e : (nI 0 - nI 3).toInt = -3 := by decide
      omega
    · have e : (nI 1 - nI 3).toInt = -2 := by decide
      omega
    · have e : (nI 2 - nI 3).toInt = -1 := by decide
      omega
theorem un_inv {n : Nat} {B : Nat → Nat → Nat} {V : Nat → Nat} (hI : Inv V) (hB : ∀ k, k < n → Inv (B k)) : Inv (unV n B V) := by
  unfold unV; split
  · exact hI
  · exact hB _ (by omega)
