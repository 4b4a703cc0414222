/-! ===== mean lengths: the floats ===== -/
theorem tn32 {n : Nat} (h : n < 4294967296) : (UInt32.ofNat n).toNat = n := by
  show (BitVec.ofNat 32 n).toNat = n
  rw [BitVec.toNat_ofNat]; exact Nat.mod_eq_of_lt h
theorem b_ta : FP.Core.b32.tails = 8388608 := by decide
theorem b_ex : FP.Core.b32.exps = 256 := by decide
theorem b_qm : FP.Core.b32.qmin = -149 := by decide
theorem b_qx : FP.Core.b32.qmax = 104 := by decide
theorem enc_f {s : Bool} {c : Nat} {q : Int} (h1 : 8388608 ≤ c) : FP.Core.encode FP.Core.b32 (.fin s c q) = (s.toNat * 256 + ((q + 149).toNat + 1)) * 8388608 + (c - 8388608) := by
  show (if c < FP.Core.b32.tails then FP.Core.assemble FP.Core.b32 s 0 c else FP.Core.assemble FP.Core.b32 s ((q - FP.Core.b32.qmin).toNat + 1) (c - FP.Core.b32.tails)) = _
  rw [b_ta, b_qm, if_neg (by omega)]
  unfold FP.Core.assemble; rw [b_ta, b_ex, show q - -149 = q + 149 by omega]
theorem enc_s {s : Bool} {c : Nat} {q : Int} (h1 : c < 8388608) : FP.Core.encode FP.Core.b32 (.fin s c q) = (s.toNat * 256 + 0) * 8388608 + c := by
  show (if c < FP.Core.b32.tails then FP.Core.assemble FP.Core.b32 s 0 c else FP.Core.assemble FP.Core.b32 s ((q - FP.Core.b32.qmin).toNat + 1) (c - FP.Core.b32.tails)) = _
  rw [b_ta, if_pos h1]
  unfold FP.Core.assemble; rw [b_ta, b_ex]
theorem enc_i {s : Bool} : FP.Core.encode FP.Core.b32 (.inf s) = (s.toNat * 256 + 255) * 8388608 := by
  cases s <;> decide
theorem bool1 (s : Bool) : s.toNat ≤ 1 := by cases s <;> decide
abbrev okE (n : Nat) : Prop := n < 4294967296 ∧ n % 2147483648 ≤ 2139095040
theorem okE_f (s : Bool) {c : Nat} {q : Int} (h1 : c < 16777216) (h2 : q ≤ 104) : okE (FP.Core.encode FP.Core.b32 (.fin s c q)) := by
  have hs := bool1 s
  by_cases hc : c < 8388608
  · rw [enc_s hc]; show _ < _ ∧ _ ≤ _; omega
  · rw [enc_f (by omega)]; show _ < _ ∧ _ ≤ _
    have : (q + 149).toNat ≤ 253 := by omega
    omega
theorem okE_b (s : Bool) {c : Nat} (q : Int) (h1 : c < 16777216) : okE (FP.Core.encode FP.Core.b32 (FP.Core.bound FP.Core.b32 s c q)) := by
  unfold FP.Core.bound; rw [b_qx]; split
  · next h => exact okE_f s h1 h
  · rw [enc_i]; have hs := bool1 s; show _ < _ ∧ _ ≤ _; omega
theorem okE_s (s : Bool) (c : Nat) (q : Int) : okE (FP.Core.encode FP.Core.b32 (FP.Core.settle FP.Core.b32 s c q)) := by
  unfold FP.Core.settle
  rw [show (2 : Nat) ^ FP.Core.b32.p = 16777216 by decide, b_ta]; split
  · next h => exact okE_b s q h
  · exact okE_b s (q + 1) (by decide)
theorem okE_r (s : Bool) (n d : Nat) (e : Int) : okE (FP.Core.encode FP.Core.b32 (FP.Core.roundRatio FP.Core.b32 s n d e)) := by
  unfold FP.Core.roundRatio; split
  · rw [b_qm]; exact okE_f s (by decide) (by decide)
  · exact okE_s s _ _
theorem n32_of {n : Nat} (h : okE n) : vf_n32 (UInt32.ofNat n) := by
  unfold vf_n32
  rw [UInt32.le_iff_toNat_le, UInt32.toNat_and, tn32 h.1]
  show n &&& 2147483647 ≤ 2139095040
  rw [show (2147483647 : Nat) = 2 ^ 31 - 1 by decide, Nat.and_two_pow_sub_one_eq_mod]
  exact h.2
theorem dec_n {s : Bool} {E T : Nat} (hE : 1 ≤ E) (hE2 : E ≤ 254) (hT : T < 8388608) : FP.Core.decode FP.Core.b32 ((s.toNat * 256 + E) * 8388608 + T) = .fin s (8388608 + T) (-149 + ((E : Int) - 1)) := by
  have hs := bool1 s
  have a1 : FP.Core.fieldE FP.Core.b32 ((s.toNat * 256 + E) * 8388608 + T) = E := by unfold FP.Core.fieldE; rw [b_ta, b_ex]; omega
  have a2 : FP.Core.fieldT FP.Core.b32 ((s.toNat * 256 + E) * 8388608 + T) = T := by unfold FP.Core.fieldT; rw [b_ta]; omega
  have a3 : FP.Core.fieldS FP.Core.b32 ((s.toNat * 256 + E) * 8388608 + T) = s := by
    unfold FP.Core.fieldS; rw [b_ta, b_ex, show ((s.toNat * 256 + E) * 8388608 + T) / 8388608 / 256 = s.toNat by omega]
    cases s <;> decide
  unfold FP.Core.decode
  rw [a1, a2, a3, b_ex, b_ta, b_qm, if_neg (by omega), if_neg (by omega)]
theorem dec_fin {n : Nat} (h : ¬ n / 8388608 % 256 = 255) : ∃ (s : Bool) (c : Nat) (q : Int), FP.Core.decode FP.Core.b32 n = .fin s c q := by
  have a1 : FP.Core.fieldE FP.Core.b32 n = n / 8388608 % 256 := by unfold FP.Core.fieldE; rw [b_ta, b_ex]
  unfold FP.Core.decode
  rw [a1, b_ex, if_neg h]; split
  · exact ⟨_, _, _, rfl⟩
  · exact ⟨_, _, _, rfl⟩
/-- a number of full precision, of a middling exponent -/
def dNm (x : UInt32) (c : Nat) (q : Int) : Prop := FP.Core.decode FP.Core.b32 x.toNat = .fin false c q ∧ (8388608 ≤ c ∧ c < 16777216) ∧ -60 ≤ q ∧ q ≤ 60
theorem dNm_enc {c : Nat} {q : Int} (h1 : 8388608 ≤ c) (h2 : c < 16777216) (h3 : -60 ≤ q) (h4 : q ≤ 60) : dNm (UInt32.ofNat (FP.Core.encode FP.Core.b32 (.fin false c q))) c q := by
  refine ⟨?_, ⟨h1, h2⟩, h3, h4⟩
  rw [tn32 (okE_f false h2 (by omega)).1, enc_f h1, dec_n (by omega) (by omega) (by omega)]
  rw [show 8388608 + (c - 8388608) = c by omega, show -149 + ((((q + 149).toNat + 1 : Nat) : Int) - 1) = q by omega]
theorem lg23 {c : Nat} (h1 : 8388608 ≤ c) (h2 : c < 16777216) : c.log2 = 23 := by
  have a : 23 ≤ c.log2 := (Nat.le_log2 (by omega)).mpr (by show 8388608 ≤ c; exact h1)
  have b : c.log2 < 24 := (Nat.log2_lt (by omega)).mpr (by show c < 16777216; exact h2)
  omega
theorem lead_0 {c d : Nat} (h1 : 8388608 ≤ c) (h2 : c < 16777216) (h3 : 8388608 ≤ d) (h4 : d < 16777216) : FP.Core.leading c d = if d ≤ c then 0 else -1 := by
  unfold FP.Core.leading
  rw [lg23 h1 h2, lg23 h3 h4]
  show (if d * 2 ^ (((23 : Nat) : Int) - ((23 : Nat) : Int)).toNat ≤ c * 2 ^ (-(((23 : Nat) : Int) - ((23 : Nat) : Int))).toNat then ((23 : Nat) : Int) - ((23 : Nat) : Int) else ((23 : Nat) : Int) - ((23 : Nat) : Int) - 1) = _
  rw [show ((23 : Nat) : Int) - ((23 : Nat) : Int) = 0 by decide]
  show (if d * 1 ≤ c * 1 then (0 : Int) else 0 - 1) = _
  rw [Nat.mul_one, Nat.mul_one]; rfl
theorem quant {n d : Nat} {e a : Int} (hl : FP.Core.leading n d = a) (h : -149 ≤ a + e - 23) : FP.Core.quantum FP.Core.b32 n d e = a + e - 23 := by
  unfold FP.Core.quantum
  rw [hl, b_qm, show ((FP.Core.b32.p : Int) - 1) = 23 by decide, Int.max_def]; split <;> omega
theorem settle_n {c : Nat} {q : Int} (h : c < 16777216) (hq : q ≤ 104) : FP.Core.settle FP.Core.b32 false c q = .fin false c q := by
  unfold FP.Core.settle FP.Core.bound
  rw [show (2 : Nat) ^ FP.Core.b32.p = 16777216 by decide, b_qx, if_pos h, if_pos hq]
theorem settle_c {q : Int} (hq : q ≤ 103) : FP.Core.settle FP.Core.b32 false 16777216 q = .fin false 8388608 (q + 1) := by
  unfold FP.Core.settle FP.Core.bound
  rw [show (2 : Nat) ^ FP.Core.b32.p = 16777216 by decide, b_qx, b_ta, if_neg (by decide), if_pos (by omega)]
theorem near_e {c d : Nat} (hd : 0 < d) : FP.Core.nearest (c * d) d = c := by
  unfold FP.Core.nearest
  rw [Nat.mul_mod_left, if_pos (by omega), Nat.mul_div_cancel _ hd]
theorem near_b {n d a b : Nat} (hd : 0 < d) (h1 : a * d ≤ n) (h2 : n < b * d) : a ≤ FP.Core.nearest n d ∧ FP.Core.nearest n d ≤ b := by
  have e1 : a ≤ n / d := (Nat.le_div_iff_mul_le hd).mpr h1
  have e2 : n / d < b := (Nat.div_lt_iff_lt_mul hd).mpr h2
  unfold FP.Core.nearest
  split
  · omega
  · split
    · omega
    · have := Nat.mod_two_eq_zero_or_one (n / d); omega
theorem rr_at {s : Bool} {n d : Nat} {e a : Int} (hn : ¬ n = 0) (hl : FP.Core.leading n d = a) (h : -149 ≤ a + e - 23) : FP.Core.roundRatio FP.Core.b32 s n d e = FP.Core.settle FP.Core.b32 s (FP.Core.nearest (n * 2 ^ (23 - a).toNat) (d * 2 ^ (a - 23).toNat)) (a + e - 23) := by
  unfold FP.Core.roundRatio
  rw [if_neg hn, quant hl h]
  unfold FP.Core.roundAt FP.Core.unitsNum FP.Core.unitsDen
  rw [show e - (a + e - 23) = 23 - a by omega, show a + e - 23 - e = a - 23 by omega]
theorem rr_h1 {c : Nat} {q : Int} (h1 : 8388608 ≤ c) (h2 : c < 16777216) (h3 : -60 < q) (h4 : q ≤ 60) : FP.Core.roundRatio FP.Core.b32 false c 8388608 (q - -22) = .fin false c (q - 1) := by
  have hl : FP.Core.leading c 8388608 = 0 := by rw [lead_0 h1 h2 (by decide) (by decide), if_pos h1]
  rw [rr_at (by omega) hl (by omega), show (23 - (0 : Int)).toNat = 23 by decide, show ((0 : Int) - 23).toNat = 0 by decide]
  rw [show (2 : Nat) ^ 23 = 8388608 by decide, show 8388608 * 2 ^ 0 = 8388608 by decide, near_e (by decide), settle_n h2 (by omega)]
  rw [show 0 + (q - -22) - 23 = q - 1 by omega]
theorem rr_h2 {c : Nat} {q : Int} (h1 : 8388608 ≤ c) (h2 : c < 16777216) (h3 : -60 < q) (h4 : q ≤ 60) : FP.Core.roundRatio FP.Core.b32 false (c * 8388608) 1 (q + -24) = .fin false c (q - 1) := by
  have hl : FP.Core.leading (c * 8388608) 1 = 46 := by
    have a : 46 ≤ (c * 8388608).log2 := (Nat.le_log2 (by omega)).mpr (by show 70368744177664 ≤ _; omega)
    have b : (c * 8388608).log2 < 47 := (Nat.log2_lt (by omega)).mpr (by show _ < 140737488355328; omega)
    unfold FP.Core.leading
    rw [show (c * 8388608).log2 = 46 by omega, show (1 : Nat).log2 = 0 by decide]
    show (if 1 * 2 ^ (((46 : Nat) : Int) - ((0 : Nat) : Int)).toNat ≤ c * 8388608 * 2 ^ (-(((46 : Nat) : Int) - ((0 : Nat) : Int))).toNat then ((46 : Nat) : Int) - ((0 : Nat) : Int) else _) = _
    rw [if_pos]
    · decide
    · show 70368744177664 ≤ c * 8388608 * 1; omega
  rw [rr_at (by omega) hl (by omega), show (23 - (46 : Int)).toNat = 0 by decide, show ((46 : Int) - 23).toNat = 23 by decide]
  rw [show (2 : Nat) ^ 0 = 1 by decide, show 1 * 2 ^ 23 = 8388608 by decide, Nat.mul_one, near_e (by decide), settle_n h2 (by omega)]
  rw [show 46 + (q + -24) - 23 = q - 1 by omega]
theorem rr_q {c d : Nat} {e : Int} (h1 : 8388608 ≤ c) (h2 : c < 16777216) (h3 : 8388608 ≤ d) (h4 : d < 16777216) (h5 : -30 ≤ e) (h6 : e ≤ 30) : ∃ (c' : Nat) (q' : Int), FP.Core.roundRatio FP.Core.b32 false c d e = .fin false c' q' ∧ (8388608 ≤ c' ∧ c' < 16777216) ∧ -60 ≤ q' ∧ q' ≤ 60 := by
  have key : ∀ (N : Nat) (q : Int), 8388608 ≤ N → N ≤ 16777216 → -60 ≤ q → q ≤ 59 → ∃ (c' : Nat) (q' : Int), FP.Core.settle FP.Core.b32 false N q = .fin false c' q' ∧ (8388608 ≤ c' ∧ c' < 16777216) ∧ -60 ≤ q' ∧ q' ≤ 60 := by
    intro N q a1 a2 a3 a4
    by_cases hN : N < 16777216
    · exact ⟨N, q, settle_n hN (by omega), ⟨a1, hN⟩, a3, by omega⟩
    · have e0 : N = 16777216 := by omega
      subst e0
      exact ⟨8388608, q + 1, settle_c (by omega), ⟨by decide, by decide⟩, by omega, by omega⟩
  by_cases hdc : d ≤ c
  · have hl : FP.Core.leading c d = 0 := by rw [lead_0 h1 h2 h3 h4, if_pos hdc]
    rw [rr_at (by omega) hl (by omega), show (23 - (0 : Int)).toNat = 23 by decide, show ((0 : Int) - 23).toNat = 0 by decide]
    rw [show (2 : Nat) ^ 23 = 8388608 by decide, show d * 2 ^ 0 = d by rw [Nat.pow_zero, Nat.mul_one]]
    have hb := near_b (n := c * 8388608) (d := d) (a := 8388608) (b := 16777216) (by omega) (by omega) (by omega)
    exact key _ _ hb.1 hb.2 (by omega) (by omega)
  · have hl : FP.Core.leading c d = -1 := by rw [lead_0 h1 h2 h3 h4, if_neg hdc]
    rw [rr_at (by omega) hl (by omega), show (23 - (-1 : Int)).toNat = 24 by decide, show ((-1 : Int) - 23).toNat = 0 by decide]
    rw [show (2 : Nat) ^ 24 = 16777216 by decide, show d * 2 ^ 0 = d by rw [Nat.pow_zero, Nat.mul_one]]
    have hb := near_b (n := c * 16777216) (d := d) (a := 8388608) (b := 16777216) (by omega) (by omega) (by omega)
    exact key _ _ hb.1 hb.2 (by omega) (by omega)
theorem d_2 : FP.Core.decode FP.Core.b32 (1073741824 : UInt32).toNat = .fin false 8388608 (-22) := by decide +kernel
theorem d_h : FP.Core.decode FP.Core.b32 (1056964608 : UInt32).toNat = .fin false 8388608 (-24) := by decide +kernel
theorem d_1 : FP.Core.decode FP.Core.b32 (1065353216 : UInt32).toNat = .fin false 8388608 (-23) := by decide +kernel
theorem d_8 : FP.Core.decode FP.Core.b32 (1258291200 : UInt32).toNat = .fin false 8388608 0 := by decide +kernel
theorem fdiv_2 {x : UInt32} {c : Nat} {q : Int} (h : dNm x c q) (hq : -60 < q) : FP.fdiv x 1073741824 = UInt32.ofNat (FP.Core.encode FP.Core.b32 (.fin false c (q - 1))) := by
  show UInt32.ofNat (FP.Core.encode FP.Core.b32 (FP.Core.quotient FP.Core.b32 (FP.Core.decode FP.Core.b32 x.toNat) (FP.Core.decode FP.Core.b32 (1073741824 : UInt32).toNat))) = _
  rw [h.1, d_2]
  show UInt32.ofNat (FP.Core.encode FP.Core.b32 (if (8388608 : Nat) = 0 then (if c = 0 then FP.Core.Datum.nan else .inf (false != false)) else FP.Core.roundRatio FP.Core.b32 false c 8388608 (q - -22))) = _
  rw [if_neg (by decide), rr_h1 h.2.1.1 h.2.1.2 hq h.2.2.2]
theorem fmul_h {x : UInt32} {c : Nat} {q : Int} (h : dNm x c q) (hq : -60 < q) : FP.fmul x 1056964608 = UInt32.ofNat (FP.Core.encode FP.Core.b32 (.fin false c (q - 1))) := by
  show UInt32.ofNat (FP.Core.encode FP.Core.b32 (FP.Core.round FP.Core.b32 (FP.Core.exactProduct (FP.Core.decode FP.Core.b32 x.toNat) (FP.Core.decode FP.Core.b32 (1056964608 : UInt32).toNat)))) = _
  rw [h.1, d_h]
  show UInt32.ofNat (FP.Core.encode FP.Core.b32 (FP.Core.roundRatio FP.Core.b32 false (c * 8388608) 1 (q + -24))) = _
  rw [rr_h2 h.2.1.1 h.2.1.2 hq h.2.2.2]
theorem nm_half {x : UInt32} {c : Nat} {q : Int} (h : dNm x c q) (hq : -60 < q) : dNm (FP.fdiv x 1073741824) c (q - 1) := by
  rw [fdiv_2 h hq]; exact dNm_enc h.2.1.1 h.2.1.2 (by omega) (by have := h.2.2.2; omega)
theorem n32_half {x : UInt32} {c : Nat} {q : Int} (h : dNm x c q) (hq : -60 < q) : vf_n32 (FP.fdiv x 1073741824) := by
  rw [fdiv_2 h hq]; exact n32_of (okE_f false h.2.1.2 (by have := h.2.2.2; omega))
/-- a number without its 1, times the weight of its last digit -/
theorem sub_fin {x : UInt32} {c : Nat} {q : Int} (h : dNm x c q) : vf_n32 (FP.fsub x 1065353216) ∧ vf_n32 (FP.fmul (FP.fsub x 1065353216) 1258291200) := by
  have e : FP.fsub x 1065353216 = UInt32.ofNat (FP.Core.encode FP.Core.b32 (FP.Core.roundRatio FP.Core.b32 (FP.Core.sumSign false true (FP.Core.sumUnits false c q true 8388608 (-23) (min q (-23)))) (FP.Core.sumUnits false c q true 8388608 (-23) (min q (-23))).natAbs 1 (min q (-23)))) := by
    show UInt32.ofNat (FP.Core.encode FP.Core.b32 (FP.Core.round FP.Core.b32 (FP.Core.exactSum (FP.Core.decode FP.Core.b32 x.toNat) (FP.Core.negate (FP.Core.decode FP.Core.b32 (1065353216 : UInt32).toNat))))) = _
    rw [h.1, d_1]; rfl
  have ok := okE_r (FP.Core.sumSign false true (FP.Core.sumUnits false c q true 8388608 (-23) (min q (-23)))) (FP.Core.sumUnits false c q true 8388608 (-23) (min q (-23))).natAbs 1 (min q (-23))
  refine ⟨by rw [e]; exact n32_of ok, ?_⟩
  have hfin : ∃ (s' : Bool) (c' : Nat) (q' : Int), FP.Core.decode FP.Core.b32 (FP.fsub x 1065353216).toNat = .fin s' c' q' := by
    rw [e, tn32 ok.1]
    refine dec_fin ?_
    have hU : (FP.Core.sumUnits false c q true 8388608 (-23) (min q (-23))).natAbs < 2 ^ 120 := by
      show ((c * 2 ^ (q - min q (-23)).toNat : Nat) + -((8388608 * 2 ^ (-23 - min q (-23)).toNat : Nat) : Int)).natAbs < 2 ^ 120
      have h5 := h.2.2.1; have h6 := h.2.2.2; have h7 := h.2.1.2
      have p1 : 2 ^ (q - min q (-23)).toNat ≤ 2 ^ 83 := Nat.pow_le_pow_right (by decide) (by rw [Int.min_def]; split <;> omega)
      have p2 : 2 ^ (-23 - min q (-23)).toNat ≤ 2 ^ 83 := Nat.pow_le_pow_right (by decide) (by rw [Int.min_def]; split <;> omega)
      have m1 : c * 2 ^ (q - min q (-23)).toNat ≤ 16777216 * 2 ^ 83 := Nat.mul_le_mul (by omega) p1
      have m2 : 8388608 * 2 ^ (-23 - min q (-23)).toNat ≤ 8388608 * 2 ^ 83 := Nat.mul_le_mul (by omega) p2
      have c1 : 16777216 * 2 ^ 83 < 2 ^ 119 := by decide
      have c2 : 8388608 * 2 ^ 83 < 2 ^ 119 := by decide
      have c3 : (2 : Nat) ^ 120 = 2 ^ 119 + 2 ^ 119 := by decide
      omega
    generalize (FP.Core.sumUnits false c q true 8388608 (-23) (min q (-23))).natAbs = N at hU ⊢
    generalize FP.Core.sumSign false true (FP.Core.sumUnits false c q true 8388608 (-23) (min q (-23))) = s0
    have he : min q (-23) ≤ -23 := by rw [Int.min_def]; split <;> omega
    generalize min q (-23) = e0 at he ⊢
    obtain ⟨c', q', e1, e2, e3⟩ : ∃ (c' : Nat) (q' : Int), FP.Core.roundRatio FP.Core.b32 s0 N 1 e0 = .fin s0 c' q' ∧ c' < 16777216 ∧ q' ≤ 104 := by
      unfold FP.Core.roundRatio; split
      · exact ⟨0, FP.Core.b32.qmin, rfl, by decide, by decide⟩
      · next hN =>
        have hlg : N.log2 < 120 := (Nat.log2_lt hN).mpr hU
        have hld : FP.Core.leading N 1 ≤ 119 := by
          unfold FP.Core.leading
          rw [show (1 : Nat).log2 = 0 by decide]
          have hz : ((N.log2 : Int) - ((0 : Nat) : Int)) = (N.log2 : Int) := Int.sub_zero _
          show (if _ then ((N.log2 : Int) - ((0 : Nat) : Int)) else ((N.log2 : Int) - ((0 : Nat) : Int)) - 1) ≤ 119
          have hz1 : (N.log2 : Int) ≤ 119 := by omega
          rw [hz]; split
          · exact hz1
          · exact Int.le_trans (Int.sub_le_self _ (by decide)) hz1
        have hqu : FP.Core.quantum FP.Core.b32 N 1 e0 ≤ 103 := by
          unfold FP.Core.quantum
          rw [b_qm, show ((FP.Core.b32.p : Int) - 1) = 23 by decide, Int.max_def]; split <;> omega
        unfold FP.Core.roundAt FP.Core.settle FP.Core.bound
        rw [show (2 : Nat) ^ FP.Core.b32.p = 16777216 by decide, b_qx, b_ta]
        generalize FP.Core.quantum FP.Core.b32 N 1 e0 = qq at hqu ⊢
        split
        · next hcc => rw [if_pos (by omega)]; exact ⟨_, _, rfl, hcc, by omega⟩
        · rw [if_pos (by omega)]; exact ⟨_, _, rfl, by decide, by omega⟩
    rw [e1]
    have hs := bool1 s0
    by_cases hc : c' < 8388608
    · rw [enc_s hc]; omega
    · rw [enc_f (by omega)]
      have : (q' + 149).toNat ≤ 253 := by omega
      omega
  obtain ⟨s', c', q', e2⟩ := hfin
  show vf_n32 (UInt32.ofNat (FP.Core.encode FP.Core.b32 (FP.Core.round FP.Core.b32 (FP.Core.exactProduct (FP.Core.decode FP.Core.b32 (FP.fsub x 1065353216).toNat) (FP.Core.decode FP.Core.b32 (1258291200 : UInt32).toNat)))))
  rw [e2, d_8]
  exact n32_of (okE_r (s' != false) (c' * 8388608) 1 (q' + 0))
/-- below 2 or not -/
theorem lt2 {x : UInt32} {c : Nat} {q : Int} (h : dNm x c q) : Op.cmpValue (FP.fcmp x 1073741824) .l < 0 ↔ q < -22 := by
  have e : FP.fcmp x 1073741824 = some (compare ((c * 2 ^ (q - min q (-22)).toNat : Nat) : Int) ((8388608 * 2 ^ (-22 - min q (-22)).toNat : Nat) : Int)) := by
    show FP.Core.order (FP.Core.decode FP.Core.b32 x.toNat) (FP.Core.decode FP.Core.b32 (1073741824 : UInt32).toNat) = _
    rw [h.1, d_2]; rfl
  have h1 := h.2.1.1; have h2 := h.2.1.2; have h5 := h.2.2.1
  by_cases hq : q < -22
  · have hm : min q (-22) = q := by rw [Int.min_def, if_pos (by omega)]
    have hlt : ((c * 2 ^ (q - min q (-22)).toNat : Nat) : Int) < ((8388608 * 2 ^ (-22 - min q (-22)).toNat : Nat) : Int) := by
      rw [hm, show (q - q).toNat = 0 by omega, Nat.pow_zero, Nat.mul_one]
      have p1 : 2 ^ 1 ≤ 2 ^ (-22 - q).toNat := Nat.pow_le_pow_right (by decide) (by omega)
      have m1 : 8388608 * 2 ^ 1 ≤ 8388608 * 2 ^ (-22 - q).toNat := Nat.mul_le_mul_left _ p1
      omega
    rw [e]
    have ec : compare ((c * 2 ^ (q - min q (-22)).toNat : Nat) : Int) ((8388608 * 2 ^ (-22 - min q (-22)).toNat : Nat) : Int) = .lt := if_pos hlt
    rw [ec]
    exact ⟨fun _ => hq, fun _ => by decide⟩
  · have hm : min q (-22) = -22 := by rw [Int.min_def]; split <;> omega
    have hge : ¬ ((c * 2 ^ (q - min q (-22)).toNat : Nat) : Int) < ((8388608 * 2 ^ (-22 - min q (-22)).toNat : Nat) : Int) := by
      rw [hm, show ((-22 : Int) - -22).toNat = 0 by decide, Nat.pow_zero, Nat.mul_one]
      have p1 : 1 ≤ 2 ^ (q - -22).toNat := Nat.one_le_two_pow
      have m1 : c * 1 ≤ c * 2 ^ (q - -22).toNat := Nat.mul_le_mul_left _ p1
      omega
    rw [e]
    refine ⟨fun z => ?_, fun z => absurd z hq⟩
    exfalso
    have ec : compare ((c * 2 ^ (q - min q (-22)).toNat : Nat) : Int) ((8388608 * 2 ^ (-22 - min q (-22)).toNat : Nat) : Int) = .eq ∨ compare ((c * 2 ^ (q - min q (-22)).toNat : Nat) : Int) ((8388608 * 2 ^ (-22 - min q (-22)).toNat : Nat) : Int) = .gt := by
      show (if _ then Ordering.lt else if _ then Ordering.eq else Ordering.gt) = _ ∨ (if _ then Ordering.lt else if _ then Ordering.eq else Ordering.gt) = _
      rw [if_neg hge]; split
      · exact Or.inl rfl
      · exact Or.inr rfl
    rcases ec with ec | ec
    · rw [ec] at z; exact absurd z (by decide)
    · rw [ec] at z; exact absurd z (by decide)
def qOf (x : UInt32) : Int := match FP.Core.decode FP.Core.b32 x.toNat with
  | .fin _ _ q => q
  | _ => 0
def kOf (x : UInt32) : Nat := (qOf x + 23).toNat
def hvN (x : UInt32) : Nat → UInt32
  | 0 => x
  | i + 1 => FP.fdiv (hvN x i) 1073741824
def bsU (x : UInt32) (e : Nat) : Int32 := nI (e * 2 ^ 23) + FP.f2i (FP.fmul (FP.fsub x 1065353216) 1258291200)
def btI (x : UInt32) : Int32 := bsU (hvN x (kOf x)) (127 + kOf x)
theorem qOf_n {x : UInt32} {c : Nat} {q : Int} (h : dNm x c q) : qOf x = q := by unfold qOf; rw [h.1]
theorem kOf_le {x : UInt32} {c : Nat} {q : Int} (h : dNm x c q) : kOf x ≤ 83 := by unfold kOf; rw [qOf_n h]; have := h.2.2.2; omega
theorem hv_d {x : UInt32} {c : Nat} {q : Int} (h : dNm x c q) : ∀ i : Nat, i ≤ kOf x → dNm (hvN x i) c (q - (i : Int))
  | 0, _ => by show dNm x c (q - ((0 : Nat) : Int)); rw [show q - ((0 : Nat) : Int) = q by omega]; exact h
  | i + 1, hi => by
    have ih := hv_d h i (by omega)
    have hk : (i : Int) + 1 ≤ q + 23 := by
      have : kOf x = (q + 23).toNat := by unfold kOf; rw [qOf_n h]
      omega
    have := nm_half ih (by omega)
    rw [show q - ((i + 1 : Nat) : Int) = q - (i : Int) - 1 by omega]; exact this
theorem hv_c {x : UInt32} {c : Nat} {q : Int} (h : dNm x c q) {i : Nat} (hi : i ≤ kOf x) : Op.cmpValue (FP.fcmp (hvN x i) 1073741824) .l < 0 ↔ i = kOf x := by
  rw [lt2 (hv_d h i hi)]
  have hk : kOf x = (q + 23).toNat := by unfold kOf; rw [qOf_n h]
  omega
theorem hv_n {x : UInt32} {c : Nat} {q : Int} (h : dNm x c q) {i : Nat} (hi : i < kOf x) : vf_n32 (FP.fdiv (hvN x i) 1073741824) ∧ FP.fmul (hvN x i) 1056964608 = hvN x (i + 1) ∧ vf_n32 (FP.fmul (hvN x i) 1056964608) := by
  have hd := hv_d h i (by omega)
  have hk : kOf x = (q + 23).toNat := by unfold kOf; rw [qOf_n h]
  have hq : -60 < q - (i : Int) := by omega
  have e : FP.fmul (hvN x i) 1056964608 = hvN x (i + 1) := (fmul_h hd hq).trans (fdiv_2 hd hq).symm
  exact ⟨n32_half hd hq, e, by rw [e]; exact n32_half hd hq⟩
theorem hv_s {x : UInt32} {c : Nat} {q : Int} (h : dNm x c q) {i : Nat} (hi : i ≤ kOf x) : vf_n32 (FP.fsub (hvN x i) 1065353216) ∧ vf_n32 (FP.fmul (FP.fsub (hvN x i) 1065353216) 1258291200) := sub_fin (hv_d h i hi)
/-- small whole numbers -/
def i2N (x : UInt32) : Bool := match FP.Core.decode FP.Core.b32 x.toNat with
  | .fin false c q => decide (8388608 ≤ c) && decide (c < 16777216) && decide (-23 ≤ q) && decide (q ≤ 0)
  | _ => false
theorem i2_t : ∀ a, a < 193 → 0 < a → i2N (FP.i2f (nI a)) = true := by decide +kernel
theorem i2_d {a : Nat} (h : a < 193) (h0 : 0 < a) : ∃ (c : Nat) (q : Int), FP.Core.decode FP.Core.b32 (FP.i2f (nI a)).toNat = .fin false c q ∧ 8388608 ≤ c ∧ c < 16777216 ∧ -23 ≤ q ∧ q ≤ 0 := by
  have t := i2_t a h h0
  unfold i2N at t
  split at t
  · next c q e =>
    simp only [Bool.and_eq_true, decide_eq_true_eq] at t
    exact ⟨c, q, e, t.1.1.1, t.1.1.2, t.1.2, t.2⟩
  · cases t
theorem mn_d {a b : Nat} (ha : a < 193) (ha0 : 0 < a) (hb : b < 193) (hb0 : 0 < b) : (∃ (c : Nat) (q : Int), dNm (FP.fdiv (FP.i2f (nI a)) (FP.i2f (nI b))) c q) ∧ vf_n32 (FP.fdiv (FP.i2f (nI a)) (FP.i2f (nI b))) := by
  obtain ⟨c, q, e1, c1, c2, q1, q2⟩ := i2_d ha ha0
  obtain ⟨d, r, e2, d1, d2, r1, r2⟩ := i2_d hb hb0
  have e : FP.fdiv (FP.i2f (nI a)) (FP.i2f (nI b)) = UInt32.ofNat (FP.Core.encode FP.Core.b32 (FP.Core.roundRatio FP.Core.b32 false c d (q - r))) := by
    show UInt32.ofNat (FP.Core.encode FP.Core.b32 (FP.Core.quotient FP.Core.b32 (FP.Core.decode FP.Core.b32 (FP.i2f (nI a)).toNat) (FP.Core.decode FP.Core.b32 (FP.i2f (nI b)).toNat))) = _
    rw [e1, e2]
    show UInt32.ofNat (FP.Core.encode FP.Core.b32 (if d = 0 then _ else FP.Core.roundRatio FP.Core.b32 false c d (q - r))) = _
    rw [if_neg (by omega)]
  obtain ⟨c', q', e3, e4, e5⟩ := rr_q (e := q - r) c1 c2 d1 d2 (by omega) (by omega)
  refine ⟨⟨c', q', ?_⟩, by rw [e]; exact n32_of (okE_r _ _ _ _)⟩
  rw [e, e3]; exact dNm_enc e4.1 e4.2 e5.1 e5.2
def meI (V : Nat → Nat) : Int32 := if alT V = 0 then (-1000004) else btI (FP.fdiv (FP.i2f (nI (alP V))) (FP.i2f (nI (alT V))))
theorem me_0 {V : Nat → Nat} (h : alT V = 0) : (-1000004) = meI V := (if_pos h).symm
theorem me_n {V : Nat → Nat} (h : ¬ alT V = 0) : btI (FP.fdiv (FP.i2f (nI (alP V))) (FP.i2f (nI (alT V)))) = meI V := (if_neg h).symm
theorem al_le {V : Nat → Nat} : alT V ≤ alP V :=
  sN_leF (V 16) (fun r _ => sN_leF 8 (fun t _ => by
    show begN V r t ≤ bv (hol V r) t
    unfold begN; split
    · next h => have : sndN V r t = 1 := h.1; unfold sndN at this; omega
    · exact Nat.zero_le _))
theorem so_al {V : Nat → Nat} : sN (fun t => soR V t) 8 = alP V := by
  show sN (fun t => sN (fun r => sndN V r t) (V 16)) 8 = _
  rw [sN_swap (V 16) 8]; rfl
theorem bsU_k {x : UInt32} {i : Nat} (h : i = kOf x) : nI ((127 + i) * 2 ^ 23) + FP.f2i (FP.fmul (FP.fsub (hvN x i) 1065353216) 1258291200) = btI x := by subst h; rfl
theorem bsU_m {x : UInt32} {i : Nat} (h : i = kOf x) : nI ((127 + i) * 8388608) + FP.f2i (FP.fmul (FP.fsub (hvN x i) 1065353216) 1258291200) = btI x := by subst h; rfl
/-! ===== the settings' bounds: two static rows ===== -/
def xST (A : Nat → Prop) (tl tm : Nat) (U : State) : Prop := va_Z RX6 "SETTING_LEAST" "[I" (.ref tl) A U U.heap ∧ va_Z RX6 "SETTING_MOST" "[I" (.ref tm) A U U.heap ∧ va_T .int tl 4 (fun k => .int (nI (adL k))) A U U.heap ∧ va_T .int tm 4 (fun k => .int (nI (adM k))) A U U.heap ∧ va_Nw (.fieldLinkNest RX2 78 RX6 "SETTING_LEAST" "[I" RX6) U ∧ va_Nw (.fieldLinkNest RX2 81 RX6 "SETTING_MOST" "[I" RX6) U
theorem xST.same {A : Nat → Prop} {tl tm : Nat} {u U : State} (hv : u.vm = U.vm) (hh : u.heap = U.heap) (h : xST A tl tm u) : xST A tl tm U := by
  have hal : u.vm.Alike U.vm := by rw [hv]; exact Vm.Alike.refl _
  obtain ⟨h1, h2, h3, h4, h5, h6⟩ := h
  rw [hh] at h1 h2 h3 h4
  exact ⟨va_Z.moved hal h1, va_Z.moved hal h2, va_T.moved hal h3, va_T.moved hal h4, va_Nw.same rfl hv h5, va_Nw.same rfl hv h6⟩
theorem xST.to {A B : Nat → Prop} {tl tm : Nat} {s U : State} {H : Heap} {locs : List Loc} (h : xST A tl tm s) (hS : va_S A s.heap H locs) (hW : s.WarmedH U.vm) (hU : U.heap = H) (hAB : ∀ q, B q → A q) : xST B tl tm U := by
  subst hU
  have hq : ∀ a : Nat, a < s.heap.size → ¬ A a → U.heap[a]? = s.heap[a]? := fun a h1 h2 => hS.2.1 a h1 h2
  exact ⟨va_Z.moved hW.alike ((h.1.kept hq).narrow hAB), va_Z.moved hW.alike ((h.2.1.kept hq).narrow hAB), va_T.moved hW.alike ((h.2.2.1.kept hq).narrow hAB), va_T.moved hW.alike ((h.2.2.2.1.kept hq).narrow hAB), va_Nw.warmF hW h.2.2.2.2.1, va_Nw.warmF hW h.2.2.2.2.2⟩
def xPs (D : va_G) (y : Nat → ClassId) (W0 : va_W) (tl tm : Nat) : State → Prop := fun U => va_P D vwCl W0 U.heap ∧ xK D y U ∧ va_D (fun _ => True) W0 ∧ xST (xIn W0) tl tm U
theorem xfb_s {av : List Value} {D : va_G} {y : Nat → ClassId} {W0 : va_W} {tl tm : Nat} : FrameBlind (va_Pc av (xPs D y W0 tl tm)) :=
  fun a U g mk q => ⟨q.1, q.2.1, xK.same (u := U) (U := U.calling g mk a) rfl q.2.2.1, q.2.2.2.1, xST.same (u := U) (U := U.calling g mk a) rfl rfl q.2.2.2.2⟩
theorem xpv_s {D : va_G} {y : Nat → ClassId} {A : Nat → Prop} {s : State} {H : Heap} {locs : List Loc} {ws W0 : va_W} {b : Addr} {As : List Value} {q : vw_C} {ci tl tm : Nat} {fs : List Value} (hK : xK D y s) (hP : va_P D vwCl ws H) (hD : va_D A ws) (hST : xST A tl tm s) (hS : va_S A s.heap H locs) (hF : ∀ q, xIn W0 q → A q) (is : List Nat) (q0 : Nat) (hn : va_nd is = true) (hs2 : is.map (fun i => ws[i]?) = W0.map some) (hs : is.filterMap (fun i => ws[i]?) = W0) (hc : vwCl[ci]? = some q) (he : ws[q0]? = some (b, .inr (ci, fs))) : PreV s H q.1 b (va_Pc (.ref b :: As) (xPs D y W0 tl tm)) As :=
  ⟨xfb_s, va_recv hK.1 hP hc he, fun U hU hW => ⟨rfl, by rw [hU]; exact hP.sub is hs, hK.warm hW, (hD.sub is hn hs2).weaken (fun _ _ _ _ => trivial), hST.to hS hW hU hF⟩⟩
theorem adLM (k : Nat) : adL k ≤ adM k ∧ adM k < 2 ^ 31 := by
  unfold adL adM
  split
  · next h => subst h; decide
  · split
    · decide
    · split <;> decide
theorem soR_le {V : Nat → Nat} (hI : Inv V) {t : Nat} : soR V t ≤ 24 := by
  have := sN_le (f := fun r => sndN V r t) (b := 1) (V 16) (fun i _ => by have := sndN_lt (V := V) (r := i) (t := t); show sndN V i t ≤ 1; omega)
  have := hI.sz; show sN _ _ ≤ 24; omega
