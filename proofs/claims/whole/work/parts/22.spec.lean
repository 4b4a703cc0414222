/-! ===== the reference: its rows ===== -/
theorem inx {x : Int32} {n m : Nat} (hn : n + 1 = m) (hm : m < 2 ^ 31) : (¬ x < nI 0 ∧ ¬ nI n < x) ↔ inR x m := by
  constructor
  · rintro ⟨a, b⟩
    exact ⟨a, xle_n hn hm (Int32.not_lt.mp b)⟩
  · rintro ⟨a, b⟩
    exact ⟨a, fun q => b (xgt_n hn hm (fun z => Int32.lt_irrefl (Int32.lt_of_lt_of_le q z)))⟩
theorem inc {x : Int32} {n : Nat} (hn : n < 2 ^ 30) : (¬ x < nI 0 ∧ ¬ nI n - nI 1 < x) ↔ inR x n := by
  cases n with
  | zero =>
    constructor
    · rintro ⟨a, b⟩
      exfalso
      have h1 : ¬ x.toInt < (nI 0).toInt := fun q => a (Int32.lt_iff_toInt_lt.mpr q)
      have h2 : ¬ (nI 0 - nI 1).toInt < x.toInt := fun q => b (Int32.lt_iff_toInt_lt.mpr q)
      have h3 : (nI 0 - nI 1).toInt = -1 := by decide
      have h4 : (nI 0).toInt = 0 := by decide
      omega
    · rintro ⟨a, b⟩
      exact absurd (Int32.not_lt.mp a) b
  | succ k =>
    rw [xi_sub (by omega), show k + 1 - 1 = k from rfl]
    exact inx rfl (by omega)
theorem bits12 : ∀ h, h < 256 → sN (bv h) 12 = pop h := by decide +kernel
/-- the two notes' distance -/
abbrev hs5 (n : Nat) : Prop := n = 1 ∨ n = 2 ∨ n = 6 ∨ n = 10 ∨ n = 11
theorem hsT : ∀ a, a < 48 → ∀ b, b < 48 → (b ≤ a → bN (hs5 ((a - b) % 12)) = bv 3142 ((a + 48 - b) % 12)) ∧ (a < b → bN (hs5 ((b - a) % 12)) = bv 3142 ((a + 48 - b) % 12)) := by decide +kernel
theorem dneg : ∀ a, a < 48 → ∀ b, b < 48 → a < b → (nI a - nI b < 0 ∧ -(nI a - nI b) = nI (b - a)) := by decide +kernel
theorem ky7 : ∀ d, d < 12 → bN (d = 0 ∨ d = 2 ∨ d = 4 ∨ d = 5 ∨ d = 7 ∨ d = 9 ∨ d = 11) = bv 2741 d := by decide +kernel
theorem sN_mono {f : Nat → Nat} {a : Nat} : ∀ k, sN f a ≤ sN f (a + k)
  | 0 => Nat.le_refl _
  | k + 1 => by have := sN_mono (f := f) (a := a) k; rw [← Nat.add_assoc, sN_s]; omega
theorem sN_leF {f g : Nat → Nat} : ∀ n, (∀ i, i < n → f i ≤ g i) → sN f n ≤ sN g n
  | 0, _ => Nat.le_refl _
  | n + 1, h => by
    have h1 := sN_leF n (fun i hi => h i (by omega)); have h2 := h n (by omega)
    rw [sN_s, sN_s]; omega
/-- two sums that are the same, term by term not greater: the terms are the same -/
theorem sN_eqF {f g : Nat → Nat} : ∀ n, (∀ i, i < n → f i ≤ g i) → sN f n = sN g n → ∀ i, i < n → f i = g i
  | 0, _, _, i, hi => absurd hi (Nat.not_lt_zero _)
  | n + 1, h, e, i, hi => by
    have h1 := sN_leF n (fun i hi => h i (by omega)); have h2 := h n (by omega)
    rw [sN_s, sN_s] at e
    by_cases hn : i = n
    · subst hn; omega
    · exact sN_eqF n (fun i hi => h i (by omega)) (by omega) i (by omega)
theorem sN_mul {f : Nat → Nat} {c : Nat} : ∀ n, sN (fun i => c * f i) n = c * sN f n
  | 0 => rfl
  | n + 1 => by rw [sN_s, sN_s, sN_mul n, Nat.mul_add]
/-- one of n places -/
theorem sN_one {k : Nat} (f : Nat → Nat) : ∀ n, k < n → sN (fun c => if k = c then f c else 0) n = f k
  | 0, h => absurd h (Nat.not_lt_zero _)
  | n + 1, h => by
    rw [sN_s]
    by_cases hn : k = n
    · subst hn
      rw [if_pos rfl, sN_0 k (fun i hi => if_neg (by omega)), Nat.zero_add]
    · rw [sN_one f n (by omega), if_neg hn, Nat.add_zero]
/-- above by colours, thread by thread -/
abbrev coW (V : Nat → Nat) (r t : Nat) : Nat := if sndN V r t = 1 then 1000 / 10 ^ V (8 + t) else 0
theorem coW_s {V : Nat → Nat} (hI : Inv V) {r : Nat} : sN (coW V r) 8 = abA V r := by
  show _ = sN (fun c => 1000 / 10 ^ c * sN (fun t => if sndN V r t = 1 ∧ V (8 + t) = c then 1 else 0) 8) 4
  have e : ∀ c, c < 4 → 1000 / 10 ^ c * sN (fun t => if sndN V r t = 1 ∧ V (8 + t) = c then 1 else 0) 8 = sN (fun t => 1000 / 10 ^ c * (if sndN V r t = 1 ∧ V (8 + t) = c then 1 else 0)) 8 := fun c _ => (sN_mul 8).symm
  rw [sN_c 4 e, sN_swap 8 4]
  refine sN_c 8 (fun t ht => ?_)
  have hc := hI.co ht
  have e2 : ∀ c, c < 4 → 1000 / 10 ^ c * (if sndN V r t = 1 ∧ V (8 + t) = c then 1 else 0) = if V (8 + t) = c then (if sndN V r t = 1 then 1000 / 10 ^ c else 0) else 0 := fun c _ => by
    by_cases h1 : sndN V r t = 1 <;> by_cases h2 : V (8 + t) = c <;> simp [h1, h2]
  rw [sN_c 4 e2, sN_one (fun c => if sndN V r t = 1 then 1000 / 10 ^ c else 0) 4 hc]
def lwJ (V : Nat → Nat) (r i : Nat) : Int32 := if lwA V r i = 48 then (-1000004) else nI (lwA V r i)
theorem lwJ_0 {V : Nat → Nat} {r : Nat} : lwJ V r 0 = (-1000004) := rfl
theorem lwJ_8 {V : Nat → Nat} {r : Nat} : lwJ V r 8 = lwI V r := rfl
theorem nf_n {k : Nat} (h : k < 2 ^ 31) : ¬ nI k = (-1000004) := fun q => by
  have h1 := congrArg Int32.toInt q
  rw [nI_toInt h] at h1
  have h2 : (k : Int) = -1000004 := h1
  omega
theorem nf_lt {k : Nat} (h : k < 2 ^ 31) : (-1000004 : Int32) < nI k := Int32.lt_iff_toInt_lt.mpr (by
  rw [nI_toInt h]
  show (-1000004 : Int) < _
  omega)
theorem hiA_c {V : Nat → Nat} {r : Nat} (hI : Inv V) : ∀ i, i ≤ 8 → hiA V r i = (-1000004) ∨ ∃ k : Nat, k < 48 ∧ hiA V r i = nI k
  | 0, _ => Or.inl rfl
  | i + 1, h => by
    have h1 := hiA_c hI (r := r) i (by omega)
    rw [hiA]; split
    · split
      · exact Or.inr ⟨V i, hI.nt (by omega), rfl⟩
      · exact h1
    · exact h1
theorem hiA_t {V : Nat → Nat} {r i : Nat} (hI : Inv V) (hi : i < 8) (hs : ¬ sndN V r i = 0) (h : hiA V r i = (-1000004) ∨ hiA V r i < nI (V i)) : nI (V i) = hiA V r (i + 1) := by
  have hb := sndN_lt (V := V) (r := r) (t := i)
  have hn := hI.nt hi
  rw [hiA, if_pos (by omega), if_pos]
  rcases h with h | h
  · rw [h]; exact nf_lt (by omega)
  · exact h
theorem hiA_f {V : Nat → Nat} {r i : Nat} (h : sndN V r i = 0 ∨ ¬ hiA V r i < nI (V i)) : hiA V r i = hiA V r (i + 1) := by
  rw [hiA]
  by_cases hs : sndN V r i = 1
  · rw [if_pos hs, if_neg (h.resolve_left (by omega))]
  · rw [if_neg hs]
theorem lwJ_t {V : Nat → Nat} {r i : Nat} (hI : Inv V) (hi : i < 8) (hs : ¬ sndN V r i = 0) (h : lwJ V r i = (-1000004) ∨ nI (V i) < lwJ V r i) : nI (V i) = lwJ V r (i + 1) := by
  have hb := sndN_lt (V := V) (r := r) (t := i)
  have hn := hI.nt hi
  have hl := lwA_le (V := V) (r := r) i
  have e : lwA V r (i + 1) = V i := by
    rw [lwA, if_pos (by omega)]
    by_cases h48 : lwA V r i = 48
    · rw [if_pos (by omega)]
    · unfold lwJ at h; rw [if_neg h48] at h
      rcases h with h | h
      · exact absurd h (nf_n (by omega))
      · rw [if_pos ((nI_ltI (by omega) (by omega)).mp h)]
  unfold lwJ; rw [e, if_neg (by omega)]
theorem lwJ_f {V : Nat → Nat} {r i : Nat} (hI : Inv V) (hi : i < 8) (h : sndN V r i = 0 ∨ (¬ lwJ V r i = (-1000004) ∧ ¬ nI (V i) < lwJ V r i)) : lwJ V r i = lwJ V r (i + 1) := by
  have hn := hI.nt hi
  have hl := lwA_le (V := V) (r := r) i
  have e : lwA V r (i + 1) = lwA V r i := by
    rw [lwA]
    by_cases hs : sndN V r i = 1
    · rw [if_pos hs]
      have h2 := h.resolve_left (by omega)
      by_cases h48 : lwA V r i = 48
      · exact absurd (by unfold lwJ; rw [if_pos h48]) h2.1
      · have h3 := h2.2
        unfold lwJ at h3; rw [if_neg h48] at h3
        rw [if_neg (fun q => h3 ((nI_ltI (by omega) (by omega)).mpr q))]
    · rw [if_neg hs]
  unfold lwJ; rw [e]
/-- the run that ends with the row before the i-th -/
def rnP (V : Nat → Nat) (t : Nat) : Nat → Nat
  | 0 => 0
  | i + 1 => runR V t i
theorem rn_t {V : Nat → Nat} {t i : Nat} (h0 : ¬ i = 0) (h : sndN V i t = sndN V (i - 1) t) : rnP V t i + 1 = runR V t i := by
  cases i with
  | zero => exact absurd rfl h0
  | succ k =>
    show runA V t (sndN V k t) (k + 1) + 1 = runA V t (sndN V (k + 1) t) (k + 1 + 1)
    rw [show k + 1 - 1 = k from rfl] at h
    rw [h, runA_s (e := k + 1) h]
theorem rn_f {V : Nat → Nat} {t i : Nat} (h : i = 0 ∨ ¬ sndN V i t = sndN V (i - 1) t) : 1 = runR V t i := by
  cases i with
  | zero =>
    show 1 = runA V t (sndN V 0 t) (0 + 1)
    rw [runA_s rfl]; rfl
  | succ k =>
    have h2 := h.resolve_left (by omega)
    rw [show k + 1 - 1 = k from rfl] at h2
    show 1 = runA V t (sndN V (k + 1) t) (k + 1 + 1)
    rw [runA_s rfl, runA_n (fun q => h2 q.symm)]
def bnN (V : Nat → Nat) (b w i : Nat) : Nat := if w = 3 then baO V b i else paS V b w i
theorem bnN_f {V : Nat → Nat} {b w i : Nat} (h : ¬ i / V 68 = b) : bnN V b w i = bnN V b w (i + 1) := by
  unfold bnN
  by_cases h3 : w = 3
  · rw [if_pos h3, if_pos h3, baO, if_neg h]
  · rw [if_neg h3, if_neg h3]; exact paS_f h
theorem bnN_3 {V : Nat → Nat} {b w i : Nat} (h3 : w = 3) (h : i / V 68 = b) : bnN V b w i ||| nsA V i 8 = bnN V b w (i + 1) := by
  unfold bnN; rw [if_pos h3, if_pos h3, baO, if_pos h]
theorem bnN_n {V : Nat → Nat} {b w i z : Nat} (h3 : ¬ w = 3) (h : i / V 68 = b) (hz : z = paN V i w) : bnN V b w i + z = bnN V b w (i + 1) := by
  unfold bnN; rw [if_neg h3, if_neg h3, hz]; exact paS_t h
/-- all notes: as many threads with one as with another -/
theorem pop_nt {V : Nat → Nat} (hI : Inv V) (r : Nat) : sN (fun n => hwO V r n) 48 = pop (hol V r) := by
  show sN (fun n => sN (fun t => if sndN V r t = 1 ∧ V t = n then 1 else 0) 8) 48 = _
  rw [sN_swap 8 48]
  refine sN_c 8 (fun t ht => ?_)
  have e2 : ∀ n, n < 48 → (if sndN V r t = 1 ∧ V t = n then 1 else 0) = if V t = n then sndN V r t else 0 := fun n _ => by
    have hb := sndN_lt (V := V) (r := r) (t := t)
    by_cases h1 : sndN V r t = 1 <;> by_cases h2 : V t = n <;> simp [h1, h2]
    omega
  rw [sN_c 48 e2, sN_one (fun _ => sndN V r t) 48 (hI.nt ht)]
  rfl
theorem smN_iff {V : Nat → Nat} {a b : Nat} : ∀ i, smN V a b i = 1 ↔ (pop (hol V a) = pop (hol V b) ∧ ∀ t, t < i → (sndN V a t = 0 ∨ hwO V a (V t) = hwO V b (V t)))
  | 0 => by
    show bN _ = 1 ↔ _
    rw [bN_1]
    exact ⟨fun h => ⟨h, fun t ht => absurd ht (Nat.not_lt_zero _)⟩, fun h => h.1⟩
  | i + 1 => by
    have ih := smN_iff (V := V) (a := a) (b := b) i
    rw [smN]
    constructor
    · intro h
      have h1 : smN V a b i = 1 ∧ (sndN V a i = 0 ∨ hwO V a (V i) = hwO V b (V i)) := by
        by_cases hc : smN V a b i = 1 ∧ (sndN V a i = 0 ∨ hwO V a (V i) = hwO V b (V i))
        · exact hc
        · rw [if_neg hc] at h; cases h
      refine ⟨(ih.mp h1.1).1, fun t ht => ?_⟩
      by_cases hti : t = i
      · rw [hti]; exact h1.2
      · exact (ih.mp h1.1).2 t (by omega)
    · intro h
      rw [if_pos ⟨ih.mpr ⟨h.1, fun t ht => h.2 t (by omega)⟩, h.2 i (by omega)⟩]
theorem hwO_0 {V : Nat → Nat} {a n : Nat} (h : ∀ t, t < 8 → sndN V a t = 0 ∨ ¬ V t = n) : hwO V a n = 0 :=
  sN_0 8 (fun t ht => if_neg (fun q => (h t ht).elim (fun z => by omega) (fun z => z q.2)))
theorem al_iff {V : Nat → Nat} (hI : Inv V) {a b : Nat} : smN V a b 8 = 1 ↔ ∀ n, n < 48 → hwO V a n = hwO V b n := by
  rw [smN_iff]
  constructor
  · rintro ⟨hp, ht⟩
    refine sN_eqF 48 (fun n hn => ?_) (by rw [pop_nt hI a, pop_nt hI b]; exact hp)
    by_cases hz : hwO V a n = 0
    · rw [hz]; exact Nat.zero_le _
    · by_cases hex : ∃ t, t < 8 ∧ ¬ sndN V a t = 0 ∧ V t = n
      · obtain ⟨t, h1, h2, h3⟩ := hex
        have := (ht t h1).resolve_left h2
        rw [h3] at this; omega
      · exfalso
        refine hz (hwO_0 (fun t h1 => ?_))
        by_cases h2 : sndN V a t = 0
        · exact Or.inl h2
        · exact Or.inr (fun h3 => hex ⟨t, h1, h2, h3⟩)
  · intro h
    refine ⟨?_, fun t ht => Or.inr (h _ (hI.nt ht))⟩
    rw [← pop_nt hI a, ← pop_nt hI b]
    exact sN_c 48 h
/-- the first i notes -/
def eqN (V : Nat → Nat) (a b : Nat) : Nat → Nat
  | 0 => 1
  | i + 1 => if eqN V a b i = 1 ∧ hwO V a i = hwO V b i then 1 else 0
theorem eqN_lt {V : Nat → Nat} {a b : Nat} : ∀ i, eqN V a b i < 2
  | 0 => by show 1 < 2; decide
  | i + 1 => by rw [eqN]; split <;> omega
theorem eqN_iff {V : Nat → Nat} {a b : Nat} : ∀ i, eqN V a b i = 1 ↔ ∀ n, n < i → hwO V a n = hwO V b n
  | 0 => ⟨fun _ n hn => absurd hn (Nat.not_lt_zero _), fun _ => rfl⟩
  | i + 1 => by
    have ih := eqN_iff (V := V) (a := a) (b := b) i
    rw [eqN]
    constructor
    · intro h
      have h1 : eqN V a b i = 1 ∧ hwO V a i = hwO V b i := by
        by_cases hc : eqN V a b i = 1 ∧ hwO V a i = hwO V b i
        · exact hc
        · rw [if_neg hc] at h; cases h
      intro n hn
      by_cases hni : n = i
      · rw [hni]; exact h1.2
      · exact (ih.mp h1.1) n (by omega)
    · intro h
      rw [if_pos ⟨ih.mpr (fun n hn => h n (by omega)), h i (by omega)⟩]
theorem eqN_48 {V : Nat → Nat} (hI : Inv V) {a b : Nat} : eqN V a b 48 = smN V a b 8 := by
  have h1 := eqN_iff (V := V) (a := a) (b := b) 48
  have h2 := al_iff hI (a := a) (b := b)
  have h3 := eqN_lt (V := V) (a := a) (b := b) 48
  have h4 := smN_lt (V := V) (a := a) (b := b) 8
  have h5 : eqN V a b 48 = 1 ↔ smN V a b 8 = 1 := h1.trans h2.symm
  omega
theorem ans_0 {V : Nat → Nat} {h : Nat} : ans V h = 0 ↔ why V h = 0 := by
  unfold ans
  by_cases hc : ¬ why V h = 0 ∧ V 65 = h ∧ V 66 = 2
  · rw [if_pos hc]; constructor
    · intro q; omega
    · intro q; exact absurd q hc.1
  · rw [if_neg hc]
theorem ans_z {V : Nat → Nat} {h : Nat} (h0 : why V h = 0) : why V h = ans V h := (if_neg (fun q => q.1 h0)).symm
theorem ans_n {V : Nat → Nat} {h : Nat} (h3 : ¬ (V 66 = 2 ∧ V 65 = h)) : why V h = ans V h := (if_neg (fun q => h3 ⟨q.2.2, q.2.1⟩)).symm
theorem ans_3 {V : Nat → Nat} {h : Nat} (h0 : ¬ why V h = 0) (h3 : V 66 = 2 ∧ V 65 = h) : 10 + why V h = ans V h := (if_pos ⟨h0, h3.2, h3.1⟩).symm
abbrev bs0 (V : Nat → Nat) (i : Nat) : Nat := if bst V i = 0 then 0 else cls V (bst V i)
abbrev bs1 (V : Nat → Nat) (i : Nat) : Nat := if bst V i = 0 then 0 else com V (bst V i)
def bsJ (V : Nat → Nat) (i : Nat) : Int32 := if bst V i = 0 then (-1000004) else nI (bst V i)
theorem bs_t {V : Nat → Nat} {i : Nat} (h0 : ¬ i = 0) (hw : why V i = 0) (h : bst V i = 0 ∨ bet V i (bst V i)) : bst V (i + 1) = i := by rw [bst, if_pos ⟨h0, hw, h⟩]
theorem bs_f {V : Nat → Nat} {i : Nat} (h : ¬ why V i = 0 ∨ (¬ bst V i = 0 ∧ ¬ bet V i (bst V i))) : bst V (i + 1) = bst V i := by
  rw [bst, if_neg]
  rintro ⟨-, h1, h2⟩
  rcases h with h | h
  · exact h h1
  · rcases h2 with h2 | h2
    · exact h.1 h2
    · exact h.2 h2
theorem bsJ_0 {V : Nat → Nat} {i : Nat} (hi : i < 2 ^ 30) : bsJ V i = (-1000004) ↔ bst V i = 0 := by
  unfold bsJ
  by_cases h : bst V i = 0
  · rw [if_pos h]; exact ⟨fun _ => h, fun _ => rfl⟩
  · rw [if_neg h]
    exact ⟨fun q => absurd q (nf_n (by have := bst_le (V := V) i; omega)), fun q => absurd q h⟩
theorem co0 {V : Nat → Nat} {h : Nat} (h0 : V 16 = 0) : pop (h &&& 0) = com V h := by
  unfold com hol; rw [h0, if_neg (by omega)]
theorem ba8 {V : Nat → Nat} (hI : Inv V) : (V 16 + V 68 - 1) / V 68 = baN V := by
  have h := hI.s0
  show _ = if V 16 = 0 then 0 else (V 16 - 1) / V 68 + 1
  by_cases h0 : V 16 = 0
  · rw [if_pos h0, h0, Nat.zero_add]; exact Nat.div_eq_of_lt (by omega)
  · rw [if_neg h0, show V 16 + V 68 - 1 = V 16 - 1 + V 68 by omega, Nat.add_div_right _ (by omega)]
theorem xar {cA : ClassId} {n : Nat} {f g : Nat → Int32} (h : ∀ j, j < n → f j = g j) : vp_cell cA (n, .inl f) = vp_cell cA (n, .inl g) := by
  show arrV cA n (fun j => .int (f j)) = arrV cA n (fun j => .int (g j))
  have e : (fun j : Fin n => Value.int (f j.val)) = (fun j : Fin n => Value.int (g j.val)) := funext fun j => by rw [h j.val j.isLt]
  unfold arrV; rw [e]
/-- an array's content beyond its length is nothing -/
theorem xP_arr {D : va_G} {ws : va_W} {H : Heap} (hP : va_P D vwCl ws H) (q0 : Nat) {a : Nat} {cA : ClassId} {n : Nat} {f : Nat → Int32} (g : Nat → Int32) (ha : ws[q0]? = some (a, .inl (cA, n, .inl f))) (h : ∀ j, j < n → f j = g j) : va_P D vwCl (ws.set q0 (a, .inl (cA, n, .inl g))) H := by
  intro k q hk
  by_cases hq : k = q0
  · subst hq
    have hl := (List.getElem?_eq_some_iff.mp ha).1
    rw [List.getElem?_set_self hl] at hk
    cases hk
    have := hP k _ ha
    show H[a]? = some (vp_cell cA (n, .inl g))
    rw [← xar h]; exact this
  · rw [List.getElem?_set_ne (fun z => hq z.symm)] at hk
    exact hP k q hk
theorem xD_arr {A : Nat → Prop} {ws : va_W} (hD : va_D A ws) (q0 : Nat) {a : Nat} {e e2 : va_E} (ha : ws[q0]? = some (a, e)) : va_D A (ws.set q0 (a, e2)) := by
  have g : ∀ (k : Nat) (q : Nat × va_E), (ws.set q0 (a, e2))[k]? = some q → ∃ q1, ws[k]? = some q1 ∧ q1.1 = q.1 := by
    intro k q hk
    by_cases hq : k = q0
    · subst hq
      rw [List.getElem?_set_self (List.getElem?_eq_some_iff.mp ha).1] at hk
      cases hk; exact ⟨_, ha, rfl⟩
    · rw [List.getElem?_set_ne (fun z => hq z.symm)] at hk
      exact ⟨q, hk, rfl⟩
  refine ⟨fun i j p q hp hq hpq => ?_, fun k q hk => ?_⟩
  · obtain ⟨p1, h1, e1⟩ := g i p hp
    obtain ⟨q1, h2, e3⟩ := g j q hq
    exact hD.1 i j p1 q1 h1 h2 (by rw [e1, e3]; exact hpq)
  · obtain ⟨q1, h1, e1⟩ := g k q hk
    rw [← e1]; exact hD.2 k q1 h1
def bfI (V : Nat → Nat) (x : Int32) : Int32 := if inR x 256 then (if V 16 = 24 then (-1000003) else nI 0) else (-1000001)
theorem bf_n {V : Nat → Nat} {x : Int32} (h : ¬ inR x 256) : (-1000001) = bfI V x := (if_neg h).symm
theorem bf_l {V : Nat → Nat} {x : Int32} (h : inR x 256) (h2 : V 16 = 24) : (-1000003) = bfI V x := ((if_pos h).trans (if_pos h2)).symm
theorem bf_0 {V : Nat → Nat} {x : Int32} (h : inR x 256) (h2 : ¬ V 16 = 24) : nI 0 = bfI V x := ((if_pos h).trans (if_neg h2)).symm
theorem bf_ok {V : Nat → Nat} (hz : V 16 ≤ 24) {x : Int32} (h : 0 ≤ bfI V x) : ∃ k : Nat, k < 256 ∧ x = nI k ∧ V 16 < 24 := by
  by_cases h1 : inR x 256
  · by_cases h2 : V 16 = 24
    · rw [← bf_l h1 h2] at h; exact absurd h (by decide)
    · obtain ⟨k, hk, rfl⟩ := inR_k (by decide) h1
      exact ⟨k, hk, rfl, by omega⟩
  · rw [← bf_n h1] at h; exact absurd h (by decide)
theorem bf_neg {V : Nat → Nat} (hz : V 16 ≤ 24) {x : Int32} (h : bfI V x < 0) : bfI V x = ansI V x := by
  by_cases h1 : inR x 256
  · by_cases h2 : V 16 = 24
    · obtain ⟨k, hk, rfl⟩ := inR_k (by decide) h1
      rw [← bf_l h1 h2, ansI_full hk (by omega)]
    · rw [← bf_0 h1 h2] at h; exact absurd h (by decide)
  · rw [← bf_n h1]; unfold ansI; rw [if_neg h1]
theorem rnP_le {V : Nat → Nat} {t : Nat} : ∀ i, rnP V t i ≤ i
  | 0 => Nat.le_refl _
  | i + 1 => runA_le (V := V) (t := t) (a := sndN V i t) (i + 1)
theorem toI_h {V : Nat → Nat} {k w i : Nat} (hk : k < 2 ^ 31) (hw : w < 5) (h : plN V k = i) (hi : i < 8 * V 16) : toI V (nI k) (nI w) = toN V i w := by
  rw [toI_n hk hw (by rw [h]; exact hi), h]
theorem toI_e {V : Nat → Nat} {k w : Nat} (hk : k < 2 ^ 31) (hw : w < 5) (h : plN V k = 8 * V 16) : (-1000004) = toI V (nI k) (nI w) := toI_0 hk hw (by omega)
theorem ba_e {V : Nat → Nat} {b w : Nat} (hb : b < 12) (hw : w < 4) : nI (bnN V b w (V 16)) = baI V (nI b) (nI w) := by
  unfold bnN
  by_cases h3 : w = 3
  · rw [if_pos h3, baI_3 hb h3]
  · rw [if_neg h3, baI_n hb hw h3]
theorem bs0_le {V : Nat → Nat} {i : Nat} : bs0 V i ≤ 64 := by
  show (if bst V i = 0 then 0 else cls V (bst V i)) ≤ 64
  have := cls_le (V := V) (h := bst V i); split <;> omega
theorem bs1_le {V : Nat → Nat} {i : Nat} : bs1 V i ≤ 8 := by
  show (if bst V i = 0 then 0 else com V (bst V i)) ≤ 8
  have : com V (bst V i) ≤ 8 := pop_le
  split <;> omega
theorem be_r3 {V : Nat → Nat} {w i : Nat} (hw : w < 3) (h : ¬ 24 ≤ V 16) (hi : i = 256) (hk : bsJ V i = (-1000004)) : (-1000004) = beI V (nI w) := by
  subst hi; exact beI_0 hw h ((bsJ_0 (by decide)).mp hk)
theorem be_r0 {V : Nat → Nat} {w i : Nat} (hw : w < 3) (h : ¬ 24 ≤ V 16) (hi : i = 256) (hk : ¬ bsJ V i = (-1000004)) (h0 : w = 0) : bsJ V i = beI V (nI w) := by
  subst hi
  have hn : ¬ bst V 256 = 0 := fun q => hk ((bsJ_0 (by decide)).mpr q)
  rw [beI_n hw h hn, if_pos h0]; unfold bsJ; rw [if_neg hn]
theorem be_r1 {V : Nat → Nat} {w i : Nat} (hw : w < 3) (h : ¬ 24 ≤ V 16) (hi : i = 256) (hk : ¬ bsJ V i = (-1000004)) (h0 : ¬ w = 0) (h1 : w = 1) : nI (bs0 V i) = beI V (nI w) := by
  subst hi
  have hn : ¬ bst V 256 = 0 := fun q => hk ((bsJ_0 (by decide)).mpr q)
  rw [beI_n hw h hn, if_neg h0, if_pos h1]
  show nI (if bst V 256 = 0 then 0 else cls V (bst V 256)) = _
  rw [if_neg hn]
theorem be_r2 {V : Nat → Nat} {w i : Nat} (hw : w < 3) (h : ¬ 24 ≤ V 16) (hi : i = 256) (hk : ¬ bsJ V i = (-1000004)) (h0 : ¬ w = 0) (h1 : ¬ w = 1) : nI (bs1 V i) = beI V (nI w) := by
  subst hi
  have hn : ¬ bst V 256 = 0 := fun q => hk ((bsJ_0 (by decide)).mpr q)
  rw [beI_n hw h hn, if_neg h0, if_neg h1]
  show nI (if bst V 256 = 0 then 0 else com V (bst V 256)) = _
  rw [if_neg hn]
theorem ky_s : ∀ a, a < 12 → ∀ b, b < 12 → nI a - nI b + nI 12 = nI (a + 12 - b) := by decide +kernel
theorem kyA_lt9 {V : Nat → Nat} : ∀ i, 1 ≤ i → kyA V i < i
  | 0, h => absurd h (by decide)
  | i + 1, _ => by
    have := kyA_lt (V := V) i
    rw [kyA]; split <;> omega
theorem lkN_lt {V : Nat → Nat} {w : Nat} : ∀ i, lkN V w i < 2
  | 0 => by show 1 < 2; decide
  | i + 1 => by rw [lkN]; split <;> omega
theorem lkN_n {V : Nat → Nat} {w i : Nat} (h : ¬ lkC V w i ∨ lkN V w i = 0) : 0 = lkN V w (i + 1) := by
  rw [lkN, if_neg]
  rintro ⟨a, b⟩
  rcases h with h | h
  · exact h b
  · omega
theorem lkc7 {V : Nat → Nat} {kw i z v : Nat} (hz : z = if kw = 1 then i else V 16 - 1 - i) (hv : v = if kw = 0 then V (17 + z) else mir (V (17 + z))) : lkC V kw i ↔ V (17 + i) = v := by
  show V (17 + i) = (if kw = 0 then V (17 + (V 16 - 1 - i)) else if kw = 1 then mir (V (17 + i)) else mir (V (17 + (V 16 - 1 - i)))) ↔ _
  by_cases h0 : kw = 0
  · rw [if_pos h0] at hv ⊢; rw [if_neg (by omega)] at hz; rw [hv, hz]
  · rw [if_neg h0] at hv ⊢
    by_cases h1 : kw = 1
    · rw [if_pos h1] at hz ⊢; rw [hv, hz]
    · rw [if_neg h1] at hz ⊢; rw [hv, hz]
theorem ink {w : Int32} {a b : Nat} (h : ¬ w < nI a ∧ ¬ nI b < w) (ha : a ≤ b ∧ b < 2 ^ 31) : ∃ k : Nat, a ≤ k ∧ k ≤ b ∧ w = nI k := by
  have h1 : ¬ w.toInt < (nI a).toInt := fun q => h.1 (Int32.lt_iff_toInt_lt.mpr q)
  have h2 : ¬ (nI b).toInt < w.toInt := fun q => h.2 (Int32.lt_iff_toInt_lt.mpr q)
  rw [nI_toInt (by omega)] at h1 h2
  have h0 : ¬ w < 0 := fun q => by
    have h3 : w.toInt < 0 := Int32.lt_iff_toInt_lt.mp q
    omega
  obtain ⟨k, hk, rfl⟩ := nI_of h0
  rw [nI_toInt hk] at h1 h2
  exact ⟨k, by omega, by omega, rfl⟩
theorem co_d {V : Nat → Nat} {n L : Nat} {w : Int32} (h1 : ¬ inR w 11) (h2 : ¬ (¬ w < nI 20 ∧ ¬ nI 23 < w)) : (-1000001) = coI V n L w := by
  by_cases h : inR w 24
  · obtain ⟨k, hk, rfl⟩ := inR_k (by decide) h
    rw [coI_n hk]
    have h3 : ¬ k < 11 := fun q => h1 ((inR_n (by omega) (by decide)).mpr q)
    have h4 : ¬ 20 ≤ k := fun q => h2 ⟨fun z => absurd ((nI_ltI (by omega) (by decide)).mp z) (by omega), fun z => absurd ((nI_ltI (by decide) (by omega)).mp z) (by omega)⟩
    rcases (show k = 11 ∨ k = 12 ∨ k = 13 ∨ k = 14 ∨ k = 15 ∨ k = 16 ∨ k = 17 ∨ k = 18 ∨ k = 19 by omega) with rfl | rfl | rfl | rfl | rfl | rfl | rfl | rfl | rfl <;> rfl
  · exact coI_f h
theorem co_20 {V : Nat → Nat} {n L k : Nat} (h1 : 20 ≤ k) (h2 : k ≤ 23) : nI (V (68 + k - 20)) = coI V n L (nI k) := by
  rw [coI_n (by omega)]
  rcases (show k = 20 ∨ k = 21 ∨ k = 22 ∨ k = 23 by omega) with rfl | rfl | rfl | rfl <;> rfl
