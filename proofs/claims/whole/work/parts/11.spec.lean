theorem xle_n {x : Int32} {n m : Nat} (hn : n + 1 = m) (hm : m < 2 ^ 31) (h : x ≤ nI n) : ¬ nI m ≤ x := by
  intro q
  have a := Int32.le_iff_toInt_le.mp h
  have b := Int32.le_iff_toInt_le.mp q
  rw [nI_toInt (by omega)] at a b
  omega
theorem xgt_n {x : Int32} {n m : Nat} (hn : n + 1 = m) (hm : m < 2 ^ 31) (h : ¬ x ≤ nI n) : nI m ≤ x := by
  apply Int32.le_iff_toInt_le.mpr
  have a : ¬ x.toInt ≤ (nI n).toInt := fun q => h (Int32.le_iff_toInt_le.mpr q)
  rw [nI_toInt (by omega)] at a ⊢
  omega
theorem beI_f {V : Nat → Nat} {w : Int32} (h : ¬ inR w 3) : (-1000001) = beI V w := by unfold beI; rw [if_neg h]
theorem beI_l {V : Nat → Nat} {w : Nat} (hw : w < 3) (h : 24 ≤ V 16) : (-1000003) = beI V (nI w) := by unfold beI; rw [if_pos ((inR_n (by omega) (by decide)).mpr hw), if_pos h]
theorem beI_0 {V : Nat → Nat} {w : Nat} (hw : w < 3) (h : ¬ 24 ≤ V 16) (h0 : bst V 256 = 0) : (-1000004) = beI V (nI w) := by unfold beI; rw [if_pos ((inR_n (by omega) (by decide)).mpr hw), if_neg h, if_pos h0]
theorem beI_n {V : Nat → Nat} {w : Nat} (hw : w < 3) (h : ¬ 24 ≤ V 16) (h0 : ¬ bst V 256 = 0) : beI V (nI w) = if w = 0 then nI (bst V 256) else if w = 1 then nI (cls V (bst V 256)) else nI (com V (bst V 256)) := by
  unfold beI; rw [if_pos ((inR_n (by omega) (by decide)).mpr hw), if_neg h, if_neg h0]
  rcases (show w = 0 ∨ w = 1 ∨ w = 2 by omega) with rfl | rfl | rfl <;> rfl
theorem bst_lt {V : Nat → Nat} : bst V 256 < 256 := by
  have h : ∀ i, bst V (i + 1) ≤ i := fun i => by
    have := bst_le (V := V) i
    rw [bst]; split <;> omega
  have h9 : bst V 256 ≤ 255 := h 255
  omega
theorem kyI_f {V : Nat → Nat} {w : Int32} (h : ¬ inR w 2) : (-1000001) = kyI V w := by unfold kyI; rw [if_neg h]
theorem kyI_0 {V : Nat → Nat} {w : Nat} (hw : w < 2) (h : alT V = 0) : (-1000004) = kyI V (nI w) := by unfold kyI; rw [if_pos ((inR_n (by omega) (by decide)).mpr hw), if_pos h]
theorem kyI_n {V : Nat → Nat} {w : Nat} (hw : w < 2) (h : ¬ alT V = 0) : kyI V (nI w) = if w = 0 then nI (kyA V 12) else nI (keN V (kyA V 12)) := by
  unfold kyI; rw [if_pos ((inR_n (by omega) (by decide)).mpr hw), if_neg h]
  rcases (show w = 0 ∨ w = 1 by omega) with rfl | rfl <;> rfl
theorem kyA_lt {V : Nat → Nat} : ∀ i, kyA V i ≤ i
  | 0 => Nat.le_refl _
  | i + 1 => by have := kyA_lt (V := V) i; rw [kyA]; split <;> omega
theorem keN_le {V : Nat → Nat} (hI : Inv V) {k : Nat} : keN V k ≤ 192 := by
  have := sN_le (f := fun t => bv 2741 ((V t + 12 - k) % 12) * toT V t) (b := 24) 8 (fun i _ => by
    have h1 := toT_le hI (t := i)
    rcases bv_or (h := 2741) (k := (V i + 12 - k) % 12) with q | q <;> rw [q] <;> omega)
  show sN _ _ ≤ 192; omega
theorem lkI_f {V : Nat → Nat} {w : Int32} (h : ¬ inR w 3) : (-1000001) = lkI V w := by unfold lkI; rw [if_neg h]
theorem lkI_n {V : Nat → Nat} {w : Nat} (hw : w < 3) : lkI V (nI w) = nI (lkN V w (V 16)) := by unfold lkI; rw [if_pos ((inR_n (by omega) (by decide)).mpr hw), nI_clamp (by omega)]
theorem lkN_z {V : Nat → Nat} {w i : Nat} (h : lkN V w i = 0) : ∀ k, lkN V w (i + k) = 0
  | 0 => h
  | k + 1 => by rw [← Nat.add_assoc, lkN, if_neg]; have := lkN_z h k; omega
theorem lkN_f {V : Nat → Nat} {w i : Nat} (hi : i < V 16) (h : ¬ lkC V w i) : lkN V w (V 16) = 0 := by
  have h1 : lkN V w (i + 1) = 0 := by rw [lkN, if_neg (fun q => h q.2)]
  have := lkN_z h1 (V 16 - (i + 1))
  rw [show i + 1 + (V 16 - (i + 1)) = V 16 by omega] at this; exact this
theorem alN_t {V : Nat → Nat} {c r : Nat} (h : smN V r c 8 = 1) : alN V c (r + 1) = nI r := by rw [alN, if_pos h]
theorem alN_s {V : Nat → Nat} {c r : Nat} (h : ¬ smN V r c 8 = 1) : alN V c (r + 1) = alN V c r := by rw [alN, if_neg h]
theorem paS_t {V : Nat → Nat} {b w i : Nat} (h : i / V 68 = b) : paS V b w i + paN V i w = paS V b w (i + 1) := by
  show _ = sN _ i + (if i / V 68 = b then paN V i w else 0)
  rw [if_pos h]
theorem paS_f {V : Nat → Nat} {b w i : Nat} (h : ¬ i / V 68 = b) : paS V b w i = paS V b w (i + 1) := by
  show _ = sN _ i + (if i / V 68 = b then paN V i w else 0)
  rw [if_neg h]; rfl
theorem lkC_h {V : Nat → Nat} {w i : Nat} (h : i < V 16) : lkC V w i ↔ hol V i = (if w = 0 then hol V (V 16 - 1 - i) else if w = 1 then mir (hol V i) else mir (hol V (V 16 - 1 - i))) := by
  have e1 : hol V i = V (17 + i) := if_pos h
  have e2 : hol V (V 16 - 1 - i) = V (17 + (V 16 - 1 - i)) := if_pos (by omega)
  rw [e1, e2]
theorem lkN_s {V : Nat → Nat} {w i : Nat} (h : lkN V w i = 1) (h1 : lkC V w i) : lkN V w (i + 1) = 1 := by rw [lkN, if_pos ⟨h, h1⟩]
theorem rm_t {V : Nat → Nat} {n L : Nat} (h : rmb V = (-1)) (hI : Inv V) : (-1000004) = coN V n L 6 := by
  show _ = if V 66 = 0 then _ else _
  by_cases h0 : V 66 = 0
  · rw [if_pos h0]
  · exfalso
    have h65 := hI.2.2.2.2.2.1
    unfold rmb at h; rw [if_neg h0] at h
    have := congrArg Int32.toInt h
    rw [nI_toInt (by omega)] at this
    have h2 : (V 65 : Int) = -1 := this
    omega
theorem rm_f {V : Nat → Nat} {n L : Nat} (h : ¬ rmb V = (-1)) : rmb V = coN V n L 6 := by
  show _ = if V 66 = 0 then _ else _
  unfold rmb at h ⊢
  by_cases h0 : V 66 = 0
  · rw [if_pos h0] at h; exact absurd rfl h
  · rw [if_neg h0, if_neg h0]
