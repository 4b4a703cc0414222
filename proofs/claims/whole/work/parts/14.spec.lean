/-! ===== what a change leaves ===== -/
def stV (x : Int32) (V U : Nat → Nat) : Nat → Nat := if x < 0 then V else U
def stN (x : Int32) (n : Nat) : Nat := if x < 0 then n else kpN n
def stB (x : Int32) (n : Nat) (B : Nat → Nat → Nat) (V : Nat → Nat) : Nat → Nat → Nat := if x < 0 then B else knB n B V
theorem stV_n {x : Int32} {V U : Nat → Nat} (h : x < 0) : stV x V U = V := if_pos h
theorem stV_p {x : Int32} {V U : Nat → Nat} (h : ¬ x < 0) : stV x V U = U := if_neg h
theorem stN_n {x : Int32} {n : Nat} (h : x < 0) : stN x n = n := if_pos h
theorem stN_p {x : Int32} {n : Nat} (h : ¬ x < 0) : stN x n = kpN n := if_neg h
theorem stB_n {x : Int32} {n : Nat} {B : Nat → Nat → Nat} {V : Nat → Nat} (h : x < 0) : stB x n B V = B := if_pos h
theorem stB_p {x : Int32} {n : Nat} {B : Nat → Nat → Nat} {V : Nat → Nat} (h : ¬ x < 0) : stB x n B V = knB n B V := if_neg h
theorem kp_le {n : Nat} : kpN n ≤ 4 := by unfold kpN; split <;> omega
theorem stN_le {x : Int32} {n : Nat} (h : n ≤ 4) : stN x n ≤ 4 := by unfold stN; split; exact h; exact kp_le
theorem stV_inv {x : Int32} {V U : Nat → Nat} (h : Inv V) (h2 : Inv U) : Inv (stV x V U) := by unfold stV; split; exact h; exact h2
theorem knB_inv {n : Nat} {B : Nat → Nat → Nat} {V : Nat → Nat} (hn : n ≤ 4) (hB : ∀ k, k < n → Inv (B k)) (hI : Inv V) : ∀ k, k < kpN n → Inv (knB n B V k) := by
  intro k hk
  unfold knB
  by_cases h4 : n < 4
  · rw [kp_a h4] at hk
    rw [if_pos h4]; split
    · exact hI
    · exact hB k (by omega)
  · have e : n = 4 := by omega
    rw [kp_b e] at hk
    rw [if_neg h4]; split
    · exact hI
    · exact hB (k + 1) (by omega)
theorem stB_inv {x : Int32} {n : Nat} {B : Nat → Nat → Nat} {V : Nat → Nat} (hn : n ≤ 4) (hB : ∀ k, k < n → Inv (B k)) (hI : Inv V) : ∀ k, k < stN x n → Inv (stB x n B V k) := by
  unfold stN stB; split
  · exact hB
  · exact knB_inv hn hB hI
/-! ===== a text's signs ===== -/
abbrev tyO (x : Int32) : Prop := ¬ x < nI 32 ∧ x ≤ nI 126
def tyI (L : Nat) (x : Int32) : Int32 := if tyO x then (if L < 60 then nI (L + 1) else (-1000003)) else (-1000001)
def tyL (L : Nat) (x : Int32) : Nat := if tyO x then (if L < 60 then L + 1 else L) else L
def tyT (T : Nat → Nat) (L : Nat) (x : Int32) : Nat → Nat := if tyO x then (if L < 60 then uN T L x.toNatClampNeg else T) else T
theorem ty_1 {T : Nat → Nat} {L : Nat} {x : Int32} (h : ¬ tyO x) : tyI L x = (-1000001) ∧ tyL L x = L ∧ tyT T L x = T := ⟨if_neg h, if_neg h, if_neg h⟩
theorem ty_2 {T : Nat → Nat} {L : Nat} {x : Int32} (h : tyO x) (hL : ¬ L < 60) : tyI L x = (-1000003) ∧ tyL L x = L ∧ tyT T L x = T := ⟨(if_pos h).trans (if_neg hL), (if_pos h).trans (if_neg hL), (if_pos h).trans (if_neg hL)⟩
theorem ty_k {x : Int32} (h : tyO x) : ∃ k : Nat, 32 ≤ k ∧ k ≤ 126 ∧ x = nI k := by
  have hp : ¬ x < 0 := fun q => h.1 (Int32.lt_iff_toInt_lt.mpr (by
    have a := Int32.lt_iff_toInt_lt.mp q
    rw [nI_toInt (by decide)]
    have b : x.toInt < 0 := a
    omega))
  obtain ⟨k, hk, rfl⟩ := nI_of hp
  refine ⟨k, ?_, ?_, rfl⟩
  · have a : ¬ (nI k).toInt < (nI 32).toInt := fun q => h.1 (Int32.lt_iff_toInt_lt.mpr q)
    rw [nI_toInt hk, nI_toInt (by decide)] at a
    omega
  · have a := Int32.le_iff_toInt_le.mp h.2
    rw [nI_toInt hk, nI_toInt (by decide)] at a
    omega
theorem ty_3 {T : Nat → Nat} {L k : Nat} (h : tyO (nI k)) (hk : k ≤ 126) (hL : L < 60) : tyI L (nI k) = nI (L + 1) ∧ tyL L (nI k) = L + 1 ∧ tyT T L (nI k) = uN T L k := by
  refine ⟨(if_pos h).trans (if_pos hL), (if_pos h).trans (if_pos hL), ?_⟩
  refine ((if_pos h).trans (if_pos hL)).trans ?_
  rw [nI_clamp (by omega)]
theorem ty_rep {T : Nat → Nat} {L k : Nat} {sg : Nat → Int32} (hT : RepT T L sg) (hk : 32 ≤ k) (hk2 : k ≤ 126) (hL : L < 60) : RepT (uN T L k) (L + 1) (upd sg L (nI k)) := by
  refine ⟨hL, fun i hi => ?_⟩
  by_cases h : i = L
  · subst h
    rw [uN_s]
    exact ⟨if_pos rfl, hk, hk2⟩
  · rw [uN_n h, show upd sg L (nI k) i = sg i from if_neg h]
    exact hT.2 i (by omega)
theorem ty_e {T : Nat → Nat} {sg : Nat → Int32} : RepT T 0 sg := ⟨Nat.zero_le _, fun i hi => absurd hi (Nat.not_lt_zero _)⟩
theorem ch127 : ∀ k, k < 127 → vp_nar .char (nI k) = nI k := by decide +kernel
section XC
variable {p : Program} {l : Launch} {e : Env} {R : Room} {s : State} {m : MethodId} {args : Array Value} {below : List Frame} {meth : Method} {c : Code} {H : Heap} {locs : List Loc} {cells slots : Nat} {Q : State → Prop} {cc : ByteArray} {pc : Nat} {ls : Array Slot} {rest : List Value}
theorem xn_cast (hexec : p.tables.exec = Jvm.exec) (hb : c.code = cc) {D : va_G} {y : Nat → ClassId} {ws : va_W} {A : Nat → Prop} {H0 : Heap} {a : Nat} (hK : xK D y s) (hP : va_P D vwCl ws H) (hD : va_D A ws) (hS : va_S A H0 H locs) (q0 : Nat) {n j k : Nat} {f g : Nat → Int32} (hk : k < 127) (ha : ws[q0]? = some (a, .inl (y 0, n, .inl f))) (hin : j < n) (hn : n < 2 ^ 31) (hg : upd f j (nI k) = g) (hdg : decode cc pc = .ok (.castore, 1)) (kk : ∀ (H1 : Heap) (locs1 : List Loc), va_P D vwCl (ws.set q0 (a, .inl (y 0, n, .inl g))) H1 → va_D A (ws.set q0 (a, .inl (y 0, n, .inl g))) → va_S A H0 H1 locs1 → W p l e R s m args below meth c H1 locs1 cells slots Q (F0 m (pc + 1) ls rest)) : W p l e R s m args below meth c H locs cells slots Q (F0 m pc ls (.int (nI k) :: .int (nI j) :: .ref a :: rest)) :=
  va_cast hexec hb hK.1 hP hD hS q0 0 ha rfl (vp_in_nI hin hn) hdg (fun H1 locs1 h1 h2 h3 => by rw [nI_clamp (Nat.lt_trans hin hn), ch127 k hk, hg] at h1 h2; exact kk H1 locs1 h1 h2 h3)
end XC
/-! ===== playing ===== -/
def pyI (T : Nat → Nat) (L : Nat) (V : Nat → Nat) : Int32 := if (goA T L V).2.2.1 = 0 then nI (goA T L V).1 else (-1000002)
def pyV (T : Nat → Nat) (L : Nat) (V : Nat → Nat) : Nat → Nat := (goA T L V).2.2.2.2
theorem py_t {T : Nat → Nat} {L : Nat} {V : Nat → Nat} (h : (goA T L V).2.2.1 = 0) : pyI T L V = nI (goA T L V).1 := if_pos h
theorem py_f {T : Nat → Nat} {L : Nat} {V : Nat → Nat} (h : ¬ (goA T L V).2.2.1 = 0) : pyI T L V = (-1000002) := if_neg h
def faN (T : Nat → Nat) (L : Nat) (V : Nat → Nat) (w : Nat) : Int32 := if (goA T L V).2.2.1 = 0 then (-1000004) else if w = 0 then nI (goA T L V).2.1 else if w = 1 then nI (goA T L V).2.2.1 else (goA T L V).2.2.2.1
def faI (T : Nat → Nat) (L : Nat) (V : Nat → Nat) (w : Int32) : Int32 := if inR w 3 then faN T L V w.toNatClampNeg else (-1000001)
theorem faI_f {T : Nat → Nat} {L : Nat} {V : Nat → Nat} {w : Int32} (h : ¬ inR w 3) : (-1000001) = faI T L V w := (if_neg h).symm
theorem faI_n {T : Nat → Nat} {L : Nat} {V : Nat → Nat} {w : Nat} (hw : w < 3) : faI T L V (nI w) = faN T L V w := by
  unfold faI; rw [if_pos ((inR_n (by omega) (by decide)).mpr hw), nI_clamp (by omega)]
theorem faN_0 {T : Nat → Nat} {L : Nat} {V : Nat → Nat} {w : Nat} (h : (goA T L V).2.2.1 = 0) : faN T L V w = (-1000004) := if_pos h
theorem faN_n {T : Nat → Nat} {L : Nat} {V : Nat → Nat} {w : Nat} (h : ¬ (goA T L V).2.2.1 = 0) : faN T L V w = if w = 0 then nI (goA T L V).2.1 else if w = 1 then nI (goA T L V).2.2.1 else (goA T L V).2.2.2.1 := if_neg h
theorem go_inv {T : Nat → Nat} {L : Nat} : ∀ (f p : Nat) (V : Nat → Nat) (n : Nat), Inv V → Inv (goF T L f p V n).2.2.2.2
  | 0, _, _, _, h => h
  | f + 1, p, V, n, h => by
    rw [goF]
    split
    · split
      · split
        · exact h
        · exact go_inv f _ _ _ (do_inv h _ _ _)
      · exact h
    · exact h
theorem py_inv {T : Nat → Nat} {L : Nat} {V : Nat → Nat} (h : Inv V) : Inv (pyV T L V) := go_inv 60 0 V 0 h
theorem py_lt {T : Nat → Nat} {L : Nat} {V : Nat → Nat} (h : ¬ (goA T L V).2.2.1 = 0) : pyI T L V < 0 := by rw [py_f h]; decide
/-! ===== four places ===== -/
def sel4 {α : Type} (x0 x1 x2 x3 : α) : Nat → α
  | 0 => x0
  | 1 => x1
  | 2 => x2
  | _ => x3
theorem j4 {j : Nat} (h : j < 4) : j = 0 ∨ j = 1 ∨ j = 2 ∨ j = 3 := by omega
theorem sel4_0 {α : Type} {f : Nat → α} {x : α} : ∀ j, j < 4 → sel4 x (f 1) (f 2) (f 3) j = if j = 0 then x else f j := by
  intro j hj; rcases j4 hj with rfl | rfl | rfl | rfl <;> simp [sel4]
theorem sel4_1 {α : Type} {f : Nat → α} {x : α} : ∀ j, j < 4 → sel4 (f 0) x (f 2) (f 3) j = if j = 1 then x else f j := by
  intro j hj; rcases j4 hj with rfl | rfl | rfl | rfl <;> simp [sel4]
theorem sel4_2 {α : Type} {f : Nat → α} {x : α} : ∀ j, j < 4 → sel4 (f 0) (f 1) x (f 3) j = if j = 2 then x else f j := by
  intro j hj; rcases j4 hj with rfl | rfl | rfl | rfl <;> simp [sel4]
theorem sel4_3 {α : Type} {f : Nat → α} {x : α} : ∀ j, j < 4 → sel4 (f 0) (f 1) (f 2) x j = if j = 3 then x else f j := by
  intro j hj; rcases j4 hj with rfl | rfl | rfl | rfl <;> simp [sel4]
theorem sel_rep {n d p : Nat} {BB BB2 : Nat → Nat → Nat} {qq qq2 : Nat → Nat → Nat → Int32} {B : Nat → Nat → Nat} {V : Nat → Nat} {u : Nat → Nat → Int32} (hr : RepH n d (fun j => if j = p then V else BB j) (fun j => if j = p then u else qq j) B) (h0 : ∀ j, j < 4 → BB2 j = if j = p then V else BB j) (h1 : ∀ j, j < 4 → qq2 j = if j = p then u else qq j) : RepH n d BB2 qq2 B := by
  intro k hk
  have hl : (k + d) % 4 < 4 := Nat.mod_lt _ (by decide)
  rw [h0 _ hl, h1 _ hl]
  exact hr k hk
/-- the same, the cells that stay and the addresses written out -/
theorem xj_join2 {A0 : Nat → Prop} {D : va_G} {ws W0 w1 ws2 : va_W} {H H1 : Heap} (hP : va_P D vwCl ws H) (hD : va_D A0 ws) (isC isR : List Nat) (wr : va_W) (ad : List Nat) (hC : isC.map (fun i => ws[i]?) = W0.map some) (hC2 : isC.map (fun i => ws2[i]?) = w1.map some) (hR1 : isR.map (fun i => ws[i]?) = wr.map some) (hR2 : isR.map (fun i => ws2[i]?) = wr.map some) (hcov : (List.range ws2.length).all (fun i => isC.contains i || isR.contains i) = true) (hdis : isR.all (fun i => !isC.contains i) = true) (hf1 : ws.map Prod.fst = ad) (hf2 : ws2.map Prod.fst = ad)
    (hk : ∀ q : Nat, q < H.size → ¬ xIn W0 q → H1[q]? = H[q]?) (hP1 : va_P D vwCl w1 H1) : va_P D vwCl ws2 H1 ∧ va_D A0 ws2 :=
  xj_join hP hD isC isR hC hC2 (hR2.trans hR1.symm) hcov hdis (hf2.trans hf1.symm) hk hP1
