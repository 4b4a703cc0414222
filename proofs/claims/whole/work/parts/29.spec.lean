/-! ===== what a constructor makes ===== -/
theorem xcI {D : va_G} {y : Nat → ClassId} {s : State} {cA : ClassId} (hK : xK D y s) (h : va_K D vwCl (xT y ++ [(cA, .int)]) s) : cA = y 1 := by
  have a : s.vm.findClass ("[" ++ FieldType.int.toString) = some cA := (h.2 3 (cA, .int) rfl).2
  have b : s.vm.findClass ("[" ++ FieldType.int.toString) = some (y 1) := (hK.1.2 1 (y 1, .int) rfl).2
  exact Option.some.inj (a.symm.trans b)
theorem xcC {D : va_G} {y : Nat → ClassId} {s : State} {cA : ClassId} (hK : xK D y s) (h : va_K D vwCl (xT y ++ [(cA, .char)]) s) : cA = y 0 := by
  have a : s.vm.findClass ("[" ++ FieldType.char.toString) = some cA := (h.2 3 (cA, .char) rfl).2
  have b : s.vm.findClass ("[" ++ FieldType.char.toString) = some (y 0) := (hK.1.2 0 (y 0, .char) rfl).2
  exact Option.some.inj (a.symm.trans b)
theorem xcR {D : va_G} {y : Nat → ClassId} {s : State} {cA : ClassId} (hK : xK D y s) (h : va_K D vwCl (xT y ++ [(cA, .object "LoomTunes$Register")]) s) : cA = y 2 := by
  obtain ⟨_, _, _, _, _, a⟩ := (h.2 3 (cA, .object "LoomTunes$Register") rfl).2
  obtain ⟨_, _, _, _, _, b⟩ := (hK.1.2 2 (y 2, .object "LoomTunes$Register") rfl).2
  exact Option.some.inj (a.symm.trans b)
def xPc (D : va_G) (y : Nat → ClassId) (W0 : va_W) (sz : Nat) : State → Prop := fun U => U.heap.size = sz ∧ va_P D vwCl W0 U.heap ∧ xK D y U ∧ va_D (fun _ => True) W0 ∧ va_AO RX2 U
theorem xfb_c {av : List Value} {D : va_G} {y : Nat → ClassId} {W0 : va_W} {sz : Nat} : FrameBlind (va_Pc av (xPc D y W0 sz)) :=
  fun a U g mk q => ⟨q.1, q.2.1, q.2.2.1, xK.same (u := U) (U := U.calling g mk a) rfl q.2.2.2.1, q.2.2.2.2.1, va_AO.moved (u := U) (U := U.calling g mk a) (Vm.Alike.refl U.vm) q.2.2.2.2.2⟩
theorem xps_c {D : va_G} {y : Nat → ClassId} {A : Nat → Prop} {s : State} {H : Heap} {ws W0 : va_W} {As : List Value} (hK : xK D y s) (hP : va_P D vwCl ws H) (hD : va_D A ws) (hAO : va_AO RX2 s) (is : List Nat) (hn : va_nd is = true) (hs2 : is.map (fun i => ws[i]?) = W0.map some) (hs : is.filterMap (fun i => ws[i]?) = W0) : PreS s H (va_Pc As (xPc D y W0 H.size)) As :=
  ⟨xfb_c, fun U hU hW => ⟨rfl, by rw [hU], by rw [hU]; exact hP.sub is hs, hK.warm hW, (hD.sub is hn hs2).weaken (fun _ _ _ _ => trivial), va_AO.moved hW.alike hAO⟩⟩
def V0 : Nat → Nat := fun j => if j < 8 then 12 + 2 * j else if j < 16 then (j - 8) % 4 else if j = 68 then 4 else if j = 69 then 5 else if j = 70 then 3 else if j = 71 then 6 else 0
theorem V0_inv : Inv V0 := ⟨by decide, by decide, by decide, by decide, by decide, by decide, by decide, by decide, by decide, by decide, by decide⟩
def VV0 : Nat → Nat → Nat := fun _ => V0
def Z0 : Nat → Nat := fun _ => 0
def ad5 (a b c d e : Nat) : Nat → Nat
  | 0 => a
  | 1 => b
  | 2 => c
  | 3 => d
  | _ => e
theorem rp_0 {n d : Nat} {BB : Nat → Nat → Nat} {qq : Nat → Nat → Nat → Int32} {B : Nat → Nat → Nat} (h : n = 0) : RepH n d BB qq B := fun k hk => absurd hk (by omega)
theorem rb_0 {n : Nat} {B : Nat → Nat → Nat} {b : Nat → Nat} (h : n = 0) : RepB n B b := fun k hk => absurd hk (by omega)
theorem ro_0 {a0 a1 a2 a3 : Nat} {hh : Nat → Nat → Nat} {f : Nat → Option Nat} (h0 : hh 0 0 = a0) (h1 : hh 1 0 = a1) (h2 : hh 2 0 = a2) (h3 : hh 3 0 = a3) : RoH 0 hh (va_up (va_up (va_up (va_up f 0 (some a0)) 1 (some a1)) 2 (some a2)) 3 (some a3)) := by
  intro i hi
  rcases (show i = 0 ∨ i = 1 ∨ i = 2 ∨ i = 3 by omega) with rfl | rfl | rfl | rfl
  · rw [va_up_ne _ _ (by decide), va_up_ne _ _ (by decide), va_up_ne _ _ (by decide), va_up_self, ← h0]
  · rw [va_up_ne _ _ (by decide), va_up_ne _ _ (by decide), va_up_self, ← h1]
  · rw [va_up_ne _ _ (by decide), va_up_self, ← h2]
  · rw [va_up_self, ← h3]
