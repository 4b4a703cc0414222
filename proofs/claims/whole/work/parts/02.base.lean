/-! ===== base: worlds, rows over numbers, calls ===== -/
abbrev xT (y : Nat → ClassId) : List (ClassId × FieldType) := [(y 0, .char), (y 1, .int), (y 2, .object "LoomTunes$Register")]
def xN (U : State) : Prop := va_Nw (.methodLinkNest RX2 48 yX6_isIn RX6) U ∧ va_Nw (.methodLinkNest RX2 75 yX6_mirrored RX6) U ∧ va_Nw (.methodLinkNest RX5 44 yX6_isIn RX6) U
def xK (D : va_G) (y : Nat → ClassId) (U : State) : Prop := va_K D vwCl (xT y) U ∧ xN U
theorem xK.same {D : va_G} {y : Nat → ClassId} {u U : State} (h : u.vm = U.vm) (k : xK D y u) : xK D y U :=
  ⟨va_K.moved (by rw [h]; exact Vm.Alike.refl _) k.1, va_Nw.same rfl h k.2.1, va_Nw.same rfl h k.2.2.1, va_Nw.same rfl h k.2.2.2⟩
theorem xK.warm {D : va_G} {y : Nat → ClassId} {s U : State} (hW : s.WarmedH U.vm) (k : xK D y s) : xK D y U :=
  ⟨va_K.moved hW.alike k.1, va_Nw.warmM hW k.2.1, va_Nw.warmM hW k.2.2.1, va_Nw.warmM hW k.2.2.2⟩
/-- the addresses of a world -/
def xIn (W0 : va_W) : Nat → Prop := fun q => ∃ (k : Nat) (e : va_E), W0[k]? = some (q, e)
def xPr (D : va_G) (y : Nat → ClassId) (W0 : va_W) : State → Prop := fun U => va_P D vwCl W0 U.heap ∧ xK D y U
def xPw (D : va_G) (y : Nat → ClassId) (W0 : va_W) : State → Prop := fun U => va_P D vwCl W0 U.heap ∧ xK D y U ∧ va_D (fun _ => True) W0
theorem xfb_r {av : List Value} {D : va_G} {y : Nat → ClassId} {W0 : va_W} : FrameBlind (va_Pc av (xPr D y W0)) :=
  fun a U g mk q => ⟨q.1, q.2.1, xK.same (u := U) (U := U.calling g mk a) rfl q.2.2⟩
theorem xfb_w {av : List Value} {D : va_G} {y : Nat → ClassId} {W0 : va_W} : FrameBlind (va_Pc av (xPw D y W0)) :=
  fun a U g mk q => ⟨q.1, q.2.1, xK.same (u := U) (U := U.calling g mk a) rfl q.2.2.1, q.2.2.2⟩
theorem xfb_0 {av : List Value} : FrameBlind (va_Pc av (fun _ => True)) := fun a U g mk q => ⟨q.1, trivial⟩
theorem xpv_r {D : va_G} {y : Nat → ClassId} {s : State} {H : Heap} {ws W0 : va_W} {b : Addr} {As : List Value} {q : vw_C} {ci : Nat} {fs : List Value} (hK : xK D y s) (hP : va_P D vwCl ws H) (is : List Nat) (q0 : Nat) (hs : is.filterMap (fun i => ws[i]?) = W0) (hc : vwCl[ci]? = some q) (he : ws[q0]? = some (b, .inr (ci, fs))) : PreV s H q.1 b (va_Pc (.ref b :: As) (xPr D y W0)) As :=
  ⟨xfb_r, va_recv hK.1 hP hc he, fun U hU hW => ⟨rfl, by rw [hU]; exact hP.sub is hs, hK.warm hW⟩⟩
theorem xpv_w {D : va_G} {y : Nat → ClassId} {A : Nat → Prop} {s : State} {H : Heap} {ws W0 : va_W} {b : Addr} {As : List Value} {q : vw_C} {ci : Nat} {fs : List Value} (hK : xK D y s) (hP : va_P D vwCl ws H) (hD : va_D A ws) (is : List Nat) (q0 : Nat) (hn : va_nd is = true) (hs2 : is.map (fun i => ws[i]?) = W0.map some) (hs : is.filterMap (fun i => ws[i]?) = W0) (hc : vwCl[ci]? = some q) (he : ws[q0]? = some (b, .inr (ci, fs))) : PreV s H q.1 b (va_Pc (.ref b :: As) (xPw D y W0)) As :=
  ⟨xfb_w, va_recv hK.1 hP hc he, fun U hU hW => ⟨rfl, by rw [hU]; exact hP.sub is hs, hK.warm hW, (hD.sub is hn hs2).weaken (fun _ _ _ _ => trivial)⟩⟩
theorem xps_w {D : va_G} {y : Nat → ClassId} {A : Nat → Prop} {s : State} {H : Heap} {ws W0 : va_W} {As : List Value} (hK : xK D y s) (hP : va_P D vwCl ws H) (hD : va_D A ws) (is : List Nat) (hn : va_nd is = true) (hs2 : is.map (fun i => ws[i]?) = W0.map some) (hs : is.filterMap (fun i => ws[i]?) = W0) : PreS s H (va_Pc As (xPw D y W0)) As :=
  ⟨xfb_w, fun U hU hW => ⟨rfl, by rw [hU]; exact hP.sub is hs, hK.warm hW, (hD.sub is hn hs2).weaken (fun _ _ _ _ => trivial)⟩⟩
theorem xD_self {W0 : va_W} {A : Nat → Prop} (h : va_D A W0) : va_D (xIn W0) W0 := ⟨h.1, fun k q hk => ⟨k, q.2, hk⟩⟩
theorem xD_in {W0 ws : va_W} {A : Nat → Prop} (hD : va_D A ws) (is : List Nat) (hs : is.map (fun i => ws[i]?) = W0.map some) : ∀ q, xIn W0 q → A q := by
  rintro q ⟨k, e, h⟩
  have h1 : (is.map (fun i => ws[i]?))[k]? = some (some (q, e)) := by rw [hs, List.getElem?_map, h]; rfl
  rw [List.getElem?_map] at h1
  cases hi : is[k]? with
  | none => rw [hi] at h1; cases h1
  | some i => rw [hi] at h1; exact hD.2 i (q, e) (Option.some.inj h1)
theorem xP_eq {D : va_G} {a b : va_W} {H : Heap} (h : va_P D vwCl a H) (e : a = b) : va_P D vwCl b H := e ▸ h
theorem xD_eq {A : Nat → Prop} {a b : va_W} (h : va_D A a) (e : a = b) : va_D A b := e ▸ h
/-- behind a call that has changed the cells at the places isC: the others stay -/
theorem xj_join {A0 : Nat → Prop} {D : va_G} {ws W0 w1 ws2 : va_W} {H H1 : Heap} (hP : va_P D vwCl ws H) (hD : va_D A0 ws) (isC isR : List Nat) (hC : isC.map (fun i => ws[i]?) = W0.map some) (hC2 : isC.map (fun i => ws2[i]?) = w1.map some) (hR : isR.map (fun i => ws2[i]?) = isR.map (fun i => ws[i]?)) (hcov : (List.range ws2.length).all (fun i => isC.contains i || isR.contains i) = true) (hdis : isR.all (fun i => !isC.contains i) = true) (hf : ws2.map Prod.fst = ws.map Prod.fst)
    (hk : ∀ q : Nat, q < H.size → ¬ xIn W0 q → H1[q]? = H[q]?) (hP1 : va_P D vwCl w1 H1) : va_P D vwCl ws2 H1 ∧ va_D A0 ws2 := by
  have hat : ∀ (is : List Nat) (w v : va_W), is.map (fun i => v[i]?) = w.map some → ∀ (i : Nat) (q : Nat × va_E), i ∈ is → v[i]? = some q → ∃ k : Nat, w[k]? = some q := by
    intro is w v hs i q hi hq
    obtain ⟨k, hk⟩ := List.getElem?_of_mem hi
    have h1 : (is.map (fun i => v[i]?))[k]? = some (some q) := by rw [List.getElem?_map, hk]; exact congrArg some hq
    rw [hs, List.getElem?_map] at h1
    cases hw : w[k]? with
    | none => rw [hw] at h1; cases h1
    | some z => rw [hw] at h1; exact ⟨k, by rw [hw]; exact Option.some.inj h1⟩
  have hback : ∀ (k : Nat) (z : Nat × va_E), W0[k]? = some z → ∃ i : Nat, i ∈ isC ∧ ws[i]? = some z := by
    intro k z hz
    have h1 : (isC.map (fun i => ws[i]?))[k]? = some (some z) := by rw [hC, List.getElem?_map, hz]; rfl
    rw [List.getElem?_map] at h1
    cases hi : isC[k]? with
    | none => rw [hi] at h1; cases h1
    | some i => rw [hi] at h1; exact ⟨i, List.mem_of_getElem? hi, Option.some.inj h1⟩
  refine ⟨fun i q hq => ?_, ?_, ?_⟩
  · have hlt : i < ws2.length := (List.getElem?_eq_some_iff.mp hq).1
    have hc := List.all_eq_true.mp hcov i (List.mem_range.mpr hlt)
    rcases Bool.or_eq_true _ _ ▸ hc with h | h
    · obtain ⟨k, hk1⟩ := hat isC w1 ws2 hC2 i q (by simpa using h) hq
      exact hP1 k q hk1
    · have hm : i ∈ isR := by simpa using h
      have hnC : i ∉ isC := by
        have := List.all_eq_true.mp hdis i hm
        simpa using this
      have hq0 : ws[i]? = some q := by
        obtain ⟨k, hk1⟩ := List.getElem?_of_mem hm
        have h1 := congrArg (fun l => l[k]?) hR
        simp only [List.getElem?_map, hk1, Option.map_some] at h1
        rw [← Option.some.inj h1]; exact hq
      have hl := (hP i q hq0).lt
      refine (hP i q hq0).kept (hk q.1 hl ?_)
      rintro ⟨k2, e, h2⟩
      obtain ⟨j, hj, hj2⟩ := hback k2 (q.1, e) h2
      have hij := hD.1 i j q (q.1, e) hq0 hj2 rfl
      exact hnC (hij ▸ hj)
  · intro i j p q hp hq hpq
    have g : ∀ (i : Nat) (p : Nat × va_E), ws2[i]? = some p → ∃ p0, ws[i]? = some p0 ∧ p0.1 = p.1 := by
      intro i p hp
      have h1 := congrArg (fun l => l[i]?) hf
      simp only [List.getElem?_map, hp, Option.map_some] at h1
      cases hw : ws[i]? with
      | none => rw [hw] at h1; cases h1
      | some z => rw [hw] at h1; exact ⟨z, rfl, (Option.some.inj h1).symm⟩
    obtain ⟨p0, hp0, ep⟩ := g i p hp
    obtain ⟨q0, hq0, eq⟩ := g j q hq
    exact hD.1 i j p0 q0 hp0 hq0 (by rw [ep, eq]; exact hpq)
  · intro k q hq
    have h1 := congrArg (fun l => l[k]?) hf
    simp only [List.getElem?_map, hq, Option.map_some] at h1
    cases hw : ws[k]? with
    | none => rw [hw] at h1; cases h1
    | some z => rw [hw] at h1; rw [Option.some.inj h1]; exact hD.2 k z hw
/-! numbers -/
theorem xi_sub {a b : Nat} (h : b ≤ a) : nI a - nI b = nI (a - b) := pk_sub h
theorem xi_shr {a k : Nat} (ha : a < 2 ^ 31) (hk : k < 32) : nI a >>> (nI k &&& 31) = nI (a / 2 ^ k) := by
  refine pk_shrN ha _ k ?_
  have : ∀ k, k < 32 → ((nI k &&& 31).toBitVec.smod 32).toNat = k := by decide +kernel
  exact this k hk
theorem xi_shl {a k : Nat} (hk : k < 32) (h : a * 2 ^ k < 2 ^ 32) : nI a <<< (nI k &&& 31) = nI (a * 2 ^ k) := by
  refine pk_shlN _ k ?_ h
  have : ∀ k, k < 32 → ((nI k &&& 31).toBitVec.smod 32).toNat = k := by decide +kernel
  exact this k hk
theorem xi_and {a b : Nat} : nI a &&& nI b = nI (a &&& b) := by
  apply Int32.toBitVec_inj.mp
  apply BitVec.eq_of_toNat_eq
  simp [nI, Nat.and_mod_two_pow]
theorem xi_or {a b : Nat} : nI a ||| nI b = nI (a ||| b) := by
  apply Int32.toBitVec_inj.mp
  apply BitVec.eq_of_toNat_eq
  simp [nI, Nat.or_mod_two_pow]
theorem xi_and1 {a : Nat} (ha : a < 2 ^ 32) : nI a &&& nI 1 = nI (a % 2) := pk_andN ha 1 (by decide)
theorem xi_eq0 {a : Nat} (ha : a < 2 ^ 31) : nI a = 0 ↔ a = 0 := by
  have := nI_eq (a := a) (b := 0) ha (by decide)
  simpa [nI_0] using this
theorem xi_i2c {b : Nat} (h : b < 65536) : ((nI b).toUInt32 % 65536).toInt32 = nI b := by
  have := pk_char (nI b)
  rw [this, pk_tn (by omega), Nat.mod_eq_of_lt h]
theorem xb_fit {b : Nat} (h : b < 2) : fits .boolean (.int (nI b)) = true := by
  rcases (show b = 0 ∨ b = 1 by omega) with rfl | rfl <;> decide
section XR
variable {p : Program} {l : Launch} {e : Env} {R : Room} {s : State} {m : MethodId} {args : Array Value} {below : List Frame} {meth : Method} {c : Code} {H : Heap} {locs : List Loc} {cells slots : Nat} {Q : State → Prop} {cc : ByteArray} {pc : Nat} {ls : Array Slot} {rest : List Value}
/-- the top of the stack under another name -/
theorem xv {x v : Int32} (h : x = v) (k : W p l e R s m args below meth c H locs cells slots Q (F0 m pc ls (.int v :: rest))) : W p l e R s m args below meth c H locs cells slots Q (F0 m pc ls (.int x :: rest)) := by rw [h]; exact k
theorem xn_add (hexec : p.tables.exec = Jvm.exec) (hb : c.code = cc) {a b r : Nat} (hr : a + b = r) (hdg : decode cc pc = .ok (.iadd, 1)) (k : W p l e R s m args below meth c H locs cells slots Q (F0 m (pc + 1) ls (.int (nI r) :: rest))) : W p l e R s m args below meth c H locs cells slots Q (F0 m pc ls (.int (nI b) :: .int (nI a) :: rest)) :=
  lv_iadd hexec hb hdg (by rw [nI_add, hr]; exact k)
theorem xn_sub (hexec : p.tables.exec = Jvm.exec) (hb : c.code = cc) {a b r : Nat} (h : b ≤ a) (hr : a - b = r) (hdg : decode cc pc = .ok (.isub, 1)) (k : W p l e R s m args below meth c H locs cells slots Q (F0 m (pc + 1) ls (.int (nI r) :: rest))) : W p l e R s m args below meth c H locs cells slots Q (F0 m pc ls (.int (nI b) :: .int (nI a) :: rest)) :=
  lv_isub hexec hb hdg (by rw [pk_sub h, hr]; exact k)
theorem xn_mul (hexec : p.tables.exec = Jvm.exec) (hb : c.code = cc) {a b r : Nat} (hr : a * b = r) (hdg : decode cc pc = .ok (.imul, 1)) (k : W p l e R s m args below meth c H locs cells slots Q (F0 m (pc + 1) ls (.int (nI r) :: rest))) : W p l e R s m args below meth c H locs cells slots Q (F0 m pc ls (.int (nI b) :: .int (nI a) :: rest)) :=
  lv_imul hexec hb hdg (by rw [pk_mul, hr]; exact k)
theorem xn_div (hexec : p.tables.exec = Jvm.exec) (hb : c.code = cc) {a b r : Nat} (ha : a < 2 ^ 31) (h0 : 0 < b) (hb2 : b < 2 ^ 31) (hr : a / b = r) (hdg : decode cc pc = .ok (.idiv, 1)) (k : W p l e R s m args below meth c H locs cells slots Q (F0 m (pc + 1) ls (.int (nI r) :: rest))) : W p l e R s m args below meth c H locs cells slots Q (F0 m pc ls (.int (nI b) :: .int (nI a) :: rest)) :=
  lv_idiv hexec hb hdg (nI_ne0 h0 hb2) (by rw [pk_div ha h0 hb2, hr]; exact k)
theorem xn_rem (hexec : p.tables.exec = Jvm.exec) (hb : c.code = cc) {a b r : Nat} (ha : a < 2 ^ 31) (h0 : 0 < b) (hb2 : b < 2 ^ 31) (hr : a % b = r) (hdg : decode cc pc = .ok (.irem, 1)) (k : W p l e R s m args below meth c H locs cells slots Q (F0 m (pc + 1) ls (.int (nI r) :: rest))) : W p l e R s m args below meth c H locs cells slots Q (F0 m pc ls (.int (nI b) :: .int (nI a) :: rest)) :=
  lv_irem hexec hb hdg (nI_ne0 h0 hb2) (by rw [pk_rem ha h0 hb2, hr]; exact k)
theorem xn_and (hexec : p.tables.exec = Jvm.exec) (hb : c.code = cc) {a b r : Nat} (hr : a &&& b = r) (hdg : decode cc pc = .ok (.iand, 1)) (k : W p l e R s m args below meth c H locs cells slots Q (F0 m (pc + 1) ls (.int (nI r) :: rest))) : W p l e R s m args below meth c H locs cells slots Q (F0 m pc ls (.int (nI b) :: .int (nI a) :: rest)) :=
  lv_iand hexec hb hdg (by rw [xi_and, hr]; exact k)
theorem xn_or (hexec : p.tables.exec = Jvm.exec) (hb : c.code = cc) {a b r : Nat} (hr : a ||| b = r) (hdg : decode cc pc = .ok (.ior, 1)) (k : W p l e R s m args below meth c H locs cells slots Q (F0 m (pc + 1) ls (.int (nI r) :: rest))) : W p l e R s m args below meth c H locs cells slots Q (F0 m pc ls (.int (nI b) :: .int (nI a) :: rest)) :=
  lv_ior hexec hb hdg (by rw [xi_or, hr]; exact k)
theorem xn_shr (hexec : p.tables.exec = Jvm.exec) (hb : c.code = cc) {a b r : Nat} (ha : a < 2 ^ 31) (hb2 : b < 32) (hr : a / 2 ^ b = r) (hdg : decode cc pc = .ok (.ishr, 1)) (k : W p l e R s m args below meth c H locs cells slots Q (F0 m (pc + 1) ls (.int (nI r) :: rest))) : W p l e R s m args below meth c H locs cells slots Q (F0 m pc ls (.int (nI b) :: .int (nI a) :: rest)) :=
  lv_ishr hexec hb hdg (by rw [xi_shr ha hb2, hr]; exact k)
theorem xn_shl (hexec : p.tables.exec = Jvm.exec) (hb : c.code = cc) {a b r : Nat} (hb2 : b < 32) (ha : a * 2 ^ b < 2 ^ 32) (hr : a * 2 ^ b = r) (hdg : decode cc pc = .ok (.ishl, 1)) (k : W p l e R s m args below meth c H locs cells slots Q (F0 m (pc + 1) ls (.int (nI r) :: rest))) : W p l e R s m args below meth c H locs cells slots Q (F0 m pc ls (.int (nI b) :: .int (nI a) :: rest)) :=
  lv_ishl hexec hb hdg (by rw [xi_shl hb2 ha, hr]; exact k)
theorem xn_icmp_ge (hexec : p.tables.exec = Jvm.exec) (hb : c.code = cc) {a b : Nat} {off : Int} {tgt : Nat} (ha : a < 2 ^ 31) (hb2 : b < 2 ^ 31) (hdg : decode cc pc = .ok (.if_icmp .ge off, 3)) (ht : (pc : Int) + off = (tgt : Int)) (kt : b ≤ a → W p l e R s m args below meth c H locs cells slots Q (F0 m tgt ls rest)) (kf : a < b → W p l e R s m args below meth c H locs cells slots Q (F0 m (pc + 3) ls rest)) : W p l e R s m args below meth c H locs cells slots Q (F0 m pc ls (.int (nI b) :: .int (nI a) :: rest)) :=
  lv_icmp_ge hexec hb hdg ht (fun h => kt ((nI_leI hb2 ha).mp h)) (fun h => kf (Nat.not_le.mp (fun q => h ((nI_leI hb2 ha).mpr q))))
theorem xn_icmp_lt (hexec : p.tables.exec = Jvm.exec) (hb : c.code = cc) {a b : Nat} {off : Int} {tgt : Nat} (ha : a < 2 ^ 31) (hb2 : b < 2 ^ 31) (hdg : decode cc pc = .ok (.if_icmp .lt off, 3)) (ht : (pc : Int) + off = (tgt : Int)) (kt : a < b → W p l e R s m args below meth c H locs cells slots Q (F0 m tgt ls rest)) (kf : b ≤ a → W p l e R s m args below meth c H locs cells slots Q (F0 m (pc + 3) ls rest)) : W p l e R s m args below meth c H locs cells slots Q (F0 m pc ls (.int (nI b) :: .int (nI a) :: rest)) :=
  lv_icmp_lt hexec hb hdg ht (fun h => kt ((nI_ltI ha hb2).mp h)) (fun h => kf (Nat.not_lt.mp (fun q => h ((nI_ltI ha hb2).mpr q))))
theorem xn_icmp_gt (hexec : p.tables.exec = Jvm.exec) (hb : c.code = cc) {a b : Nat} {off : Int} {tgt : Nat} (ha : a < 2 ^ 31) (hb2 : b < 2 ^ 31) (hdg : decode cc pc = .ok (.if_icmp .gt off, 3)) (ht : (pc : Int) + off = (tgt : Int)) (kt : b < a → W p l e R s m args below meth c H locs cells slots Q (F0 m tgt ls rest)) (kf : a ≤ b → W p l e R s m args below meth c H locs cells slots Q (F0 m (pc + 3) ls rest)) : W p l e R s m args below meth c H locs cells slots Q (F0 m pc ls (.int (nI b) :: .int (nI a) :: rest)) :=
  lv_icmp_gt hexec hb hdg ht (fun h => kt ((nI_ltI hb2 ha).mp h)) (fun h => kf (Nat.not_lt.mp (fun q => h ((nI_ltI hb2 ha).mpr q))))
theorem xn_icmp_le (hexec : p.tables.exec = Jvm.exec) (hb : c.code = cc) {a b : Nat} {off : Int} {tgt : Nat} (ha : a < 2 ^ 31) (hb2 : b < 2 ^ 31) (hdg : decode cc pc = .ok (.if_icmp .le off, 3)) (ht : (pc : Int) + off = (tgt : Int)) (kt : a ≤ b → W p l e R s m args below meth c H locs cells slots Q (F0 m tgt ls rest)) (kf : b < a → W p l e R s m args below meth c H locs cells slots Q (F0 m (pc + 3) ls rest)) : W p l e R s m args below meth c H locs cells slots Q (F0 m pc ls (.int (nI b) :: .int (nI a) :: rest)) :=
  lv_icmp_le hexec hb hdg ht (fun h => kt ((nI_leI ha hb2).mp h)) (fun h => kf (Nat.not_le.mp (fun q => h ((nI_leI ha hb2).mpr q))))
theorem xn_icmp_eq (hexec : p.tables.exec = Jvm.exec) (hb : c.code = cc) {a b : Nat} {off : Int} {tgt : Nat} (ha : a < 2 ^ 31) (hb2 : b < 2 ^ 31) (hdg : decode cc pc = .ok (.if_icmp .eq off, 3)) (ht : (pc : Int) + off = (tgt : Int)) (kt : a = b → W p l e R s m args below meth c H locs cells slots Q (F0 m tgt ls rest)) (kf : ¬ a = b → W p l e R s m args below meth c H locs cells slots Q (F0 m (pc + 3) ls rest)) : W p l e R s m args below meth c H locs cells slots Q (F0 m pc ls (.int (nI b) :: .int (nI a) :: rest)) :=
  lv_icmp_eq hexec hb hdg ht (fun h => kt ((nI_eq ha hb2).mp h)) (fun h => kf (fun q => h ((nI_eq ha hb2).mpr q)))
theorem xn_icmp_ne (hexec : p.tables.exec = Jvm.exec) (hb : c.code = cc) {a b : Nat} {off : Int} {tgt : Nat} (ha : a < 2 ^ 31) (hb2 : b < 2 ^ 31) (hdg : decode cc pc = .ok (.if_icmp .ne off, 3)) (ht : (pc : Int) + off = (tgt : Int)) (kt : ¬ a = b → W p l e R s m args below meth c H locs cells slots Q (F0 m tgt ls rest)) (kf : a = b → W p l e R s m args below meth c H locs cells slots Q (F0 m (pc + 3) ls rest)) : W p l e R s m args below meth c H locs cells slots Q (F0 m pc ls (.int (nI b) :: .int (nI a) :: rest)) :=
  lv_icmp_ne hexec hb hdg ht (fun h => kt (fun q => h ((nI_eq ha hb2).mpr q))) (fun h => kf ((nI_eq ha hb2).mp h))
theorem xn_if_eq (hexec : p.tables.exec = Jvm.exec) (hb : c.code = cc) {a : Nat} {off : Int} {tgt : Nat} (ha : a < 2 ^ 31) (hdg : decode cc pc = .ok (.ifCond .eq off, 3)) (ht : (pc : Int) + off = (tgt : Int)) (kt : a = 0 → W p l e R s m args below meth c H locs cells slots Q (F0 m tgt ls rest)) (kf : ¬ a = 0 → W p l e R s m args below meth c H locs cells slots Q (F0 m (pc + 3) ls rest)) : W p l e R s m args below meth c H locs cells slots Q (F0 m pc ls (.int (nI a) :: rest)) :=
  lv_if_eq hexec hb hdg ht (fun h => kt ((xi_eq0 ha).mp h)) (fun h => kf (fun q => h ((xi_eq0 ha).mpr q)))
theorem xn_if_ne (hexec : p.tables.exec = Jvm.exec) (hb : c.code = cc) {a : Nat} {off : Int} {tgt : Nat} (ha : a < 2 ^ 31) (hdg : decode cc pc = .ok (.ifCond .ne off, 3)) (ht : (pc : Int) + off = (tgt : Int)) (kt : ¬ a = 0 → W p l e R s m args below meth c H locs cells slots Q (F0 m tgt ls rest)) (kf : a = 0 → W p l e R s m args below meth c H locs cells slots Q (F0 m (pc + 3) ls rest)) : W p l e R s m args below meth c H locs cells slots Q (F0 m pc ls (.int (nI a) :: rest)) :=
  lv_if_ne hexec hb hdg ht (fun h => kt (fun q => h ((xi_eq0 ha).mpr q))) (fun h => kf ((xi_eq0 ha).mp h))
theorem xn_if_lt (hexec : p.tables.exec = Jvm.exec) (hb : c.code = cc) {a : Nat} {off : Int} (ha : a < 2 ^ 31) {tgt : Nat} (hdg : decode cc pc = .ok (.ifCond .lt off, 3)) (ht : (pc : Int) + off = (tgt : Int)) (kf : W p l e R s m args below meth c H locs cells slots Q (F0 m (pc + 3) ls rest)) : W p l e R s m args below meth c H locs cells slots Q (F0 m pc ls (.int (nI a) :: rest)) :=
  lv_if_lt hexec hb hdg ht (fun h => absurd h (nI_pos ha)) (fun _ => kf)
theorem xi_le0 {a : Nat} (ha : a < 2 ^ 31) : nI a ≤ 0 ↔ a = 0 := by
  have := nI_leI (a := a) (b := 0) ha (by decide)
  rw [nI_0] at this; rw [this]; omega
theorem xi_lt0 {a : Nat} (ha : a < 2 ^ 31) : 0 < nI a ↔ 0 < a := by
  have := nI_ltI (a := 0) (b := a) (by decide) ha
  rw [nI_0] at this; rw [this]
theorem xn_if_le (hexec : p.tables.exec = Jvm.exec) (hb : c.code = cc) {a : Nat} {off : Int} {tgt : Nat} (ha : a < 2 ^ 31) (hdg : decode cc pc = .ok (.ifCond .le off, 3)) (ht : (pc : Int) + off = (tgt : Int)) (kt : a = 0 → W p l e R s m args below meth c H locs cells slots Q (F0 m tgt ls rest)) (kf : ¬ a = 0 → W p l e R s m args below meth c H locs cells slots Q (F0 m (pc + 3) ls rest)) : W p l e R s m args below meth c H locs cells slots Q (F0 m pc ls (.int (nI a) :: rest)) :=
  lv_if_le hexec hb hdg ht (fun h => kt ((xi_le0 ha).mp h)) (fun h => kf (fun q => h ((xi_le0 ha).mpr q)))
theorem xn_if_gt (hexec : p.tables.exec = Jvm.exec) (hb : c.code = cc) {a : Nat} {off : Int} {tgt : Nat} (ha : a < 2 ^ 31) (hdg : decode cc pc = .ok (.ifCond .gt off, 3)) (ht : (pc : Int) + off = (tgt : Int)) (kt : ¬ a = 0 → W p l e R s m args below meth c H locs cells slots Q (F0 m tgt ls rest)) (kf : a = 0 → W p l e R s m args below meth c H locs cells slots Q (F0 m (pc + 3) ls rest)) : W p l e R s m args below meth c H locs cells slots Q (F0 m pc ls (.int (nI a) :: rest)) :=
  lv_if_gt hexec hb hdg ht (fun h => kt (Nat.pos_iff_ne_zero.mp ((xi_lt0 ha).mp h))) (fun h => kf (Nat.eq_zero_of_not_pos (fun q => h ((xi_lt0 ha).mpr q))))
theorem xn_if_ge (hexec : p.tables.exec = Jvm.exec) (hb : c.code = cc) {a : Nat} {off : Int} {tgt : Nat} (ha : a < 2 ^ 31) (hdg : decode cc pc = .ok (.ifCond .ge off, 3)) (ht : (pc : Int) + off = (tgt : Int)) (kt : W p l e R s m args below meth c H locs cells slots Q (F0 m tgt ls rest)) : W p l e R s m args below meth c H locs cells slots Q (F0 m pc ls (.int (nI a) :: rest)) :=
  lv_if_ge hexec hb hdg ht (fun _ => kt) (fun h => absurd (nI_pos' ha) h)
/-- an array's length, place and content by numbers -/
theorem xn_alen (hexec : p.tables.exec = Jvm.exec) (hb : c.code = cc) {D : va_G} {y : Nat → ClassId} {ws : va_W} {a : Nat} (hK : xK D y s) (hP : va_P D vwCl ws H) (q0 t0 : Nat) {cA : ClassId} {n : Nat} {x : vp_A} (ha : ws[q0]? = some (a, .inl (cA, x))) {ty : FieldType} (ht : (xT y)[t0]? = some (cA, ty)) (hn : x.1 = n) (hdg : decode cc pc = .ok (.arraylength, 1)) (kk : W p l e R s m args below meth c H locs cells slots Q (F0 m (pc + 1) ls (.int (nI n) :: rest))) : W p l e R s m args below meth c H locs cells slots Q (F0 m pc ls (.ref a :: rest)) :=
  va_alen hexec hb hK.1 hP q0 t0 ha ht (by rw [hn]; rfl) hdg kk
theorem xn_iald (hexec : p.tables.exec = Jvm.exec) (hb : c.code = cc) {D : va_G} {y : Nat → ClassId} {ws : va_W} {a : Nat} (hK : xK D y s) (hP : va_P D vwCl ws H) (q0 : Nat) {n j : Nat} {f : Nat → Int32} {v : Int32} (ha : ws[q0]? = some (a, .inl (y 1, n, .inl f))) (hin : j < n) (hn : n < 2 ^ 31) (hv : f j = v) (hdg : decode cc pc = .ok (.iaload, 1)) (kk : W p l e R s m args below meth c H locs cells slots Q (F0 m (pc + 1) ls (.int v :: rest))) : W p l e R s m args below meth c H locs cells slots Q (F0 m pc ls (.int (nI j) :: .ref a :: rest)) :=
  va_iald hexec hb hK.1 hP q0 1 ha rfl (vp_in_nI hin hn) hdg (by rw [nI_clamp (Nat.lt_trans hin hn), hv]; exact kk)
theorem xn_cald (hexec : p.tables.exec = Jvm.exec) (hb : c.code = cc) {D : va_G} {y : Nat → ClassId} {ws : va_W} {a : Nat} (hK : xK D y s) (hP : va_P D vwCl ws H) (q0 : Nat) {n j : Nat} {f : Nat → Int32} {v : Int32} (ha : ws[q0]? = some (a, .inl (y 0, n, .inl f))) (hin : j < n) (hn : n < 2 ^ 31) (hv : f j = v) (hdg : decode cc pc = .ok (.caload, 1)) (kk : W p l e R s m args below meth c H locs cells slots Q (F0 m (pc + 1) ls (.int v :: rest))) : W p l e R s m args below meth c H locs cells slots Q (F0 m pc ls (.int (nI j) :: .ref a :: rest)) :=
  va_cald hexec hb hK.1 hP q0 0 ha rfl (vp_in_nI hin hn) hdg (by rw [nI_clamp (Nat.lt_trans hin hn), hv]; exact kk)
theorem xn_iast (hexec : p.tables.exec = Jvm.exec) (hb : c.code = cc) {D : va_G} {y : Nat → ClassId} {ws : va_W} {A : Nat → Prop} {H0 : Heap} {a : Nat} (hK : xK D y s) (hP : va_P D vwCl ws H) (hD : va_D A ws) (hS : va_S A H0 H locs) (q0 : Nat) {n j : Nat} {f g : Nat → Int32} {x : Int32} (ha : ws[q0]? = some (a, .inl (y 1, n, .inl f))) (hin : j < n) (hn : n < 2 ^ 31) (hg : upd f j x = g) (hdg : decode cc pc = .ok (.iastore, 1)) (kk : ∀ (H1 : Heap) (locs1 : List Loc), va_P D vwCl (ws.set q0 (a, .inl (y 1, n, .inl g))) H1 → va_D A (ws.set q0 (a, .inl (y 1, n, .inl g))) → va_S A H0 H1 locs1 → W p l e R s m args below meth c H1 locs1 cells slots Q (F0 m (pc + 1) ls rest)) : W p l e R s m args below meth c H locs cells slots Q (F0 m pc ls (.int x :: .int (nI j) :: .ref a :: rest)) :=
  va_iast hexec hb hK.1 hP hD hS q0 1 ha rfl (vp_in_nI hin hn) hdg (fun H1 locs1 h1 h2 h3 => by rw [nI_clamp (Nat.lt_trans hin hn), hg] at h1 h2; exact kk H1 locs1 h1 h2 h3)
theorem xn_aald (hexec : p.tables.exec = Jvm.exec) (hb : c.code = cc) {D : va_G} {y : Nat → ClassId} {ws : va_W} {a : Nat} (hK : xK D y s) (hP : va_P D vwCl ws H) (q0 : Nat) {n j : Nat} {f : Nat → Option Nat} {b : Nat} (ha : ws[q0]? = some (a, .inl (y 2, n, .inr (.inr (.inr (.inr f)))))) (hin : j < n) (hn : n < 2 ^ 31) (hv : f j = some b) (hdg : decode cc pc = .ok (.aaload, 1)) (kk : W p l e R s m args below meth c H locs cells slots Q (F0 m (pc + 1) ls (.ref b :: rest))) : W p l e R s m args below meth c H locs cells slots Q (F0 m pc ls (.int (nI j) :: .ref a :: rest)) :=
  va_aldq hexec hb hK.1 hP q0 2 ha rfl (vp_in_nI hin hn) hdg (by rw [nI_clamp (Nat.lt_trans hin hn), hv]; exact kk)
theorem xn_aast (hexec : p.tables.exec = Jvm.exec) (hb : c.code = cc) {D : va_G} {y : Nat → ClassId} {ws : va_W} {A : Nat → Prop} {H0 : Heap} {a : Nat} (hK : xK D y s) (hP : va_P D vwCl ws H) (hD : va_D A ws) (hS : va_S A H0 H locs) (q0 qk ci : Nat) {n j v : Nat} {vs : List Value} {f g : Nat → Option Nat} {u : u_T} {N : Nat} (ha : ws[q0]? = some (a, .inl (y 2, n, .inr (.inr (.inr (.inr f)))))) (hv : ws[qk]? = some (v, .inr (ci, vs))) (hc : vwCl[ci]? = some ("LoomTunes$Register", u, N)) (hin : j < n) (hn : n < 2 ^ 31) (hg : va_up f j (some v) = g) (hdg : decode cc pc = .ok (.aastore, 1)) (kk : ∀ (H1 : Heap) (locs1 : List Loc), va_P D vwCl (ws.set q0 (a, .inl (y 2, n, .inr (.inr (.inr (.inr g)))))) H1 → va_D A (ws.set q0 (a, .inl (y 2, n, .inr (.inr (.inr (.inr g)))))) → va_S A H0 H1 locs1 → W p l e R s m args below meth c H1 locs1 cells slots Q (F0 m (pc + 1) ls rest)) : W p l e R s m args below meth c H locs cells slots Q (F0 m pc ls (.ref v :: .int (nI j) :: .ref a :: rest)) :=
  va_astq hexec hb hK.1 hP hD hS q0 2 qk ci ha rfl hv hc (vp_in_nI hin hn) hdg (fun H1 locs1 h1 h2 h3 => by rw [nI_clamp (Nat.lt_trans hin hn), hg] at h1 h2; exact kk H1 locs1 h1 h2 h3)
theorem xr_a (hexec : p.tables.exec = Jvm.exec) (hb : c.code = cc) {rt : String} (hr : meth.sig.returnType = some (.object rt)) (hlocks : meth.locks = false) {post : Nat → Prop} {b : Nat} (hdg : decode cc pc = .ok (.areturn, 1)) (hp : post b) : W p l e R s m args below meth c s.heap [] 0 0 (MQ below (va_Sr post Value.ref) args s 0 0 (fun _ => False)) (F0 m pc ls [.ref b]) :=
  W.aret hexec hb hr (Or.inl ⟨_, rfl⟩) (Or.inr ⟨_, rfl⟩) (fun t ht _ => ⟨b, rfl, hp, ht⟩) (fun _ hq => absurd hq List.not_mem_nil) hdg hlocks
theorem xr_n (hexec : p.tables.exec = Jvm.exec) (hb : c.code = cc) {rt : String} (hr : meth.sig.returnType = some (.object rt)) (hlocks : meth.locks = false) (hdg : decode cc pc = .ok (.areturn, 1)) : W p l e R s m args below meth c s.heap [] 0 0 (MQ below (va_Sr (fun _ => True) (fun _ => Value.null)) args s 0 0 (fun _ => False)) (F0 m pc ls [.null]) :=
  W.aret hexec hb hr (Or.inl ⟨_, rfl⟩) (Or.inl rfl) (fun t ht _ => ⟨0, rfl, trivial, ht⟩) (fun _ hq => absurd hq List.not_mem_nil) hdg hlocks
/-- the end of a method that writes nothing -/
theorem xr_i (hexec : p.tables.exec = Jvm.exec) (hb : c.code = cc) (hr : meth.sig.returnType = some .int) (hlocks : meth.locks = false) {post : Int32 → Prop} {v : Int32} (hdg : decode cc pc = .ok (.ireturn, 1)) (hp : post v) : W p l e R s m args below meth c s.heap [] 0 0 (MQ below (vp_Si post) args s 0 0 (fun _ => False)) (F0 m pc ls [.int v]) :=
  W.iret hexec hb hr (fun t ht _ => ⟨v, rfl, hp, ht⟩) (fun _ hq => absurd hq List.not_mem_nil) hdg hlocks
theorem xb_nar {b : Nat} (h : b < 2) : narrow .boolean (.int (nI b)) = .int (nI b) := by
  rcases (show b = 0 ∨ b = 1 by omega) with rfl | rfl <;> decide
theorem xr_z (hexec : p.tables.exec = Jvm.exec) (hb : c.code = cc) (hr : meth.sig.returnType = some .boolean) (hlocks : meth.locks = false) {post : Int32 → Prop} {b : Nat} (hdg : decode cc pc = .ok (.ireturn, 1)) (h2 : b < 2) (hp : post (nI b)) : W p l e R s m args below meth c s.heap [] 0 0 (MQ below (vp_Si post) args s 0 0 (fun _ => False)) (F0 m pc ls [.int (nI b)]) :=
  W.zret hexec hb hr (xb_nar h2) (fun t ht _ => ⟨nI b, rfl, hp, ht⟩) (fun _ hq => absurd hq List.not_mem_nil) hdg hlocks
theorem xr_c (hexec : p.tables.exec = Jvm.exec) (hb : c.code = cc) (hr : meth.sig.returnType = some .char) (hlocks : meth.locks = false) {post : Int32 → Prop} {b : Nat} (hdg : decode cc pc = .ok (.ireturn, 1)) (h2 : b < 65536) (hp : post (nI b)) : W p l e R s m args below meth c s.heap [] 0 0 (MQ below (vp_Si post) args s 0 0 (fun _ => False)) (F0 m pc ls [.int (nI b)]) :=
  W.zret hexec hb hr (pk_charN h2).1 (fun t ht _ => ⟨nI b, rfl, hp, ht⟩) (fun _ hq => absurd hq List.not_mem_nil) hdg hlocks
/-- the end of a method that writes its world alone -/
theorem xw_i (hexec : p.tables.exec = Jvm.exec) (hb : c.code = cc) (hr : meth.sig.returnType = some .int) (hlocks : meth.locks = false) {S : Type} {post : Int32 → S → Prop} {B : S → State → Prop} {A : Nat → Prop} {v : Int32} (u : S) (hS : va_S A s.heap H locs) (hdg : decode cc pc = .ok (.ireturn, 1)) (hp : post v u) (hB : ∀ t : State, t.heap = H → B u t) : W p l e R s m args below meth c H locs cells slots (MQ below (va_Qi post B A) args s cells slots A) (F0 m pc ls [.int v]) :=
  W.iret hexec hb hr (fun t ht _ => ⟨⟨v, u, rfl, hp, hB t ht⟩, hS.F ht⟩) hS.2.2 hdg hlocks
theorem xw_z (hexec : p.tables.exec = Jvm.exec) (hb : c.code = cc) (hr : meth.sig.returnType = some .boolean) (hlocks : meth.locks = false) {S : Type} {post : Int32 → S → Prop} {B : S → State → Prop} {A : Nat → Prop} {b : Nat} (u : S) (hS : va_S A s.heap H locs) (hdg : decode cc pc = .ok (.ireturn, 1)) (h2 : b < 2) (hp : post (nI b) u) (hB : ∀ t : State, t.heap = H → B u t) : W p l e R s m args below meth c H locs cells slots (MQ below (va_Qi post B A) args s cells slots A) (F0 m pc ls [.int (nI b)]) :=
  W.zret hexec hb hr (xb_nar h2) (fun t ht _ => ⟨⟨nI b, u, rfl, hp, hB t ht⟩, hS.F ht⟩) hS.2.2 hdg hlocks
theorem xw_v (hexec : p.tables.exec = Jvm.exec) (hb : c.code = cc) (hr : meth.sig.returnType = none) (hlocks : meth.locks = false) {S : Type} {post : S → Prop} {B : S → State → Prop} {A : Nat → Prop} (u : S) (hS : va_S A s.heap H locs) (hdg : decode cc pc = .ok (.return_, 1)) (hp : post u) (hB : ∀ t : State, t.heap = H → B u t) : W p l e R s m args below meth c H locs cells slots (MQ below (va_Qv post B A) args s cells slots A) (F0 m pc ls []) :=
  W.vret hexec hb hr (fun t ht _ => ⟨⟨u, rfl, hp, hB t ht⟩, hS.F ht⟩) hS.2.2 hdg hlocks
/-- calls of methods that write nothing -/
theorem xc_V {nL : Nat} {Ts : List Cond} {own C : String} {index n maxL : Nat} {y : MethodName} {ws : List Cond} {rm : Room} {bytes : ByteArray} {ret : Option FieldType} {Pc : Array Value → State → Prop} {post : Int32 → Prop} {b : Addr} {As st : List Value} (S : CallFix p m c cc nL s args Ts own) (hM : Met l y ws rm Pc (vp_Si post) 0 0 (fun _ => False)) (cw : CallW R s args own C index y bytes maxL ret ws rm 0 0 n) (hp : PreV s H C b Pc As) (hn : As.length = n) (hsize : ls.size = nL) (hst : st = As.reverse ++ .ref b :: rest) (hW : (rest.map fun v => v.category).sum ≤ 8) (hdg : decode cc pc = .ok (.invokevirtual index, 3)) (hf : cells ≤ R.cells ∧ slots ≤ R.slots) (kk : ∀ r : Int32, post r → W p l e R s m args below meth c H locs cells slots Q (F0 m (pc + 3) ls (.int r :: rest))) : W p l e R s m args below meth c H locs cells slots Q (F0 m pc ls st) :=
  vp_callSi (W.runV S hM cw hp rfl hn hsize hst (lv_room hW) hdg hf) kk
theorem xc_S {nL : Nat} {Ts : List Cond} {own : String} {index n maxL : Nat} {y : MethodName} {ws : List Cond} {rm : Room} {bytes : ByteArray} {ret : Option FieldType} {Pc : Array Value → State → Prop} {post : Int32 → Prop} {As st : List Value} (S : CallFix p m c cc nL s args Ts own) (hM : Met l y ws rm Pc (vp_Si post) 0 0 (fun _ => False)) (cw : CallB R s args own index y bytes maxL ret ws rm 0 0 n ∧ (Cond.static y).before args s = true) (hp : PreS s H Pc As) (hn : As.length = n) (hsize : ls.size = nL) (hst : st = As.reverse ++ rest) (hW : (rest.map fun v => v.category).sum ≤ 8) (hdg : decode cc pc = .ok (.invokestatic index, 3)) (hf : cells ≤ R.cells ∧ slots ≤ R.slots) (kk : ∀ r : Int32, post r → W p l e R s m args below meth c H locs cells slots Q (F0 m (pc + 3) ls (.int r :: rest))) : W p l e R s m args below meth c H locs cells slots Q (F0 m pc ls st) :=
  vp_callSi (W.runS S hM cw hp rfl hn hsize hst (lv_room hW) hdg hf) kk
theorem xc_SN {nL : Nat} {Ts : List Cond} {own host : String} {index n maxL : Nat} {y : MethodName} {ws : List Cond} {rm : Room} {bytes : ByteArray} {ret : Option FieldType} {Pc : Array Value → State → Prop} {post : Int32 → Prop} {As st : List Value} (S : CallFix p m c cc nL s args Ts own) (hM : Met l y ws rm Pc (vp_Si post) 0 0 (fun _ => False)) (cw : va_CN R s args own index y host bytes maxL ret ws rm 0 0 n ∧ (Cond.static y).before args s = true ∧ True) (hp : PreS s H Pc As) (hn : As.length = n) (hsize : ls.size = nL) (hst : st = As.reverse ++ rest) (hW : (rest.map fun v => v.category).sum ≤ 8) (hdg : decode cc pc = .ok (.invokestatic index, 3)) (hf : cells ≤ R.cells ∧ slots ≤ R.slots) (kk : ∀ r : Int32, post r → W p l e R s m args below meth c H locs cells slots Q (F0 m (pc + 3) ls (.int r :: rest))) : W p l e R s m args below meth c H locs cells slots Q (F0 m pc ls st) :=
  vp_callSi (va_Run.run (va_runSN S hM cw hp rfl hn hsize hst (lv_room hW) hdg hf)) kk
theorem xps_0 {s : State} {H : Heap} {As : List Value} : PreS s H (va_Pc As (fun _ => True)) As := ⟨xfb_0, fun _ _ _ => ⟨rfl, trivial⟩⟩
theorem xk {i : Nat} {v w : Value} {a b : List (Nat × Value)} (h : v = w) (g : a = b) : (i, v) :: a = (i, w) :: b := by rw [h, g]
theorem xl_eq {nL : Nat} {a b : List (Nat × Value)} (h : lv_has ls nL a) (e : a = b) : lv_has ls nL b := e ▸ h
end XR
