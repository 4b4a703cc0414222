set_option maxHeartbeats 8000000 in
set_option maxRecDepth 100000 in
theorem c_X1_stateAt (l : Launch) (D : va_G) (y : Nat → ClassId) (a b n : Nat) (ro : Nat → Option Nat) (k : Nat) (hk : k < 4) (ad : Nat) (hva : ro k = some ad) : Met l yX1_stateAt wsX1_stateAt ({ frames := 0, cells := 0, slots := 0, locals := 0 }) (va_Pc [.ref a, .int (nI k)] (xPr D y [(a, .inr (1, [.ref b, .int (nI n)])), (b, .inl (y 2, 4, .inr (.inr (.inr (.inr ro)))))])) (va_Sr (fun rz => rz = ad) Value.ref) 0 0 (fun _ => False) := by
  refine Met.ofW (cc := cX1_stateAt) (maxL := 2) (ret := (some (.object "LoomTunes$Register"))) (by decide) rfl ?_
  intro p e s m args below meth c s₁ B hml hv
  obtain ⟨rfl, hP, hK⟩ := hv
  have hx := B.exec
  have hb := B.bytes
  have hr := B.returns
  have hts := atoms_spec (ws := wsX1_stateAt) B.pre
  have hown : s.vm.findClass RX1 = some m.cls := findClass_of_methodNamed B.named
  have hlocks := B.notSynchronized
  have f_11 := hts (.fieldLink RX1 11 "LoomTunes$History" "states" "[LLoomTunes$Register;") (by decide +kernel)
  have hin_X1 : ∀ w ∈ wsX10, w ∈ wsX1_stateAt := by decide +kernel
  have hP : va_P D vwCl [(a, .inr (1, [.ref b, .int (nI n)])), (b, .inl (y 2, 4, .inr (.inr (.inr (.inr ro)))))] s.heap := hP
  have hl := lv_entry ([.ref a, .int (nI k)]) (n := 2) (Nat.le_of_ble_eq_true rfl)
  rw [lg_entry_eq]
  generalize (lg_sl ([.ref a, .int (nI k)]) ++ List.replicate (2 - (lg_sl ([.ref a, .int (nI k)])).length) Slot.unset).toArray = ls at hl ⊢
  have hl : lv_has ls 2 [(0, .ref a), (1, .int (nI k))] := hl
  refine lv_iload_n hx hb dX1_stateAt_0 rfl (lv_at hl 1 rfl) ?_
  refine xn_if_lt hx hb (by omega) (tgt := 22) dX1_stateAt_1 (by decide) ?_
  refine lv_iload_n hx hb dX1_stateAt_4 rfl (lv_at hl 1 rfl) ?_
  refine lv_aload_n hx hb dX1_stateAt_5 rfl (lv_at hl 0 rfl) ?_
  refine va_get (D := D) (ci := 1) (v := .ref b) (C := RX1) (T := TX1) (N := 2) hx hb hts hin_X1 hown hK.1 hP 0 rfl rfl 0 (by decide) f_11 (fun _ h9 => h9) rfl dX1_stateAt_6 ?_
  refine xn_alen hx hb hK hP 1 2 rfl rfl rfl dX1_stateAt_9 ?_
  refine xn_icmp_ge hx hb (by omega) (by omega) (tgt := 22) dX1_stateAt_10 (by decide) (fun h => absurd h (by omega)) (fun kc10 => ?_)
  refine lv_aload_n hx hb dX1_stateAt_13 rfl (lv_at hl 0 rfl) ?_
  refine va_get (D := D) (ci := 1) (v := .ref b) (C := RX1) (T := TX1) (N := 2) hx hb hts hin_X1 hown hK.1 hP 0 rfl rfl 0 (by decide) f_11 (fun _ h9 => h9) rfl dX1_stateAt_14 ?_
  refine lv_iload_n hx hb dX1_stateAt_17 rfl (lv_at hl 1 rfl) ?_
  refine xn_aald hx hb hK hP 1 rfl (by omega) (by decide) (b := ad) (hva) dX1_stateAt_18 ?_
  refine lv_goto (tgt := 23) hx hb dX1_stateAt_19 (by decide) ?_
  exact xr_a hx hb hr hlocks dX1_stateAt_23 rfl
set_option maxHeartbeats 8000000 in
set_option maxRecDepth 100000 in
theorem c_X1_stateAt_m (l : Launch) (D : va_G) (y : Nat → ClassId) (a b n : Nat) (ro : Nat → Option Nat) (x : Int32) (hx0 : x < 0) : Met l yX1_stateAt wsX1_stateAt ({ frames := 0, cells := 0, slots := 0, locals := 0 }) (va_Pc [.ref a, .int x] (xPr D y [(a, .inr (1, [.ref b, .int (nI n)])), (b, .inl (y 2, 4, .inr (.inr (.inr (.inr ro)))))])) (va_Sr (fun _ => True) (fun _ => Value.null)) 0 0 (fun _ => False) := by
  refine Met.ofW (cc := cX1_stateAt) (maxL := 2) (ret := (some (.object "LoomTunes$Register"))) (by decide) rfl ?_
  intro p e s m args below meth c s₁ B hml hv
  obtain ⟨rfl, hP, hK⟩ := hv
  have hx := B.exec
  have hb := B.bytes
  have hr := B.returns
  have hts := atoms_spec (ws := wsX1_stateAt) B.pre
  have hown : s.vm.findClass RX1 = some m.cls := findClass_of_methodNamed B.named
  have hlocks := B.notSynchronized
  have hP : va_P D vwCl [(a, .inr (1, [.ref b, .int (nI n)])), (b, .inl (y 2, 4, .inr (.inr (.inr (.inr ro)))))] s.heap := hP
  have hl := lv_entry ([.ref a, .int x]) (n := 2) (Nat.le_of_ble_eq_true rfl)
  rw [lg_entry_eq]
  generalize (lg_sl ([.ref a, .int x]) ++ List.replicate (2 - (lg_sl ([.ref a, .int x])).length) Slot.unset).toArray = ls at hl ⊢
  have hl : lv_has ls 2 [(0, .ref a), (1, .int x)] := hl
  refine lv_iload_n hx hb dX1_stateAt_0 rfl (lv_at hl 1 rfl) ?_
  refine lv_if_lt (tgt := 22) hx hb dX1_stateAt_1 (by decide) (fun kc1 => ?_) (fun h => absurd (hx0) h)
  refine lv_null hx hb dX1_stateAt_22 ?_
  exact xr_n hx hb hr hlocks dX1_stateAt_23
set_option maxHeartbeats 8000000 in
set_option maxRecDepth 100000 in
theorem c_X1_dropOldest (l : Launch) (D : va_G) (y : Nat → ClassId) (a b n d : Nat) (ro : Nat → Option Nat) (hh : Nat → Nat → Nat) (BB : Nat → Nat → Nat) (hro : RoH d hh ro) (hn : n = 4) : Met l yX1_dropOldest wsX1_dropOldest ({ frames := 1, cells := 0, slots := 0, locals := 21 }) (va_Pc [.ref a] (xPw D y [(a, .inr (1, [.ref b, .int (nI n)])), (b, .inl (y 2, 4, .inr (.inr (.inr (.inr ro))))), (hh 0 0, .inr (2, [.ref (hh 0 1), .ref (hh 0 2), .ref (hh 0 3), .ref (hh 0 4), .int (nI ((BB 0) 16)), .int (nI ((BB 0) 67)), .int (rmb (BB 0)), .int (nI ((BB 0) 66))])), (hh 1 0, .inr (2, [.ref (hh 1 1), .ref (hh 1 2), .ref (hh 1 3), .ref (hh 1 4), .int (nI ((BB 1) 16)), .int (nI ((BB 1) 67)), .int (rmb (BB 1)), .int (nI ((BB 1) 66))])), (hh 2 0, .inr (2, [.ref (hh 2 1), .ref (hh 2 2), .ref (hh 2 3), .ref (hh 2 4), .int (nI ((BB 2) 16)), .int (nI ((BB 2) 67)), .int (rmb (BB 2)), .int (nI ((BB 2) 66))])), (hh 3 0, .inr (2, [.ref (hh 3 1), .ref (hh 3 2), .ref (hh 3 3), .ref (hh 3 4), .int (nI ((BB 3) 16)), .int (nI ((BB 3) 67)), .int (rmb (BB 3)), .int (nI ((BB 3) 66))]))])) (va_Qv (fun (u : Nat → Option Nat) => RoH (d + 1) hh u) (fun (u : Nat → Option Nat) t => va_P D vwCl [(a, .inr (1, [.ref b, .int (nI (n - 1))])), (b, .inl (y 2, 4, .inr (.inr (.inr (.inr u))))), (hh 0 0, .inr (2, [.ref (hh 0 1), .ref (hh 0 2), .ref (hh 0 3), .ref (hh 0 4), .int (nI ((BB 0) 16)), .int (nI ((BB 0) 67)), .int (rmb (BB 0)), .int (nI ((BB 0) 66))])), (hh 1 0, .inr (2, [.ref (hh 1 1), .ref (hh 1 2), .ref (hh 1 3), .ref (hh 1 4), .int (nI ((BB 1) 16)), .int (nI ((BB 1) 67)), .int (rmb (BB 1)), .int (nI ((BB 1) 66))])), (hh 2 0, .inr (2, [.ref (hh 2 1), .ref (hh 2 2), .ref (hh 2 3), .ref (hh 2 4), .int (nI ((BB 2) 16)), .int (nI ((BB 2) 67)), .int (rmb (BB 2)), .int (nI ((BB 2) 66))])), (hh 3 0, .inr (2, [.ref (hh 3 1), .ref (hh 3 2), .ref (hh 3 3), .ref (hh 3 4), .int (nI ((BB 3) 16)), .int (nI ((BB 3) 67)), .int (rmb (BB 3)), .int (nI ((BB 3) 66))]))] t.heap) (xIn [(a, .inr (1, [.ref b, .int (nI n)])), (b, .inl (y 2, 4, .inr (.inr (.inr (.inr ro))))), (hh 0 0, .inr (2, [.ref (hh 0 1), .ref (hh 0 2), .ref (hh 0 3), .ref (hh 0 4), .int (nI ((BB 0) 16)), .int (nI ((BB 0) 67)), .int (rmb (BB 0)), .int (nI ((BB 0) 66))])), (hh 1 0, .inr (2, [.ref (hh 1 1), .ref (hh 1 2), .ref (hh 1 3), .ref (hh 1 4), .int (nI ((BB 1) 16)), .int (nI ((BB 1) 67)), .int (rmb (BB 1)), .int (nI ((BB 1) 66))])), (hh 2 0, .inr (2, [.ref (hh 2 1), .ref (hh 2 2), .ref (hh 2 3), .ref (hh 2 4), .int (nI ((BB 2) 16)), .int (nI ((BB 2) 67)), .int (rmb (BB 2)), .int (nI ((BB 2) 66))])), (hh 3 0, .inr (2, [.ref (hh 3 1), .ref (hh 3 2), .ref (hh 3 3), .ref (hh 3 4), .int (nI ((BB 3) 16)), .int (nI ((BB 3) 67)), .int (rmb (BB 3)), .int (nI ((BB 3) 66))]))])) 0 0 (xIn [(a, .inr (1, [.ref b, .int (nI n)])), (b, .inl (y 2, 4, .inr (.inr (.inr (.inr ro))))), (hh 0 0, .inr (2, [.ref (hh 0 1), .ref (hh 0 2), .ref (hh 0 3), .ref (hh 0 4), .int (nI ((BB 0) 16)), .int (nI ((BB 0) 67)), .int (rmb (BB 0)), .int (nI ((BB 0) 66))])), (hh 1 0, .inr (2, [.ref (hh 1 1), .ref (hh 1 2), .ref (hh 1 3), .ref (hh 1 4), .int (nI ((BB 1) 16)), .int (nI ((BB 1) 67)), .int (rmb (BB 1)), .int (nI ((BB 1) 66))])), (hh 2 0, .inr (2, [.ref (hh 2 1), .ref (hh 2 2), .ref (hh 2 3), .ref (hh 2 4), .int (nI ((BB 2) 16)), .int (nI ((BB 2) 67)), .int (rmb (BB 2)), .int (nI ((BB 2) 66))])), (hh 3 0, .inr (2, [.ref (hh 3 1), .ref (hh 3 2), .ref (hh 3 3), .ref (hh 3 4), .int (nI ((BB 3) 16)), .int (nI ((BB 3) 67)), .int (rmb (BB 3)), .int (nI ((BB 3) 66))]))]) := by
  refine Met.ofW (cc := cX1_dropOldest) (maxL := 3) (ret := none) (by decide) rfl ?_
  intro p e s m args below meth c s₁ B hml hv
  obtain ⟨rfl, hP, hK, hD0⟩ := hv
  have hx := B.exec
  have hb := B.bytes
  have hr := B.returns
  have hts := atoms_spec (ws := wsX1_dropOldest) B.pre
  have hown : s.vm.findClass RX1 = some m.cls := findClass_of_methodNamed B.named
  have hlocks := B.notSynchronized
  have f_11 := hts (.fieldLink RX1 11 "LoomTunes$History" "states" "[LLoomTunes$Register;") (by decide +kernel)
  have f_18 := hts (.fieldLink RX1 18 "LoomTunes$History" "kept" "I") (by decide +kernel)
  have hin_X1 : ∀ w ∈ wsX10, w ∈ wsX1_dropOldest := by decide +kernel
  have hD := xD_self hD0
  generalize hAe : xIn [(a, .inr (1, [.ref b, .int (nI n)])), (b, .inl (y 2, 4, .inr (.inr (.inr (.inr ro))))), (hh 0 0, .inr (2, [.ref (hh 0 1), .ref (hh 0 2), .ref (hh 0 3), .ref (hh 0 4), .int (nI ((BB 0) 16)), .int (nI ((BB 0) 67)), .int (rmb (BB 0)), .int (nI ((BB 0) 66))])), (hh 1 0, .inr (2, [.ref (hh 1 1), .ref (hh 1 2), .ref (hh 1 3), .ref (hh 1 4), .int (nI ((BB 1) 16)), .int (nI ((BB 1) 67)), .int (rmb (BB 1)), .int (nI ((BB 1) 66))])), (hh 2 0, .inr (2, [.ref (hh 2 1), .ref (hh 2 2), .ref (hh 2 3), .ref (hh 2 4), .int (nI ((BB 2) 16)), .int (nI ((BB 2) 67)), .int (rmb (BB 2)), .int (nI ((BB 2) 66))])), (hh 3 0, .inr (2, [.ref (hh 3 1), .ref (hh 3 2), .ref (hh 3 3), .ref (hh 3 4), .int (nI ((BB 3) 16)), .int (nI ((BB 3) 67)), .int (rmb (BB 3)), .int (nI ((BB 3) 66))]))] = A at hD ⊢
  have hS : va_S A s.heap s.heap [] := va_S.rf
  have hP : va_P D vwCl [(a, .inr (1, [.ref b, .int (nI n)])), (b, .inl (y 2, 4, .inr (.inr (.inr (.inr ro))))), (hh 0 0, .inr (2, [.ref (hh 0 1), .ref (hh 0 2), .ref (hh 0 3), .ref (hh 0 4), .int (nI ((BB 0) 16)), .int (nI ((BB 0) 67)), .int (rmb (BB 0)), .int (nI ((BB 0) 66))])), (hh 1 0, .inr (2, [.ref (hh 1 1), .ref (hh 1 2), .ref (hh 1 3), .ref (hh 1 4), .int (nI ((BB 1) 16)), .int (nI ((BB 1) 67)), .int (rmb (BB 1)), .int (nI ((BB 1) 66))])), (hh 2 0, .inr (2, [.ref (hh 2 1), .ref (hh 2 2), .ref (hh 2 3), .ref (hh 2 4), .int (nI ((BB 2) 16)), .int (nI ((BB 2) 67)), .int (rmb (BB 2)), .int (nI ((BB 2) 66))])), (hh 3 0, .inr (2, [.ref (hh 3 1), .ref (hh 3 2), .ref (hh 3 3), .ref (hh 3 4), .int (nI ((BB 3) 16)), .int (nI ((BB 3) 67)), .int (rmb (BB 3)), .int (nI ((BB 3) 66))]))] s.heap := hP
  have hl := lv_entry ([.ref a]) (n := 3) (Nat.le_of_ble_eq_true rfl)
  rw [lg_entry_eq]
  generalize (lg_sl ([.ref a]) ++ List.replicate (3 - (lg_sl ([.ref a])).length) Slot.unset).toArray = ls at hl ⊢
  have hl : lv_has ls 3 [(0, .ref a)] := hl
  generalize hQe : (MQ below (va_Qv (fun (u : Nat → Option Nat) => RoH (d + 1) hh u) (fun (u : Nat → Option Nat) t => va_P D vwCl [(a, .inr (1, [.ref b, .int (nI (n - 1))])), (b, .inl (y 2, 4, .inr (.inr (.inr (.inr u))))), (hh 0 0, .inr (2, [.ref (hh 0 1), .ref (hh 0 2), .ref (hh 0 3), .ref (hh 0 4), .int (nI ((BB 0) 16)), .int (nI ((BB 0) 67)), .int (rmb (BB 0)), .int (nI ((BB 0) 66))])), (hh 1 0, .inr (2, [.ref (hh 1 1), .ref (hh 1 2), .ref (hh 1 3), .ref (hh 1 4), .int (nI ((BB 1) 16)), .int (nI ((BB 1) 67)), .int (rmb (BB 1)), .int (nI ((BB 1) 66))])), (hh 2 0, .inr (2, [.ref (hh 2 1), .ref (hh 2 2), .ref (hh 2 3), .ref (hh 2 4), .int (nI ((BB 2) 16)), .int (nI ((BB 2) 67)), .int (rmb (BB 2)), .int (nI ((BB 2) 66))])), (hh 3 0, .inr (2, [.ref (hh 3 1), .ref (hh 3 2), .ref (hh 3 3), .ref (hh 3 4), .int (nI ((BB 3) 16)), .int (nI ((BB 3) 67)), .int (rmb (BB 3)), .int (nI ((BB 3) 66))]))] t.heap) A) ([.ref a] : List Value).toArray s 0 0 A) = Q
  have hlt4 : d % 4 < 4 := Nat.mod_lt _ (by decide)
  rcases (show d % 4 = 0 ∨ d % 4 = 1 ∨ d % 4 = 2 ∨ d % 4 = 3 by omega) with hp | hp | hp | hp
  · refine lv_aload_n hx hb dX1_dropOldest_0 rfl (lv_at hl 0 rfl) ?_
    refine lv_iconst (v := nI 0) hx hb dX1_dropOldest_1 (by decide) ?_
    refine va_csr (W.runV (As := [.int (nI 0)]) (rest := []) ⟨hx, hb, hml, hown, hts⟩ (c_X1_stateAt l D y a b n ro 0 (by omega) (hh 0 0) ((hro 0 (by decide)).trans (by rw [show (0 + d) % 4 = 0 by omega]))) (cwV 1 hts gX1_dropOldest_X1_stateAt rfl rfl rfl hd_X1_stateAt ⟨Nat.le_of_ble_eq_true rfl, Nat.le_of_ble_eq_true rfl⟩) (xpv_r hK hP [0, 1] 0 rfl rfl rfl) rfl rfl hl.1 rfl (lv_room (Nat.le_of_ble_eq_true rfl)) dX1_dropOldest_2 ⟨Nat.zero_le _, Nat.zero_le _⟩) (fun r1 hr1 => ?_)
    subst hr1
    refine lv_astore_n (lv' := [(1, .ref (hh 0 0)), (0, .ref a)]) hx hb dX1_dropOldest_5 rfl hl (by decide) rfl (fun ls hl => ?_)
    refine lv_iconst (v := nI 0) hx hb dX1_dropOldest_6 (by decide) ?_
    refine lv_istore_n (lv' := [(2, .int (nI 0)), (1, .ref (hh 0 0)), (0, .ref a)]) hx hb dX1_dropOldest_7 rfl hl (by decide) rfl (fun ls hl => ?_)
    refine lv_iload_n hx hb dX1_dropOldest_8 rfl (lv_at hl 0 rfl) ?_
    refine lv_iconst (v := nI 1) hx hb dX1_dropOldest_9 (by decide) ?_
    refine xn_add hx hb (r := 1) rfl dX1_dropOldest_10 ?_
    refine lv_aload_n hx hb dX1_dropOldest_11 rfl (lv_at hl 2 rfl) ?_
    refine va_get (D := D) (ci := 1) (v := .ref b) (C := RX1) (T := TX1) (N := 2) hx hb hts hin_X1 hown hK.1 hP 0 rfl rfl 0 (by decide) f_11 (fun _ h9 => h9) rfl dX1_dropOldest_12 ?_
    refine xn_alen hx hb hK hP 1 2 rfl rfl rfl dX1_dropOldest_15 ?_
    refine lv_icmp_ge (tgt := 39) hx hb dX1_dropOldest_16 (by decide) (fun h => absurd h (show ¬ nI 4 ≤ nI 1 by decide)) (fun _ => ?_)
    refine lv_aload_n hx hb dX1_dropOldest_19 rfl (lv_at hl 2 rfl) ?_
    refine va_get (D := D) (ci := 1) (v := .ref b) (C := RX1) (T := TX1) (N := 2) hx hb hts hin_X1 hown hK.1 hP 0 rfl rfl 0 (by decide) f_11 (fun _ h9 => h9) rfl dX1_dropOldest_20 ?_
    refine lv_iload_n hx hb dX1_dropOldest_23 rfl (lv_at hl 0 rfl) ?_
    refine lv_aload_n hx hb dX1_dropOldest_24 rfl (lv_at hl 2 rfl) ?_
    refine va_get (D := D) (ci := 1) (v := .ref b) (C := RX1) (T := TX1) (N := 2) hx hb hts hin_X1 hown hK.1 hP 0 rfl rfl 0 (by decide) f_11 (fun _ h9 => h9) rfl dX1_dropOldest_25 ?_
    refine lv_iload_n hx hb dX1_dropOldest_28 rfl (lv_at hl 0 rfl) ?_
    refine lv_iconst (v := nI 1) hx hb dX1_dropOldest_29 (by decide) ?_
    refine xn_add hx hb (r := 1) rfl dX1_dropOldest_30 ?_
    refine xn_aald hx hb hK hP 1 rfl (by omega) (by decide) (b := hh 1 0) ((hro 1 (by decide)).trans (by rw [show (1 + d) % 4 = 1 by omega])) dX1_dropOldest_31 ?_
    refine xn_aast hx hb hK hP hD hS 1 3 2 (g := va_up ro 0 (some (hh 1 0))) rfl rfl rfl (by omega) (by decide) rfl dX1_dropOldest_32 (fun H locs hP1 hD1 hS1 => ?_)
    clear hP hD hS
    have hP : va_P D vwCl [(a, .inr (1, [.ref b, .int (nI n)])), (b, .inl (y 2, 4, .inr (.inr (.inr (.inr (va_up ro 0 (some (hh 1 0)))))))), (hh 0 0, .inr (2, [.ref (hh 0 1), .ref (hh 0 2), .ref (hh 0 3), .ref (hh 0 4), .int (nI ((BB 0) 16)), .int (nI ((BB 0) 67)), .int (rmb (BB 0)), .int (nI ((BB 0) 66))])), (hh 1 0, .inr (2, [.ref (hh 1 1), .ref (hh 1 2), .ref (hh 1 3), .ref (hh 1 4), .int (nI ((BB 1) 16)), .int (nI ((BB 1) 67)), .int (rmb (BB 1)), .int (nI ((BB 1) 66))])), (hh 2 0, .inr (2, [.ref (hh 2 1), .ref (hh 2 2), .ref (hh 2 3), .ref (hh 2 4), .int (nI ((BB 2) 16)), .int (nI ((BB 2) 67)), .int (rmb (BB 2)), .int (nI ((BB 2) 66))])), (hh 3 0, .inr (2, [.ref (hh 3 1), .ref (hh 3 2), .ref (hh 3 3), .ref (hh 3 4), .int (nI ((BB 3) 16)), .int (nI ((BB 3) 67)), .int (rmb (BB 3)), .int (nI ((BB 3) 66))]))] H := hP1
    have hD : va_D A [(a, .inr (1, [.ref b, .int (nI n)])), (b, .inl (y 2, 4, .inr (.inr (.inr (.inr (va_up ro 0 (some (hh 1 0)))))))), (hh 0 0, .inr (2, [.ref (hh 0 1), .ref (hh 0 2), .ref (hh 0 3), .ref (hh 0 4), .int (nI ((BB 0) 16)), .int (nI ((BB 0) 67)), .int (rmb (BB 0)), .int (nI ((BB 0) 66))])), (hh 1 0, .inr (2, [.ref (hh 1 1), .ref (hh 1 2), .ref (hh 1 3), .ref (hh 1 4), .int (nI ((BB 1) 16)), .int (nI ((BB 1) 67)), .int (rmb (BB 1)), .int (nI ((BB 1) 66))])), (hh 2 0, .inr (2, [.ref (hh 2 1), .ref (hh 2 2), .ref (hh 2 3), .ref (hh 2 4), .int (nI ((BB 2) 16)), .int (nI ((BB 2) 67)), .int (rmb (BB 2)), .int (nI ((BB 2) 66))])), (hh 3 0, .inr (2, [.ref (hh 3 1), .ref (hh 3 2), .ref (hh 3 3), .ref (hh 3 4), .int (nI ((BB 3) 16)), .int (nI ((BB 3) 67)), .int (rmb (BB 3)), .int (nI ((BB 3) 66))]))] := hD1
    have hS := hS1
    clear hP1 hD1 hS1
    refine lv_iinc (v := nI 1) (lv' := [(2, .int (nI 1)), (1, .ref (hh 0 0)), (0, .ref a)]) hx hb dX1_dropOldest_33 hl (k := 0) rfl (nI_add 0 1) (by decide) rfl (fun ls hl => ?_)
    refine lv_goto (tgt := 8) hx hb dX1_dropOldest_36 (by decide) ?_
    refine lv_iload_n hx hb dX1_dropOldest_8 rfl (lv_at hl 0 rfl) ?_
    refine lv_iconst (v := nI 1) hx hb dX1_dropOldest_9 (by decide) ?_
    refine xn_add hx hb (r := 2) rfl dX1_dropOldest_10 ?_
    refine lv_aload_n hx hb dX1_dropOldest_11 rfl (lv_at hl 2 rfl) ?_
    refine va_get (D := D) (ci := 1) (v := .ref b) (C := RX1) (T := TX1) (N := 2) hx hb hts hin_X1 hown hK.1 hP 0 rfl rfl 0 (by decide) f_11 (fun _ h9 => h9) rfl dX1_dropOldest_12 ?_
    refine xn_alen hx hb hK hP 1 2 rfl rfl rfl dX1_dropOldest_15 ?_
    refine lv_icmp_ge (tgt := 39) hx hb dX1_dropOldest_16 (by decide) (fun h => absurd h (show ¬ nI 4 ≤ nI 2 by decide)) (fun _ => ?_)
    refine lv_aload_n hx hb dX1_dropOldest_19 rfl (lv_at hl 2 rfl) ?_
    refine va_get (D := D) (ci := 1) (v := .ref b) (C := RX1) (T := TX1) (N := 2) hx hb hts hin_X1 hown hK.1 hP 0 rfl rfl 0 (by decide) f_11 (fun _ h9 => h9) rfl dX1_dropOldest_20 ?_
    refine lv_iload_n hx hb dX1_dropOldest_23 rfl (lv_at hl 0 rfl) ?_
    refine lv_aload_n hx hb dX1_dropOldest_24 rfl (lv_at hl 2 rfl) ?_
    refine va_get (D := D) (ci := 1) (v := .ref b) (C := RX1) (T := TX1) (N := 2) hx hb hts hin_X1 hown hK.1 hP 0 rfl rfl 0 (by decide) f_11 (fun _ h9 => h9) rfl dX1_dropOldest_25 ?_
    refine lv_iload_n hx hb dX1_dropOldest_28 rfl (lv_at hl 0 rfl) ?_
    refine lv_iconst (v := nI 1) hx hb dX1_dropOldest_29 (by decide) ?_
    refine xn_add hx hb (r := 2) rfl dX1_dropOldest_30 ?_
    refine xn_aald hx hb hK hP 1 rfl (by omega) (by decide) (b := hh 2 0) ((va_up_ne _ _ (by decide)).trans ((hro 2 (by decide)).trans (by rw [show (2 + d) % 4 = 2 by omega]))) dX1_dropOldest_31 ?_
    refine xn_aast hx hb hK hP hD hS 1 4 2 (g := va_up (va_up ro 0 (some (hh 1 0))) 1 (some (hh 2 0))) rfl rfl rfl (by omega) (by decide) rfl dX1_dropOldest_32 (fun H locs hP1 hD1 hS1 => ?_)
    clear hP hD hS
    have hP : va_P D vwCl [(a, .inr (1, [.ref b, .int (nI n)])), (b, .inl (y 2, 4, .inr (.inr (.inr (.inr (va_up (va_up ro 0 (some (hh 1 0))) 1 (some (hh 2 0)))))))), (hh 0 0, .inr (2, [.ref (hh 0 1), .ref (hh 0 2), .ref (hh 0 3), .ref (hh 0 4), .int (nI ((BB 0) 16)), .int (nI ((BB 0) 67)), .int (rmb (BB 0)), .int (nI ((BB 0) 66))])), (hh 1 0, .inr (2, [.ref (hh 1 1), .ref (hh 1 2), .ref (hh 1 3), .ref (hh 1 4), .int (nI ((BB 1) 16)), .int (nI ((BB 1) 67)), .int (rmb (BB 1)), .int (nI ((BB 1) 66))])), (hh 2 0, .inr (2, [.ref (hh 2 1), .ref (hh 2 2), .ref (hh 2 3), .ref (hh 2 4), .int (nI ((BB 2) 16)), .int (nI ((BB 2) 67)), .int (rmb (BB 2)), .int (nI ((BB 2) 66))])), (hh 3 0, .inr (2, [.ref (hh 3 1), .ref (hh 3 2), .ref (hh 3 3), .ref (hh 3 4), .int (nI ((BB 3) 16)), .int (nI ((BB 3) 67)), .int (rmb (BB 3)), .int (nI ((BB 3) 66))]))] H := hP1
    have hD : va_D A [(a, .inr (1, [.ref b, .int (nI n)])), (b, .inl (y 2, 4, .inr (.inr (.inr (.inr (va_up (va_up ro 0 (some (hh 1 0))) 1 (some (hh 2 0)))))))), (hh 0 0, .inr (2, [.ref (hh 0 1), .ref (hh 0 2), .ref (hh 0 3), .ref (hh 0 4), .int (nI ((BB 0) 16)), .int (nI ((BB 0) 67)), .int (rmb (BB 0)), .int (nI ((BB 0) 66))])), (hh 1 0, .inr (2, [.ref (hh 1 1), .ref (hh 1 2), .ref (hh 1 3), .ref (hh 1 4), .int (nI ((BB 1) 16)), .int (nI ((BB 1) 67)), .int (rmb (BB 1)), .int (nI ((BB 1) 66))])), (hh 2 0, .inr (2, [.ref (hh 2 1), .ref (hh 2 2), .ref (hh 2 3), .ref (hh 2 4), .int (nI ((BB 2) 16)), .int (nI ((BB 2) 67)), .int (rmb (BB 2)), .int (nI ((BB 2) 66))])), (hh 3 0, .inr (2, [.ref (hh 3 1), .ref (hh 3 2), .ref (hh 3 3), .ref (hh 3 4), .int (nI ((BB 3) 16)), .int (nI ((BB 3) 67)), .int (rmb (BB 3)), .int (nI ((BB 3) 66))]))] := hD1
    have hS := hS1
    clear hP1 hD1 hS1
    refine lv_iinc (v := nI 2) (lv' := [(2, .int (nI 2)), (1, .ref (hh 0 0)), (0, .ref a)]) hx hb dX1_dropOldest_33 hl (k := 0) rfl (nI_add 1 1) (by decide) rfl (fun ls hl => ?_)
    refine lv_goto (tgt := 8) hx hb dX1_dropOldest_36 (by decide) ?_
    refine lv_iload_n hx hb dX1_dropOldest_8 rfl (lv_at hl 0 rfl) ?_
    refine lv_iconst (v := nI 1) hx hb dX1_dropOldest_9 (by decide) ?_
    refine xn_add hx hb (r := 3) rfl dX1_dropOldest_10 ?_
    refine lv_aload_n hx hb dX1_dropOldest_11 rfl (lv_at hl 2 rfl) ?_
    refine va_get (D := D) (ci := 1) (v := .ref b) (C := RX1) (T := TX1) (N := 2) hx hb hts hin_X1 hown hK.1 hP 0 rfl rfl 0 (by decide) f_11 (fun _ h9 => h9) rfl dX1_dropOldest_12 ?_
    refine xn_alen hx hb hK hP 1 2 rfl rfl rfl dX1_dropOldest_15 ?_
    refine lv_icmp_ge (tgt := 39) hx hb dX1_dropOldest_16 (by decide) (fun h => absurd h (show ¬ nI 4 ≤ nI 3 by decide)) (fun _ => ?_)
    refine lv_aload_n hx hb dX1_dropOldest_19 rfl (lv_at hl 2 rfl) ?_
    refine va_get (D := D) (ci := 1) (v := .ref b) (C := RX1) (T := TX1) (N := 2) hx hb hts hin_X1 hown hK.1 hP 0 rfl rfl 0 (by decide) f_11 (fun _ h9 => h9) rfl dX1_dropOldest_20 ?_
    refine lv_iload_n hx hb dX1_dropOldest_23 rfl (lv_at hl 0 rfl) ?_
    refine lv_aload_n hx hb dX1_dropOldest_24 rfl (lv_at hl 2 rfl) ?_
    refine va_get (D := D) (ci := 1) (v := .ref b) (C := RX1) (T := TX1) (N := 2) hx hb hts hin_X1 hown hK.1 hP 0 rfl rfl 0 (by decide) f_11 (fun _ h9 => h9) rfl dX1_dropOldest_25 ?_
    refine lv_iload_n hx hb dX1_dropOldest_28 rfl (lv_at hl 0 rfl) ?_
    refine lv_iconst (v := nI 1) hx hb dX1_dropOldest_29 (by decide) ?_
    refine xn_add hx hb (r := 3) rfl dX1_dropOldest_30 ?_
    refine xn_aald hx hb hK hP 1 rfl (by omega) (by decide) (b := hh 3 0) ((va_up_ne _ _ (by decide)).trans ((va_up_ne _ _ (by decide)).trans ((hro 3 (by decide)).trans (by rw [show (3 + d) % 4 = 3 by omega])))) dX1_dropOldest_31 ?_
    refine xn_aast hx hb hK hP hD hS 1 5 2 (g := va_up (va_up (va_up ro 0 (some (hh 1 0))) 1 (some (hh 2 0))) 2 (some (hh 3 0))) rfl rfl rfl (by omega) (by decide) rfl dX1_dropOldest_32 (fun H locs hP1 hD1 hS1 => ?_)
    clear hP hD hS
    have hP : va_P D vwCl [(a, .inr (1, [.ref b, .int (nI n)])), (b, .inl (y 2, 4, .inr (.inr (.inr (.inr (va_up (va_up (va_up ro 0 (some (hh 1 0))) 1 (some (hh 2 0))) 2 (some (hh 3 0)))))))), (hh 0 0, .inr (2, [.ref (hh 0 1), .ref (hh 0 2), .ref (hh 0 3), .ref (hh 0 4), .int (nI ((BB 0) 16)), .int (nI ((BB 0) 67)), .int (rmb (BB 0)), .int (nI ((BB 0) 66))])), (hh 1 0, .inr (2, [.ref (hh 1 1), .ref (hh 1 2), .ref (hh 1 3), .ref (hh 1 4), .int (nI ((BB 1) 16)), .int (nI ((BB 1) 67)), .int (rmb (BB 1)), .int (nI ((BB 1) 66))])), (hh 2 0, .inr (2, [.ref (hh 2 1), .ref (hh 2 2), .ref (hh 2 3), .ref (hh 2 4), .int (nI ((BB 2) 16)), .int (nI ((BB 2) 67)), .int (rmb (BB 2)), .int (nI ((BB 2) 66))])), (hh 3 0, .inr (2, [.ref (hh 3 1), .ref (hh 3 2), .ref (hh 3 3), .ref (hh 3 4), .int (nI ((BB 3) 16)), .int (nI ((BB 3) 67)), .int (rmb (BB 3)), .int (nI ((BB 3) 66))]))] H := hP1
    have hD : va_D A [(a, .inr (1, [.ref b, .int (nI n)])), (b, .inl (y 2, 4, .inr (.inr (.inr (.inr (va_up (va_up (va_up ro 0 (some (hh 1 0))) 1 (some (hh 2 0))) 2 (some (hh 3 0)))))))), (hh 0 0, .inr (2, [.ref (hh 0 1), .ref (hh 0 2), .ref (hh 0 3), .ref (hh 0 4), .int (nI ((BB 0) 16)), .int (nI ((BB 0) 67)), .int (rmb (BB 0)), .int (nI ((BB 0) 66))])), (hh 1 0, .inr (2, [.ref (hh 1 1), .ref (hh 1 2), .ref (hh 1 3), .ref (hh 1 4), .int (nI ((BB 1) 16)), .int (nI ((BB 1) 67)), .int (rmb (BB 1)), .int (nI ((BB 1) 66))])), (hh 2 0, .inr (2, [.ref (hh 2 1), .ref (hh 2 2), .ref (hh 2 3), .ref (hh 2 4), .int (nI ((BB 2) 16)), .int (nI ((BB 2) 67)), .int (rmb (BB 2)), .int (nI ((BB 2) 66))])), (hh 3 0, .inr (2, [.ref (hh 3 1), .ref (hh 3 2), .ref (hh 3 3), .ref (hh 3 4), .int (nI ((BB 3) 16)), .int (nI ((BB 3) 67)), .int (rmb (BB 3)), .int (nI ((BB 3) 66))]))] := hD1
    have hS := hS1
    clear hP1 hD1 hS1
    refine lv_iinc (v := nI 3) (lv' := [(2, .int (nI 3)), (1, .ref (hh 0 0)), (0, .ref a)]) hx hb dX1_dropOldest_33 hl (k := 0) rfl (nI_add 2 1) (by decide) rfl (fun ls hl => ?_)
    refine lv_goto (tgt := 8) hx hb dX1_dropOldest_36 (by decide) ?_
    refine lv_iload_n hx hb dX1_dropOldest_8 rfl (lv_at hl 0 rfl) ?_
    refine lv_iconst (v := nI 1) hx hb dX1_dropOldest_9 (by decide) ?_
    refine xn_add hx hb (r := 4) rfl dX1_dropOldest_10 ?_
    refine lv_aload_n hx hb dX1_dropOldest_11 rfl (lv_at hl 2 rfl) ?_
    refine va_get (D := D) (ci := 1) (v := .ref b) (C := RX1) (T := TX1) (N := 2) hx hb hts hin_X1 hown hK.1 hP 0 rfl rfl 0 (by decide) f_11 (fun _ h9 => h9) rfl dX1_dropOldest_12 ?_
    refine xn_alen hx hb hK hP 1 2 rfl rfl rfl dX1_dropOldest_15 ?_
    refine lv_icmp_ge (tgt := 39) hx hb dX1_dropOldest_16 (by decide) (fun _ => ?_) (fun h => absurd h (show ¬ ¬ nI 4 ≤ nI 4 by decide))
    refine lv_aload_n hx hb dX1_dropOldest_39 rfl (lv_at hl 2 rfl) ?_
    refine va_get (D := D) (ci := 1) (v := .ref b) (C := RX1) (T := TX1) (N := 2) hx hb hts hin_X1 hown hK.1 hP 0 rfl rfl 0 (by decide) f_11 (fun _ h9 => h9) rfl dX1_dropOldest_40 ?_
    refine xn_alen hx hb hK hP 1 2 rfl rfl rfl dX1_dropOldest_43 ?_
    refine lv_if_le (tgt := 60) hx hb dX1_dropOldest_44 (by decide) (fun h => absurd h (show ¬ nI 4 ≤ 0 by decide)) (fun _ => ?_)
    refine lv_aload_n hx hb dX1_dropOldest_47 rfl (lv_at hl 2 rfl) ?_
    refine va_get (D := D) (ci := 1) (v := .ref b) (C := RX1) (T := TX1) (N := 2) hx hb hts hin_X1 hown hK.1 hP 0 rfl rfl 0 (by decide) f_11 (fun _ h9 => h9) rfl dX1_dropOldest_48 ?_
    refine lv_aload_n hx hb dX1_dropOldest_51 rfl (lv_at hl 2 rfl) ?_
    refine va_get (D := D) (ci := 1) (v := .ref b) (C := RX1) (T := TX1) (N := 2) hx hb hts hin_X1 hown hK.1 hP 0 rfl rfl 0 (by decide) f_11 (fun _ h9 => h9) rfl dX1_dropOldest_52 ?_
    refine xn_alen hx hb hK hP 1 2 rfl rfl rfl dX1_dropOldest_55 ?_
    refine lv_iconst (v := nI 1) hx hb dX1_dropOldest_56 (by decide) ?_
    refine xn_sub hx hb (r := 3) (by omega) rfl dX1_dropOldest_57 ?_
    refine lv_aload_n hx hb dX1_dropOldest_58 rfl (lv_at hl 1 rfl) ?_
    refine xn_aast hx hb hK hP hD hS 1 2 2 (g := va_up (va_up (va_up (va_up ro 0 (some (hh 1 0))) 1 (some (hh 2 0))) 2 (some (hh 3 0))) 3 (some (hh 0 0))) rfl rfl rfl (by omega) (by decide) rfl dX1_dropOldest_59 (fun H locs hP1 hD1 hS1 => ?_)
    clear hP hD hS
    have hP : va_P D vwCl [(a, .inr (1, [.ref b, .int (nI n)])), (b, .inl (y 2, 4, .inr (.inr (.inr (.inr (va_up (va_up (va_up (va_up ro 0 (some (hh 1 0))) 1 (some (hh 2 0))) 2 (some (hh 3 0))) 3 (some (hh 0 0)))))))), (hh 0 0, .inr (2, [.ref (hh 0 1), .ref (hh 0 2), .ref (hh 0 3), .ref (hh 0 4), .int (nI ((BB 0) 16)), .int (nI ((BB 0) 67)), .int (rmb (BB 0)), .int (nI ((BB 0) 66))])), (hh 1 0, .inr (2, [.ref (hh 1 1), .ref (hh 1 2), .ref (hh 1 3), .ref (hh 1 4), .int (nI ((BB 1) 16)), .int (nI ((BB 1) 67)), .int (rmb (BB 1)), .int (nI ((BB 1) 66))])), (hh 2 0, .inr (2, [.ref (hh 2 1), .ref (hh 2 2), .ref (hh 2 3), .ref (hh 2 4), .int (nI ((BB 2) 16)), .int (nI ((BB 2) 67)), .int (rmb (BB 2)), .int (nI ((BB 2) 66))])), (hh 3 0, .inr (2, [.ref (hh 3 1), .ref (hh 3 2), .ref (hh 3 3), .ref (hh 3 4), .int (nI ((BB 3) 16)), .int (nI ((BB 3) 67)), .int (rmb (BB 3)), .int (nI ((BB 3) 66))]))] H := hP1
    have hD : va_D A [(a, .inr (1, [.ref b, .int (nI n)])), (b, .inl (y 2, 4, .inr (.inr (.inr (.inr (va_up (va_up (va_up (va_up ro 0 (some (hh 1 0))) 1 (some (hh 2 0))) 2 (some (hh 3 0))) 3 (some (hh 0 0)))))))), (hh 0 0, .inr (2, [.ref (hh 0 1), .ref (hh 0 2), .ref (hh 0 3), .ref (hh 0 4), .int (nI ((BB 0) 16)), .int (nI ((BB 0) 67)), .int (rmb (BB 0)), .int (nI ((BB 0) 66))])), (hh 1 0, .inr (2, [.ref (hh 1 1), .ref (hh 1 2), .ref (hh 1 3), .ref (hh 1 4), .int (nI ((BB 1) 16)), .int (nI ((BB 1) 67)), .int (rmb (BB 1)), .int (nI ((BB 1) 66))])), (hh 2 0, .inr (2, [.ref (hh 2 1), .ref (hh 2 2), .ref (hh 2 3), .ref (hh 2 4), .int (nI ((BB 2) 16)), .int (nI ((BB 2) 67)), .int (rmb (BB 2)), .int (nI ((BB 2) 66))])), (hh 3 0, .inr (2, [.ref (hh 3 1), .ref (hh 3 2), .ref (hh 3 3), .ref (hh 3 4), .int (nI ((BB 3) 16)), .int (nI ((BB 3) 67)), .int (rmb (BB 3)), .int (nI ((BB 3) 66))]))] := hD1
    have hS := hS1
    clear hP1 hD1 hS1
    refine lv_aload_n hx hb dX1_dropOldest_60 rfl (lv_at hl 2 rfl) ?_
    refine lv_dup hx hb dX1_dropOldest_61 rfl ?_
    refine va_get (D := D) (ci := 1) (v := .int (nI n)) (C := RX1) (T := TX1) (N := 2) hx hb hts hin_X1 hown hK.1 hP 0 rfl rfl 1 (by decide) f_18 (fun _ h9 => h9) rfl dX1_dropOldest_62 ?_
    refine lv_iconst (v := nI 1) hx hb dX1_dropOldest_65 (by decide) ?_
    refine xn_sub hx hb (r := (n - 1)) (by omega) rfl dX1_dropOldest_66 ?_
    refine va_put (D := D) (ci := 1) (v := .int (nI (n - 1))) (ty := .int) (C := RX1) (T := TX1) (N := 2) hx hb hts hin_X1 tyX1 tyX1_ok nmX1 hown hK.1 hP hD hS 0 rfl rfl 1 (by decide) f_18 (fun _ h9 => h9) rfl (by decide +kernel) rfl rfl (Nat.le_of_ble_eq_true rfl) dX1_dropOldest_67 (fun H locs hP1 hD1 hS1 => ?_)
    clear hP hD hS
    have hP : va_P D vwCl [(a, .inr (1, [.ref b, .int (nI (n - 1))])), (b, .inl (y 2, 4, .inr (.inr (.inr (.inr (va_up (va_up (va_up (va_up ro 0 (some (hh 1 0))) 1 (some (hh 2 0))) 2 (some (hh 3 0))) 3 (some (hh 0 0)))))))), (hh 0 0, .inr (2, [.ref (hh 0 1), .ref (hh 0 2), .ref (hh 0 3), .ref (hh 0 4), .int (nI ((BB 0) 16)), .int (nI ((BB 0) 67)), .int (rmb (BB 0)), .int (nI ((BB 0) 66))])), (hh 1 0, .inr (2, [.ref (hh 1 1), .ref (hh 1 2), .ref (hh 1 3), .ref (hh 1 4), .int (nI ((BB 1) 16)), .int (nI ((BB 1) 67)), .int (rmb (BB 1)), .int (nI ((BB 1) 66))])), (hh 2 0, .inr (2, [.ref (hh 2 1), .ref (hh 2 2), .ref (hh 2 3), .ref (hh 2 4), .int (nI ((BB 2) 16)), .int (nI ((BB 2) 67)), .int (rmb (BB 2)), .int (nI ((BB 2) 66))])), (hh 3 0, .inr (2, [.ref (hh 3 1), .ref (hh 3 2), .ref (hh 3 3), .ref (hh 3 4), .int (nI ((BB 3) 16)), .int (nI ((BB 3) 67)), .int (rmb (BB 3)), .int (nI ((BB 3) 66))]))] H := hP1
    have hD : va_D A [(a, .inr (1, [.ref b, .int (nI (n - 1))])), (b, .inl (y 2, 4, .inr (.inr (.inr (.inr (va_up (va_up (va_up (va_up ro 0 (some (hh 1 0))) 1 (some (hh 2 0))) 2 (some (hh 3 0))) 3 (some (hh 0 0)))))))), (hh 0 0, .inr (2, [.ref (hh 0 1), .ref (hh 0 2), .ref (hh 0 3), .ref (hh 0 4), .int (nI ((BB 0) 16)), .int (nI ((BB 0) 67)), .int (rmb (BB 0)), .int (nI ((BB 0) 66))])), (hh 1 0, .inr (2, [.ref (hh 1 1), .ref (hh 1 2), .ref (hh 1 3), .ref (hh 1 4), .int (nI ((BB 1) 16)), .int (nI ((BB 1) 67)), .int (rmb (BB 1)), .int (nI ((BB 1) 66))])), (hh 2 0, .inr (2, [.ref (hh 2 1), .ref (hh 2 2), .ref (hh 2 3), .ref (hh 2 4), .int (nI ((BB 2) 16)), .int (nI ((BB 2) 67)), .int (rmb (BB 2)), .int (nI ((BB 2) 66))])), (hh 3 0, .inr (2, [.ref (hh 3 1), .ref (hh 3 2), .ref (hh 3 3), .ref (hh 3 4), .int (nI ((BB 3) 16)), .int (nI ((BB 3) 67)), .int (rmb (BB 3)), .int (nI ((BB 3) 66))]))] := hD1
    have hS := hS1
    clear hP1 hD1 hS1
    subst hQe
    exact xw_v hx hb hr hlocks (va_up (va_up (va_up (va_up ro 0 (some (hh 1 0))) 1 (some (hh 2 0))) 2 (some (hh 3 0))) 3 (some (hh 0 0))) hS dX1_dropOldest_70 (dro (by omega) (by omega) (by omega) (by omega)) (fun t ht => by rw [ht]; exact (hP))
  · refine lv_aload_n hx hb dX1_dropOldest_0 rfl (lv_at hl 0 rfl) ?_
    refine lv_iconst (v := nI 0) hx hb dX1_dropOldest_1 (by decide) ?_
    refine va_csr (W.runV (As := [.int (nI 0)]) (rest := []) ⟨hx, hb, hml, hown, hts⟩ (c_X1_stateAt l D y a b n ro 0 (by omega) (hh 1 0) ((hro 0 (by decide)).trans (by rw [show (0 + d) % 4 = 1 by omega]))) (cwV 1 hts gX1_dropOldest_X1_stateAt rfl rfl rfl hd_X1_stateAt ⟨Nat.le_of_ble_eq_true rfl, Nat.le_of_ble_eq_true rfl⟩) (xpv_r hK hP [0, 1] 0 rfl rfl rfl) rfl rfl hl.1 rfl (lv_room (Nat.le_of_ble_eq_true rfl)) dX1_dropOldest_2 ⟨Nat.zero_le _, Nat.zero_le _⟩) (fun r2 hr2 => ?_)
    subst hr2
    refine lv_astore_n (lv' := [(1, .ref (hh 1 0)), (0, .ref a)]) hx hb dX1_dropOldest_5 rfl hl (by decide) rfl (fun ls hl => ?_)
    refine lv_iconst (v := nI 0) hx hb dX1_dropOldest_6 (by decide) ?_
    refine lv_istore_n (lv' := [(2, .int (nI 0)), (1, .ref (hh 1 0)), (0, .ref a)]) hx hb dX1_dropOldest_7 rfl hl (by decide) rfl (fun ls hl => ?_)
    refine lv_iload_n hx hb dX1_dropOldest_8 rfl (lv_at hl 0 rfl) ?_
    refine lv_iconst (v := nI 1) hx hb dX1_dropOldest_9 (by decide) ?_
    refine xn_add hx hb (r := 1) rfl dX1_dropOldest_10 ?_
    refine lv_aload_n hx hb dX1_dropOldest_11 rfl (lv_at hl 2 rfl) ?_
    refine va_get (D := D) (ci := 1) (v := .ref b) (C := RX1) (T := TX1) (N := 2) hx hb hts hin_X1 hown hK.1 hP 0 rfl rfl 0 (by decide) f_11 (fun _ h9 => h9) rfl dX1_dropOldest_12 ?_
    refine xn_alen hx hb hK hP 1 2 rfl rfl rfl dX1_dropOldest_15 ?_
    refine lv_icmp_ge (tgt := 39) hx hb dX1_dropOldest_16 (by decide) (fun h => absurd h (show ¬ nI 4 ≤ nI 1 by decide)) (fun _ => ?_)
    refine lv_aload_n hx hb dX1_dropOldest_19 rfl (lv_at hl 2 rfl) ?_
    refine va_get (D := D) (ci := 1) (v := .ref b) (C := RX1) (T := TX1) (N := 2) hx hb hts hin_X1 hown hK.1 hP 0 rfl rfl 0 (by decide) f_11 (fun _ h9 => h9) rfl dX1_dropOldest_20 ?_
    refine lv_iload_n hx hb dX1_dropOldest_23 rfl (lv_at hl 0 rfl) ?_
    refine lv_aload_n hx hb dX1_dropOldest_24 rfl (lv_at hl 2 rfl) ?_
    refine va_get (D := D) (ci := 1) (v := .ref b) (C := RX1) (T := TX1) (N := 2) hx hb hts hin_X1 hown hK.1 hP 0 rfl rfl 0 (by decide) f_11 (fun _ h9 => h9) rfl dX1_dropOldest_25 ?_
    refine lv_iload_n hx hb dX1_dropOldest_28 rfl (lv_at hl 0 rfl) ?_
    refine lv_iconst (v := nI 1) hx hb dX1_dropOldest_29 (by decide) ?_
    refine xn_add hx hb (r := 1) rfl dX1_dropOldest_30 ?_
    refine xn_aald hx hb hK hP 1 rfl (by omega) (by decide) (b := hh 2 0) ((hro 1 (by decide)).trans (by rw [show (1 + d) % 4 = 2 by omega])) dX1_dropOldest_31 ?_
    refine xn_aast hx hb hK hP hD hS 1 4 2 (g := va_up ro 0 (some (hh 2 0))) rfl rfl rfl (by omega) (by decide) rfl dX1_dropOldest_32 (fun H locs hP1 hD1 hS1 => ?_)
    clear hP hD hS
    have hP : va_P D vwCl [(a, .inr (1, [.ref b, .int (nI n)])), (b, .inl (y 2, 4, .inr (.inr (.inr (.inr (va_up ro 0 (some (hh 2 0)))))))), (hh 0 0, .inr (2, [.ref (hh 0 1), .ref (hh 0 2), .ref (hh 0 3), .ref (hh 0 4), .int (nI ((BB 0) 16)), .int (nI ((BB 0) 67)), .int (rmb (BB 0)), .int (nI ((BB 0) 66))])), (hh 1 0, .inr (2, [.ref (hh 1 1), .ref (hh 1 2), .ref (hh 1 3), .ref (hh 1 4), .int (nI ((BB 1) 16)), .int (nI ((BB 1) 67)), .int (rmb (BB 1)), .int (nI ((BB 1) 66))])), (hh 2 0, .inr (2, [.ref (hh 2 1), .ref (hh 2 2), .ref (hh 2 3), .ref (hh 2 4), .int (nI ((BB 2) 16)), .int (nI ((BB 2) 67)), .int (rmb (BB 2)), .int (nI ((BB 2) 66))])), (hh 3 0, .inr (2, [.ref (hh 3 1), .ref (hh 3 2), .ref (hh 3 3), .ref (hh 3 4), .int (nI ((BB 3) 16)), .int (nI ((BB 3) 67)), .int (rmb (BB 3)), .int (nI ((BB 3) 66))]))] H := hP1
    have hD : va_D A [(a, .inr (1, [.ref b, .int (nI n)])), (b, .inl (y 2, 4, .inr (.inr (.inr (.inr (va_up ro 0 (some (hh 2 0)))))))), (hh 0 0, .inr (2, [.ref (hh 0 1), .ref (hh 0 2), .ref (hh 0 3), .ref (hh 0 4), .int (nI ((BB 0) 16)), .int (nI ((BB 0) 67)), .int (rmb (BB 0)), .int (nI ((BB 0) 66))])), (hh 1 0, .inr (2, [.ref (hh 1 1), .ref (hh 1 2), .ref (hh 1 3), .ref (hh 1 4), .int (nI ((BB 1) 16)), .int (nI ((BB 1) 67)), .int (rmb (BB 1)), .int (nI ((BB 1) 66))])), (hh 2 0, .inr (2, [.ref (hh 2 1), .ref (hh 2 2), .ref (hh 2 3), .ref (hh 2 4), .int (nI ((BB 2) 16)), .int (nI ((BB 2) 67)), .int (rmb (BB 2)), .int (nI ((BB 2) 66))])), (hh 3 0, .inr (2, [.ref (hh 3 1), .ref (hh 3 2), .ref (hh 3 3), .ref (hh 3 4), .int (nI ((BB 3) 16)), .int (nI ((BB 3) 67)), .int (rmb (BB 3)), .int (nI ((BB 3) 66))]))] := hD1
    have hS := hS1
    clear hP1 hD1 hS1
    refine lv_iinc (v := nI 1) (lv' := [(2, .int (nI 1)), (1, .ref (hh 1 0)), (0, .ref a)]) hx hb dX1_dropOldest_33 hl (k := 0) rfl (nI_add 0 1) (by decide) rfl (fun ls hl => ?_)
    refine lv_goto (tgt := 8) hx hb dX1_dropOldest_36 (by decide) ?_
    refine lv_iload_n hx hb dX1_dropOldest_8 rfl (lv_at hl 0 rfl) ?_
    refine lv_iconst (v := nI 1) hx hb dX1_dropOldest_9 (by decide) ?_
    refine xn_add hx hb (r := 2) rfl dX1_dropOldest_10 ?_
    refine lv_aload_n hx hb dX1_dropOldest_11 rfl (lv_at hl 2 rfl) ?_
    refine va_get (D := D) (ci := 1) (v := .ref b) (C := RX1) (T := TX1) (N := 2) hx hb hts hin_X1 hown hK.1 hP 0 rfl rfl 0 (by decide) f_11 (fun _ h9 => h9) rfl dX1_dropOldest_12 ?_
    refine xn_alen hx hb hK hP 1 2 rfl rfl rfl dX1_dropOldest_15 ?_
    refine lv_icmp_ge (tgt := 39) hx hb dX1_dropOldest_16 (by decide) (fun h => absurd h (show ¬ nI 4 ≤ nI 2 by decide)) (fun _ => ?_)
    refine lv_aload_n hx hb dX1_dropOldest_19 rfl (lv_at hl 2 rfl) ?_
    refine va_get (D := D) (ci := 1) (v := .ref b) (C := RX1) (T := TX1) (N := 2) hx hb hts hin_X1 hown hK.1 hP 0 rfl rfl 0 (by decide) f_11 (fun _ h9 => h9) rfl dX1_dropOldest_20 ?_
    refine lv_iload_n hx hb dX1_dropOldest_23 rfl (lv_at hl 0 rfl) ?_
    refine lv_aload_n hx hb dX1_dropOldest_24 rfl (lv_at hl 2 rfl) ?_
    refine va_get (D := D) (ci := 1) (v := .ref b) (C := RX1) (T := TX1) (N := 2) hx hb hts hin_X1 hown hK.1 hP 0 rfl rfl 0 (by decide) f_11 (fun _ h9 => h9) rfl dX1_dropOldest_25 ?_
    refine lv_iload_n hx hb dX1_dropOldest_28 rfl (lv_at hl 0 rfl) ?_
    refine lv_iconst (v := nI 1) hx hb dX1_dropOldest_29 (by decide) ?_
    refine xn_add hx hb (r := 2) rfl dX1_dropOldest_30 ?_
    refine xn_aald hx hb hK hP 1 rfl (by omega) (by decide) (b := hh 3 0) ((va_up_ne _ _ (by decide)).trans ((hro 2 (by decide)).trans (by rw [show (2 + d) % 4 = 3 by omega]))) dX1_dropOldest_31 ?_
    refine xn_aast hx hb hK hP hD hS 1 5 2 (g := va_up (va_up ro 0 (some (hh 2 0))) 1 (some (hh 3 0))) rfl rfl rfl (by omega) (by decide) rfl dX1_dropOldest_32 (fun H locs hP1 hD1 hS1 => ?_)
    clear hP hD hS
    have hP : va_P D vwCl [(a, .inr (1, [.ref b, .int (nI n)])), (b, .inl (y 2, 4, .inr (.inr (.inr (.inr (va_up (va_up ro 0 (some (hh 2 0))) 1 (some (hh 3 0)))))))), (hh 0 0, .inr (2, [.ref (hh 0 1), .ref (hh 0 2), .ref (hh 0 3), .ref (hh 0 4), .int (nI ((BB 0) 16)), .int (nI ((BB 0) 67)), .int (rmb (BB 0)), .int (nI ((BB 0) 66))])), (hh 1 0, .inr (2, [.ref (hh 1 1), .ref (hh 1 2), .ref (hh 1 3), .ref (hh 1 4), .int (nI ((BB 1) 16)), .int (nI ((BB 1) 67)), .int (rmb (BB 1)), .int (nI ((BB 1) 66))])), (hh 2 0, .inr (2, [.ref (hh 2 1), .ref (hh 2 2), .ref (hh 2 3), .ref (hh 2 4), .int (nI ((BB 2) 16)), .int (nI ((BB 2) 67)), .int (rmb (BB 2)), .int (nI ((BB 2) 66))])), (hh 3 0, .inr (2, [.ref (hh 3 1), .ref (hh 3 2), .ref (hh 3 3), .ref (hh 3 4), .int (nI ((BB 3) 16)), .int (nI ((BB 3) 67)), .int (rmb (BB 3)), .int (nI ((BB 3) 66))]))] H := hP1
    have hD : va_D A [(a, .inr (1, [.ref b, .int (nI n)])), (b, .inl (y 2, 4, .inr (.inr (.inr (.inr (va_up (va_up ro 0 (some (hh 2 0))) 1 (some (hh 3 0)))))))), (hh 0 0, .inr (2, [.ref (hh 0 1), .ref (hh 0 2), .ref (hh 0 3), .ref (hh 0 4), .int (nI ((BB 0) 16)), .int (nI ((BB 0) 67)), .int (rmb (BB 0)), .int (nI ((BB 0) 66))])), (hh 1 0, .inr (2, [.ref (hh 1 1), .ref (hh 1 2), .ref (hh 1 3), .ref (hh 1 4), .int (nI ((BB 1) 16)), .int (nI ((BB 1) 67)), .int (rmb (BB 1)), .int (nI ((BB 1) 66))])), (hh 2 0, .inr (2, [.ref (hh 2 1), .ref (hh 2 2), .ref (hh 2 3), .ref (hh 2 4), .int (nI ((BB 2) 16)), .int (nI ((BB 2) 67)), .int (rmb (BB 2)), .int (nI ((BB 2) 66))])), (hh 3 0, .inr (2, [.ref (hh 3 1), .ref (hh 3 2), .ref (hh 3 3), .ref (hh 3 4), .int (nI ((BB 3) 16)), .int (nI ((BB 3) 67)), .int (rmb (BB 3)), .int (nI ((BB 3) 66))]))] := hD1
    have hS := hS1
    clear hP1 hD1 hS1
    refine lv_iinc (v := nI 2) (lv' := [(2, .int (nI 2)), (1, .ref (hh 1 0)), (0, .ref a)]) hx hb dX1_dropOldest_33 hl (k := 0) rfl (nI_add 1 1) (by decide) rfl (fun ls hl => ?_)
    refine lv_goto (tgt := 8) hx hb dX1_dropOldest_36 (by decide) ?_
    refine lv_iload_n hx hb dX1_dropOldest_8 rfl (lv_at hl 0 rfl) ?_
    refine lv_iconst (v := nI 1) hx hb dX1_dropOldest_9 (by decide) ?_
    refine xn_add hx hb (r := 3) rfl dX1_dropOldest_10 ?_
    refine lv_aload_n hx hb dX1_dropOldest_11 rfl (lv_at hl 2 rfl) ?_
    refine va_get (D := D) (ci := 1) (v := .ref b) (C := RX1) (T := TX1) (N := 2) hx hb hts hin_X1 hown hK.1 hP 0 rfl rfl 0 (by decide) f_11 (fun _ h9 => h9) rfl dX1_dropOldest_12 ?_
    refine xn_alen hx hb hK hP 1 2 rfl rfl rfl dX1_dropOldest_15 ?_
    refine lv_icmp_ge (tgt := 39) hx hb dX1_dropOldest_16 (by decide) (fun h => absurd h (show ¬ nI 4 ≤ nI 3 by decide)) (fun _ => ?_)
    refine lv_aload_n hx hb dX1_dropOldest_19 rfl (lv_at hl 2 rfl) ?_
    refine va_get (D := D) (ci := 1) (v := .ref b) (C := RX1) (T := TX1) (N := 2) hx hb hts hin_X1 hown hK.1 hP 0 rfl rfl 0 (by decide) f_11 (fun _ h9 => h9) rfl dX1_dropOldest_20 ?_
    refine lv_iload_n hx hb dX1_dropOldest_23 rfl (lv_at hl 0 rfl) ?_
    refine lv_aload_n hx hb dX1_dropOldest_24 rfl (lv_at hl 2 rfl) ?_
    refine va_get (D := D) (ci := 1) (v := .ref b) (C := RX1) (T := TX1) (N := 2) hx hb hts hin_X1 hown hK.1 hP 0 rfl rfl 0 (by decide) f_11 (fun _ h9 => h9) rfl dX1_dropOldest_25 ?_
    refine lv_iload_n hx hb dX1_dropOldest_28 rfl (lv_at hl 0 rfl) ?_
    refine lv_iconst (v := nI 1) hx hb dX1_dropOldest_29 (by decide) ?_
    refine xn_add hx hb (r := 3) rfl dX1_dropOldest_30 ?_
    refine xn_aald hx hb hK hP 1 rfl (by omega) (by decide) (b := hh 0 0) ((va_up_ne _ _ (by decide)).trans ((va_up_ne _ _ (by decide)).trans ((hro 3 (by decide)).trans (by rw [show (3 + d) % 4 = 0 by omega])))) dX1_dropOldest_31 ?_
    refine xn_aast hx hb hK hP hD hS 1 2 2 (g := va_up (va_up (va_up ro 0 (some (hh 2 0))) 1 (some (hh 3 0))) 2 (some (hh 0 0))) rfl rfl rfl (by omega) (by decide) rfl dX1_dropOldest_32 (fun H locs hP1 hD1 hS1 => ?_)
    clear hP hD hS
    have hP : va_P D vwCl [(a, .inr (1, [.ref b, .int (nI n)])), (b, .inl (y 2, 4, .inr (.inr (.inr (.inr (va_up (va_up (va_up ro 0 (some (hh 2 0))) 1 (some (hh 3 0))) 2 (some (hh 0 0)))))))), (hh 0 0, .inr (2, [.ref (hh 0 1), .ref (hh 0 2), .ref (hh 0 3), .ref (hh 0 4), .int (nI ((BB 0) 16)), .int (nI ((BB 0) 67)), .int (rmb (BB 0)), .int (nI ((BB 0) 66))])), (hh 1 0, .inr (2, [.ref (hh 1 1), .ref (hh 1 2), .ref (hh 1 3), .ref (hh 1 4), .int (nI ((BB 1) 16)), .int (nI ((BB 1) 67)), .int (rmb (BB 1)), .int (nI ((BB 1) 66))])), (hh 2 0, .inr (2, [.ref (hh 2 1), .ref (hh 2 2), .ref (hh 2 3), .ref (hh 2 4), .int (nI ((BB 2) 16)), .int (nI ((BB 2) 67)), .int (rmb (BB 2)), .int (nI ((BB 2) 66))])), (hh 3 0, .inr (2, [.ref (hh 3 1), .ref (hh 3 2), .ref (hh 3 3), .ref (hh 3 4), .int (nI ((BB 3) 16)), .int (nI ((BB 3) 67)), .int (rmb (BB 3)), .int (nI ((BB 3) 66))]))] H := hP1
    have hD : va_D A [(a, .inr (1, [.ref b, .int (nI n)])), (b, .inl (y 2, 4, .inr (.inr (.inr (.inr (va_up (va_up (va_up ro 0 (some (hh 2 0))) 1 (some (hh 3 0))) 2 (some (hh 0 0)))))))), (hh 0 0, .inr (2, [.ref (hh 0 1), .ref (hh 0 2), .ref (hh 0 3), .ref (hh 0 4), .int (nI ((BB 0) 16)), .int (nI ((BB 0) 67)), .int (rmb (BB 0)), .int (nI ((BB 0) 66))])), (hh 1 0, .inr (2, [.ref (hh 1 1), .ref (hh 1 2), .ref (hh 1 3), .ref (hh 1 4), .int (nI ((BB 1) 16)), .int (nI ((BB 1) 67)), .int (rmb (BB 1)), .int (nI ((BB 1) 66))])), (hh 2 0, .inr (2, [.ref (hh 2 1), .ref (hh 2 2), .ref (hh 2 3), .ref (hh 2 4), .int (nI ((BB 2) 16)), .int (nI ((BB 2) 67)), .int (rmb (BB 2)), .int (nI ((BB 2) 66))])), (hh 3 0, .inr (2, [.ref (hh 3 1), .ref (hh 3 2), .ref (hh 3 3), .ref (hh 3 4), .int (nI ((BB 3) 16)), .int (nI ((BB 3) 67)), .int (rmb (BB 3)), .int (nI ((BB 3) 66))]))] := hD1
    have hS := hS1
    clear hP1 hD1 hS1
    refine lv_iinc (v := nI 3) (lv' := [(2, .int (nI 3)), (1, .ref (hh 1 0)), (0, .ref a)]) hx hb dX1_dropOldest_33 hl (k := 0) rfl (nI_add 2 1) (by decide) rfl (fun ls hl => ?_)
    refine lv_goto (tgt := 8) hx hb dX1_dropOldest_36 (by decide) ?_
    refine lv_iload_n hx hb dX1_dropOldest_8 rfl (lv_at hl 0 rfl) ?_
    refine lv_iconst (v := nI 1) hx hb dX1_dropOldest_9 (by decide) ?_
    refine xn_add hx hb (r := 4) rfl dX1_dropOldest_10 ?_
    refine lv_aload_n hx hb dX1_dropOldest_11 rfl (lv_at hl 2 rfl) ?_
    refine va_get (D := D) (ci := 1) (v := .ref b) (C := RX1) (T := TX1) (N := 2) hx hb hts hin_X1 hown hK.1 hP 0 rfl rfl 0 (by decide) f_11 (fun _ h9 => h9) rfl dX1_dropOldest_12 ?_
    refine xn_alen hx hb hK hP 1 2 rfl rfl rfl dX1_dropOldest_15 ?_
    refine lv_icmp_ge (tgt := 39) hx hb dX1_dropOldest_16 (by decide) (fun _ => ?_) (fun h => absurd h (show ¬ ¬ nI 4 ≤ nI 4 by decide))
    refine lv_aload_n hx hb dX1_dropOldest_39 rfl (lv_at hl 2 rfl) ?_
    refine va_get (D := D) (ci := 1) (v := .ref b) (C := RX1) (T := TX1) (N := 2) hx hb hts hin_X1 hown hK.1 hP 0 rfl rfl 0 (by decide) f_11 (fun _ h9 => h9) rfl dX1_dropOldest_40 ?_
    refine xn_alen hx hb hK hP 1 2 rfl rfl rfl dX1_dropOldest_43 ?_
    refine lv_if_le (tgt := 60) hx hb dX1_dropOldest_44 (by decide) (fun h => absurd h (show ¬ nI 4 ≤ 0 by decide)) (fun _ => ?_)
    refine lv_aload_n hx hb dX1_dropOldest_47 rfl (lv_at hl 2 rfl) ?_
    refine va_get (D := D) (ci := 1) (v := .ref b) (C := RX1) (T := TX1) (N := 2) hx hb hts hin_X1 hown hK.1 hP 0 rfl rfl 0 (by decide) f_11 (fun _ h9 => h9) rfl dX1_dropOldest_48 ?_
    refine lv_aload_n hx hb dX1_dropOldest_51 rfl (lv_at hl 2 rfl) ?_
    refine va_get (D := D) (ci := 1) (v := .ref b) (C := RX1) (T := TX1) (N := 2) hx hb hts hin_X1 hown hK.1 hP 0 rfl rfl 0 (by decide) f_11 (fun _ h9 => h9) rfl dX1_dropOldest_52 ?_
    refine xn_alen hx hb hK hP 1 2 rfl rfl rfl dX1_dropOldest_55 ?_
    refine lv_iconst (v := nI 1) hx hb dX1_dropOldest_56 (by decide) ?_
    refine xn_sub hx hb (r := 3) (by omega) rfl dX1_dropOldest_57 ?_
    refine lv_aload_n hx hb dX1_dropOldest_58 rfl (lv_at hl 1 rfl) ?_
    refine xn_aast hx hb hK hP hD hS 1 3 2 (g := va_up (va_up (va_up (va_up ro 0 (some (hh 2 0))) 1 (some (hh 3 0))) 2 (some (hh 0 0))) 3 (some (hh 1 0))) rfl rfl rfl (by omega) (by decide) rfl dX1_dropOldest_59 (fun H locs hP1 hD1 hS1 => ?_)
    clear hP hD hS
    have hP : va_P D vwCl [(a, .inr (1, [.ref b, .int (nI n)])), (b, .inl (y 2, 4, .inr (.inr (.inr (.inr (va_up (va_up (va_up (va_up ro 0 (some (hh 2 0))) 1 (some (hh 3 0))) 2 (some (hh 0 0))) 3 (some (hh 1 0)))))))), (hh 0 0, .inr (2, [.ref (hh 0 1), .ref (hh 0 2), .ref (hh 0 3), .ref (hh 0 4), .int (nI ((BB 0) 16)), .int (nI ((BB 0) 67)), .int (rmb (BB 0)), .int (nI ((BB 0) 66))])), (hh 1 0, .inr (2, [.ref (hh 1 1), .ref (hh 1 2), .ref (hh 1 3), .ref (hh 1 4), .int (nI ((BB 1) 16)), .int (nI ((BB 1) 67)), .int (rmb (BB 1)), .int (nI ((BB 1) 66))])), (hh 2 0, .inr (2, [.ref (hh 2 1), .ref (hh 2 2), .ref (hh 2 3), .ref (hh 2 4), .int (nI ((BB 2) 16)), .int (nI ((BB 2) 67)), .int (rmb (BB 2)), .int (nI ((BB 2) 66))])), (hh 3 0, .inr (2, [.ref (hh 3 1), .ref (hh 3 2), .ref (hh 3 3), .ref (hh 3 4), .int (nI ((BB 3) 16)), .int (nI ((BB 3) 67)), .int (rmb (BB 3)), .int (nI ((BB 3) 66))]))] H := hP1
    have hD : va_D A [(a, .inr (1, [.ref b, .int (nI n)])), (b, .inl (y 2, 4, .inr (.inr (.inr (.inr (va_up (va_up (va_up (va_up ro 0 (some (hh 2 0))) 1 (some (hh 3 0))) 2 (some (hh 0 0))) 3 (some (hh 1 0)))))))), (hh 0 0, .inr (2, [.ref (hh 0 1), .ref (hh 0 2), .ref (hh 0 3), .ref (hh 0 4), .int (nI ((BB 0) 16)), .int (nI ((BB 0) 67)), .int (rmb (BB 0)), .int (nI ((BB 0) 66))])), (hh 1 0, .inr (2, [.ref (hh 1 1), .ref (hh 1 2), .ref (hh 1 3), .ref (hh 1 4), .int (nI ((BB 1) 16)), .int (nI ((BB 1) 67)), .int (rmb (BB 1)), .int (nI ((BB 1) 66))])), (hh 2 0, .inr (2, [.ref (hh 2 1), .ref (hh 2 2), .ref (hh 2 3), .ref (hh 2 4), .int (nI ((BB 2) 16)), .int (nI ((BB 2) 67)), .int (rmb (BB 2)), .int (nI ((BB 2) 66))])), (hh 3 0, .inr (2, [.ref (hh 3 1), .ref (hh 3 2), .ref (hh 3 3), .ref (hh 3 4), .int (nI ((BB 3) 16)), .int (nI ((BB 3) 67)), .int (rmb (BB 3)), .int (nI ((BB 3) 66))]))] := hD1
    have hS := hS1
    clear hP1 hD1 hS1
    refine lv_aload_n hx hb dX1_dropOldest_60 rfl (lv_at hl 2 rfl) ?_
    refine lv_dup hx hb dX1_dropOldest_61 rfl ?_
    refine va_get (D := D) (ci := 1) (v := .int (nI n)) (C := RX1) (T := TX1) (N := 2) hx hb hts hin_X1 hown hK.1 hP 0 rfl rfl 1 (by decide) f_18 (fun _ h9 => h9) rfl dX1_dropOldest_62 ?_
    refine lv_iconst (v := nI 1) hx hb dX1_dropOldest_65 (by decide) ?_
    refine xn_sub hx hb (r := (n - 1)) (by omega) rfl dX1_dropOldest_66 ?_
    refine va_put (D := D) (ci := 1) (v := .int (nI (n - 1))) (ty := .int) (C := RX1) (T := TX1) (N := 2) hx hb hts hin_X1 tyX1 tyX1_ok nmX1 hown hK.1 hP hD hS 0 rfl rfl 1 (by decide) f_18 (fun _ h9 => h9) rfl (by decide +kernel) rfl rfl (Nat.le_of_ble_eq_true rfl) dX1_dropOldest_67 (fun H locs hP1 hD1 hS1 => ?_)
    clear hP hD hS
    have hP : va_P D vwCl [(a, .inr (1, [.ref b, .int (nI (n - 1))])), (b, .inl (y 2, 4, .inr (.inr (.inr (.inr (va_up (va_up (va_up (va_up ro 0 (some (hh 2 0))) 1 (some (hh 3 0))) 2 (some (hh 0 0))) 3 (some (hh 1 0)))))))), (hh 0 0, .inr (2, [.ref (hh 0 1), .ref (hh 0 2), .ref (hh 0 3), .ref (hh 0 4), .int (nI ((BB 0) 16)), .int (nI ((BB 0) 67)), .int (rmb (BB 0)), .int (nI ((BB 0) 66))])), (hh 1 0, .inr (2, [.ref (hh 1 1), .ref (hh 1 2), .ref (hh 1 3), .ref (hh 1 4), .int (nI ((BB 1) 16)), .int (nI ((BB 1) 67)), .int (rmb (BB 1)), .int (nI ((BB 1) 66))])), (hh 2 0, .inr (2, [.ref (hh 2 1), .ref (hh 2 2), .ref (hh 2 3), .ref (hh 2 4), .int (nI ((BB 2) 16)), .int (nI ((BB 2) 67)), .int (rmb (BB 2)), .int (nI ((BB 2) 66))])), (hh 3 0, .inr (2, [.ref (hh 3 1), .ref (hh 3 2), .ref (hh 3 3), .ref (hh 3 4), .int (nI ((BB 3) 16)), .int (nI ((BB 3) 67)), .int (rmb (BB 3)), .int (nI ((BB 3) 66))]))] H := hP1
    have hD : va_D A [(a, .inr (1, [.ref b, .int (nI (n - 1))])), (b, .inl (y 2, 4, .inr (.inr (.inr (.inr (va_up (va_up (va_up (va_up ro 0 (some (hh 2 0))) 1 (some (hh 3 0))) 2 (some (hh 0 0))) 3 (some (hh 1 0)))))))), (hh 0 0, .inr (2, [.ref (hh 0 1), .ref (hh 0 2), .ref (hh 0 3), .ref (hh 0 4), .int (nI ((BB 0) 16)), .int (nI ((BB 0) 67)), .int (rmb (BB 0)), .int (nI ((BB 0) 66))])), (hh 1 0, .inr (2, [.ref (hh 1 1), .ref (hh 1 2), .ref (hh 1 3), .ref (hh 1 4), .int (nI ((BB 1) 16)), .int (nI ((BB 1) 67)), .int (rmb (BB 1)), .int (nI ((BB 1) 66))])), (hh 2 0, .inr (2, [.ref (hh 2 1), .ref (hh 2 2), .ref (hh 2 3), .ref (hh 2 4), .int (nI ((BB 2) 16)), .int (nI ((BB 2) 67)), .int (rmb (BB 2)), .int (nI ((BB 2) 66))])), (hh 3 0, .inr (2, [.ref (hh 3 1), .ref (hh 3 2), .ref (hh 3 3), .ref (hh 3 4), .int (nI ((BB 3) 16)), .int (nI ((BB 3) 67)), .int (rmb (BB 3)), .int (nI ((BB 3) 66))]))] := hD1
    have hS := hS1
    clear hP1 hD1 hS1
    subst hQe
    exact xw_v hx hb hr hlocks (va_up (va_up (va_up (va_up ro 0 (some (hh 2 0))) 1 (some (hh 3 0))) 2 (some (hh 0 0))) 3 (some (hh 1 0))) hS dX1_dropOldest_70 (dro (by omega) (by omega) (by omega) (by omega)) (fun t ht => by rw [ht]; exact (hP))
  · refine lv_aload_n hx hb dX1_dropOldest_0 rfl (lv_at hl 0 rfl) ?_
    refine lv_iconst (v := nI 0) hx hb dX1_dropOldest_1 (by decide) ?_
    refine va_csr (W.runV (As := [.int (nI 0)]) (rest := []) ⟨hx, hb, hml, hown, hts⟩ (c_X1_stateAt l D y a b n ro 0 (by omega) (hh 2 0) ((hro 0 (by decide)).trans (by rw [show (0 + d) % 4 = 2 by omega]))) (cwV 1 hts gX1_dropOldest_X1_stateAt rfl rfl rfl hd_X1_stateAt ⟨Nat.le_of_ble_eq_true rfl, Nat.le_of_ble_eq_true rfl⟩) (xpv_r hK hP [0, 1] 0 rfl rfl rfl) rfl rfl hl.1 rfl (lv_room (Nat.le_of_ble_eq_true rfl)) dX1_dropOldest_2 ⟨Nat.zero_le _, Nat.zero_le _⟩) (fun r3 hr3 => ?_)
    subst hr3
    refine lv_astore_n (lv' := [(1, .ref (hh 2 0)), (0, .ref a)]) hx hb dX1_dropOldest_5 rfl hl (by decide) rfl (fun ls hl => ?_)
    refine lv_iconst (v := nI 0) hx hb dX1_dropOldest_6 (by decide) ?_
    refine lv_istore_n (lv' := [(2, .int (nI 0)), (1, .ref (hh 2 0)), (0, .ref a)]) hx hb dX1_dropOldest_7 rfl hl (by decide) rfl (fun ls hl => ?_)
    refine lv_iload_n hx hb dX1_dropOldest_8 rfl (lv_at hl 0 rfl) ?_
    refine lv_iconst (v := nI 1) hx hb dX1_dropOldest_9 (by decide) ?_
    refine xn_add hx hb (r := 1) rfl dX1_dropOldest_10 ?_
    refine lv_aload_n hx hb dX1_dropOldest_11 rfl (lv_at hl 2 rfl) ?_
    refine va_get (D := D) (ci := 1) (v := .ref b) (C := RX1) (T := TX1) (N := 2) hx hb hts hin_X1 hown hK.1 hP 0 rfl rfl 0 (by decide) f_11 (fun _ h9 => h9) rfl dX1_dropOldest_12 ?_
    refine xn_alen hx hb hK hP 1 2 rfl rfl rfl dX1_dropOldest_15 ?_
    refine lv_icmp_ge (tgt := 39) hx hb dX1_dropOldest_16 (by decide) (fun h => absurd h (show ¬ nI 4 ≤ nI 1 by decide)) (fun _ => ?_)
    refine lv_aload_n hx hb dX1_dropOldest_19 rfl (lv_at hl 2 rfl) ?_
    refine va_get (D := D) (ci := 1) (v := .ref b) (C := RX1) (T := TX1) (N := 2) hx hb hts hin_X1 hown hK.1 hP 0 rfl rfl 0 (by decide) f_11 (fun _ h9 => h9) rfl dX1_dropOldest_20 ?_
    refine lv_iload_n hx hb dX1_dropOldest_23 rfl (lv_at hl 0 rfl) ?_
    refine lv_aload_n hx hb dX1_dropOldest_24 rfl (lv_at hl 2 rfl) ?_
    refine va_get (D := D) (ci := 1) (v := .ref b) (C := RX1) (T := TX1) (N := 2) hx hb hts hin_X1 hown hK.1 hP 0 rfl rfl 0 (by decide) f_11 (fun _ h9 => h9) rfl dX1_dropOldest_25 ?_
    refine lv_iload_n hx hb dX1_dropOldest_28 rfl (lv_at hl 0 rfl) ?_
    refine lv_iconst (v := nI 1) hx hb dX1_dropOldest_29 (by decide) ?_
    refine xn_add hx hb (r := 1) rfl dX1_dropOldest_30 ?_
    refine xn_aald hx hb hK hP 1 rfl (by omega) (by decide) (b := hh 3 0) ((hro 1 (by decide)).trans (by rw [show (1 + d) % 4 = 3 by omega])) dX1_dropOldest_31 ?_
    refine xn_aast hx hb hK hP hD hS 1 5 2 (g := va_up ro 0 (some (hh 3 0))) rfl rfl rfl (by omega) (by decide) rfl dX1_dropOldest_32 (fun H locs hP1 hD1 hS1 => ?_)
    clear hP hD hS
    have hP : va_P D vwCl [(a, .inr (1, [.ref b, .int (nI n)])), (b, .inl (y 2, 4, .inr (.inr (.inr (.inr (va_up ro 0 (some (hh 3 0)))))))), (hh 0 0, .inr (2, [.ref (hh 0 1), .ref (hh 0 2), .ref (hh 0 3), .ref (hh 0 4), .int (nI ((BB 0) 16)), .int (nI ((BB 0) 67)), .int (rmb (BB 0)), .int (nI ((BB 0) 66))])), (hh 1 0, .inr (2, [.ref (hh 1 1), .ref (hh 1 2), .ref (hh 1 3), .ref (hh 1 4), .int (nI ((BB 1) 16)), .int (nI ((BB 1) 67)), .int (rmb (BB 1)), .int (nI ((BB 1) 66))])), (hh 2 0, .inr (2, [.ref (hh 2 1), .ref (hh 2 2), .ref (hh 2 3), .ref (hh 2 4), .int (nI ((BB 2) 16)), .int (nI ((BB 2) 67)), .int (rmb (BB 2)), .int (nI ((BB 2) 66))])), (hh 3 0, .inr (2, [.ref (hh 3 1), .ref (hh 3 2), .ref (hh 3 3), .ref (hh 3 4), .int (nI ((BB 3) 16)), .int (nI ((BB 3) 67)), .int (rmb (BB 3)), .int (nI ((BB 3) 66))]))] H := hP1
    have hD : va_D A [(a, .inr (1, [.ref b, .int (nI n)])), (b, .inl (y 2, 4, .inr (.inr (.inr (.inr (va_up ro 0 (some (hh 3 0)))))))), (hh 0 0, .inr (2, [.ref (hh 0 1), .ref (hh 0 2), .ref (hh 0 3), .ref (hh 0 4), .int (nI ((BB 0) 16)), .int (nI ((BB 0) 67)), .int (rmb (BB 0)), .int (nI ((BB 0) 66))])), (hh 1 0, .inr (2, [.ref (hh 1 1), .ref (hh 1 2), .ref (hh 1 3), .ref (hh 1 4), .int (nI ((BB 1) 16)), .int (nI ((BB 1) 67)), .int (rmb (BB 1)), .int (nI ((BB 1) 66))])), (hh 2 0, .inr (2, [.ref (hh 2 1), .ref (hh 2 2), .ref (hh 2 3), .ref (hh 2 4), .int (nI ((BB 2) 16)), .int (nI ((BB 2) 67)), .int (rmb (BB 2)), .int (nI ((BB 2) 66))])), (hh 3 0, .inr (2, [.ref (hh 3 1), .ref (hh 3 2), .ref (hh 3 3), .ref (hh 3 4), .int (nI ((BB 3) 16)), .int (nI ((BB 3) 67)), .int (rmb (BB 3)), .int (nI ((BB 3) 66))]))] := hD1
    have hS := hS1
    clear hP1 hD1 hS1
    refine lv_iinc (v := nI 1) (lv' := [(2, .int (nI 1)), (1, .ref (hh 2 0)), (0, .ref a)]) hx hb dX1_dropOldest_33 hl (k := 0) rfl (nI_add 0 1) (by decide) rfl (fun ls hl => ?_)
    refine lv_goto (tgt := 8) hx hb dX1_dropOldest_36 (by decide) ?_
    refine lv_iload_n hx hb dX1_dropOldest_8 rfl (lv_at hl 0 rfl) ?_
    refine lv_iconst (v := nI 1) hx hb dX1_dropOldest_9 (by decide) ?_
    refine xn_add hx hb (r := 2) rfl dX1_dropOldest_10 ?_
    refine lv_aload_n hx hb dX1_dropOldest_11 rfl (lv_at hl 2 rfl) ?_
    refine va_get (D := D) (ci := 1) (v := .ref b) (C := RX1) (T := TX1) (N := 2) hx hb hts hin_X1 hown hK.1 hP 0 rfl rfl 0 (by decide) f_11 (fun _ h9 => h9) rfl dX1_dropOldest_12 ?_
    refine xn_alen hx hb hK hP 1 2 rfl rfl rfl dX1_dropOldest_15 ?_
    refine lv_icmp_ge (tgt := 39) hx hb dX1_dropOldest_16 (by decide) (fun h => absurd h (show ¬ nI 4 ≤ nI 2 by decide)) (fun _ => ?_)
    refine lv_aload_n hx hb dX1_dropOldest_19 rfl (lv_at hl 2 rfl) ?_
    refine va_get (D := D) (ci := 1) (v := .ref b) (C := RX1) (T := TX1) (N := 2) hx hb hts hin_X1 hown hK.1 hP 0 rfl rfl 0 (by decide) f_11 (fun _ h9 => h9) rfl dX1_dropOldest_20 ?_
    refine lv_iload_n hx hb dX1_dropOldest_23 rfl (lv_at hl 0 rfl) ?_
    refine lv_aload_n hx hb dX1_dropOldest_24 rfl (lv_at hl 2 rfl) ?_
    refine va_get (D := D) (ci := 1) (v := .ref b) (C := RX1) (T := TX1) (N := 2) hx hb hts hin_X1 hown hK.1 hP 0 rfl rfl 0 (by decide) f_11 (fun _ h9 => h9) rfl dX1_dropOldest_25 ?_
    refine lv_iload_n hx hb dX1_dropOldest_28 rfl (lv_at hl 0 rfl) ?_
    refine lv_iconst (v := nI 1) hx hb dX1_dropOldest_29 (by decide) ?_
    refine xn_add hx hb (r := 2) rfl dX1_dropOldest_30 ?_
    refine xn_aald hx hb hK hP 1 rfl (by omega) (by decide) (b := hh 0 0) ((va_up_ne _ _ (by decide)).trans ((hro 2 (by decide)).trans (by rw [show (2 + d) % 4 = 0 by omega]))) dX1_dropOldest_31 ?_
    refine xn_aast hx hb hK hP hD hS 1 2 2 (g := va_up (va_up ro 0 (some (hh 3 0))) 1 (some (hh 0 0))) rfl rfl rfl (by omega) (by decide) rfl dX1_dropOldest_32 (fun H locs hP1 hD1 hS1 => ?_)
    clear hP hD hS
    have hP : va_P D vwCl [(a, .inr (1, [.ref b, .int (nI n)])), (b, .inl (y 2, 4, .inr (.inr (.inr (.inr (va_up (va_up ro 0 (some (hh 3 0))) 1 (some (hh 0 0)))))))), (hh 0 0, .inr (2, [.ref (hh 0 1), .ref (hh 0 2), .ref (hh 0 3), .ref (hh 0 4), .int (nI ((BB 0) 16)), .int (nI ((BB 0) 67)), .int (rmb (BB 0)), .int (nI ((BB 0) 66))])), (hh 1 0, .inr (2, [.ref (hh 1 1), .ref (hh 1 2), .ref (hh 1 3), .ref (hh 1 4), .int (nI ((BB 1) 16)), .int (nI ((BB 1) 67)), .int (rmb (BB 1)), .int (nI ((BB 1) 66))])), (hh 2 0, .inr (2, [.ref (hh 2 1), .ref (hh 2 2), .ref (hh 2 3), .ref (hh 2 4), .int (nI ((BB 2) 16)), .int (nI ((BB 2) 67)), .int (rmb (BB 2)), .int (nI ((BB 2) 66))])), (hh 3 0, .inr (2, [.ref (hh 3 1), .ref (hh 3 2), .ref (hh 3 3), .ref (hh 3 4), .int (nI ((BB 3) 16)), .int (nI ((BB 3) 67)), .int (rmb (BB 3)), .int (nI ((BB 3) 66))]))] H := hP1
    have hD : va_D A [(a, .inr (1, [.ref b, .int (nI n)])), (b, .inl (y 2, 4, .inr (.inr (.inr (.inr (va_up (va_up ro 0 (some (hh 3 0))) 1 (some (hh 0 0)))))))), (hh 0 0, .inr (2, [.ref (hh 0 1), .ref (hh 0 2), .ref (hh 0 3), .ref (hh 0 4), .int (nI ((BB 0) 16)), .int (nI ((BB 0) 67)), .int (rmb (BB 0)), .int (nI ((BB 0) 66))])), (hh 1 0, .inr (2, [.ref (hh 1 1), .ref (hh 1 2), .ref (hh 1 3), .ref (hh 1 4), .int (nI ((BB 1) 16)), .int (nI ((BB 1) 67)), .int (rmb (BB 1)), .int (nI ((BB 1) 66))])), (hh 2 0, .inr (2, [.ref (hh 2 1), .ref (hh 2 2), .ref (hh 2 3), .ref (hh 2 4), .int (nI ((BB 2) 16)), .int (nI ((BB 2) 67)), .int (rmb (BB 2)), .int (nI ((BB 2) 66))])), (hh 3 0, .inr (2, [.ref (hh 3 1), .ref (hh 3 2), .ref (hh 3 3), .ref (hh 3 4), .int (nI ((BB 3) 16)), .int (nI ((BB 3) 67)), .int (rmb (BB 3)), .int (nI ((BB 3) 66))]))] := hD1
    have hS := hS1
    clear hP1 hD1 hS1
    refine lv_iinc (v := nI 2) (lv' := [(2, .int (nI 2)), (1, .ref (hh 2 0)), (0, .ref a)]) hx hb dX1_dropOldest_33 hl (k := 0) rfl (nI_add 1 1) (by decide) rfl (fun ls hl => ?_)
    refine lv_goto (tgt := 8) hx hb dX1_dropOldest_36 (by decide) ?_
    refine lv_iload_n hx hb dX1_dropOldest_8 rfl (lv_at hl 0 rfl) ?_
    refine lv_iconst (v := nI 1) hx hb dX1_dropOldest_9 (by decide) ?_
    refine xn_add hx hb (r := 3) rfl dX1_dropOldest_10 ?_
    refine lv_aload_n hx hb dX1_dropOldest_11 rfl (lv_at hl 2 rfl) ?_
    refine va_get (D := D) (ci := 1) (v := .ref b) (C := RX1) (T := TX1) (N := 2) hx hb hts hin_X1 hown hK.1 hP 0 rfl rfl 0 (by decide) f_11 (fun _ h9 => h9) rfl dX1_dropOldest_12 ?_
    refine xn_alen hx hb hK hP 1 2 rfl rfl rfl dX1_dropOldest_15 ?_
    refine lv_icmp_ge (tgt := 39) hx hb dX1_dropOldest_16 (by decide) (fun h => absurd h (show ¬ nI 4 ≤ nI 3 by decide)) (fun _ => ?_)
    refine lv_aload_n hx hb dX1_dropOldest_19 rfl (lv_at hl 2 rfl) ?_
    refine va_get (D := D) (ci := 1) (v := .ref b) (C := RX1) (T := TX1) (N := 2) hx hb hts hin_X1 hown hK.1 hP 0 rfl rfl 0 (by decide) f_11 (fun _ h9 => h9) rfl dX1_dropOldest_20 ?_
    refine lv_iload_n hx hb dX1_dropOldest_23 rfl (lv_at hl 0 rfl) ?_
    refine lv_aload_n hx hb dX1_dropOldest_24 rfl (lv_at hl 2 rfl) ?_
    refine va_get (D := D) (ci := 1) (v := .ref b) (C := RX1) (T := TX1) (N := 2) hx hb hts hin_X1 hown hK.1 hP 0 rfl rfl 0 (by decide) f_11 (fun _ h9 => h9) rfl dX1_dropOldest_25 ?_
    refine lv_iload_n hx hb dX1_dropOldest_28 rfl (lv_at hl 0 rfl) ?_
    refine lv_iconst (v := nI 1) hx hb dX1_dropOldest_29 (by decide) ?_
    refine xn_add hx hb (r := 3) rfl dX1_dropOldest_30 ?_
    refine xn_aald hx hb hK hP 1 rfl (by omega) (by decide) (b := hh 1 0) ((va_up_ne _ _ (by decide)).trans ((va_up_ne _ _ (by decide)).trans ((hro 3 (by decide)).trans (by rw [show (3 + d) % 4 = 1 by omega])))) dX1_dropOldest_31 ?_
    refine xn_aast hx hb hK hP hD hS 1 3 2 (g := va_up (va_up (va_up ro 0 (some (hh 3 0))) 1 (some (hh 0 0))) 2 (some (hh 1 0))) rfl rfl rfl (by omega) (by decide) rfl dX1_dropOldest_32 (fun H locs hP1 hD1 hS1 => ?_)
    clear hP hD hS
    have hP : va_P D vwCl [(a, .inr (1, [.ref b, .int (nI n)])), (b, .inl (y 2, 4, .inr (.inr (.inr (.inr (va_up (va_up (va_up ro 0 (some (hh 3 0))) 1 (some (hh 0 0))) 2 (some (hh 1 0)))))))), (hh 0 0, .inr (2, [.ref (hh 0 1), .ref (hh 0 2), .ref (hh 0 3), .ref (hh 0 4), .int (nI ((BB 0) 16)), .int (nI ((BB 0) 67)), .int (rmb (BB 0)), .int (nI ((BB 0) 66))])), (hh 1 0, .inr (2, [.ref (hh 1 1), .ref (hh 1 2), .ref (hh 1 3), .ref (hh 1 4), .int (nI ((BB 1) 16)), .int (nI ((BB 1) 67)), .int (rmb (BB 1)), .int (nI ((BB 1) 66))])), (hh 2 0, .inr (2, [.ref (hh 2 1), .ref (hh 2 2), .ref (hh 2 3), .ref (hh 2 4), .int (nI ((BB 2) 16)), .int (nI ((BB 2) 67)), .int (rmb (BB 2)), .int (nI ((BB 2) 66))])), (hh 3 0, .inr (2, [.ref (hh 3 1), .ref (hh 3 2), .ref (hh 3 3), .ref (hh 3 4), .int (nI ((BB 3) 16)), .int (nI ((BB 3) 67)), .int (rmb (BB 3)), .int (nI ((BB 3) 66))]))] H := hP1
    have hD : va_D A [(a, .inr (1, [.ref b, .int (nI n)])), (b, .inl (y 2, 4, .inr (.inr (.inr (.inr (va_up (va_up (va_up ro 0 (some (hh 3 0))) 1 (some (hh 0 0))) 2 (some (hh 1 0)))))))), (hh 0 0, .inr (2, [.ref (hh 0 1), .ref (hh 0 2), .ref (hh 0 3), .ref (hh 0 4), .int (nI ((BB 0) 16)), .int (nI ((BB 0) 67)), .int (rmb (BB 0)), .int (nI ((BB 0) 66))])), (hh 1 0, .inr (2, [.ref (hh 1 1), .ref (hh 1 2), .ref (hh 1 3), .ref (hh 1 4), .int (nI ((BB 1) 16)), .int (nI ((BB 1) 67)), .int (rmb (BB 1)), .int (nI ((BB 1) 66))])), (hh 2 0, .inr (2, [.ref (hh 2 1), .ref (hh 2 2), .ref (hh 2 3), .ref (hh 2 4), .int (nI ((BB 2) 16)), .int (nI ((BB 2) 67)), .int (rmb (BB 2)), .int (nI ((BB 2) 66))])), (hh 3 0, .inr (2, [.ref (hh 3 1), .ref (hh 3 2), .ref (hh 3 3), .ref (hh 3 4), .int (nI ((BB 3) 16)), .int (nI ((BB 3) 67)), .int (rmb (BB 3)), .int (nI ((BB 3) 66))]))] := hD1
    have hS := hS1
    clear hP1 hD1 hS1
    refine lv_iinc (v := nI 3) (lv' := [(2, .int (nI 3)), (1, .ref (hh 2 0)), (0, .ref a)]) hx hb dX1_dropOldest_33 hl (k := 0) rfl (nI_add 2 1) (by decide) rfl (fun ls hl => ?_)
    refine lv_goto (tgt := 8) hx hb dX1_dropOldest_36 (by decide) ?_
    refine lv_iload_n hx hb dX1_dropOldest_8 rfl (lv_at hl 0 rfl) ?_
    refine lv_iconst (v := nI 1) hx hb dX1_dropOldest_9 (by decide) ?_
    refine xn_add hx hb (r := 4) rfl dX1_dropOldest_10 ?_
    refine lv_aload_n hx hb dX1_dropOldest_11 rfl (lv_at hl 2 rfl) ?_
    refine va_get (D := D) (ci := 1) (v := .ref b) (C := RX1) (T := TX1) (N := 2) hx hb hts hin_X1 hown hK.1 hP 0 rfl rfl 0 (by decide) f_11 (fun _ h9 => h9) rfl dX1_dropOldest_12 ?_
    refine xn_alen hx hb hK hP 1 2 rfl rfl rfl dX1_dropOldest_15 ?_
    refine lv_icmp_ge (tgt := 39) hx hb dX1_dropOldest_16 (by decide) (fun _ => ?_) (fun h => absurd h (show ¬ ¬ nI 4 ≤ nI 4 by decide))
    refine lv_aload_n hx hb dX1_dropOldest_39 rfl (lv_at hl 2 rfl) ?_
    refine va_get (D := D) (ci := 1) (v := .ref b) (C := RX1) (T := TX1) (N := 2) hx hb hts hin_X1 hown hK.1 hP 0 rfl rfl 0 (by decide) f_11 (fun _ h9 => h9) rfl dX1_dropOldest_40 ?_
    refine xn_alen hx hb hK hP 1 2 rfl rfl rfl dX1_dropOldest_43 ?_
    refine lv_if_le (tgt := 60) hx hb dX1_dropOldest_44 (by decide) (fun h => absurd h (show ¬ nI 4 ≤ 0 by decide)) (fun _ => ?_)
    refine lv_aload_n hx hb dX1_dropOldest_47 rfl (lv_at hl 2 rfl) ?_
    refine va_get (D := D) (ci := 1) (v := .ref b) (C := RX1) (T := TX1) (N := 2) hx hb hts hin_X1 hown hK.1 hP 0 rfl rfl 0 (by decide) f_11 (fun _ h9 => h9) rfl dX1_dropOldest_48 ?_
    refine lv_aload_n hx hb dX1_dropOldest_51 rfl (lv_at hl 2 rfl) ?_
    refine va_get (D := D) (ci := 1) (v := .ref b) (C := RX1) (T := TX1) (N := 2) hx hb hts hin_X1 hown hK.1 hP 0 rfl rfl 0 (by decide) f_11 (fun _ h9 => h9) rfl dX1_dropOldest_52 ?_
    refine xn_alen hx hb hK hP 1 2 rfl rfl rfl dX1_dropOldest_55 ?_
    refine lv_iconst (v := nI 1) hx hb dX1_dropOldest_56 (by decide) ?_
    refine xn_sub hx hb (r := 3) (by omega) rfl dX1_dropOldest_57 ?_
    refine lv_aload_n hx hb dX1_dropOldest_58 rfl (lv_at hl 1 rfl) ?_
    refine xn_aast hx hb hK hP hD hS 1 4 2 (g := va_up (va_up (va_up (va_up ro 0 (some (hh 3 0))) 1 (some (hh 0 0))) 2 (some (hh 1 0))) 3 (some (hh 2 0))) rfl rfl rfl (by omega) (by decide) rfl dX1_dropOldest_59 (fun H locs hP1 hD1 hS1 => ?_)
    clear hP hD hS
    have hP : va_P D vwCl [(a, .inr (1, [.ref b, .int (nI n)])), (b, .inl (y 2, 4, .inr (.inr (.inr (.inr (va_up (va_up (va_up (va_up ro 0 (some (hh 3 0))) 1 (some (hh 0 0))) 2 (some (hh 1 0))) 3 (some (hh 2 0)))))))), (hh 0 0, .inr (2, [.ref (hh 0 1), .ref (hh 0 2), .ref (hh 0 3), .ref (hh 0 4), .int (nI ((BB 0) 16)), .int (nI ((BB 0) 67)), .int (rmb (BB 0)), .int (nI ((BB 0) 66))])), (hh 1 0, .inr (2, [.ref (hh 1 1), .ref (hh 1 2), .ref (hh 1 3), .ref (hh 1 4), .int (nI ((BB 1) 16)), .int (nI ((BB 1) 67)), .int (rmb (BB 1)), .int (nI ((BB 1) 66))])), (hh 2 0, .inr (2, [.ref (hh 2 1), .ref (hh 2 2), .ref (hh 2 3), .ref (hh 2 4), .int (nI ((BB 2) 16)), .int (nI ((BB 2) 67)), .int (rmb (BB 2)), .int (nI ((BB 2) 66))])), (hh 3 0, .inr (2, [.ref (hh 3 1), .ref (hh 3 2), .ref (hh 3 3), .ref (hh 3 4), .int (nI ((BB 3) 16)), .int (nI ((BB 3) 67)), .int (rmb (BB 3)), .int (nI ((BB 3) 66))]))] H := hP1
    have hD : va_D A [(a, .inr (1, [.ref b, .int (nI n)])), (b, .inl (y 2, 4, .inr (.inr (.inr (.inr (va_up (va_up (va_up (va_up ro 0 (some (hh 3 0))) 1 (some (hh 0 0))) 2 (some (hh 1 0))) 3 (some (hh 2 0)))))))), (hh 0 0, .inr (2, [.ref (hh 0 1), .ref (hh 0 2), .ref (hh 0 3), .ref (hh 0 4), .int (nI ((BB 0) 16)), .int (nI ((BB 0) 67)), .int (rmb (BB 0)), .int (nI ((BB 0) 66))])), (hh 1 0, .inr (2, [.ref (hh 1 1), .ref (hh 1 2), .ref (hh 1 3), .ref (hh 1 4), .int (nI ((BB 1) 16)), .int (nI ((BB 1) 67)), .int (rmb (BB 1)), .int (nI ((BB 1) 66))])), (hh 2 0, .inr (2, [.ref (hh 2 1), .ref (hh 2 2), .ref (hh 2 3), .ref (hh 2 4), .int (nI ((BB 2) 16)), .int (nI ((BB 2) 67)), .int (rmb (BB 2)), .int (nI ((BB 2) 66))])), (hh 3 0, .inr (2, [.ref (hh 3 1), .ref (hh 3 2), .ref (hh 3 3), .ref (hh 3 4), .int (nI ((BB 3) 16)), .int (nI ((BB 3) 67)), .int (rmb (BB 3)), .int (nI ((BB 3) 66))]))] := hD1
    have hS := hS1
    clear hP1 hD1 hS1
    refine lv_aload_n hx hb dX1_dropOldest_60 rfl (lv_at hl 2 rfl) ?_
    refine lv_dup hx hb dX1_dropOldest_61 rfl ?_
    refine va_get (D := D) (ci := 1) (v := .int (nI n)) (C := RX1) (T := TX1) (N := 2) hx hb hts hin_X1 hown hK.1 hP 0 rfl rfl 1 (by decide) f_18 (fun _ h9 => h9) rfl dX1_dropOldest_62 ?_
    refine lv_iconst (v := nI 1) hx hb dX1_dropOldest_65 (by decide) ?_
    refine xn_sub hx hb (r := (n - 1)) (by omega) rfl dX1_dropOldest_66 ?_
    refine va_put (D := D) (ci := 1) (v := .int (nI (n - 1))) (ty := .int) (C := RX1) (T := TX1) (N := 2) hx hb hts hin_X1 tyX1 tyX1_ok nmX1 hown hK.1 hP hD hS 0 rfl rfl 1 (by decide) f_18 (fun _ h9 => h9) rfl (by decide +kernel) rfl rfl (Nat.le_of_ble_eq_true rfl) dX1_dropOldest_67 (fun H locs hP1 hD1 hS1 => ?_)
    clear hP hD hS
    have hP : va_P D vwCl [(a, .inr (1, [.ref b, .int (nI (n - 1))])), (b, .inl (y 2, 4, .inr (.inr (.inr (.inr (va_up (va_up (va_up (va_up ro 0 (some (hh 3 0))) 1 (some (hh 0 0))) 2 (some (hh 1 0))) 3 (some (hh 2 0)))))))), (hh 0 0, .inr (2, [.ref (hh 0 1), .ref (hh 0 2), .ref (hh 0 3), .ref (hh 0 4), .int (nI ((BB 0) 16)), .int (nI ((BB 0) 67)), .int (rmb (BB 0)), .int (nI ((BB 0) 66))])), (hh 1 0, .inr (2, [.ref (hh 1 1), .ref (hh 1 2), .ref (hh 1 3), .ref (hh 1 4), .int (nI ((BB 1) 16)), .int (nI ((BB 1) 67)), .int (rmb (BB 1)), .int (nI ((BB 1) 66))])), (hh 2 0, .inr (2, [.ref (hh 2 1), .ref (hh 2 2), .ref (hh 2 3), .ref (hh 2 4), .int (nI ((BB 2) 16)), .int (nI ((BB 2) 67)), .int (rmb (BB 2)), .int (nI ((BB 2) 66))])), (hh 3 0, .inr (2, [.ref (hh 3 1), .ref (hh 3 2), .ref (hh 3 3), .ref (hh 3 4), .int (nI ((BB 3) 16)), .int (nI ((BB 3) 67)), .int (rmb (BB 3)), .int (nI ((BB 3) 66))]))] H := hP1
    have hD : va_D A [(a, .inr (1, [.ref b, .int (nI (n - 1))])), (b, .inl (y 2, 4, .inr (.inr (.inr (.inr (va_up (va_up (va_up (va_up ro 0 (some (hh 3 0))) 1 (some (hh 0 0))) 2 (some (hh 1 0))) 3 (some (hh 2 0)))))))), (hh 0 0, .inr (2, [.ref (hh 0 1), .ref (hh 0 2), .ref (hh 0 3), .ref (hh 0 4), .int (nI ((BB 0) 16)), .int (nI ((BB 0) 67)), .int (rmb (BB 0)), .int (nI ((BB 0) 66))])), (hh 1 0, .inr (2, [.ref (hh 1 1), .ref (hh 1 2), .ref (hh 1 3), .ref (hh 1 4), .int (nI ((BB 1) 16)), .int (nI ((BB 1) 67)), .int (rmb (BB 1)), .int (nI ((BB 1) 66))])), (hh 2 0, .inr (2, [.ref (hh 2 1), .ref (hh 2 2), .ref (hh 2 3), .ref (hh 2 4), .int (nI ((BB 2) 16)), .int (nI ((BB 2) 67)), .int (rmb (BB 2)), .int (nI ((BB 2) 66))])), (hh 3 0, .inr (2, [.ref (hh 3 1), .ref (hh 3 2), .ref (hh 3 3), .ref (hh 3 4), .int (nI ((BB 3) 16)), .int (nI ((BB 3) 67)), .int (rmb (BB 3)), .int (nI ((BB 3) 66))]))] := hD1
    have hS := hS1
    clear hP1 hD1 hS1
    subst hQe
    exact xw_v hx hb hr hlocks (va_up (va_up (va_up (va_up ro 0 (some (hh 3 0))) 1 (some (hh 0 0))) 2 (some (hh 1 0))) 3 (some (hh 2 0))) hS dX1_dropOldest_70 (dro (by omega) (by omega) (by omega) (by omega)) (fun t ht => by rw [ht]; exact (hP))
  · refine lv_aload_n hx hb dX1_dropOldest_0 rfl (lv_at hl 0 rfl) ?_
    refine lv_iconst (v := nI 0) hx hb dX1_dropOldest_1 (by decide) ?_
    refine va_csr (W.runV (As := [.int (nI 0)]) (rest := []) ⟨hx, hb, hml, hown, hts⟩ (c_X1_stateAt l D y a b n ro 0 (by omega) (hh 3 0) ((hro 0 (by decide)).trans (by rw [show (0 + d) % 4 = 3 by omega]))) (cwV 1 hts gX1_dropOldest_X1_stateAt rfl rfl rfl hd_X1_stateAt ⟨Nat.le_of_ble_eq_true rfl, Nat.le_of_ble_eq_true rfl⟩) (xpv_r hK hP [0, 1] 0 rfl rfl rfl) rfl rfl hl.1 rfl (lv_room (Nat.le_of_ble_eq_true rfl)) dX1_dropOldest_2 ⟨Nat.zero_le _, Nat.zero_le _⟩) (fun r4 hr4 => ?_)
    subst hr4
    refine lv_astore_n (lv' := [(1, .ref (hh 3 0)), (0, .ref a)]) hx hb dX1_dropOldest_5 rfl hl (by decide) rfl (fun ls hl => ?_)
    refine lv_iconst (v := nI 0) hx hb dX1_dropOldest_6 (by decide) ?_
    refine lv_istore_n (lv' := [(2, .int (nI 0)), (1, .ref (hh 3 0)), (0, .ref a)]) hx hb dX1_dropOldest_7 rfl hl (by decide) rfl (fun ls hl => ?_)
    refine lv_iload_n hx hb dX1_dropOldest_8 rfl (lv_at hl 0 rfl) ?_
    refine lv_iconst (v := nI 1) hx hb dX1_dropOldest_9 (by decide) ?_
    refine xn_add hx hb (r := 1) rfl dX1_dropOldest_10 ?_
    refine lv_aload_n hx hb dX1_dropOldest_11 rfl (lv_at hl 2 rfl) ?_
    refine va_get (D := D) (ci := 1) (v := .ref b) (C := RX1) (T := TX1) (N := 2) hx hb hts hin_X1 hown hK.1 hP 0 rfl rfl 0 (by decide) f_11 (fun _ h9 => h9) rfl dX1_dropOldest_12 ?_
    refine xn_alen hx hb hK hP 1 2 rfl rfl rfl dX1_dropOldest_15 ?_
    refine lv_icmp_ge (tgt := 39) hx hb dX1_dropOldest_16 (by decide) (fun h => absurd h (show ¬ nI 4 ≤ nI 1 by decide)) (fun _ => ?_)
    refine lv_aload_n hx hb dX1_dropOldest_19 rfl (lv_at hl 2 rfl) ?_
    refine va_get (D := D) (ci := 1) (v := .ref b) (C := RX1) (T := TX1) (N := 2) hx hb hts hin_X1 hown hK.1 hP 0 rfl rfl 0 (by decide) f_11 (fun _ h9 => h9) rfl dX1_dropOldest_20 ?_
    refine lv_iload_n hx hb dX1_dropOldest_23 rfl (lv_at hl 0 rfl) ?_
    refine lv_aload_n hx hb dX1_dropOldest_24 rfl (lv_at hl 2 rfl) ?_
    refine va_get (D := D) (ci := 1) (v := .ref b) (C := RX1) (T := TX1) (N := 2) hx hb hts hin_X1 hown hK.1 hP 0 rfl rfl 0 (by decide) f_11 (fun _ h9 => h9) rfl dX1_dropOldest_25 ?_
    refine lv_iload_n hx hb dX1_dropOldest_28 rfl (lv_at hl 0 rfl) ?_
    refine lv_iconst (v := nI 1) hx hb dX1_dropOldest_29 (by decide) ?_
    refine xn_add hx hb (r := 1) rfl dX1_dropOldest_30 ?_
    refine xn_aald hx hb hK hP 1 rfl (by omega) (by decide) (b := hh 0 0) ((hro 1 (by decide)).trans (by rw [show (1 + d) % 4 = 0 by omega])) dX1_dropOldest_31 ?_
    refine xn_aast hx hb hK hP hD hS 1 2 2 (g := va_up ro 0 (some (hh 0 0))) rfl rfl rfl (by omega) (by decide) rfl dX1_dropOldest_32 (fun H locs hP1 hD1 hS1 => ?_)
    clear hP hD hS
    have hP : va_P D vwCl [(a, .inr (1, [.ref b, .int (nI n)])), (b, .inl (y 2, 4, .inr (.inr (.inr (.inr (va_up ro 0 (some (hh 0 0)))))))), (hh 0 0, .inr (2, [.ref (hh 0 1), .ref (hh 0 2), .ref (hh 0 3), .ref (hh 0 4), .int (nI ((BB 0) 16)), .int (nI ((BB 0) 67)), .int (rmb (BB 0)), .int (nI ((BB 0) 66))])), (hh 1 0, .inr (2, [.ref (hh 1 1), .ref (hh 1 2), .ref (hh 1 3), .ref (hh 1 4), .int (nI ((BB 1) 16)), .int (nI ((BB 1) 67)), .int (rmb (BB 1)), .int (nI ((BB 1) 66))])), (hh 2 0, .inr (2, [.ref (hh 2 1), .ref (hh 2 2), .ref (hh 2 3), .ref (hh 2 4), .int (nI ((BB 2) 16)), .int (nI ((BB 2) 67)), .int (rmb (BB 2)), .int (nI ((BB 2) 66))])), (hh 3 0, .inr (2, [.ref (hh 3 1), .ref (hh 3 2), .ref (hh 3 3), .ref (hh 3 4), .int (nI ((BB 3) 16)), .int (nI ((BB 3) 67)), .int (rmb (BB 3)), .int (nI ((BB 3) 66))]))] H := hP1
    have hD : va_D A [(a, .inr (1, [.ref b, .int (nI n)])), (b, .inl (y 2, 4, .inr (.inr (.inr (.inr (va_up ro 0 (some (hh 0 0)))))))), (hh 0 0, .inr (2, [.ref (hh 0 1), .ref (hh 0 2), .ref (hh 0 3), .ref (hh 0 4), .int (nI ((BB 0) 16)), .int (nI ((BB 0) 67)), .int (rmb (BB 0)), .int (nI ((BB 0) 66))])), (hh 1 0, .inr (2, [.ref (hh 1 1), .ref (hh 1 2), .ref (hh 1 3), .ref (hh 1 4), .int (nI ((BB 1) 16)), .int (nI ((BB 1) 67)), .int (rmb (BB 1)), .int (nI ((BB 1) 66))])), (hh 2 0, .inr (2, [.ref (hh 2 1), .ref (hh 2 2), .ref (hh 2 3), .ref (hh 2 4), .int (nI ((BB 2) 16)), .int (nI ((BB 2) 67)), .int (rmb (BB 2)), .int (nI ((BB 2) 66))])), (hh 3 0, .inr (2, [.ref (hh 3 1), .ref (hh 3 2), .ref (hh 3 3), .ref (hh 3 4), .int (nI ((BB 3) 16)), .int (nI ((BB 3) 67)), .int (rmb (BB 3)), .int (nI ((BB 3) 66))]))] := hD1
    have hS := hS1
    clear hP1 hD1 hS1
    refine lv_iinc (v := nI 1) (lv' := [(2, .int (nI 1)), (1, .ref (hh 3 0)), (0, .ref a)]) hx hb dX1_dropOldest_33 hl (k := 0) rfl (nI_add 0 1) (by decide) rfl (fun ls hl => ?_)
    refine lv_goto (tgt := 8) hx hb dX1_dropOldest_36 (by decide) ?_
    refine lv_iload_n hx hb dX1_dropOldest_8 rfl (lv_at hl 0 rfl) ?_
    refine lv_iconst (v := nI 1) hx hb dX1_dropOldest_9 (by decide) ?_
    refine xn_add hx hb (r := 2) rfl dX1_dropOldest_10 ?_
    refine lv_aload_n hx hb dX1_dropOldest_11 rfl (lv_at hl 2 rfl) ?_
    refine va_get (D := D) (ci := 1) (v := .ref b) (C := RX1) (T := TX1) (N := 2) hx hb hts hin_X1 hown hK.1 hP 0 rfl rfl 0 (by decide) f_11 (fun _ h9 => h9) rfl dX1_dropOldest_12 ?_
    refine xn_alen hx hb hK hP 1 2 rfl rfl rfl dX1_dropOldest_15 ?_
    refine lv_icmp_ge (tgt := 39) hx hb dX1_dropOldest_16 (by decide) (fun h => absurd h (show ¬ nI 4 ≤ nI 2 by decide)) (fun _ => ?_)
    refine lv_aload_n hx hb dX1_dropOldest_19 rfl (lv_at hl 2 rfl) ?_
    refine va_get (D := D) (ci := 1) (v := .ref b) (C := RX1) (T := TX1) (N := 2) hx hb hts hin_X1 hown hK.1 hP 0 rfl rfl 0 (by decide) f_11 (fun _ h9 => h9) rfl dX1_dropOldest_20 ?_
    refine lv_iload_n hx hb dX1_dropOldest_23 rfl (lv_at hl 0 rfl) ?_
    refine lv_aload_n hx hb dX1_dropOldest_24 rfl (lv_at hl 2 rfl) ?_
    refine va_get (D := D) (ci := 1) (v := .ref b) (C := RX1) (T := TX1) (N := 2) hx hb hts hin_X1 hown hK.1 hP 0 rfl rfl 0 (by decide) f_11 (fun _ h9 => h9) rfl dX1_dropOldest_25 ?_
    refine lv_iload_n hx hb dX1_dropOldest_28 rfl (lv_at hl 0 rfl) ?_
    refine lv_iconst (v := nI 1) hx hb dX1_dropOldest_29 (by decide) ?_
    refine xn_add hx hb (r := 2) rfl dX1_dropOldest_30 ?_
    refine xn_aald hx hb hK hP 1 rfl (by omega) (by decide) (b := hh 1 0) ((va_up_ne _ _ (by decide)).trans ((hro 2 (by decide)).trans (by rw [show (2 + d) % 4 = 1 by omega]))) dX1_dropOldest_31 ?_
    refine xn_aast hx hb hK hP hD hS 1 3 2 (g := va_up (va_up ro 0 (some (hh 0 0))) 1 (some (hh 1 0))) rfl rfl rfl (by omega) (by decide) rfl dX1_dropOldest_32 (fun H locs hP1 hD1 hS1 => ?_)
    clear hP hD hS
    have hP : va_P D vwCl [(a, .inr (1, [.ref b, .int (nI n)])), (b, .inl (y 2, 4, .inr (.inr (.inr (.inr (va_up (va_up ro 0 (some (hh 0 0))) 1 (some (hh 1 0)))))))), (hh 0 0, .inr (2, [.ref (hh 0 1), .ref (hh 0 2), .ref (hh 0 3), .ref (hh 0 4), .int (nI ((BB 0) 16)), .int (nI ((BB 0) 67)), .int (rmb (BB 0)), .int (nI ((BB 0) 66))])), (hh 1 0, .inr (2, [.ref (hh 1 1), .ref (hh 1 2), .ref (hh 1 3), .ref (hh 1 4), .int (nI ((BB 1) 16)), .int (nI ((BB 1) 67)), .int (rmb (BB 1)), .int (nI ((BB 1) 66))])), (hh 2 0, .inr (2, [.ref (hh 2 1), .ref (hh 2 2), .ref (hh 2 3), .ref (hh 2 4), .int (nI ((BB 2) 16)), .int (nI ((BB 2) 67)), .int (rmb (BB 2)), .int (nI ((BB 2) 66))])), (hh 3 0, .inr (2, [.ref (hh 3 1), .ref (hh 3 2), .ref (hh 3 3), .ref (hh 3 4), .int (nI ((BB 3) 16)), .int (nI ((BB 3) 67)), .int (rmb (BB 3)), .int (nI ((BB 3) 66))]))] H := hP1
    have hD : va_D A [(a, .inr (1, [.ref b, .int (nI n)])), (b, .inl (y 2, 4, .inr (.inr (.inr (.inr (va_up (va_up ro 0 (some (hh 0 0))) 1 (some (hh 1 0)))))))), (hh 0 0, .inr (2, [.ref (hh 0 1), .ref (hh 0 2), .ref (hh 0 3), .ref (hh 0 4), .int (nI ((BB 0) 16)), .int (nI ((BB 0) 67)), .int (rmb (BB 0)), .int (nI ((BB 0) 66))])), (hh 1 0, .inr (2, [.ref (hh 1 1), .ref (hh 1 2), .ref (hh 1 3), .ref (hh 1 4), .int (nI ((BB 1) 16)), .int (nI ((BB 1) 67)), .int (rmb (BB 1)), .int (nI ((BB 1) 66))])), (hh 2 0, .inr (2, [.ref (hh 2 1), .ref (hh 2 2), .ref (hh 2 3), .ref (hh 2 4), .int (nI ((BB 2) 16)), .int (nI ((BB 2) 67)), .int (rmb (BB 2)), .int (nI ((BB 2) 66))])), (hh 3 0, .inr (2, [.ref (hh 3 1), .ref (hh 3 2), .ref (hh 3 3), .ref (hh 3 4), .int (nI ((BB 3) 16)), .int (nI ((BB 3) 67)), .int (rmb (BB 3)), .int (nI ((BB 3) 66))]))] := hD1
    have hS := hS1
    clear hP1 hD1 hS1
    refine lv_iinc (v := nI 2) (lv' := [(2, .int (nI 2)), (1, .ref (hh 3 0)), (0, .ref a)]) hx hb dX1_dropOldest_33 hl (k := 0) rfl (nI_add 1 1) (by decide) rfl (fun ls hl => ?_)
    refine lv_goto (tgt := 8) hx hb dX1_dropOldest_36 (by decide) ?_
    refine lv_iload_n hx hb dX1_dropOldest_8 rfl (lv_at hl 0 rfl) ?_
    refine lv_iconst (v := nI 1) hx hb dX1_dropOldest_9 (by decide) ?_
    refine xn_add hx hb (r := 3) rfl dX1_dropOldest_10 ?_
    refine lv_aload_n hx hb dX1_dropOldest_11 rfl (lv_at hl 2 rfl) ?_
    refine va_get (D := D) (ci := 1) (v := .ref b) (C := RX1) (T := TX1) (N := 2) hx hb hts hin_X1 hown hK.1 hP 0 rfl rfl 0 (by decide) f_11 (fun _ h9 => h9) rfl dX1_dropOldest_12 ?_
    refine xn_alen hx hb hK hP 1 2 rfl rfl rfl dX1_dropOldest_15 ?_
    refine lv_icmp_ge (tgt := 39) hx hb dX1_dropOldest_16 (by decide) (fun h => absurd h (show ¬ nI 4 ≤ nI 3 by decide)) (fun _ => ?_)
    refine lv_aload_n hx hb dX1_dropOldest_19 rfl (lv_at hl 2 rfl) ?_
    refine va_get (D := D) (ci := 1) (v := .ref b) (C := RX1) (T := TX1) (N := 2) hx hb hts hin_X1 hown hK.1 hP 0 rfl rfl 0 (by decide) f_11 (fun _ h9 => h9) rfl dX1_dropOldest_20 ?_
    refine lv_iload_n hx hb dX1_dropOldest_23 rfl (lv_at hl 0 rfl) ?_
    refine lv_aload_n hx hb dX1_dropOldest_24 rfl (lv_at hl 2 rfl) ?_
    refine va_get (D := D) (ci := 1) (v := .ref b) (C := RX1) (T := TX1) (N := 2) hx hb hts hin_X1 hown hK.1 hP 0 rfl rfl 0 (by decide) f_11 (fun _ h9 => h9) rfl dX1_dropOldest_25 ?_
    refine lv_iload_n hx hb dX1_dropOldest_28 rfl (lv_at hl 0 rfl) ?_
    refine lv_iconst (v := nI 1) hx hb dX1_dropOldest_29 (by decide) ?_
    refine xn_add hx hb (r := 3) rfl dX1_dropOldest_30 ?_
    refine xn_aald hx hb hK hP 1 rfl (by omega) (by decide) (b := hh 2 0) ((va_up_ne _ _ (by decide)).trans ((va_up_ne _ _ (by decide)).trans ((hro 3 (by decide)).trans (by rw [show (3 + d) % 4 = 2 by omega])))) dX1_dropOldest_31 ?_
    refine xn_aast hx hb hK hP hD hS 1 4 2 (g := va_up (va_up (va_up ro 0 (some (hh 0 0))) 1 (some (hh 1 0))) 2 (some (hh 2 0))) rfl rfl rfl (by omega) (by decide) rfl dX1_dropOldest_32 (fun H locs hP1 hD1 hS1 => ?_)
    clear hP hD hS
    have hP : va_P D vwCl [(a, .inr (1, [.ref b, .int (nI n)])), (b, .inl (y 2, 4, .inr (.inr (.inr (.inr (va_up (va_up (va_up ro 0 (some (hh 0 0))) 1 (some (hh 1 0))) 2 (some (hh 2 0)))))))), (hh 0 0, .inr (2, [.ref (hh 0 1), .ref (hh 0 2), .ref (hh 0 3), .ref (hh 0 4), .int (nI ((BB 0) 16)), .int (nI ((BB 0) 67)), .int (rmb (BB 0)), .int (nI ((BB 0) 66))])), (hh 1 0, .inr (2, [.ref (hh 1 1), .ref (hh 1 2), .ref (hh 1 3), .ref (hh 1 4), .int (nI ((BB 1) 16)), .int (nI ((BB 1) 67)), .int (rmb (BB 1)), .int (nI ((BB 1) 66))])), (hh 2 0, .inr (2, [.ref (hh 2 1), .ref (hh 2 2), .ref (hh 2 3), .ref (hh 2 4), .int (nI ((BB 2) 16)), .int (nI ((BB 2) 67)), .int (rmb (BB 2)), .int (nI ((BB 2) 66))])), (hh 3 0, .inr (2, [.ref (hh 3 1), .ref (hh 3 2), .ref (hh 3 3), .ref (hh 3 4), .int (nI ((BB 3) 16)), .int (nI ((BB 3) 67)), .int (rmb (BB 3)), .int (nI ((BB 3) 66))]))] H := hP1
    have hD : va_D A [(a, .inr (1, [.ref b, .int (nI n)])), (b, .inl (y 2, 4, .inr (.inr (.inr (.inr (va_up (va_up (va_up ro 0 (some (hh 0 0))) 1 (some (hh 1 0))) 2 (some (hh 2 0)))))))), (hh 0 0, .inr (2, [.ref (hh 0 1), .ref (hh 0 2), .ref (hh 0 3), .ref (hh 0 4), .int (nI ((BB 0) 16)), .int (nI ((BB 0) 67)), .int (rmb (BB 0)), .int (nI ((BB 0) 66))])), (hh 1 0, .inr (2, [.ref (hh 1 1), .ref (hh 1 2), .ref (hh 1 3), .ref (hh 1 4), .int (nI ((BB 1) 16)), .int (nI ((BB 1) 67)), .int (rmb (BB 1)), .int (nI ((BB 1) 66))])), (hh 2 0, .inr (2, [.ref (hh 2 1), .ref (hh 2 2), .ref (hh 2 3), .ref (hh 2 4), .int (nI ((BB 2) 16)), .int (nI ((BB 2) 67)), .int (rmb (BB 2)), .int (nI ((BB 2) 66))])), (hh 3 0, .inr (2, [.ref (hh 3 1), .ref (hh 3 2), .ref (hh 3 3), .ref (hh 3 4), .int (nI ((BB 3) 16)), .int (nI ((BB 3) 67)), .int (rmb (BB 3)), .int (nI ((BB 3) 66))]))] := hD1
    have hS := hS1
    clear hP1 hD1 hS1
    refine lv_iinc (v := nI 3) (lv' := [(2, .int (nI 3)), (1, .ref (hh 3 0)), (0, .ref a)]) hx hb dX1_dropOldest_33 hl (k := 0) rfl (nI_add 2 1) (by decide) rfl (fun ls hl => ?_)
    refine lv_goto (tgt := 8) hx hb dX1_dropOldest_36 (by decide) ?_
    refine lv_iload_n hx hb dX1_dropOldest_8 rfl (lv_at hl 0 rfl) ?_
    refine lv_iconst (v := nI 1) hx hb dX1_dropOldest_9 (by decide) ?_
    refine xn_add hx hb (r := 4) rfl dX1_dropOldest_10 ?_
    refine lv_aload_n hx hb dX1_dropOldest_11 rfl (lv_at hl 2 rfl) ?_
    refine va_get (D := D) (ci := 1) (v := .ref b) (C := RX1) (T := TX1) (N := 2) hx hb hts hin_X1 hown hK.1 hP 0 rfl rfl 0 (by decide) f_11 (fun _ h9 => h9) rfl dX1_dropOldest_12 ?_
    refine xn_alen hx hb hK hP 1 2 rfl rfl rfl dX1_dropOldest_15 ?_
    refine lv_icmp_ge (tgt := 39) hx hb dX1_dropOldest_16 (by decide) (fun _ => ?_) (fun h => absurd h (show ¬ ¬ nI 4 ≤ nI 4 by decide))
    refine lv_aload_n hx hb dX1_dropOldest_39 rfl (lv_at hl 2 rfl) ?_
    refine va_get (D := D) (ci := 1) (v := .ref b) (C := RX1) (T := TX1) (N := 2) hx hb hts hin_X1 hown hK.1 hP 0 rfl rfl 0 (by decide) f_11 (fun _ h9 => h9) rfl dX1_dropOldest_40 ?_
    refine xn_alen hx hb hK hP 1 2 rfl rfl rfl dX1_dropOldest_43 ?_
    refine lv_if_le (tgt := 60) hx hb dX1_dropOldest_44 (by decide) (fun h => absurd h (show ¬ nI 4 ≤ 0 by decide)) (fun _ => ?_)
    refine lv_aload_n hx hb dX1_dropOldest_47 rfl (lv_at hl 2 rfl) ?_
    refine va_get (D := D) (ci := 1) (v := .ref b) (C := RX1) (T := TX1) (N := 2) hx hb hts hin_X1 hown hK.1 hP 0 rfl rfl 0 (by decide) f_11 (fun _ h9 => h9) rfl dX1_dropOldest_48 ?_
    refine lv_aload_n hx hb dX1_dropOldest_51 rfl (lv_at hl 2 rfl) ?_
    refine va_get (D := D) (ci := 1) (v := .ref b) (C := RX1) (T := TX1) (N := 2) hx hb hts hin_X1 hown hK.1 hP 0 rfl rfl 0 (by decide) f_11 (fun _ h9 => h9) rfl dX1_dropOldest_52 ?_
    refine xn_alen hx hb hK hP 1 2 rfl rfl rfl dX1_dropOldest_55 ?_
    refine lv_iconst (v := nI 1) hx hb dX1_dropOldest_56 (by decide) ?_
    refine xn_sub hx hb (r := 3) (by omega) rfl dX1_dropOldest_57 ?_
    refine lv_aload_n hx hb dX1_dropOldest_58 rfl (lv_at hl 1 rfl) ?_
    refine xn_aast hx hb hK hP hD hS 1 5 2 (g := va_up (va_up (va_up (va_up ro 0 (some (hh 0 0))) 1 (some (hh 1 0))) 2 (some (hh 2 0))) 3 (some (hh 3 0))) rfl rfl rfl (by omega) (by decide) rfl dX1_dropOldest_59 (fun H locs hP1 hD1 hS1 => ?_)
    clear hP hD hS
    have hP : va_P D vwCl [(a, .inr (1, [.ref b, .int (nI n)])), (b, .inl (y 2, 4, .inr (.inr (.inr (.inr (va_up (va_up (va_up (va_up ro 0 (some (hh 0 0))) 1 (some (hh 1 0))) 2 (some (hh 2 0))) 3 (some (hh 3 0)))))))), (hh 0 0, .inr (2, [.ref (hh 0 1), .ref (hh 0 2), .ref (hh 0 3), .ref (hh 0 4), .int (nI ((BB 0) 16)), .int (nI ((BB 0) 67)), .int (rmb (BB 0)), .int (nI ((BB 0) 66))])), (hh 1 0, .inr (2, [.ref (hh 1 1), .ref (hh 1 2), .ref (hh 1 3), .ref (hh 1 4), .int (nI ((BB 1) 16)), .int (nI ((BB 1) 67)), .int (rmb (BB 1)), .int (nI ((BB 1) 66))])), (hh 2 0, .inr (2, [.ref (hh 2 1), .ref (hh 2 2), .ref (hh 2 3), .ref (hh 2 4), .int (nI ((BB 2) 16)), .int (nI ((BB 2) 67)), .int (rmb (BB 2)), .int (nI ((BB 2) 66))])), (hh 3 0, .inr (2, [.ref (hh 3 1), .ref (hh 3 2), .ref (hh 3 3), .ref (hh 3 4), .int (nI ((BB 3) 16)), .int (nI ((BB 3) 67)), .int (rmb (BB 3)), .int (nI ((BB 3) 66))]))] H := hP1
    have hD : va_D A [(a, .inr (1, [.ref b, .int (nI n)])), (b, .inl (y 2, 4, .inr (.inr (.inr (.inr (va_up (va_up (va_up (va_up ro 0 (some (hh 0 0))) 1 (some (hh 1 0))) 2 (some (hh 2 0))) 3 (some (hh 3 0)))))))), (hh 0 0, .inr (2, [.ref (hh 0 1), .ref (hh 0 2), .ref (hh 0 3), .ref (hh 0 4), .int (nI ((BB 0) 16)), .int (nI ((BB 0) 67)), .int (rmb (BB 0)), .int (nI ((BB 0) 66))])), (hh 1 0, .inr (2, [.ref (hh 1 1), .ref (hh 1 2), .ref (hh 1 3), .ref (hh 1 4), .int (nI ((BB 1) 16)), .int (nI ((BB 1) 67)), .int (rmb (BB 1)), .int (nI ((BB 1) 66))])), (hh 2 0, .inr (2, [.ref (hh 2 1), .ref (hh 2 2), .ref (hh 2 3), .ref (hh 2 4), .int (nI ((BB 2) 16)), .int (nI ((BB 2) 67)), .int (rmb (BB 2)), .int (nI ((BB 2) 66))])), (hh 3 0, .inr (2, [.ref (hh 3 1), .ref (hh 3 2), .ref (hh 3 3), .ref (hh 3 4), .int (nI ((BB 3) 16)), .int (nI ((BB 3) 67)), .int (rmb (BB 3)), .int (nI ((BB 3) 66))]))] := hD1
    have hS := hS1
    clear hP1 hD1 hS1
    refine lv_aload_n hx hb dX1_dropOldest_60 rfl (lv_at hl 2 rfl) ?_
    refine lv_dup hx hb dX1_dropOldest_61 rfl ?_
    refine va_get (D := D) (ci := 1) (v := .int (nI n)) (C := RX1) (T := TX1) (N := 2) hx hb hts hin_X1 hown hK.1 hP 0 rfl rfl 1 (by decide) f_18 (fun _ h9 => h9) rfl dX1_dropOldest_62 ?_
    refine lv_iconst (v := nI 1) hx hb dX1_dropOldest_65 (by decide) ?_
    refine xn_sub hx hb (r := (n - 1)) (by omega) rfl dX1_dropOldest_66 ?_
    refine va_put (D := D) (ci := 1) (v := .int (nI (n - 1))) (ty := .int) (C := RX1) (T := TX1) (N := 2) hx hb hts hin_X1 tyX1 tyX1_ok nmX1 hown hK.1 hP hD hS 0 rfl rfl 1 (by decide) f_18 (fun _ h9 => h9) rfl (by decide +kernel) rfl rfl (Nat.le_of_ble_eq_true rfl) dX1_dropOldest_67 (fun H locs hP1 hD1 hS1 => ?_)
    clear hP hD hS
    have hP : va_P D vwCl [(a, .inr (1, [.ref b, .int (nI (n - 1))])), (b, .inl (y 2, 4, .inr (.inr (.inr (.inr (va_up (va_up (va_up (va_up ro 0 (some (hh 0 0))) 1 (some (hh 1 0))) 2 (some (hh 2 0))) 3 (some (hh 3 0)))))))), (hh 0 0, .inr (2, [.ref (hh 0 1), .ref (hh 0 2), .ref (hh 0 3), .ref (hh 0 4), .int (nI ((BB 0) 16)), .int (nI ((BB 0) 67)), .int (rmb (BB 0)), .int (nI ((BB 0) 66))])), (hh 1 0, .inr (2, [.ref (hh 1 1), .ref (hh 1 2), .ref (hh 1 3), .ref (hh 1 4), .int (nI ((BB 1) 16)), .int (nI ((BB 1) 67)), .int (rmb (BB 1)), .int (nI ((BB 1) 66))])), (hh 2 0, .inr (2, [.ref (hh 2 1), .ref (hh 2 2), .ref (hh 2 3), .ref (hh 2 4), .int (nI ((BB 2) 16)), .int (nI ((BB 2) 67)), .int (rmb (BB 2)), .int (nI ((BB 2) 66))])), (hh 3 0, .inr (2, [.ref (hh 3 1), .ref (hh 3 2), .ref (hh 3 3), .ref (hh 3 4), .int (nI ((BB 3) 16)), .int (nI ((BB 3) 67)), .int (rmb (BB 3)), .int (nI ((BB 3) 66))]))] H := hP1
    have hD : va_D A [(a, .inr (1, [.ref b, .int (nI (n - 1))])), (b, .inl (y 2, 4, .inr (.inr (.inr (.inr (va_up (va_up (va_up (va_up ro 0 (some (hh 0 0))) 1 (some (hh 1 0))) 2 (some (hh 2 0))) 3 (some (hh 3 0)))))))), (hh 0 0, .inr (2, [.ref (hh 0 1), .ref (hh 0 2), .ref (hh 0 3), .ref (hh 0 4), .int (nI ((BB 0) 16)), .int (nI ((BB 0) 67)), .int (rmb (BB 0)), .int (nI ((BB 0) 66))])), (hh 1 0, .inr (2, [.ref (hh 1 1), .ref (hh 1 2), .ref (hh 1 3), .ref (hh 1 4), .int (nI ((BB 1) 16)), .int (nI ((BB 1) 67)), .int (rmb (BB 1)), .int (nI ((BB 1) 66))])), (hh 2 0, .inr (2, [.ref (hh 2 1), .ref (hh 2 2), .ref (hh 2 3), .ref (hh 2 4), .int (nI ((BB 2) 16)), .int (nI ((BB 2) 67)), .int (rmb (BB 2)), .int (nI ((BB 2) 66))])), (hh 3 0, .inr (2, [.ref (hh 3 1), .ref (hh 3 2), .ref (hh 3 3), .ref (hh 3 4), .int (nI ((BB 3) 16)), .int (nI ((BB 3) 67)), .int (rmb (BB 3)), .int (nI ((BB 3) 66))]))] := hD1
    have hS := hS1
    clear hP1 hD1 hS1
    subst hQe
    exact xw_v hx hb hr hlocks (va_up (va_up (va_up (va_up ro 0 (some (hh 0 0))) 1 (some (hh 1 0))) 2 (some (hh 2 0))) 3 (some (hh 3 0))) hS dX1_dropOldest_70 (dro (by omega) (by omega) (by omega) (by omega)) (fun t ht => by rw [ht]; exact (hP))
