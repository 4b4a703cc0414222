set_option maxHeartbeats 8000000 in
set_option maxRecDepth 100000 in
theorem c_X4_empty (l : Launch) (D : va_G) (y : Nat → ClassId) (a b : Nat) (sg : Nat → Int32) (L : Nat) (np kd : Nat) (f1 f2 : Int32) (od fp fr : Nat) (fc : Int32) : Met l yX4_empty wsX4_empty ({ frames := 0, cells := 0, slots := 0, locals := 0 }) (va_Pc [.ref a] (xPw D y [(a, .inr (4, [.ref b, .int (nI L), .int (nI np), .int (nI kd), .int f1, .int f2, .int (nI od), .int (nI fp), .int (nI fr), .int fc])), (b, .inl (y 0, 60, .inl sg))])) (va_Qi (fun r (u : Unit) => r = nI L) (fun (u : Unit) t => va_P D vwCl [(a, .inr (4, [.ref b, .int (nI 0), .int (nI np), .int (nI kd), .int f1, .int f2, .int (nI od), .int (nI fp), .int (nI fr), .int fc])), (b, .inl (y 0, 60, .inl sg))] t.heap) (xIn [(a, .inr (4, [.ref b, .int (nI L), .int (nI np), .int (nI kd), .int f1, .int f2, .int (nI od), .int (nI fp), .int (nI fr), .int fc])), (b, .inl (y 0, 60, .inl sg))])) 0 0 (xIn [(a, .inr (4, [.ref b, .int (nI L), .int (nI np), .int (nI kd), .int f1, .int f2, .int (nI od), .int (nI fp), .int (nI fr), .int fc])), (b, .inl (y 0, 60, .inl sg))]) := by
  refine Met.ofW (cc := cX4_empty) (maxL := 2) (ret := (some .int)) (by decide) rfl ?_
  intro p e s m args below meth c s₁ B hml hv
  obtain ⟨rfl, hP, hK, hD0⟩ := hv
  have hx := B.exec
  have hb := B.bytes
  have hr := B.returns
  have hts := atoms_spec (ws := wsX4_empty) B.pre
  have hown : s.vm.findClass RX4 = some m.cls := findClass_of_methodNamed B.named
  have hlocks := B.notSynchronized
  have f_15 := hts (.fieldLink RX4 15 "LoomTunes$Script" "length" "I") (by decide +kernel)
  have hin_X4 : ∀ w ∈ wsX40, w ∈ wsX4_empty := by decide +kernel
  have hD := xD_self hD0
  generalize hAe : xIn [(a, .inr (4, [.ref b, .int (nI L), .int (nI np), .int (nI kd), .int f1, .int f2, .int (nI od), .int (nI fp), .int (nI fr), .int fc])), (b, .inl (y 0, 60, .inl sg))] = A at hD ⊢
  have hS : va_S A s.heap s.heap [] := va_S.rf
  have hP : va_P D vwCl [(a, .inr (4, [.ref b, .int (nI L), .int (nI np), .int (nI kd), .int f1, .int f2, .int (nI od), .int (nI fp), .int (nI fr), .int fc])), (b, .inl (y 0, 60, .inl sg))] s.heap := hP
  have hl := lv_entry ([.ref a]) (n := 2) (Nat.le_of_ble_eq_true rfl)
  rw [lg_entry_eq]
  generalize (lg_sl ([.ref a]) ++ List.replicate (2 - (lg_sl ([.ref a])).length) Slot.unset).toArray = ls at hl ⊢
  have hl : lv_has ls 2 [(0, .ref a)] := hl
  generalize hQe : (MQ below (va_Qi (fun r (u : Unit) => r = nI L) (fun (u : Unit) t => va_P D vwCl [(a, .inr (4, [.ref b, .int (nI 0), .int (nI np), .int (nI kd), .int f1, .int f2, .int (nI od), .int (nI fp), .int (nI fr), .int fc])), (b, .inl (y 0, 60, .inl sg))] t.heap) A) ([.ref a] : List Value).toArray s 0 0 A) = Q
  refine lv_aload_n hx hb dX4_empty_0 rfl (lv_at hl 0 rfl) ?_
  refine va_get (D := D) (ci := 4) (v := .int (nI L)) (C := RX4) (T := TX4) (N := 10) hx hb hts hin_X4 hown hK.1 hP 0 rfl rfl 1 (by decide) f_15 (fun _ h9 => h9) rfl dX4_empty_1 ?_
  refine lv_istore_n (lv' := [(1, .int (nI L)), (0, .ref a)]) hx hb dX4_empty_4 rfl hl (by decide) rfl (fun ls hl => ?_)
  refine lv_aload_n hx hb dX4_empty_5 rfl (lv_at hl 1 rfl) ?_
  refine lv_iconst (v := nI 0) hx hb dX4_empty_6 (by decide) ?_
  refine va_put (D := D) (ci := 4) (v := .int (nI 0)) (ty := .int) (C := RX4) (T := TX4) (N := 10) hx hb hts hin_X4 tyX4 tyX4_ok nmX4 hown hK.1 hP hD hS 0 rfl rfl 1 (by decide) f_15 (fun _ h9 => h9) rfl (by decide +kernel) rfl rfl (Nat.le_of_ble_eq_true rfl) dX4_empty_7 (fun H locs hP1 hD1 hS1 => ?_)
  clear hP hD hS
  have hP : va_P D vwCl [(a, .inr (4, [.ref b, .int (nI 0), .int (nI np), .int (nI kd), .int f1, .int f2, .int (nI od), .int (nI fp), .int (nI fr), .int fc])), (b, .inl (y 0, 60, .inl sg))] H := hP1
  have hD : va_D A [(a, .inr (4, [.ref b, .int (nI 0), .int (nI np), .int (nI kd), .int f1, .int f2, .int (nI od), .int (nI fp), .int (nI fr), .int fc])), (b, .inl (y 0, 60, .inl sg))] := hD1
  have hS := hS1
  clear hP1 hD1 hS1
  refine lv_iload_n hx hb dX4_empty_10 rfl (lv_at hl 0 rfl) ?_
  subst hQe
  exact xw_i hx hb hr hlocks () hS dX4_empty_11 (rfl) (fun t ht => by rw [ht]; exact (hP))
set_option maxHeartbeats 8000000 in
set_option maxRecDepth 100000 in
theorem c_X4_signAtNext (l : Launch) (D : va_G) (y : Nat → ClassId) (a b : Nat) (sg : Nat → Int32) (T : Nat → Nat) (L : Nat) (hT : RepT T L sg) (np kd : Nat) (f1 f2 : Int32) (od fp fr : Nat) (fc : Int32) (hp : np < 2 ^ 30) : Met l yX4_signAtNext wsX4_signAtNext ({ frames := 0, cells := 0, slots := 0, locals := 0 }) (va_Pc [.ref a] (xPr D y [(a, .inr (4, [.ref b, .int (nI L), .int (nI np), .int (nI kd), .int f1, .int f2, .int (nI od), .int (nI fp), .int (nI fr), .int fc])), (b, .inl (y 0, 60, .inl sg))])) (vp_Si (fun rz => rz = nI (sgn T L np))) 0 0 (fun _ => False) := by
  refine Met.ofW (cc := cX4_signAtNext) (maxL := 1) (ret := (some .char)) (by decide) rfl ?_
  intro p e s m args below meth c s₁ B hml hv
  obtain ⟨rfl, hP, hK⟩ := hv
  have hx := B.exec
  have hb := B.bytes
  have hr := B.returns
  have hts := atoms_spec (ws := wsX4_signAtNext) B.pre
  have hown : s.vm.findClass RX4 = some m.cls := findClass_of_methodNamed B.named
  have hlocks := B.notSynchronized
  have f_15 := hts (.fieldLink RX4 15 "LoomTunes$Script" "length" "I") (by decide +kernel)
  have f_21 := hts (.fieldLink RX4 21 "LoomTunes$Script" "next" "I") (by decide +kernel)
  have f_9 := hts (.fieldLink RX4 9 "LoomTunes$Script" "signs" "[C") (by decide +kernel)
  have hin_X4 : ∀ w ∈ wsX40, w ∈ wsX4_signAtNext := by decide +kernel
  have hP : va_P D vwCl [(a, .inr (4, [.ref b, .int (nI L), .int (nI np), .int (nI kd), .int f1, .int f2, .int (nI od), .int (nI fp), .int (nI fr), .int fc])), (b, .inl (y 0, 60, .inl sg))] s.heap := hP
  have hl := lv_entry ([.ref a]) (n := 1) (Nat.le_of_ble_eq_true rfl)
  rw [lg_entry_eq]
  generalize (lg_sl ([.ref a]) ++ List.replicate (1 - (lg_sl ([.ref a])).length) Slot.unset).toArray = ls at hl ⊢
  have hl : lv_has ls 1 [(0, .ref a)] := hl
  have hL := hT.1
  have hs0 := sgn_lt hT (p := np)
  refine lv_aload_n hx hb dX4_signAtNext_0 rfl (lv_at hl 0 rfl) ?_
  refine va_get (D := D) (ci := 4) (v := .int (nI np)) (C := RX4) (T := TX4) (N := 10) hx hb hts hin_X4 hown hK.1 hP 0 rfl rfl 2 (by decide) f_21 (fun _ h9 => h9) rfl dX4_signAtNext_1 ?_
  refine xn_if_lt hx hb (by omega) (tgt := 42) dX4_signAtNext_4 (by decide) ?_
  refine lv_aload_n hx hb dX4_signAtNext_7 rfl (lv_at hl 0 rfl) ?_
  refine va_get (D := D) (ci := 4) (v := .int (nI np)) (C := RX4) (T := TX4) (N := 10) hx hb hts hin_X4 hown hK.1 hP 0 rfl rfl 2 (by decide) f_21 (fun _ h9 => h9) rfl dX4_signAtNext_8 ?_
  refine lv_aload_n hx hb dX4_signAtNext_11 rfl (lv_at hl 0 rfl) ?_
  refine va_get (D := D) (ci := 4) (v := .int (nI L)) (C := RX4) (T := TX4) (N := 10) hx hb hts hin_X4 hown hK.1 hP 0 rfl rfl 1 (by decide) f_15 (fun _ h9 => h9) rfl dX4_signAtNext_12 ?_
  refine xn_icmp_ge hx hb (by omega) (by omega) (tgt := 42) dX4_signAtNext_15 (by decide) (fun kc15 => ?_) (fun kc15 => ?_)
  · refine lv_iconst (v := nI 0) hx hb dX4_signAtNext_42 (by decide) ?_
    exact xr_c hx hb hr hlocks dX4_signAtNext_43 (by omega) (congrArg nI (by unfold sgn; rw [if_neg (by omega)]))
  · have hs1 := (hT.2 np kc15).2
    refine lv_aload_n hx hb dX4_signAtNext_18 rfl (lv_at hl 0 rfl) ?_
    refine va_get (D := D) (ci := 4) (v := .int (nI np)) (C := RX4) (T := TX4) (N := 10) hx hb hts hin_X4 hown hK.1 hP 0 rfl rfl 2 (by decide) f_21 (fun _ h9 => h9) rfl dX4_signAtNext_19 ?_
    refine lv_aload_n hx hb dX4_signAtNext_22 rfl (lv_at hl 0 rfl) ?_
    refine va_get (D := D) (ci := 4) (v := .ref b) (C := RX4) (T := TX4) (N := 10) hx hb hts hin_X4 hown hK.1 hP 0 rfl rfl 0 (by decide) f_9 (fun _ h9 => h9) rfl dX4_signAtNext_23 ?_
    refine xn_alen hx hb hK hP 1 0 rfl rfl rfl dX4_signAtNext_26 ?_
    refine xn_icmp_ge hx hb (by omega) (by omega) (tgt := 42) dX4_signAtNext_27 (by decide) (fun h => absurd h (by omega)) (fun kc27 => ?_)
    refine lv_aload_n hx hb dX4_signAtNext_30 rfl (lv_at hl 0 rfl) ?_
    refine va_get (D := D) (ci := 4) (v := .ref b) (C := RX4) (T := TX4) (N := 10) hx hb hts hin_X4 hown hK.1 hP 0 rfl rfl 0 (by decide) f_9 (fun _ h9 => h9) rfl dX4_signAtNext_31 ?_
    refine lv_aload_n hx hb dX4_signAtNext_34 rfl (lv_at hl 0 rfl) ?_
    refine va_get (D := D) (ci := 4) (v := .int (nI np)) (C := RX4) (T := TX4) (N := 10) hx hb hts hin_X4 hown hK.1 hP 0 rfl rfl 2 (by decide) f_21 (fun _ h9 => h9) rfl dX4_signAtNext_35 ?_
    refine xn_cald hx hb hK hP 1 rfl (by omega) (by first | decide | omega) (v := nI (T np)) ((hT.2 np kc15).1) dX4_signAtNext_38 ?_
    refine lv_goto (tgt := 43) hx hb dX4_signAtNext_39 (by decide) ?_
    exact xr_c hx hb hr hlocks dX4_signAtNext_43 (by omega) (congrArg nI (by unfold sgn; rw [if_pos kc15]))
set_option maxHeartbeats 8000000 in
set_option maxRecDepth 100000 in
theorem c_X4_isDigitNext (l : Launch) (D : va_G) (y : Nat → ClassId) (a b : Nat) (sg : Nat → Int32) (T : Nat → Nat) (L : Nat) (hT : RepT T L sg) (np kd : Nat) (f1 f2 : Int32) (od fp fr : Nat) (fc : Int32) (hp : np < 2 ^ 30) : Met l yX4_isDigitNext wsX4_isDigitNext ({ frames := 1, cells := 0, slots := 0, locals := 20 }) (va_Pc [.ref a] (xPr D y [(a, .inr (4, [.ref b, .int (nI L), .int (nI np), .int (nI kd), .int f1, .int f2, .int (nI od), .int (nI fp), .int (nI fr), .int fc])), (b, .inl (y 0, 60, .inl sg))])) (vp_Si (fun rz => rz = nI (bN (dgt T L np)))) 0 0 (fun _ => False) := by
  refine Met.ofW (cc := cX4_isDigitNext) (maxL := 2) (ret := (some .boolean)) (by decide) rfl ?_
  intro p e s m args below meth c s₁ B hml hv
  obtain ⟨rfl, hP, hK⟩ := hv
  have hx := B.exec
  have hb := B.bytes
  have hr := B.returns
  have hts := atoms_spec (ws := wsX4_isDigitNext) B.pre
  have hown : s.vm.findClass RX4 = some m.cls := findClass_of_methodNamed B.named
  have hlocks := B.notSynchronized
  have hP : va_P D vwCl [(a, .inr (4, [.ref b, .int (nI L), .int (nI np), .int (nI kd), .int f1, .int f2, .int (nI od), .int (nI fp), .int (nI fr), .int fc])), (b, .inl (y 0, 60, .inl sg))] s.heap := hP
  have hl := lv_entry ([.ref a]) (n := 2) (Nat.le_of_ble_eq_true rfl)
  rw [lg_entry_eq]
  generalize (lg_sl ([.ref a]) ++ List.replicate (2 - (lg_sl ([.ref a])).length) Slot.unset).toArray = ls at hl ⊢
  have hl : lv_has ls 2 [(0, .ref a)] := hl
  have hs0 := sgn_lt hT (p := np)
  refine lv_aload_n hx hb dX4_isDigitNext_0 rfl (lv_at hl 0 rfl) ?_
  refine xc_V (As := []) (rest := []) ⟨hx, hb, hml, hown, hts⟩ (c_X4_signAtNext l D y a b sg T L hT np kd f1 f2 od fp fr fc (by omega) ) (cwV 0 hts gX4_isDigitNext_X4_signAtNext rfl rfl rfl hd_X4_signAtNext ⟨Nat.le_of_ble_eq_true rfl, Nat.le_of_ble_eq_true rfl⟩) (xpv_r hK hP [0, 1] 0 rfl rfl rfl) rfl hl.1 rfl (Nat.le_of_ble_eq_true rfl) dX4_isDigitNext_1 ⟨Nat.zero_le _, Nat.zero_le _⟩ (fun r1 hr1 => ?_)
  subst hr1
  refine lv_istore_n (lv' := [(1, .int (nI (sgn T L np))), (0, .ref a)]) hx hb dX4_isDigitNext_4 rfl hl (by decide) rfl (fun ls hl => ?_)
  refine lv_iload_n hx hb dX4_isDigitNext_5 rfl (lv_at hl 0 rfl) ?_
  refine lv_bipush (v := nI 48) hx hb dX4_isDigitNext_6 (by decide) ?_
  refine xn_icmp_lt hx hb (by omega) (by omega) (tgt := 21) dX4_isDigitNext_8 (by decide) (fun kc8 => ?_) (fun kc8 => ?_)
  · refine lv_iconst (v := nI 0) hx hb dX4_isDigitNext_21 (by decide) ?_
    exact xr_z hx hb hr hlocks dX4_isDigitNext_22 (by omega) (congrArg nI (bN_f (c := dgt T L np) (by omega)).symm)
  · refine lv_iload_n hx hb dX4_isDigitNext_11 rfl (lv_at hl 0 rfl) ?_
    refine lv_bipush (v := nI 57) hx hb dX4_isDigitNext_12 (by decide) ?_
    refine xn_icmp_gt hx hb (by omega) (by omega) (tgt := 21) dX4_isDigitNext_14 (by decide) (fun kc14 => ?_) (fun kc14 => ?_)
    · refine lv_iconst (v := nI 0) hx hb dX4_isDigitNext_21 (by decide) ?_
      exact xr_z hx hb hr hlocks dX4_isDigitNext_22 (by omega) (congrArg nI (bN_f (c := dgt T L np) (by omega)).symm)
    · refine lv_iconst (v := nI 1) hx hb dX4_isDigitNext_17 (by decide) ?_
      refine lv_goto (tgt := 22) hx hb dX4_isDigitNext_18 (by decide) ?_
      exact xr_z hx hb hr hlocks dX4_isDigitNext_22 (by omega) (congrArg nI (bN_t (c := dgt T L np) (by omega)).symm)
set_option maxHeartbeats 8000000 in
set_option maxRecDepth 100000 in
theorem c_X4_reads (l : Launch) (D : va_G) (y : Nat → ClassId) (a b : Nat) (sg : Nat → Int32) (T : Nat → Nat) (L : Nat) (hT : RepT T L sg) (np kd : Nat) (f1 f2 : Int32) (od fp fr : Nat) (fc : Int32) (hp : np < 2 ^ 30) (c0 : Nat) (hc : c0 < 2 ^ 30) : Met l yX4_reads wsX4_reads ({ frames := 1, cells := 0, slots := 0, locals := 20 }) (va_Pc [.ref a, .int (nI c0)] (xPw D y [(a, .inr (4, [.ref b, .int (nI L), .int (nI np), .int (nI kd), .int f1, .int f2, .int (nI od), .int (nI fp), .int (nI fr), .int fc])), (b, .inl (y 0, 60, .inl sg))])) (va_Qi (fun r (u : Unit) => r = nI (bN (sgn T L np = c0))) (fun (u : Unit) t => va_P D vwCl [(a, .inr (4, [.ref b, .int (nI L), .int (nI (np + bN (sgn T L np = c0))), .int (nI kd), .int f1, .int f2, .int (nI od), .int (nI fp), .int (nI fr), .int fc])), (b, .inl (y 0, 60, .inl sg))] t.heap) (xIn [(a, .inr (4, [.ref b, .int (nI L), .int (nI np), .int (nI kd), .int f1, .int f2, .int (nI od), .int (nI fp), .int (nI fr), .int fc])), (b, .inl (y 0, 60, .inl sg))])) 0 0 (xIn [(a, .inr (4, [.ref b, .int (nI L), .int (nI np), .int (nI kd), .int f1, .int f2, .int (nI od), .int (nI fp), .int (nI fr), .int fc])), (b, .inl (y 0, 60, .inl sg))]) := by
  refine Met.ofW (cc := cX4_reads) (maxL := 2) (ret := (some .boolean)) (by decide) rfl ?_
  intro p e s m args below meth c s₁ B hml hv
  obtain ⟨rfl, hP, hK, hD0⟩ := hv
  have hx := B.exec
  have hb := B.bytes
  have hr := B.returns
  have hts := atoms_spec (ws := wsX4_reads) B.pre
  have hown : s.vm.findClass RX4 = some m.cls := findClass_of_methodNamed B.named
  have hlocks := B.notSynchronized
  have f_21 := hts (.fieldLink RX4 21 "LoomTunes$Script" "next" "I") (by decide +kernel)
  have hin_X4 : ∀ w ∈ wsX40, w ∈ wsX4_reads := by decide +kernel
  have hD := xD_self hD0
  generalize hAe : xIn [(a, .inr (4, [.ref b, .int (nI L), .int (nI np), .int (nI kd), .int f1, .int f2, .int (nI od), .int (nI fp), .int (nI fr), .int fc])), (b, .inl (y 0, 60, .inl sg))] = A at hD ⊢
  have hS : va_S A s.heap s.heap [] := va_S.rf
  have hP : va_P D vwCl [(a, .inr (4, [.ref b, .int (nI L), .int (nI np), .int (nI kd), .int f1, .int f2, .int (nI od), .int (nI fp), .int (nI fr), .int fc])), (b, .inl (y 0, 60, .inl sg))] s.heap := hP
  have hl := lv_entry ([.ref a, .int (nI c0)]) (n := 2) (Nat.le_of_ble_eq_true rfl)
  rw [lg_entry_eq]
  generalize (lg_sl ([.ref a, .int (nI c0)]) ++ List.replicate (2 - (lg_sl ([.ref a, .int (nI c0)])).length) Slot.unset).toArray = ls at hl ⊢
  have hl : lv_has ls 2 [(0, .ref a), (1, .int (nI c0))] := hl
  generalize hQe : (MQ below (va_Qi (fun r (u : Unit) => r = nI (bN (sgn T L np = c0))) (fun (u : Unit) t => va_P D vwCl [(a, .inr (4, [.ref b, .int (nI L), .int (nI (np + bN (sgn T L np = c0))), .int (nI kd), .int f1, .int f2, .int (nI od), .int (nI fp), .int (nI fr), .int fc])), (b, .inl (y 0, 60, .inl sg))] t.heap) A) ([.ref a, .int (nI c0)] : List Value).toArray s 0 0 A) = Q
  have hs0 := sgn_lt hT (p := np)
  refine lv_aload_n hx hb dX4_reads_0 rfl (lv_at hl 0 rfl) ?_
  refine xc_V (As := []) (rest := []) ⟨hx, hb, hml, hown, hts⟩ (c_X4_signAtNext l D y a b sg T L hT np kd f1 f2 od fp fr fc (by omega) ) (cwV 0 hts gX4_reads_X4_signAtNext rfl rfl rfl hd_X4_signAtNext ⟨Nat.le_of_ble_eq_true rfl, Nat.le_of_ble_eq_true rfl⟩) (xpv_r hK hP [0, 1] 0 rfl rfl rfl) rfl hl.1 rfl (Nat.le_of_ble_eq_true rfl) dX4_reads_1 ⟨Nat.zero_le _, Nat.zero_le _⟩ (fun r1 hr1 => ?_)
  subst hr1
  refine lv_iload_n hx hb dX4_reads_4 rfl (lv_at hl 1 rfl) ?_
  refine xn_icmp_eq hx hb (by omega) (by omega) (tgt := 10) dX4_reads_5 (by decide) (fun kc5 => ?_) (fun kc5 => ?_)
  · refine lv_aload_n hx hb dX4_reads_10 rfl (lv_at hl 0 rfl) ?_
    refine lv_dup hx hb dX4_reads_11 rfl ?_
    refine va_get (D := D) (ci := 4) (v := .int (nI np)) (C := RX4) (T := TX4) (N := 10) hx hb hts hin_X4 hown hK.1 hP 0 rfl rfl 2 (by decide) f_21 (fun _ h9 => h9) rfl dX4_reads_12 ?_
    refine lv_iconst (v := nI 1) hx hb dX4_reads_15 (by decide) ?_
    refine xn_add hx hb (r := (np + 1)) rfl dX4_reads_16 ?_
    refine va_put (D := D) (ci := 4) (v := .int (nI (np + 1))) (ty := .int) (C := RX4) (T := TX4) (N := 10) hx hb hts hin_X4 tyX4 tyX4_ok nmX4 hown hK.1 hP hD hS 0 rfl rfl 2 (by decide) f_21 (fun _ h9 => h9) rfl (by decide +kernel) rfl rfl (Nat.le_of_ble_eq_true rfl) dX4_reads_17 (fun H locs hP1 hD1 hS1 => ?_)
    clear hP hD hS
    have hP : va_P D vwCl [(a, .inr (4, [.ref b, .int (nI L), .int (nI (np + 1)), .int (nI kd), .int f1, .int f2, .int (nI od), .int (nI fp), .int (nI fr), .int fc])), (b, .inl (y 0, 60, .inl sg))] H := hP1
    have hD : va_D A [(a, .inr (4, [.ref b, .int (nI L), .int (nI (np + 1)), .int (nI kd), .int f1, .int f2, .int (nI od), .int (nI fp), .int (nI fr), .int fc])), (b, .inl (y 0, 60, .inl sg))] := hD1
    have hS := hS1
    clear hP1 hD1 hS1
    refine lv_iconst (v := nI 1) hx hb dX4_reads_20 (by decide) ?_
    subst hQe
    exact xw_z hx hb hr hlocks () hS dX4_reads_21 (by omega) (congrArg nI (bN_t (c := sgn T L np = c0) kc5).symm) (fun t ht => by rw [ht]; exact (by rw [bN_t (c := sgn T L np = c0) kc5]; exact hP))
  · refine lv_iconst (v := nI 0) hx hb dX4_reads_8 (by decide) ?_
    subst hQe
    exact xw_z hx hb hr hlocks () hS dX4_reads_9 (by omega) (congrArg nI (bN_f (c := sgn T L np = c0) kc5).symm) (fun t ht => by rw [ht]; exact (by rw [bN_f (c := sgn T L np = c0) kc5]; exact hP))
set_option maxHeartbeats 8000000 in
set_option maxRecDepth 100000 in
theorem c_X4_readNumber (l : Launch) (D : va_G) (y : Nat → ClassId) (a b : Nat) (sg : Nat → Int32) (T : Nat → Nat) (L : Nat) (hT : RepT T L sg) (np kd : Nat) (f1 f2 : Int32) (od fp fr : Nat) (fc : Int32) (hp : np < 2 ^ 29) : Met l yX4_readNumber wsX4_readNumber ({ frames := 2, cells := 0, slots := 0, locals := 41 }) (va_Pc [.ref a] (xPw D y [(a, .inr (4, [.ref b, .int (nI L), .int (nI np), .int (nI kd), .int f1, .int f2, .int (nI od), .int (nI fp), .int (nI fr), .int fc])), (b, .inl (y 0, 60, .inl sg))])) (va_Qi (fun r (u : Unit) => r = nuI T L np) (fun (u : Unit) t => va_P D vwCl [(a, .inr (4, [.ref b, .int (nI L), .int (nI (nuP T L np)), .int (nI kd), .int f1, .int f2, .int (nI od), .int (nI fp), .int (nI fr), .int fc])), (b, .inl (y 0, 60, .inl sg))] t.heap) (xIn [(a, .inr (4, [.ref b, .int (nI L), .int (nI np), .int (nI kd), .int f1, .int f2, .int (nI od), .int (nI fp), .int (nI fr), .int fc])), (b, .inl (y 0, 60, .inl sg))])) 0 0 (xIn [(a, .inr (4, [.ref b, .int (nI L), .int (nI np), .int (nI kd), .int f1, .int f2, .int (nI od), .int (nI fp), .int (nI fr), .int fc])), (b, .inl (y 0, 60, .inl sg))]) := by
  refine Met.ofW (cc := cX4_readNumber) (maxL := 2) (ret := (some .int)) (by decide) rfl ?_
  intro p e s m args below meth c s₁ B hml hv
  obtain ⟨rfl, hP, hK, hD0⟩ := hv
  have hx := B.exec
  have hb := B.bytes
  have hr := B.returns
  have hts := atoms_spec (ws := wsX4_readNumber) B.pre
  have hown : s.vm.findClass RX4 = some m.cls := findClass_of_methodNamed B.named
  have hlocks := B.notSynchronized
  have f_21 := hts (.fieldLink RX4 21 "LoomTunes$Script" "next" "I") (by decide +kernel)
  have hin_X4 : ∀ w ∈ wsX40, w ∈ wsX4_readNumber := by decide +kernel
  have hD := xD_self hD0
  generalize hAe : xIn [(a, .inr (4, [.ref b, .int (nI L), .int (nI np), .int (nI kd), .int f1, .int f2, .int (nI od), .int (nI fp), .int (nI fr), .int fc])), (b, .inl (y 0, 60, .inl sg))] = A at hD ⊢
  have hS : va_S A s.heap s.heap [] := va_S.rf
  have hP : va_P D vwCl [(a, .inr (4, [.ref b, .int (nI L), .int (nI np), .int (nI kd), .int f1, .int f2, .int (nI od), .int (nI fp), .int (nI fr), .int fc])), (b, .inl (y 0, 60, .inl sg))] s.heap := hP
  have hl := lv_entry ([.ref a]) (n := 2) (Nat.le_of_ble_eq_true rfl)
  rw [lg_entry_eq]
  generalize (lg_sl ([.ref a]) ++ List.replicate (2 - (lg_sl ([.ref a])).length) Slot.unset).toArray = ls at hl ⊢
  have hl : lv_has ls 2 [(0, .ref a)] := hl
  generalize hQe : (MQ below (va_Qi (fun r (u : Unit) => r = nuI T L np) (fun (u : Unit) t => va_P D vwCl [(a, .inr (4, [.ref b, .int (nI L), .int (nI (nuP T L np)), .int (nI kd), .int f1, .int f2, .int (nI od), .int (nI fp), .int (nI fr), .int fc])), (b, .inl (y 0, 60, .inl sg))] t.heap) A) ([.ref a] : List Value).toArray s 0 0 A) = Q
  have hs0 := sgn_lt hT (p := np)
  have hs1 := sgn_lt hT (p := np + 1)
  have hb0 := bN_lt (c := dgt T L np)
  have hb1 := bN_lt (c := dgt T L (np + 1))
  refine lv_aload_n hx hb dX4_readNumber_0 rfl (lv_at hl 0 rfl) ?_
  refine xc_V (As := []) (rest := []) ⟨hx, hb, hml, hown, hts⟩ (c_X4_isDigitNext l D y a b sg T L hT np kd f1 f2 od fp fr fc (by omega) ) (cwV 0 hts gX4_readNumber_X4_isDigitNext rfl rfl rfl hd_X4_isDigitNext ⟨Nat.le_of_ble_eq_true rfl, Nat.le_of_ble_eq_true rfl⟩) (xpv_r hK hP [0, 1] 0 rfl rfl rfl) rfl hl.1 rfl (Nat.le_of_ble_eq_true rfl) dX4_readNumber_1 ⟨Nat.zero_le _, Nat.zero_le _⟩ (fun r1 hr1 => ?_)
  subst hr1
  refine xn_if_ne hx hb (by omega) (tgt := 9) dX4_readNumber_4 (by decide) (fun kc4 => ?_) (fun kc4 => ?_)
  · have hd := bN_n0.mp kc4
    refine lv_aload_n hx hb dX4_readNumber_9 rfl (lv_at hl 0 rfl) ?_
    refine xc_V (As := []) (rest := []) ⟨hx, hb, hml, hown, hts⟩ (c_X4_signAtNext l D y a b sg T L hT np kd f1 f2 od fp fr fc (by omega) ) (cwV 0 hts gX4_readNumber_X4_signAtNext rfl rfl rfl hd_X4_signAtNext ⟨Nat.le_of_ble_eq_true rfl, Nat.le_of_ble_eq_true rfl⟩) (xpv_r hK hP [0, 1] 0 rfl rfl rfl) rfl hl.1 rfl (Nat.le_of_ble_eq_true rfl) dX4_readNumber_10 ⟨Nat.zero_le _, Nat.zero_le _⟩ (fun r2 hr2 => ?_)
    subst hr2
    refine lv_bipush (v := nI 48) hx hb dX4_readNumber_13 (by decide) ?_
    refine xn_sub hx hb (r := ((sgn T L np) - 48)) (by omega) rfl dX4_readNumber_15 ?_
    refine lv_istore_n (lv' := [(1, .int (nI ((sgn T L np) - 48))), (0, .ref a)]) hx hb dX4_readNumber_16 rfl hl (by decide) rfl (fun ls hl => ?_)
    refine lv_aload_n hx hb dX4_readNumber_17 rfl (lv_at hl 1 rfl) ?_
    refine lv_dup hx hb dX4_readNumber_18 rfl ?_
    refine va_get (D := D) (ci := 4) (v := .int (nI np)) (C := RX4) (T := TX4) (N := 10) hx hb hts hin_X4 hown hK.1 hP 0 rfl rfl 2 (by decide) f_21 (fun _ h9 => h9) rfl dX4_readNumber_19 ?_
    refine lv_iconst (v := nI 1) hx hb dX4_readNumber_22 (by decide) ?_
    refine xn_add hx hb (r := (np + 1)) rfl dX4_readNumber_23 ?_
    refine va_put (D := D) (ci := 4) (v := .int (nI (np + 1))) (ty := .int) (C := RX4) (T := TX4) (N := 10) hx hb hts hin_X4 tyX4 tyX4_ok nmX4 hown hK.1 hP hD hS 0 rfl rfl 2 (by decide) f_21 (fun _ h9 => h9) rfl (by decide +kernel) rfl rfl (Nat.le_of_ble_eq_true rfl) dX4_readNumber_24 (fun H locs hP1 hD1 hS1 => ?_)
    clear hP hD hS
    have hP : va_P D vwCl [(a, .inr (4, [.ref b, .int (nI L), .int (nI (np + 1)), .int (nI kd), .int f1, .int f2, .int (nI od), .int (nI fp), .int (nI fr), .int fc])), (b, .inl (y 0, 60, .inl sg))] H := hP1
    have hD : va_D A [(a, .inr (4, [.ref b, .int (nI L), .int (nI (np + 1)), .int (nI kd), .int f1, .int f2, .int (nI od), .int (nI fp), .int (nI fr), .int fc])), (b, .inl (y 0, 60, .inl sg))] := hD1
    have hS := hS1
    clear hP1 hD1 hS1
    refine lv_aload_n hx hb dX4_readNumber_27 rfl (lv_at hl 1 rfl) ?_
    refine xc_V (As := []) (rest := []) ⟨hx, hb, hml, hown, hts⟩ (c_X4_isDigitNext l D y a b sg T L hT (np + 1) kd f1 f2 od fp fr fc (by omega) ) (cwV 0 hts gX4_readNumber_X4_isDigitNext rfl rfl rfl hd_X4_isDigitNext ⟨Nat.le_of_ble_eq_true rfl, Nat.le_of_ble_eq_true rfl⟩) (xpv_r hK hP [0, 1] 0 rfl rfl rfl) rfl hl.1 rfl (Nat.le_of_ble_eq_true rfl) dX4_readNumber_28 ⟨Nat.zero_le _, Nat.zero_le _⟩ (fun r3 hr3 => ?_)
    subst hr3
    refine xn_if_eq hx hb (by omega) (tgt := 57) dX4_readNumber_31 (by decide) (fun kc31 => ?_) (fun kc31 => ?_)
    · refine lv_iload_n hx hb dX4_readNumber_57 rfl (lv_at hl 0 rfl) ?_
      subst hQe
      exact xw_i hx hb hr hlocks () hS dX4_readNumber_58 (by rw [nuI_d hd, nuV_1 (bN_0.mp kc31)]) (fun t ht => by rw [ht]; exact (by rw [nuP_1 hd (bN_0.mp kc31)]; exact hP))
    · have hd2 := bN_n0.mp kc31
      refine lv_bipush (v := nI 10) hx hb dX4_readNumber_34 (by decide) ?_
      refine lv_iload_n hx hb dX4_readNumber_36 rfl (lv_at hl 0 rfl) ?_
      refine xn_mul hx hb (r := (10 * ((sgn T L np) - 48))) rfl dX4_readNumber_37 ?_
      refine lv_aload_n hx hb dX4_readNumber_38 rfl (lv_at hl 1 rfl) ?_
      refine xc_V (As := []) (rest := [.int (nI (10 * ((sgn T L np) - 48)))]) ⟨hx, hb, hml, hown, hts⟩ (c_X4_signAtNext l D y a b sg T L hT (np + 1) kd f1 f2 od fp fr fc (by omega) ) (cwV 0 hts gX4_readNumber_X4_signAtNext rfl rfl rfl hd_X4_signAtNext ⟨Nat.le_of_ble_eq_true rfl, Nat.le_of_ble_eq_true rfl⟩) (xpv_r hK hP [0, 1] 0 rfl rfl rfl) rfl hl.1 rfl (Nat.le_of_ble_eq_true rfl) dX4_readNumber_39 ⟨Nat.zero_le _, Nat.zero_le _⟩ (fun r4 hr4 => ?_)
      subst hr4
      refine xn_add hx hb (r := ((10 * ((sgn T L np) - 48)) + (sgn T L (np + 1)))) rfl dX4_readNumber_42 ?_
      refine lv_bipush (v := nI 48) hx hb dX4_readNumber_43 (by decide) ?_
      refine xn_sub hx hb (r := (((10 * ((sgn T L np) - 48)) + (sgn T L (np + 1))) - 48)) (by omega) rfl dX4_readNumber_45 ?_
      refine lv_istore_n (lv' := [(1, .int (nI (((10 * ((sgn T L np) - 48)) + (sgn T L (np + 1))) - 48))), (0, .ref a)]) hx hb dX4_readNumber_46 rfl hl (by decide) rfl (fun ls hl => ?_)
      refine lv_aload_n hx hb dX4_readNumber_47 rfl (lv_at hl 1 rfl) ?_
      refine lv_dup hx hb dX4_readNumber_48 rfl ?_
      refine va_get (D := D) (ci := 4) (v := .int (nI (np + 1))) (C := RX4) (T := TX4) (N := 10) hx hb hts hin_X4 hown hK.1 hP 0 rfl rfl 2 (by decide) f_21 (fun _ h9 => h9) rfl dX4_readNumber_49 ?_
      refine lv_iconst (v := nI 1) hx hb dX4_readNumber_52 (by decide) ?_
      refine xn_add hx hb (r := ((np + 1) + 1)) rfl dX4_readNumber_53 ?_
      refine va_put (D := D) (ci := 4) (v := .int (nI ((np + 1) + 1))) (ty := .int) (C := RX4) (T := TX4) (N := 10) hx hb hts hin_X4 tyX4 tyX4_ok nmX4 hown hK.1 hP hD hS 0 rfl rfl 2 (by decide) f_21 (fun _ h9 => h9) rfl (by decide +kernel) rfl rfl (Nat.le_of_ble_eq_true rfl) dX4_readNumber_54 (fun H locs hP1 hD1 hS1 => ?_)
      clear hP hD hS
      have hP : va_P D vwCl [(a, .inr (4, [.ref b, .int (nI L), .int (nI ((np + 1) + 1)), .int (nI kd), .int f1, .int f2, .int (nI od), .int (nI fp), .int (nI fr), .int fc])), (b, .inl (y 0, 60, .inl sg))] H := hP1
      have hD : va_D A [(a, .inr (4, [.ref b, .int (nI L), .int (nI ((np + 1) + 1)), .int (nI kd), .int f1, .int f2, .int (nI od), .int (nI fp), .int (nI fr), .int fc])), (b, .inl (y 0, 60, .inl sg))] := hD1
      have hS := hS1
      clear hP1 hD1 hS1
      refine lv_iload_n hx hb dX4_readNumber_57 rfl (lv_at hl 0 rfl) ?_
      subst hQe
      exact xw_i hx hb hr hlocks () hS dX4_readNumber_58 (by rw [nuI_d hd, nuV_2 hd2]) (fun t ht => by rw [ht]; exact (by rw [nuP_2 hd hd2]; exact hP))
  · refine lv_iconst (v := (-1)) hx hb dX4_readNumber_7 (by decide) ?_
    subst hQe
    exact xw_i hx hb hr hlocks () hS dX4_readNumber_8 (by unfold nuI; rw [if_neg (bN_0.mp kc4)]) (fun t ht => by rw [ht]; exact (by rw [nuP_n (bN_0.mp kc4)]; exact hP))
set_option maxHeartbeats 8000000 in
set_option maxRecDepth 100000 in
theorem c_X4_readsFirst (l : Launch) (D : va_G) (y : Nat → ClassId) (a b : Nat) (sg : Nat → Int32) (T : Nat → Nat) (L : Nat) (hT : RepT T L sg) (np kd : Nat) (f1 f2 : Int32) (od fp fr : Nat) (fc : Int32) (hp : np < 2 ^ 29) : Met l yX4_readsFirst wsX4_readsFirst ({ frames := 3, cells := 0, slots := 0, locals := 62 }) (va_Pc [.ref a] (xPw D y [(a, .inr (4, [.ref b, .int (nI L), .int (nI np), .int (nI kd), .int f1, .int f2, .int (nI od), .int (nI fp), .int (nI fr), .int fc])), (b, .inl (y 0, 60, .inl sg))])) (va_Qi (fun r (u : Unit) => r = nI (bN (dgt T L np))) (fun (u : Unit) t => va_P D vwCl [(a, .inr (4, [.ref b, .int (nI L), .int (nI (nuP T L np)), .int (nI kd), .int (nuI T L np), .int f2, .int (nI od), .int (nI fp), .int (nI fr), .int fc])), (b, .inl (y 0, 60, .inl sg))] t.heap) (xIn [(a, .inr (4, [.ref b, .int (nI L), .int (nI np), .int (nI kd), .int f1, .int f2, .int (nI od), .int (nI fp), .int (nI fr), .int fc])), (b, .inl (y 0, 60, .inl sg))])) 0 0 (xIn [(a, .inr (4, [.ref b, .int (nI L), .int (nI np), .int (nI kd), .int f1, .int f2, .int (nI od), .int (nI fp), .int (nI fr), .int fc])), (b, .inl (y 0, 60, .inl sg))]) := by
  refine Met.ofW (cc := cX4_readsFirst) (maxL := 1) (ret := (some .boolean)) (by decide) rfl ?_
  intro p e s m args below meth c s₁ B hml hv
  obtain ⟨rfl, hP, hK, hD0⟩ := hv
  have hx := B.exec
  have hb := B.bytes
  have hr := B.returns
  have hts := atoms_spec (ws := wsX4_readsFirst) B.pre
  have hown : s.vm.findClass RX4 = some m.cls := findClass_of_methodNamed B.named
  have hlocks := B.notSynchronized
  have f_65 := hts (.fieldLink RX4 65 "LoomTunes$Script" "first" "I") (by decide +kernel)
  have hin_X4 : ∀ w ∈ wsX40, w ∈ wsX4_readsFirst := by decide +kernel
  have hD := xD_self hD0
  generalize hAe : xIn [(a, .inr (4, [.ref b, .int (nI L), .int (nI np), .int (nI kd), .int f1, .int f2, .int (nI od), .int (nI fp), .int (nI fr), .int fc])), (b, .inl (y 0, 60, .inl sg))] = A at hD ⊢
  have hS : va_S A s.heap s.heap [] := va_S.rf
  have hP : va_P D vwCl [(a, .inr (4, [.ref b, .int (nI L), .int (nI np), .int (nI kd), .int f1, .int f2, .int (nI od), .int (nI fp), .int (nI fr), .int fc])), (b, .inl (y 0, 60, .inl sg))] s.heap := hP
  have hl := lv_entry ([.ref a]) (n := 1) (Nat.le_of_ble_eq_true rfl)
  rw [lg_entry_eq]
  generalize (lg_sl ([.ref a]) ++ List.replicate (1 - (lg_sl ([.ref a])).length) Slot.unset).toArray = ls at hl ⊢
  have hl : lv_has ls 1 [(0, .ref a)] := hl
  generalize hQe : (MQ below (va_Qi (fun r (u : Unit) => r = nI (bN (dgt T L np))) (fun (u : Unit) t => va_P D vwCl [(a, .inr (4, [.ref b, .int (nI L), .int (nI (nuP T L np)), .int (nI kd), .int (nuI T L np), .int f2, .int (nI od), .int (nI fp), .int (nI fr), .int fc])), (b, .inl (y 0, 60, .inl sg))] t.heap) A) ([.ref a] : List Value).toArray s 0 0 A) = Q
  have hng := nuI_neg hT (p := np)
  refine lv_aload_n hx hb dX4_readsFirst_0 rfl (lv_at hl 0 rfl) ?_
  refine lv_aload_n hx hb dX4_readsFirst_1 rfl (lv_at hl 0 rfl) ?_
  have hFc := xD_in (W0 := [(a, .inr (4, [.ref b, .int (nI L), .int (nI np), .int (nI kd), .int f1, .int f2, .int (nI od), .int (nI fp), .int (nI fr), .int fc])), (b, .inl (y 0, 60, .inl sg))]) hD [0, 1] rfl
  refine va_calli (va_runV (As := []) (rest := [.ref a]) ⟨hx, hb, hml, hown, hts⟩ (c_X4_readNumber l D y a b sg T L hT np kd f1 f2 od fp fr fc (by omega) ) (cwV 0 hts gX4_readsFirst_X4_readNumber rfl rfl rfl hd_X4_readNumber ⟨Nat.le_of_ble_eq_true rfl, Nat.le_of_ble_eq_true rfl⟩) (xpv_w hK hP hD [0, 1] 0 rfl rfl rfl rfl rfl) rfl rfl hl.1 rfl (lv_room (Nat.le_of_ble_eq_true rfl)) dX4_readsFirst_2 ⟨Nat.zero_le _, Nat.zero_le _⟩) hS (fun q _ h => hFc q h) hFc (fun r1 u1 t H locs ht hvm hw1 hB hz1 hk1 hS1 => ?_)
  have hB : va_P D vwCl [(a, .inr (4, [.ref b, .int (nI L), .int (nI (nuP T L np)), .int (nI kd), .int f1, .int f2, .int (nI od), .int (nI fp), .int (nI fr), .int fc])), (b, .inl (y 0, 60, .inl sg))] t.heap := hB
  rw [ht] at hB
  have hw1 : r1 = nuI T L np := hw1
  have hJ := xj_join (ws2 := [(a, .inr (4, [.ref b, .int (nI L), .int (nI (nuP T L np)), .int (nI kd), .int f1, .int f2, .int (nI od), .int (nI fp), .int (nI fr), .int fc])), (b, .inl (y 0, 60, .inl sg))]) hP hD [0, 1] [] rfl rfl rfl rfl rfl rfl hk1 hB
  clear hP hD hS hB hk1 hz1 hFc hvm ht
  obtain ⟨hP, hD⟩ := hJ
  have hS := hS1
  clear hS1
  subst hw1
  refine va_put (D := D) (ci := 4) (v := .int (nuI T L np)) (ty := .int) (C := RX4) (T := TX4) (N := 10) hx hb hts hin_X4 tyX4 tyX4_ok nmX4 hown hK.1 hP hD hS 0 rfl rfl 4 (by decide) f_65 (fun _ h9 => h9) rfl (by decide +kernel) rfl rfl (Nat.le_of_ble_eq_true rfl) dX4_readsFirst_5 (fun H locs hP1 hD1 hS1 => ?_)
  clear hP hD hS
  have hP : va_P D vwCl [(a, .inr (4, [.ref b, .int (nI L), .int (nI (nuP T L np)), .int (nI kd), .int (nuI T L np), .int f2, .int (nI od), .int (nI fp), .int (nI fr), .int fc])), (b, .inl (y 0, 60, .inl sg))] H := hP1
  have hD : va_D A [(a, .inr (4, [.ref b, .int (nI L), .int (nI (nuP T L np)), .int (nI kd), .int (nuI T L np), .int f2, .int (nI od), .int (nI fp), .int (nI fr), .int fc])), (b, .inl (y 0, 60, .inl sg))] := hD1
  have hS := hS1
  clear hP1 hD1 hS1
  refine lv_aload_n hx hb dX4_readsFirst_8 rfl (lv_at hl 0 rfl) ?_
  refine va_get (D := D) (ci := 4) (v := .int (nuI T L np)) (C := RX4) (T := TX4) (N := 10) hx hb hts hin_X4 hown hK.1 hP 0 rfl rfl 4 (by decide) f_65 (fun _ h9 => h9) rfl dX4_readsFirst_9 ?_
  refine lv_if_lt (tgt := 19) hx hb dX4_readsFirst_12 (by decide) (fun kc12 => ?_) (fun kc12 => ?_)
  · refine lv_iconst (v := nI 0) hx hb dX4_readsFirst_19 (by decide) ?_
    subst hQe
    exact xw_z hx hb hr hlocks () hS dX4_readsFirst_20 (by omega) (congrArg nI (bN_f (c := dgt T L np) (hng.mp kc12)).symm) (fun t ht => by rw [ht]; exact (hP))
  · refine lv_iconst (v := nI 1) hx hb dX4_readsFirst_15 (by decide) ?_
    refine lv_goto (tgt := 20) hx hb dX4_readsFirst_16 (by decide) ?_
    subst hQe
    exact xw_z hx hb hr hlocks () hS dX4_readsFirst_20 (by omega) (congrArg nI (bN_t (c := dgt T L np) (Classical.not_not.mp (fun hq => kc12 (hng.mpr hq)))).symm) (fun t ht => by rw [ht]; exact (hP))
set_option maxHeartbeats 8000000 in
set_option maxRecDepth 100000 in
theorem c_X4_readsSecond (l : Launch) (D : va_G) (y : Nat → ClassId) (a b : Nat) (sg : Nat → Int32) (T : Nat → Nat) (L : Nat) (hT : RepT T L sg) (np kd : Nat) (f1 f2 : Int32) (od fp fr : Nat) (fc : Int32) (hp : np < 2 ^ 29) : Met l yX4_readsSecond wsX4_readsSecond ({ frames := 3, cells := 0, slots := 0, locals := 62 }) (va_Pc [.ref a] (xPw D y [(a, .inr (4, [.ref b, .int (nI L), .int (nI np), .int (nI kd), .int f1, .int f2, .int (nI od), .int (nI fp), .int (nI fr), .int fc])), (b, .inl (y 0, 60, .inl sg))])) (va_Qi (fun r (u : Unit) => r = nI (bN (dgt T L np))) (fun (u : Unit) t => va_P D vwCl [(a, .inr (4, [.ref b, .int (nI L), .int (nI (nuP T L np)), .int (nI kd), .int f1, .int (nuI T L np), .int (nI od), .int (nI fp), .int (nI fr), .int fc])), (b, .inl (y 0, 60, .inl sg))] t.heap) (xIn [(a, .inr (4, [.ref b, .int (nI L), .int (nI np), .int (nI kd), .int f1, .int f2, .int (nI od), .int (nI fp), .int (nI fr), .int fc])), (b, .inl (y 0, 60, .inl sg))])) 0 0 (xIn [(a, .inr (4, [.ref b, .int (nI L), .int (nI np), .int (nI kd), .int f1, .int f2, .int (nI od), .int (nI fp), .int (nI fr), .int fc])), (b, .inl (y 0, 60, .inl sg))]) := by
  refine Met.ofW (cc := cX4_readsSecond) (maxL := 1) (ret := (some .boolean)) (by decide) rfl ?_
  intro p e s m args below meth c s₁ B hml hv
  obtain ⟨rfl, hP, hK, hD0⟩ := hv
  have hx := B.exec
  have hb := B.bytes
  have hr := B.returns
  have hts := atoms_spec (ws := wsX4_readsSecond) B.pre
  have hown : s.vm.findClass RX4 = some m.cls := findClass_of_methodNamed B.named
  have hlocks := B.notSynchronized
  have f_72 := hts (.fieldLink RX4 72 "LoomTunes$Script" "second" "I") (by decide +kernel)
  have hin_X4 : ∀ w ∈ wsX40, w ∈ wsX4_readsSecond := by decide +kernel
  have hD := xD_self hD0
  generalize hAe : xIn [(a, .inr (4, [.ref b, .int (nI L), .int (nI np), .int (nI kd), .int f1, .int f2, .int (nI od), .int (nI fp), .int (nI fr), .int fc])), (b, .inl (y 0, 60, .inl sg))] = A at hD ⊢
  have hS : va_S A s.heap s.heap [] := va_S.rf
  have hP : va_P D vwCl [(a, .inr (4, [.ref b, .int (nI L), .int (nI np), .int (nI kd), .int f1, .int f2, .int (nI od), .int (nI fp), .int (nI fr), .int fc])), (b, .inl (y 0, 60, .inl sg))] s.heap := hP
  have hl := lv_entry ([.ref a]) (n := 1) (Nat.le_of_ble_eq_true rfl)
  rw [lg_entry_eq]
  generalize (lg_sl ([.ref a]) ++ List.replicate (1 - (lg_sl ([.ref a])).length) Slot.unset).toArray = ls at hl ⊢
  have hl : lv_has ls 1 [(0, .ref a)] := hl
  generalize hQe : (MQ below (va_Qi (fun r (u : Unit) => r = nI (bN (dgt T L np))) (fun (u : Unit) t => va_P D vwCl [(a, .inr (4, [.ref b, .int (nI L), .int (nI (nuP T L np)), .int (nI kd), .int f1, .int (nuI T L np), .int (nI od), .int (nI fp), .int (nI fr), .int fc])), (b, .inl (y 0, 60, .inl sg))] t.heap) A) ([.ref a] : List Value).toArray s 0 0 A) = Q
  have hng := nuI_neg hT (p := np)
  refine lv_aload_n hx hb dX4_readsSecond_0 rfl (lv_at hl 0 rfl) ?_
  refine lv_aload_n hx hb dX4_readsSecond_1 rfl (lv_at hl 0 rfl) ?_
  have hFc := xD_in (W0 := [(a, .inr (4, [.ref b, .int (nI L), .int (nI np), .int (nI kd), .int f1, .int f2, .int (nI od), .int (nI fp), .int (nI fr), .int fc])), (b, .inl (y 0, 60, .inl sg))]) hD [0, 1] rfl
  refine va_calli (va_runV (As := []) (rest := [.ref a]) ⟨hx, hb, hml, hown, hts⟩ (c_X4_readNumber l D y a b sg T L hT np kd f1 f2 od fp fr fc (by omega) ) (cwV 0 hts gX4_readsSecond_X4_readNumber rfl rfl rfl hd_X4_readNumber ⟨Nat.le_of_ble_eq_true rfl, Nat.le_of_ble_eq_true rfl⟩) (xpv_w hK hP hD [0, 1] 0 rfl rfl rfl rfl rfl) rfl rfl hl.1 rfl (lv_room (Nat.le_of_ble_eq_true rfl)) dX4_readsSecond_2 ⟨Nat.zero_le _, Nat.zero_le _⟩) hS (fun q _ h => hFc q h) hFc (fun r1 u1 t H locs ht hvm hw1 hB hz1 hk1 hS1 => ?_)
  have hB : va_P D vwCl [(a, .inr (4, [.ref b, .int (nI L), .int (nI (nuP T L np)), .int (nI kd), .int f1, .int f2, .int (nI od), .int (nI fp), .int (nI fr), .int fc])), (b, .inl (y 0, 60, .inl sg))] t.heap := hB
  rw [ht] at hB
  have hw1 : r1 = nuI T L np := hw1
  have hJ := xj_join (ws2 := [(a, .inr (4, [.ref b, .int (nI L), .int (nI (nuP T L np)), .int (nI kd), .int f1, .int f2, .int (nI od), .int (nI fp), .int (nI fr), .int fc])), (b, .inl (y 0, 60, .inl sg))]) hP hD [0, 1] [] rfl rfl rfl rfl rfl rfl hk1 hB
  clear hP hD hS hB hk1 hz1 hFc hvm ht
  obtain ⟨hP, hD⟩ := hJ
  have hS := hS1
  clear hS1
  subst hw1
  refine va_put (D := D) (ci := 4) (v := .int (nuI T L np)) (ty := .int) (C := RX4) (T := TX4) (N := 10) hx hb hts hin_X4 tyX4 tyX4_ok nmX4 hown hK.1 hP hD hS 0 rfl rfl 5 (by decide) f_72 (fun _ h9 => h9) rfl (by decide +kernel) rfl rfl (Nat.le_of_ble_eq_true rfl) dX4_readsSecond_5 (fun H locs hP1 hD1 hS1 => ?_)
  clear hP hD hS
  have hP : va_P D vwCl [(a, .inr (4, [.ref b, .int (nI L), .int (nI (nuP T L np)), .int (nI kd), .int f1, .int (nuI T L np), .int (nI od), .int (nI fp), .int (nI fr), .int fc])), (b, .inl (y 0, 60, .inl sg))] H := hP1
  have hD : va_D A [(a, .inr (4, [.ref b, .int (nI L), .int (nI (nuP T L np)), .int (nI kd), .int f1, .int (nuI T L np), .int (nI od), .int (nI fp), .int (nI fr), .int fc])), (b, .inl (y 0, 60, .inl sg))] := hD1
  have hS := hS1
  clear hP1 hD1 hS1
  refine lv_aload_n hx hb dX4_readsSecond_8 rfl (lv_at hl 0 rfl) ?_
  refine va_get (D := D) (ci := 4) (v := .int (nuI T L np)) (C := RX4) (T := TX4) (N := 10) hx hb hts hin_X4 hown hK.1 hP 0 rfl rfl 5 (by decide) f_72 (fun _ h9 => h9) rfl dX4_readsSecond_9 ?_
  refine lv_if_lt (tgt := 19) hx hb dX4_readsSecond_12 (by decide) (fun kc12 => ?_) (fun kc12 => ?_)
  · refine lv_iconst (v := nI 0) hx hb dX4_readsSecond_19 (by decide) ?_
    subst hQe
    exact xw_z hx hb hr hlocks () hS dX4_readsSecond_20 (by omega) (congrArg nI (bN_f (c := dgt T L np) (hng.mp kc12)).symm) (fun t ht => by rw [ht]; exact (hP))
  · refine lv_iconst (v := nI 1) hx hb dX4_readsSecond_15 (by decide) ?_
    refine lv_goto (tgt := 20) hx hb dX4_readsSecond_16 (by decide) ?_
    subst hQe
    exact xw_z hx hb hr hlocks () hS dX4_readsSecond_20 (by omega) (congrArg nI (bN_t (c := dgt T L np) (Classical.not_not.mp (fun hq => kc12 (hng.mpr hq)))).symm) (fun t ht => by rw [ht]; exact (hP))
set_option maxHeartbeats 8000000 in
set_option maxRecDepth 100000 in
theorem c_X4_readsHoles (l : Launch) (D : va_G) (y : Nat → ClassId) (a b : Nat) (sg : Nat → Int32) (T : Nat → Nat) (L : Nat) (hT : RepT T L sg) (np kd : Nat) (f1 f2 : Int32) (od fp fr : Nat) (fc : Int32) (hp : np < 2 ^ 29) : Met l yX4_readsHoles wsX4_readsHoles ({ frames := 2, cells := 0, slots := 0, locals := 41 }) (va_Pc [.ref a] (xPw D y [(a, .inr (4, [.ref b, .int (nI L), .int (nI np), .int (nI kd), .int f1, .int f2, .int (nI od), .int (nI fp), .int (nI fr), .int fc])), (b, .inl (y 0, 60, .inl sg))])) (va_Qi (fun r (u : Unit) => r = nI (bN (¬ hoF T L np 8 = 0))) (fun (u : Unit) t => va_P D vwCl [(a, .inr (4, [.ref b, .int (nI L), .int (nI (hoP T L np 8)), .int (nI kd), .int (nI (hoF T L np 8)), .int f2, .int (nI od), .int (nI fp), .int (nI fr), .int fc])), (b, .inl (y 0, 60, .inl sg))] t.heap) (xIn [(a, .inr (4, [.ref b, .int (nI L), .int (nI np), .int (nI kd), .int f1, .int f2, .int (nI od), .int (nI fp), .int (nI fr), .int fc])), (b, .inl (y 0, 60, .inl sg))])) 0 0 (xIn [(a, .inr (4, [.ref b, .int (nI L), .int (nI np), .int (nI kd), .int f1, .int f2, .int (nI od), .int (nI fp), .int (nI fr), .int fc])), (b, .inl (y 0, 60, .inl sg))]) := by
  refine Met.ofW (cc := cX4_readsHoles) (maxL := 2) (ret := (some .boolean)) (by decide) rfl ?_
  intro p e s m args below meth c s₁ B hml hv
  obtain ⟨rfl, hP, hK, hD0⟩ := hv
  have hx := B.exec
  have hb := B.bytes
  have hr := B.returns
  have hts := atoms_spec (ws := wsX4_readsHoles) B.pre
  have hown : s.vm.findClass RX4 = some m.cls := findClass_of_methodNamed B.named
  have hlocks := B.notSynchronized
  have f_65 := hts (.fieldLink RX4 65 "LoomTunes$Script" "first" "I") (by decide +kernel)
  have hin_X4 : ∀ w ∈ wsX40, w ∈ wsX4_readsHoles := by decide +kernel
  have hD := xD_self hD0
  generalize hAe : xIn [(a, .inr (4, [.ref b, .int (nI L), .int (nI np), .int (nI kd), .int f1, .int f2, .int (nI od), .int (nI fp), .int (nI fr), .int fc])), (b, .inl (y 0, 60, .inl sg))] = A at hD ⊢
  have hS : va_S A s.heap s.heap [] := va_S.rf
  have hP : va_P D vwCl [(a, .inr (4, [.ref b, .int (nI L), .int (nI np), .int (nI kd), .int f1, .int f2, .int (nI od), .int (nI fp), .int (nI fr), .int fc])), (b, .inl (y 0, 60, .inl sg))] s.heap := hP
  have hl := lv_entry ([.ref a]) (n := 2) (Nat.le_of_ble_eq_true rfl)
  rw [lg_entry_eq]
  generalize (lg_sl ([.ref a]) ++ List.replicate (2 - (lg_sl ([.ref a])).length) Slot.unset).toArray = ls at hl ⊢
  have hl : lv_has ls 2 [(0, .ref a)] := hl
  generalize hQe : (MQ below (va_Qi (fun r (u : Unit) => r = nI (bN (¬ hoF T L np 8 = 0))) (fun (u : Unit) t => va_P D vwCl [(a, .inr (4, [.ref b, .int (nI L), .int (nI (hoP T L np 8)), .int (nI kd), .int (nI (hoF T L np 8)), .int f2, .int (nI od), .int (nI fp), .int (nI fr), .int fc])), (b, .inl (y 0, 60, .inl sg))] t.heap) A) ([.ref a] : List Value).toArray s 0 0 A) = Q
  refine lv_aload_n hx hb dX4_readsHoles_0 rfl (lv_at hl 0 rfl) ?_
  refine lv_iconst (v := nI 0) hx hb dX4_readsHoles_1 (by decide) ?_
  refine va_put (D := D) (ci := 4) (v := .int (nI 0)) (ty := .int) (C := RX4) (T := TX4) (N := 10) hx hb hts hin_X4 tyX4 tyX4_ok nmX4 hown hK.1 hP hD hS 0 rfl rfl 4 (by decide) f_65 (fun _ h9 => h9) rfl (by decide +kernel) rfl rfl (Nat.le_of_ble_eq_true rfl) dX4_readsHoles_2 (fun H locs hP1 hD1 hS1 => ?_)
  clear hP hD hS
  have hP : va_P D vwCl [(a, .inr (4, [.ref b, .int (nI L), .int (nI np), .int (nI kd), .int (nI 0), .int f2, .int (nI od), .int (nI fp), .int (nI fr), .int fc])), (b, .inl (y 0, 60, .inl sg))] H := hP1
  have hD : va_D A [(a, .inr (4, [.ref b, .int (nI L), .int (nI np), .int (nI kd), .int (nI 0), .int f2, .int (nI od), .int (nI fp), .int (nI fr), .int fc])), (b, .inl (y 0, 60, .inl sg))] := hD1
  have hS := hS1
  clear hP1 hD1 hS1
  refine lv_iconst (v := nI 0) hx hb dX4_readsHoles_5 (by decide) ?_
  refine lv_istore_n (lv' := [(1, .int (nI 0)), (0, .ref a)]) hx hb dX4_readsHoles_6 rfl hl (by decide) rfl (fun ls hl => ?_)
  have lp7 : ∀ (n : Nat) (i : Nat), 8 - i < n → (i ≤ 8) → ∀ (H : Heap) (locs : List Loc), va_P D vwCl [(a, .inr (4, [.ref b, .int (nI L), .int (nI (hoP T L np i)), .int (nI kd), .int (nI (hoF T L np i)), .int f2, .int (nI od), .int (nI fp), .int (nI fr), .int fc])), (b, .inl (y 0, 60, .inl sg))] H → va_D A [(a, .inr (4, [.ref b, .int (nI L), .int (nI (hoP T L np i)), .int (nI kd), .int (nI (hoF T L np i)), .int f2, .int (nI od), .int (nI fp), .int (nI fr), .int fc])), (b, .inl (y 0, 60, .inl sg))] → va_S A s.heap H locs → ∀ ls : Array Slot, lv_has ls 2 [(1, .int (nI i)), (0, .ref a)] → W p l e (headSpec wsX4_readsHoles ({ frames := 2, cells := 0, slots := 0, locals := 41 })).room s m ([.ref a] : List Value).toArray below meth c H locs 0 0 Q (F0 m 7 ls []) := by
    intro n
    induction n with
    | zero => intro i hm; exact absurd hm (Nat.not_lt_zero _)
    | succ n ih7 =>
      intro i hm hi H locs hP hD hS ls hl
      refine lv_iload_n hx hb dX4_readsHoles_7 rfl (lv_at hl 0 rfl) ?_
      refine lv_bipush (v := nI 8) hx hb dX4_readsHoles_8 (by decide) ?_
      refine xn_icmp_ge hx hb (by omega) (by omega) (tgt := 43) dX4_readsHoles_10 (by decide) (fun kc10 => ?_) (fun kc10 => ?_)
      · have h8 : i = 8 := by omega
        have hfl := hoF_lt (T := T) (L := L) (p := np) i
        have hpw : 2 ^ i ≤ 2 ^ 8 := Nat.pow_le_pow_right (by decide) (by omega)
        refine lv_aload_n hx hb dX4_readsHoles_43 rfl (lv_at hl 1 rfl) ?_
        refine va_get (D := D) (ci := 4) (v := .int (nI (hoF T L np i))) (C := RX4) (T := TX4) (N := 10) hx hb hts hin_X4 hown hK.1 hP 0 rfl rfl 4 (by decide) f_65 (fun _ h9 => h9) rfl dX4_readsHoles_44 ?_
        refine xn_if_eq hx hb (by omega) (tgt := 54) dX4_readsHoles_47 (by decide) (fun kc47 => ?_) (fun kc47 => ?_)
        · refine lv_iconst (v := nI 0) hx hb dX4_readsHoles_54 (by decide) ?_
          subst hQe
          exact xw_z hx hb hr hlocks () hS dX4_readsHoles_55 (by omega) (congrArg nI (by rw [h8] at kc47; exact (bN_f (c := ¬ hoF T L np 8 = 0) (fun hq => hq kc47)).symm)) (fun t ht => by rw [ht]; exact (by rw [← h8]; exact hP))
        · refine lv_iconst (v := nI 1) hx hb dX4_readsHoles_50 (by decide) ?_
          refine lv_goto (tgt := 55) hx hb dX4_readsHoles_51 (by decide) ?_
          subst hQe
          exact xw_z hx hb hr hlocks () hS dX4_readsHoles_55 (by omega) (congrArg nI (by rw [h8] at kc47; exact (bN_t (c := ¬ hoF T L np 8 = 0) kc47).symm)) (fun t ht => by rw [ht]; exact (by rw [← h8]; exact hP))
      · have hpl := hoP_le (T := T) (L := L) (p := np) i
        have hb0 := bN_lt (c := sgn T L (hoP T L np i) = 48 + i)
        have hpw : 2 ^ i ≤ 2 ^ 7 := Nat.pow_le_pow_right (by decide) (by omega)
        refine lv_aload_n hx hb dX4_readsHoles_13 rfl (lv_at hl 1 rfl) ?_
        refine lv_bipush (v := nI 48) hx hb dX4_readsHoles_14 (by decide) ?_
        refine lv_iload_n hx hb dX4_readsHoles_16 rfl (lv_at hl 0 rfl) ?_
        refine xn_add hx hb (r := (48 + i)) rfl dX4_readsHoles_17 ?_
        refine lv_i2c hx hb dX4_readsHoles_18 (v := nI (48 + i)) (xi_i2c (by omega)) ?_
        have hFc := xD_in (W0 := [(a, .inr (4, [.ref b, .int (nI L), .int (nI (hoP T L np i)), .int (nI kd), .int (nI (hoF T L np i)), .int f2, .int (nI od), .int (nI fp), .int (nI fr), .int fc])), (b, .inl (y 0, 60, .inl sg))]) hD [0, 1] rfl
        refine va_calli (va_runV (As := [.int (nI (48 + i))]) (rest := []) ⟨hx, hb, hml, hown, hts⟩ (c_X4_reads l D y a b sg T L hT (hoP T L np i) kd (nI (hoF T L np i)) f2 od fp fr fc (by omega) (48 + i) (by omega)) (cwV 1 hts gX4_readsHoles_X4_reads rfl rfl rfl hd_X4_reads ⟨Nat.le_of_ble_eq_true rfl, Nat.le_of_ble_eq_true rfl⟩) (xpv_w hK hP hD [0, 1] 0 rfl rfl rfl rfl rfl) rfl rfl hl.1 rfl (lv_room (Nat.le_of_ble_eq_true rfl)) dX4_readsHoles_19 ⟨Nat.zero_le _, Nat.zero_le _⟩) hS (fun q _ h => hFc q h) hFc (fun r1 u1 t H locs ht hvm hw1 hB hz1 hk1 hS1 => ?_)
        have hB : va_P D vwCl [(a, .inr (4, [.ref b, .int (nI L), .int (nI ((hoP T L np i) + bN (sgn T L (hoP T L np i) = (48 + i)))), .int (nI kd), .int (nI (hoF T L np i)), .int f2, .int (nI od), .int (nI fp), .int (nI fr), .int fc])), (b, .inl (y 0, 60, .inl sg))] t.heap := hB
        rw [ht] at hB
        have hw1 : r1 = nI (bN (sgn T L (hoP T L np i) = (48 + i))) := hw1
        have hJ := xj_join (ws2 := [(a, .inr (4, [.ref b, .int (nI L), .int (nI ((hoP T L np i) + bN (sgn T L (hoP T L np i) = (48 + i)))), .int (nI kd), .int (nI (hoF T L np i)), .int f2, .int (nI od), .int (nI fp), .int (nI fr), .int fc])), (b, .inl (y 0, 60, .inl sg))]) hP hD [0, 1] [] rfl rfl rfl rfl rfl rfl hk1 hB
        clear hP hD hS hB hk1 hz1 hFc hvm ht
        obtain ⟨hP, hD⟩ := hJ
        have hS := hS1
        clear hS1
        subst hw1
        refine xn_if_eq hx hb (by omega) (tgt := 37) dX4_readsHoles_22 (by decide) (fun kc22 => ?_) (fun kc22 => ?_)
        · refine lv_iinc (v := nI (i + 1)) (lv' := [(1, .int (nI (i + 1))), (0, .ref a)]) hx hb dX4_readsHoles_37 hl (k := 0) rfl (nI_add i 1) (by decide) rfl (fun ls hl => ?_)
          refine lv_goto (tgt := 7) hx hb dX4_readsHoles_40 (by decide) ?_
          have hW2 : ([(a, .inr (4, [.ref b, .int (nI L), .int (nI ((hoP T L np i) + bN (sgn T L (hoP T L np i) = (48 + i)))), .int (nI kd), .int (nI (hoF T L np i)), .int f2, .int (nI od), .int (nI fp), .int (nI fr), .int fc])), (b, .inl (y 0, 60, .inl sg))] : va_W) = [(a, .inr (4, [.ref b, .int (nI L), .int (nI (hoP T L np (i + 1))), .int (nI kd), .int (nI (hoF T L np (i + 1))), .int f2, .int (nI od), .int (nI fp), .int (nI fr), .int fc])), (b, .inl (y 0, 60, .inl sg))] := by first | (rw [show hoF T L np (i + 1) = hoF T L np i from by rw [hoF, if_neg (bN_0.mp kc22)]]; rfl) | (rw [show hoF T L np (i + 1) = hoF T L np i ||| 1 * 2 ^ i from by rw [hoF, if_pos (bN_n0.mp kc22)]]; rfl)
          exact ih7 (i + 1) (by omega) (by omega) _ _ (xP_eq hP hW2) (xD_eq hD hW2) hS ls (lv_sub hl [0, 1] rfl)
        · refine lv_aload_n hx hb dX4_readsHoles_25 rfl (lv_at hl 1 rfl) ?_
          refine lv_dup hx hb dX4_readsHoles_26 rfl ?_
          refine va_get (D := D) (ci := 4) (v := .int (nI (hoF T L np i))) (C := RX4) (T := TX4) (N := 10) hx hb hts hin_X4 hown hK.1 hP 0 rfl rfl 4 (by decide) f_65 (fun _ h9 => h9) rfl dX4_readsHoles_27 ?_
          refine lv_iconst (v := nI 1) hx hb dX4_readsHoles_30 (by decide) ?_
          refine lv_iload_n hx hb dX4_readsHoles_31 rfl (lv_at hl 0 rfl) ?_
          refine xn_shl hx hb (r := (1 * 2 ^ i)) (by omega) (by omega) rfl dX4_readsHoles_32 ?_
          refine xn_or hx hb (r := ((hoF T L np i) ||| (1 * 2 ^ i))) rfl dX4_readsHoles_33 ?_
          refine va_put (D := D) (ci := 4) (v := .int (nI ((hoF T L np i) ||| (1 * 2 ^ i)))) (ty := .int) (C := RX4) (T := TX4) (N := 10) hx hb hts hin_X4 tyX4 tyX4_ok nmX4 hown hK.1 hP hD hS 0 rfl rfl 4 (by decide) f_65 (fun _ h9 => h9) rfl (by decide +kernel) rfl rfl (Nat.le_of_ble_eq_true rfl) dX4_readsHoles_34 (fun H locs hP1 hD1 hS1 => ?_)
          clear hP hD hS
          have hP : va_P D vwCl [(a, .inr (4, [.ref b, .int (nI L), .int (nI ((hoP T L np i) + bN (sgn T L (hoP T L np i) = (48 + i)))), .int (nI kd), .int (nI ((hoF T L np i) ||| (1 * 2 ^ i))), .int f2, .int (nI od), .int (nI fp), .int (nI fr), .int fc])), (b, .inl (y 0, 60, .inl sg))] H := hP1
          have hD : va_D A [(a, .inr (4, [.ref b, .int (nI L), .int (nI ((hoP T L np i) + bN (sgn T L (hoP T L np i) = (48 + i)))), .int (nI kd), .int (nI ((hoF T L np i) ||| (1 * 2 ^ i))), .int f2, .int (nI od), .int (nI fp), .int (nI fr), .int fc])), (b, .inl (y 0, 60, .inl sg))] := hD1
          have hS := hS1
          clear hP1 hD1 hS1
          refine lv_iinc (v := nI (i + 1)) (lv' := [(1, .int (nI (i + 1))), (0, .ref a)]) hx hb dX4_readsHoles_37 hl (k := 0) rfl (nI_add i 1) (by decide) rfl (fun ls hl => ?_)
          refine lv_goto (tgt := 7) hx hb dX4_readsHoles_40 (by decide) ?_
          have hW3 : ([(a, .inr (4, [.ref b, .int (nI L), .int (nI ((hoP T L np i) + bN (sgn T L (hoP T L np i) = (48 + i)))), .int (nI kd), .int (nI ((hoF T L np i) ||| (1 * 2 ^ i))), .int f2, .int (nI od), .int (nI fp), .int (nI fr), .int fc])), (b, .inl (y 0, 60, .inl sg))] : va_W) = [(a, .inr (4, [.ref b, .int (nI L), .int (nI (hoP T L np (i + 1))), .int (nI kd), .int (nI (hoF T L np (i + 1))), .int f2, .int (nI od), .int (nI fp), .int (nI fr), .int fc])), (b, .inl (y 0, 60, .inl sg))] := by first | (rw [show hoF T L np (i + 1) = hoF T L np i from by rw [hoF, if_neg (bN_0.mp kc22)]]; rfl) | (rw [show hoF T L np (i + 1) = hoF T L np i ||| 1 * 2 ^ i from by rw [hoF, if_pos (bN_n0.mp kc22)]]; rfl)
          exact ih7 (i + 1) (by omega) (by omega) _ _ (xP_eq hP hW3) (xD_eq hD hW3) hS ls (lv_sub hl [0, 1] rfl)
  have hW4 : ([(a, .inr (4, [.ref b, .int (nI L), .int (nI np), .int (nI kd), .int (nI 0), .int f2, .int (nI od), .int (nI fp), .int (nI fr), .int fc])), (b, .inl (y 0, 60, .inl sg))] : va_W) = [(a, .inr (4, [.ref b, .int (nI L), .int (nI (hoP T L np 0)), .int (nI kd), .int (nI (hoF T L np 0)), .int f2, .int (nI od), .int (nI fp), .int (nI fr), .int fc])), (b, .inl (y 0, 60, .inl sg))] := rfl
  exact lp7 ((8 - 0) + 1) 0 (Nat.lt_succ_self _) (by omega) _ _ (xP_eq hP hW4) (xD_eq hD hW4) hS ls (lv_sub hl [0, 1] rfl)
set_option maxHeartbeats 8000000 in
set_option maxRecDepth 100000 in
theorem c_X4_readsOrder (l : Launch) (D : va_G) (y : Nat → ClassId) (a b : Nat) (sg : Nat → Int32) (T : Nat → Nat) (L : Nat) (hT : RepT T L sg) (np kd : Nat) (f1 f2 : Int32) (od fp fr : Nat) (fc : Int32) (hp : np < 2 ^ 28) : Met l yX4_readsOrder wsX4_readsOrder ({ frames := 4, cells := 0, slots := 0, locals := 82 }) (va_Pc [.ref a] (xPw D y [(a, .inr (4, [.ref b, .int (nI L), .int (nI np), .int (nI kd), .int f1, .int f2, .int (nI od), .int (nI fp), .int (nI fr), .int fc])), (b, .inl (y 0, 60, .inl sg))])) (va_Qi (fun r (u : Int32 × Int32) => r = nI (bN (orK T L np)) ∧ (orK T L np → (¬ sgn T L np = 116 → u.1 = nI (orX T L np)) ∧ (sgn T L np = 107 ∨ sgn T L np = 110 → u.2 = nI (orY T L np)))) (fun (u : Int32 × Int32) t => va_P D vwCl [(a, .inr (4, [.ref b, .int (nI L), .int (nI (orP T L np)), .int (nI (sgn T L np)), .int u.1, .int u.2, .int (nI od), .int (nI fp), .int (nI fr), .int fc])), (b, .inl (y 0, 60, .inl sg))] t.heap) (xIn [(a, .inr (4, [.ref b, .int (nI L), .int (nI np), .int (nI kd), .int f1, .int f2, .int (nI od), .int (nI fp), .int (nI fr), .int fc])), (b, .inl (y 0, 60, .inl sg))])) 0 0 (xIn [(a, .inr (4, [.ref b, .int (nI L), .int (nI np), .int (nI kd), .int f1, .int f2, .int (nI od), .int (nI fp), .int (nI fr), .int fc])), (b, .inl (y 0, 60, .inl sg))]) := by
  refine Met.ofW (cc := cX4_readsOrder) (maxL := 1) (ret := (some .boolean)) (by decide) rfl ?_
  intro p e s m args below meth c s₁ B hml hv
  obtain ⟨rfl, hP, hK, hD0⟩ := hv
  have hx := B.exec
  have hb := B.bytes
  have hr := B.returns
  have hts := atoms_spec (ws := wsX4_readsOrder) B.pre
  have hown : s.vm.findClass RX4 = some m.cls := findClass_of_methodNamed B.named
  have hlocks := B.notSynchronized
  have f_21 := hts (.fieldLink RX4 21 "LoomTunes$Script" "next" "I") (by decide +kernel)
  have f_48 := hts (.fieldLink RX4 48 "LoomTunes$Script" "kind" "C") (by decide +kernel)
  have hin_X4 : ∀ w ∈ wsX40, w ∈ wsX4_readsOrder := by decide +kernel
  have hD := xD_self hD0
  generalize hAe : xIn [(a, .inr (4, [.ref b, .int (nI L), .int (nI np), .int (nI kd), .int f1, .int f2, .int (nI od), .int (nI fp), .int (nI fr), .int fc])), (b, .inl (y 0, 60, .inl sg))] = A at hD ⊢
  have hS : va_S A s.heap s.heap [] := va_S.rf
  have hP : va_P D vwCl [(a, .inr (4, [.ref b, .int (nI L), .int (nI np), .int (nI kd), .int f1, .int f2, .int (nI od), .int (nI fp), .int (nI fr), .int fc])), (b, .inl (y 0, 60, .inl sg))] s.heap := hP
  have hl := lv_entry ([.ref a]) (n := 1) (Nat.le_of_ble_eq_true rfl)
  rw [lg_entry_eq]
  generalize (lg_sl ([.ref a]) ++ List.replicate (1 - (lg_sl ([.ref a])).length) Slot.unset).toArray = ls at hl ⊢
  have hl : lv_has ls 1 [(0, .ref a)] := hl
  generalize hQe : (MQ below (va_Qi (fun r (u : Int32 × Int32) => r = nI (bN (orK T L np)) ∧ (orK T L np → (¬ sgn T L np = 116 → u.1 = nI (orX T L np)) ∧ (sgn T L np = 107 ∨ sgn T L np = 110 → u.2 = nI (orY T L np)))) (fun (u : Int32 × Int32) t => va_P D vwCl [(a, .inr (4, [.ref b, .int (nI L), .int (nI (orP T L np)), .int (nI (sgn T L np)), .int u.1, .int u.2, .int (nI od), .int (nI fp), .int (nI fr), .int fc])), (b, .inl (y 0, 60, .inl sg))] t.heap) A) ([.ref a] : List Value).toArray s 0 0 A) = Q
  have hs0 := sgn_lt hT (p := np)
  have hpl := hoP_le (T := T) (L := L) (p := np + 1) 8
  have hnl := nuP_le (T := T) (L := L) (p := np + 1)
  have hnl2 := nuP_le (T := T) (L := L) (p := nuP T L (np + 1) + 1)
  have hb78 := bN_lt (c := ¬ hoF T L (np + 1) 8 = 0)
  have hb87 := bN_lt (c := sgn T L (hoP T L (np + 1) 8) = 59)
  have hb110 := bN_lt (c := dgt T L (np + 1))
  have hb119 := bN_lt (c := sgn T L (nuP T L (np + 1)) = 44)
  have hb126 := bN_lt (c := dgt T L (nuP T L (np + 1) + 1))
  have hb135 := bN_lt (c := sgn T L (nuP T L (nuP T L (np + 1) + 1)) = 59)
  have hb167 := bN_lt (c := sgn T L (nuP T L (np + 1)) = 59)
  refine lv_aload_n hx hb dX4_readsOrder_0 rfl (lv_at hl 0 rfl) ?_
  refine lv_aload_n hx hb dX4_readsOrder_1 rfl (lv_at hl 0 rfl) ?_
  refine xc_V (As := []) (rest := [.ref a]) ⟨hx, hb, hml, hown, hts⟩ (c_X4_signAtNext l D y a b sg T L hT np kd f1 f2 od fp fr fc (by omega) ) (cwV 0 hts gX4_readsOrder_X4_signAtNext rfl rfl rfl hd_X4_signAtNext ⟨Nat.le_of_ble_eq_true rfl, Nat.le_of_ble_eq_true rfl⟩) (xpv_r hK hP [0, 1] 0 rfl rfl rfl) rfl hl.1 rfl (Nat.le_of_ble_eq_true rfl) dX4_readsOrder_2 ⟨Nat.zero_le _, Nat.zero_le _⟩ (fun r1 hr1 => ?_)
  subst hr1
  refine va_put (D := D) (ci := 4) (v := .int (nI (sgn T L np))) (ty := .char) (C := RX4) (T := TX4) (N := 10) hx hb hts hin_X4 tyX4 tyX4_ok nmX4 hown hK.1 hP hD hS 0 rfl rfl 3 (by decide) f_48 (fun _ h9 => h9) rfl (by decide +kernel) (pk_charN (by omega)).1 (pk_charN (by omega)).2 (Nat.le_of_ble_eq_true rfl) dX4_readsOrder_5 (fun H locs hP1 hD1 hS1 => ?_)
  clear hP hD hS
  have hP : va_P D vwCl [(a, .inr (4, [.ref b, .int (nI L), .int (nI np), .int (nI (sgn T L np)), .int f1, .int f2, .int (nI od), .int (nI fp), .int (nI fr), .int fc])), (b, .inl (y 0, 60, .inl sg))] H := hP1
  have hD : va_D A [(a, .inr (4, [.ref b, .int (nI L), .int (nI np), .int (nI (sgn T L np)), .int f1, .int f2, .int (nI od), .int (nI fp), .int (nI fr), .int fc])), (b, .inl (y 0, 60, .inl sg))] := hD1
  have hS := hS1
  clear hP1 hD1 hS1
  refine lv_aload_n hx hb dX4_readsOrder_8 rfl (lv_at hl 0 rfl) ?_
  refine va_get (D := D) (ci := 4) (v := .int (nI (sgn T L np))) (C := RX4) (T := TX4) (N := 10) hx hb hts hin_X4 hown hK.1 hP 0 rfl rfl 3 (by decide) f_48 (fun _ h9 => h9) rfl dX4_readsOrder_9 ?_
  by_cases hk0 : (nI (sgn T L np)) = nI 99
  · refine lv_lookup (tgt := 64) (off := 52) hx hb dX4_readsOrder_12 (by decide) (by rw [hk0]; decide) (by decide) ?_
    have hc : sgn T L np = 99 := (nI_eq (by omega) (by decide)).mp hk0
    refine lv_aload_n hx hb dX4_readsOrder_64 rfl (lv_at hl 0 rfl) ?_
    refine lv_dup hx hb dX4_readsOrder_65 rfl ?_
    refine va_get (D := D) (ci := 4) (v := .int (nI np)) (C := RX4) (T := TX4) (N := 10) hx hb hts hin_X4 hown hK.1 hP 0 rfl rfl 2 (by decide) f_21 (fun _ h9 => h9) rfl dX4_readsOrder_66 ?_
    refine lv_iconst (v := nI 1) hx hb dX4_readsOrder_69 (by decide) ?_
    refine xn_add hx hb (r := (np + 1)) rfl dX4_readsOrder_70 ?_
    refine va_put (D := D) (ci := 4) (v := .int (nI (np + 1))) (ty := .int) (C := RX4) (T := TX4) (N := 10) hx hb hts hin_X4 tyX4 tyX4_ok nmX4 hown hK.1 hP hD hS 0 rfl rfl 2 (by decide) f_21 (fun _ h9 => h9) rfl (by decide +kernel) rfl rfl (Nat.le_of_ble_eq_true rfl) dX4_readsOrder_71 (fun H locs hP1 hD1 hS1 => ?_)
    clear hP hD hS
    have hP : va_P D vwCl [(a, .inr (4, [.ref b, .int (nI L), .int (nI (np + 1)), .int (nI (sgn T L np)), .int f1, .int f2, .int (nI od), .int (nI fp), .int (nI fr), .int fc])), (b, .inl (y 0, 60, .inl sg))] H := hP1
    have hD : va_D A [(a, .inr (4, [.ref b, .int (nI L), .int (nI (np + 1)), .int (nI (sgn T L np)), .int f1, .int f2, .int (nI od), .int (nI fp), .int (nI fr), .int fc])), (b, .inl (y 0, 60, .inl sg))] := hD1
    have hS := hS1
    clear hP1 hD1 hS1
    refine lv_aload_n hx hb dX4_readsOrder_74 rfl (lv_at hl 0 rfl) ?_
    have hFc := xD_in (W0 := [(a, .inr (4, [.ref b, .int (nI L), .int (nI (np + 1)), .int (nI (sgn T L np)), .int f1, .int f2, .int (nI od), .int (nI fp), .int (nI fr), .int fc])), (b, .inl (y 0, 60, .inl sg))]) hD [0, 1] rfl
    refine va_calli (va_runV (As := []) (rest := []) ⟨hx, hb, hml, hown, hts⟩ (c_X4_readsHoles l D y a b sg T L hT (np + 1) (sgn T L np) f1 f2 od fp fr fc (by omega) ) (cwV 0 hts gX4_readsOrder_X4_readsHoles rfl rfl rfl hd_X4_readsHoles ⟨Nat.le_of_ble_eq_true rfl, Nat.le_of_ble_eq_true rfl⟩) (xpv_w hK hP hD [0, 1] 0 rfl rfl rfl rfl rfl) rfl rfl hl.1 rfl (lv_room (Nat.le_of_ble_eq_true rfl)) dX4_readsOrder_75 ⟨Nat.zero_le _, Nat.zero_le _⟩) hS (fun q _ h => hFc q h) hFc (fun r2 u2 t H locs ht hvm hw2 hB hz1 hk1 hS1 => ?_)
    have hB : va_P D vwCl [(a, .inr (4, [.ref b, .int (nI L), .int (nI (hoP T L (np + 1) 8)), .int (nI (sgn T L np)), .int (nI (hoF T L (np + 1) 8)), .int f2, .int (nI od), .int (nI fp), .int (nI fr), .int fc])), (b, .inl (y 0, 60, .inl sg))] t.heap := hB
    rw [ht] at hB
    have hw2 : r2 = nI (bN (¬ hoF T L (np + 1) 8 = 0)) := hw2
    have hJ := xj_join (ws2 := [(a, .inr (4, [.ref b, .int (nI L), .int (nI (hoP T L (np + 1) 8)), .int (nI (sgn T L np)), .int (nI (hoF T L (np + 1) 8)), .int f2, .int (nI od), .int (nI fp), .int (nI fr), .int fc])), (b, .inl (y 0, 60, .inl sg))]) hP hD [0, 1] [] rfl rfl rfl rfl rfl rfl hk1 hB
    clear hP hD hS hB hk1 hz1 hFc hvm ht
    obtain ⟨hP, hD⟩ := hJ
    have hS := hS1
    clear hS1
    subst hw2
    refine xn_if_eq hx hb (by omega) (tgt := 94) dX4_readsOrder_78 (by decide) (fun kc78 => ?_) (fun kc78 => ?_)
    · refine lv_iconst (v := nI 0) hx hb dX4_readsOrder_94 (by decide) ?_
      have hd1 := Classical.not_not.mp (bN_0.mp kc78)
      have hno : ¬ orK T L np := fun hk => ((orK_99 hc).mp hk).1 hd1
      subst hQe
      exact xw_z hx hb hr hlocks (nI (hoF T L (np + 1) 8), f2) hS dX4_readsOrder_95 (by omega) (⟨congrArg nI (bN_f (c := orK T L np) hno).symm, fun hk => absurd hk hno⟩) (fun t ht => by rw [ht]; exact (by rw [orP_99 hc, if_pos hd1]; exact hP))
    · refine lv_aload_n hx hb dX4_readsOrder_81 rfl (lv_at hl 0 rfl) ?_
      refine lv_bipush (v := nI 59) hx hb dX4_readsOrder_82 (by decide) ?_
      have hFc := xD_in (W0 := [(a, .inr (4, [.ref b, .int (nI L), .int (nI (hoP T L (np + 1) 8)), .int (nI (sgn T L np)), .int (nI (hoF T L (np + 1) 8)), .int f2, .int (nI od), .int (nI fp), .int (nI fr), .int fc])), (b, .inl (y 0, 60, .inl sg))]) hD [0, 1] rfl
      refine va_calli (va_runV (As := [.int (nI 59)]) (rest := []) ⟨hx, hb, hml, hown, hts⟩ (c_X4_reads l D y a b sg T L hT (hoP T L (np + 1) 8) (sgn T L np) (nI (hoF T L (np + 1) 8)) f2 od fp fr fc (by omega) 59 (by omega)) (cwV 1 hts gX4_readsOrder_X4_reads rfl rfl rfl hd_X4_reads ⟨Nat.le_of_ble_eq_true rfl, Nat.le_of_ble_eq_true rfl⟩) (xpv_w hK hP hD [0, 1] 0 rfl rfl rfl rfl rfl) rfl rfl hl.1 rfl (lv_room (Nat.le_of_ble_eq_true rfl)) dX4_readsOrder_84 ⟨Nat.zero_le _, Nat.zero_le _⟩) hS (fun q _ h => hFc q h) hFc (fun r3 u3 t H locs ht hvm hw3 hB hz1 hk1 hS1 => ?_)
      have hB : va_P D vwCl [(a, .inr (4, [.ref b, .int (nI L), .int (nI ((hoP T L (np + 1) 8) + bN (sgn T L (hoP T L (np + 1) 8) = 59))), .int (nI (sgn T L np)), .int (nI (hoF T L (np + 1) 8)), .int f2, .int (nI od), .int (nI fp), .int (nI fr), .int fc])), (b, .inl (y 0, 60, .inl sg))] t.heap := hB
      rw [ht] at hB
      have hw3 : r3 = nI (bN (sgn T L (hoP T L (np + 1) 8) = 59)) := hw3
      have hJ := xj_join (ws2 := [(a, .inr (4, [.ref b, .int (nI L), .int (nI ((hoP T L (np + 1) 8) + bN (sgn T L (hoP T L (np + 1) 8) = 59))), .int (nI (sgn T L np)), .int (nI (hoF T L (np + 1) 8)), .int f2, .int (nI od), .int (nI fp), .int (nI fr), .int fc])), (b, .inl (y 0, 60, .inl sg))]) hP hD [0, 1] [] rfl rfl rfl rfl rfl rfl hk1 hB
      clear hP hD hS hB hk1 hz1 hFc hvm ht
      obtain ⟨hP, hD⟩ := hJ
      have hS := hS1
      clear hS1
      subst hw3
      refine xn_if_eq hx hb (by omega) (tgt := 94) dX4_readsOrder_87 (by decide) (fun kc87 => ?_) (fun kc87 => ?_)
      · refine lv_iconst (v := nI 0) hx hb dX4_readsOrder_94 (by decide) ?_
        have hd1 := bN_n0.mp kc78
        have hno : ¬ orK T L np := fun hk => (bN_0.mp kc87) ((orK_99 hc).mp hk).2
        subst hQe
        exact xw_z hx hb hr hlocks (nI (hoF T L (np + 1) 8), f2) hS dX4_readsOrder_95 (by omega) (⟨congrArg nI (bN_f (c := orK T L np) hno).symm, fun hk => absurd hk hno⟩) (fun t ht => by rw [ht]; exact (by rw [orP_99 hc, if_neg hd1]; exact hP))
      · refine lv_iconst (v := nI 1) hx hb dX4_readsOrder_90 (by decide) ?_
        refine lv_goto (tgt := 95) hx hb dX4_readsOrder_91 (by decide) ?_
        have hd1 := bN_n0.mp kc78
        have hyes : orK T L np := (orK_99 hc).mpr ⟨hd1, bN_n0.mp kc87⟩
        subst hQe
        exact xw_z hx hb hr hlocks (nI (hoF T L (np + 1) 8), f2) hS dX4_readsOrder_95 (by omega) (⟨congrArg nI (bN_t (c := orK T L np) hyes).symm, fun _ => ⟨fun _ => by unfold orX; rw [if_pos hc], fun hq => absurd hq (by omega)⟩⟩) (fun t ht => by rw [ht]; exact (by rw [orP_99 hc, if_neg hd1]; exact hP))
  by_cases hk1 : (nI (sgn T L np)) = nI 107
  · refine lv_lookup (tgt := 96) (off := 84) hx hb dX4_readsOrder_12 (by decide) (by rw [hk1]; decide) (by decide) ?_
    have hc : sgn T L np = 107 ∨ sgn T L np = 110 := Or.inl ((nI_eq (by omega) (by decide)).mp hk1)
    refine lv_aload_n hx hb dX4_readsOrder_96 rfl (lv_at hl 0 rfl) ?_
    refine lv_dup hx hb dX4_readsOrder_97 rfl ?_
    refine va_get (D := D) (ci := 4) (v := .int (nI np)) (C := RX4) (T := TX4) (N := 10) hx hb hts hin_X4 hown hK.1 hP 0 rfl rfl 2 (by decide) f_21 (fun _ h9 => h9) rfl dX4_readsOrder_98 ?_
    refine lv_iconst (v := nI 1) hx hb dX4_readsOrder_101 (by decide) ?_
    refine xn_add hx hb (r := (np + 1)) rfl dX4_readsOrder_102 ?_
    refine va_put (D := D) (ci := 4) (v := .int (nI (np + 1))) (ty := .int) (C := RX4) (T := TX4) (N := 10) hx hb hts hin_X4 tyX4 tyX4_ok nmX4 hown hK.1 hP hD hS 0 rfl rfl 2 (by decide) f_21 (fun _ h9 => h9) rfl (by decide +kernel) rfl rfl (Nat.le_of_ble_eq_true rfl) dX4_readsOrder_103 (fun H locs hP1 hD1 hS1 => ?_)
    clear hP hD hS
    have hP : va_P D vwCl [(a, .inr (4, [.ref b, .int (nI L), .int (nI (np + 1)), .int (nI (sgn T L np)), .int f1, .int f2, .int (nI od), .int (nI fp), .int (nI fr), .int fc])), (b, .inl (y 0, 60, .inl sg))] H := hP1
    have hD : va_D A [(a, .inr (4, [.ref b, .int (nI L), .int (nI (np + 1)), .int (nI (sgn T L np)), .int f1, .int f2, .int (nI od), .int (nI fp), .int (nI fr), .int fc])), (b, .inl (y 0, 60, .inl sg))] := hD1
    have hS := hS1
    clear hP1 hD1 hS1
    refine lv_aload_n hx hb dX4_readsOrder_106 rfl (lv_at hl 0 rfl) ?_
    have hFc := xD_in (W0 := [(a, .inr (4, [.ref b, .int (nI L), .int (nI (np + 1)), .int (nI (sgn T L np)), .int f1, .int f2, .int (nI od), .int (nI fp), .int (nI fr), .int fc])), (b, .inl (y 0, 60, .inl sg))]) hD [0, 1] rfl
    refine va_calli (va_runV (As := []) (rest := []) ⟨hx, hb, hml, hown, hts⟩ (c_X4_readsFirst l D y a b sg T L hT (np + 1) (sgn T L np) f1 f2 od fp fr fc (by omega) ) (cwV 0 hts gX4_readsOrder_X4_readsFirst rfl rfl rfl hd_X4_readsFirst ⟨Nat.le_of_ble_eq_true rfl, Nat.le_of_ble_eq_true rfl⟩) (xpv_w hK hP hD [0, 1] 0 rfl rfl rfl rfl rfl) rfl rfl hl.1 rfl (lv_room (Nat.le_of_ble_eq_true rfl)) dX4_readsOrder_107 ⟨Nat.zero_le _, Nat.zero_le _⟩) hS (fun q _ h => hFc q h) hFc (fun r4 u4 t H locs ht hvm hw4 hB hz1 hk1 hS1 => ?_)
    have hB : va_P D vwCl [(a, .inr (4, [.ref b, .int (nI L), .int (nI (nuP T L (np + 1))), .int (nI (sgn T L np)), .int (nuI T L (np + 1)), .int f2, .int (nI od), .int (nI fp), .int (nI fr), .int fc])), (b, .inl (y 0, 60, .inl sg))] t.heap := hB
    rw [ht] at hB
    have hw4 : r4 = nI (bN (dgt T L (np + 1))) := hw4
    have hJ := xj_join (ws2 := [(a, .inr (4, [.ref b, .int (nI L), .int (nI (nuP T L (np + 1))), .int (nI (sgn T L np)), .int (nuI T L (np + 1)), .int f2, .int (nI od), .int (nI fp), .int (nI fr), .int fc])), (b, .inl (y 0, 60, .inl sg))]) hP hD [0, 1] [] rfl rfl rfl rfl rfl rfl hk1 hB
    clear hP hD hS hB hk1 hz1 hFc hvm ht
    obtain ⟨hP, hD⟩ := hJ
    have hS := hS1
    clear hS1
    subst hw4
    refine xn_if_eq hx hb (by omega) (tgt := 142) dX4_readsOrder_110 (by decide) (fun kc110 => ?_) (fun kc110 => ?_)
    · refine lv_iconst (v := nI 0) hx hb dX4_readsOrder_142 (by decide) ?_
      have hd1 := bN_0.mp kc110
      have hno : ¬ orK T L np := fun hk => hd1 ((orK_2 hc).mp hk).1
      rw [nuP_n hd1] at hP
      subst hQe
      exact xw_z hx hb hr hlocks (nuI T L (np + 1), f2) hS dX4_readsOrder_143 (by omega) (⟨congrArg nI (bN_f (c := orK T L np) hno).symm, fun hk => absurd hk hno⟩) (fun t ht => by rw [ht]; exact (by rw [orP_2 hc, n2P_f hd1]; exact hP))
    · refine lv_aload_n hx hb dX4_readsOrder_113 rfl (lv_at hl 0 rfl) ?_
      refine lv_bipush (v := nI 44) hx hb dX4_readsOrder_114 (by decide) ?_
      have hFc := xD_in (W0 := [(a, .inr (4, [.ref b, .int (nI L), .int (nI (nuP T L (np + 1))), .int (nI (sgn T L np)), .int (nuI T L (np + 1)), .int f2, .int (nI od), .int (nI fp), .int (nI fr), .int fc])), (b, .inl (y 0, 60, .inl sg))]) hD [0, 1] rfl
      refine va_calli (va_runV (As := [.int (nI 44)]) (rest := []) ⟨hx, hb, hml, hown, hts⟩ (c_X4_reads l D y a b sg T L hT (nuP T L (np + 1)) (sgn T L np) (nuI T L (np + 1)) f2 od fp fr fc (by omega) 44 (by omega)) (cwV 1 hts gX4_readsOrder_X4_reads rfl rfl rfl hd_X4_reads ⟨Nat.le_of_ble_eq_true rfl, Nat.le_of_ble_eq_true rfl⟩) (xpv_w hK hP hD [0, 1] 0 rfl rfl rfl rfl rfl) rfl rfl hl.1 rfl (lv_room (Nat.le_of_ble_eq_true rfl)) dX4_readsOrder_116 ⟨Nat.zero_le _, Nat.zero_le _⟩) hS (fun q _ h => hFc q h) hFc (fun r5 u5 t H locs ht hvm hw5 hB hz1 hk1 hS1 => ?_)
      have hB : va_P D vwCl [(a, .inr (4, [.ref b, .int (nI L), .int (nI ((nuP T L (np + 1)) + bN (sgn T L (nuP T L (np + 1)) = 44))), .int (nI (sgn T L np)), .int (nuI T L (np + 1)), .int f2, .int (nI od), .int (nI fp), .int (nI fr), .int fc])), (b, .inl (y 0, 60, .inl sg))] t.heap := hB
      rw [ht] at hB
      have hw5 : r5 = nI (bN (sgn T L (nuP T L (np + 1)) = 44)) := hw5
      have hJ := xj_join (ws2 := [(a, .inr (4, [.ref b, .int (nI L), .int (nI ((nuP T L (np + 1)) + bN (sgn T L (nuP T L (np + 1)) = 44))), .int (nI (sgn T L np)), .int (nuI T L (np + 1)), .int f2, .int (nI od), .int (nI fp), .int (nI fr), .int fc])), (b, .inl (y 0, 60, .inl sg))]) hP hD [0, 1] [] rfl rfl rfl rfl rfl rfl hk1 hB
      clear hP hD hS hB hk1 hz1 hFc hvm ht
      obtain ⟨hP, hD⟩ := hJ
      have hS := hS1
      clear hS1
      subst hw5
      refine xn_if_eq hx hb (by omega) (tgt := 142) dX4_readsOrder_119 (by decide) (fun kc119 => ?_) (fun kc119 => ?_)
      · refine lv_iconst (v := nI 0) hx hb dX4_readsOrder_142 (by decide) ?_
        have hd1 := bN_n0.mp kc110
        have hd2 := bN_0.mp kc119
        have hno : ¬ orK T L np := fun hk => hd2 ((orK_2 hc).mp hk).2.1
        rw [bN_f hd2] at hP
        subst hQe
        exact xw_z hx hb hr hlocks (nuI T L (np + 1), f2) hS dX4_readsOrder_143 (by omega) (⟨congrArg nI (bN_f (c := orK T L np) hno).symm, fun hk => absurd hk hno⟩) (fun t ht => by rw [ht]; exact (by rw [orP_2 hc, n2P_c hd1 hd2]; exact hP))
      · have hb9 := bN_t (bN_n0.mp kc119)
        rw [hb9] at hP hD
        replace hP : va_P D vwCl [(a, .inr (4, [.ref b, .int (nI L), .int (nI (nuP T L (np + 1) + 1)), .int (nI (sgn T L np)), .int (nuI T L (np + 1)), .int f2, .int (nI od), .int (nI fp), .int (nI fr), .int fc])), (b, .inl (y 0, 60, .inl sg))] H := hP
        replace hD : va_D A [(a, .inr (4, [.ref b, .int (nI L), .int (nI (nuP T L (np + 1) + 1)), .int (nI (sgn T L np)), .int (nuI T L (np + 1)), .int f2, .int (nI od), .int (nI fp), .int (nI fr), .int fc])), (b, .inl (y 0, 60, .inl sg))] := hD
        refine lv_aload_n hx hb dX4_readsOrder_122 rfl (lv_at hl 0 rfl) ?_
        have hFc := xD_in (W0 := [(a, .inr (4, [.ref b, .int (nI L), .int (nI (nuP T L (np + 1) + 1)), .int (nI (sgn T L np)), .int (nuI T L (np + 1)), .int f2, .int (nI od), .int (nI fp), .int (nI fr), .int fc])), (b, .inl (y 0, 60, .inl sg))]) hD [0, 1] rfl
        refine va_calli (va_runV (As := []) (rest := []) ⟨hx, hb, hml, hown, hts⟩ (c_X4_readsSecond l D y a b sg T L hT (nuP T L (np + 1) + 1) (sgn T L np) (nuI T L (np + 1)) f2 od fp fr fc (by omega) ) (cwV 0 hts gX4_readsOrder_X4_readsSecond rfl rfl rfl hd_X4_readsSecond ⟨Nat.le_of_ble_eq_true rfl, Nat.le_of_ble_eq_true rfl⟩) (xpv_w hK hP hD [0, 1] 0 rfl rfl rfl rfl rfl) rfl rfl hl.1 rfl (lv_room (Nat.le_of_ble_eq_true rfl)) dX4_readsOrder_123 ⟨Nat.zero_le _, Nat.zero_le _⟩) hS (fun q _ h => hFc q h) hFc (fun r6 u6 t H locs ht hvm hw6 hB hz1 hk1 hS1 => ?_)
        have hB : va_P D vwCl [(a, .inr (4, [.ref b, .int (nI L), .int (nI (nuP T L (nuP T L (np + 1) + 1))), .int (nI (sgn T L np)), .int (nuI T L (np + 1)), .int (nuI T L (nuP T L (np + 1) + 1)), .int (nI od), .int (nI fp), .int (nI fr), .int fc])), (b, .inl (y 0, 60, .inl sg))] t.heap := hB
        rw [ht] at hB
        have hw6 : r6 = nI (bN (dgt T L (nuP T L (np + 1) + 1))) := hw6
        have hJ := xj_join (ws2 := [(a, .inr (4, [.ref b, .int (nI L), .int (nI (nuP T L (nuP T L (np + 1) + 1))), .int (nI (sgn T L np)), .int (nuI T L (np + 1)), .int (nuI T L (nuP T L (np + 1) + 1)), .int (nI od), .int (nI fp), .int (nI fr), .int fc])), (b, .inl (y 0, 60, .inl sg))]) hP hD [0, 1] [] rfl rfl rfl rfl rfl rfl hk1 hB
        clear hP hD hS hB hk1 hz1 hFc hvm ht
        obtain ⟨hP, hD⟩ := hJ
        have hS := hS1
        clear hS1
        subst hw6
        refine xn_if_eq hx hb (by omega) (tgt := 142) dX4_readsOrder_126 (by decide) (fun kc126 => ?_) (fun kc126 => ?_)
        · refine lv_iconst (v := nI 0) hx hb dX4_readsOrder_142 (by decide) ?_
          have hd1 := bN_n0.mp kc110
          have hd2 := bN_n0.mp kc119
          have hd3 := bN_0.mp kc126
          have hno : ¬ orK T L np := fun hk => hd3 ((orK_2 hc).mp hk).2.2.1
          rw [nuP_n hd3] at hP
          subst hQe
          exact xw_z hx hb hr hlocks (nuI T L (np + 1), nuI T L (nuP T L (np + 1) + 1)) hS dX4_readsOrder_143 (by omega) (⟨congrArg nI (bN_f (c := orK T L np) hno).symm, fun hk => absurd hk hno⟩) (fun t ht => by rw [ht]; exact (by rw [orP_2 hc, n2P_t hd1 hd2, n1P_f hd3]; exact hP))
        · refine lv_aload_n hx hb dX4_readsOrder_129 rfl (lv_at hl 0 rfl) ?_
          refine lv_bipush (v := nI 59) hx hb dX4_readsOrder_130 (by decide) ?_
          have hFc := xD_in (W0 := [(a, .inr (4, [.ref b, .int (nI L), .int (nI (nuP T L (nuP T L (np + 1) + 1))), .int (nI (sgn T L np)), .int (nuI T L (np + 1)), .int (nuI T L (nuP T L (np + 1) + 1)), .int (nI od), .int (nI fp), .int (nI fr), .int fc])), (b, .inl (y 0, 60, .inl sg))]) hD [0, 1] rfl
          refine va_calli (va_runV (As := [.int (nI 59)]) (rest := []) ⟨hx, hb, hml, hown, hts⟩ (c_X4_reads l D y a b sg T L hT (nuP T L (nuP T L (np + 1) + 1)) (sgn T L np) (nuI T L (np + 1)) (nuI T L (nuP T L (np + 1) + 1)) od fp fr fc (by omega) 59 (by omega)) (cwV 1 hts gX4_readsOrder_X4_reads rfl rfl rfl hd_X4_reads ⟨Nat.le_of_ble_eq_true rfl, Nat.le_of_ble_eq_true rfl⟩) (xpv_w hK hP hD [0, 1] 0 rfl rfl rfl rfl rfl) rfl rfl hl.1 rfl (lv_room (Nat.le_of_ble_eq_true rfl)) dX4_readsOrder_132 ⟨Nat.zero_le _, Nat.zero_le _⟩) hS (fun q _ h => hFc q h) hFc (fun r7 u7 t H locs ht hvm hw7 hB hz1 hk1 hS1 => ?_)
          have hB : va_P D vwCl [(a, .inr (4, [.ref b, .int (nI L), .int (nI ((nuP T L (nuP T L (np + 1) + 1)) + bN (sgn T L (nuP T L (nuP T L (np + 1) + 1)) = 59))), .int (nI (sgn T L np)), .int (nuI T L (np + 1)), .int (nuI T L (nuP T L (np + 1) + 1)), .int (nI od), .int (nI fp), .int (nI fr), .int fc])), (b, .inl (y 0, 60, .inl sg))] t.heap := hB
          rw [ht] at hB
          have hw7 : r7 = nI (bN (sgn T L (nuP T L (nuP T L (np + 1) + 1)) = 59)) := hw7
          have hJ := xj_join (ws2 := [(a, .inr (4, [.ref b, .int (nI L), .int (nI ((nuP T L (nuP T L (np + 1) + 1)) + bN (sgn T L (nuP T L (nuP T L (np + 1) + 1)) = 59))), .int (nI (sgn T L np)), .int (nuI T L (np + 1)), .int (nuI T L (nuP T L (np + 1) + 1)), .int (nI od), .int (nI fp), .int (nI fr), .int fc])), (b, .inl (y 0, 60, .inl sg))]) hP hD [0, 1] [] rfl rfl rfl rfl rfl rfl hk1 hB
          clear hP hD hS hB hk1 hz1 hFc hvm ht
          obtain ⟨hP, hD⟩ := hJ
          have hS := hS1
          clear hS1
          subst hw7
          refine xn_if_eq hx hb (by omega) (tgt := 142) dX4_readsOrder_135 (by decide) (fun kc135 => ?_) (fun kc135 => ?_)
          · refine lv_iconst (v := nI 0) hx hb dX4_readsOrder_142 (by decide) ?_
            have hd1 := bN_n0.mp kc110
            have hd2 := bN_n0.mp kc119
            have hd3 := bN_n0.mp kc126
            have hno : ¬ orK T L np := fun hk => (bN_0.mp kc135) ((orK_2 hc).mp hk).2.2.2
            subst hQe
            exact xw_z hx hb hr hlocks (nuI T L (np + 1), nuI T L (nuP T L (np + 1) + 1)) hS dX4_readsOrder_143 (by omega) (⟨congrArg nI (bN_f (c := orK T L np) hno).symm, fun hk => absurd hk hno⟩) (fun t ht => by rw [ht]; exact (by rw [orP_2 hc, n2P_t hd1 hd2, n1P_t hd3]; exact hP))
          · refine lv_iconst (v := nI 1) hx hb dX4_readsOrder_138 (by decide) ?_
            refine lv_goto (tgt := 143) hx hb dX4_readsOrder_139 (by decide) ?_
            have hd1 := bN_n0.mp kc110
            have hd2 := bN_n0.mp kc119
            have hd3 := bN_n0.mp kc126
            have hyes : orK T L np := (orK_2 hc).mpr ⟨hd1, hd2, hd3, bN_n0.mp kc135⟩
            subst hQe
            exact xw_z hx hb hr hlocks (nuI T L (np + 1), nuI T L (nuP T L (np + 1) + 1)) hS dX4_readsOrder_143 (by omega) (⟨congrArg nI (bN_t (c := orK T L np) hyes).symm, fun _ => ⟨fun _ => by unfold orX; rw [if_neg (by omega), nuI_d hd1], fun _ => nuI_d hd3⟩⟩) (fun t ht => by rw [ht]; exact (by rw [orP_2 hc, n2P_t hd1 hd2, n1P_t hd3]; exact hP))
  by_cases hk2 : (nI (sgn T L np)) = nI 110
  · refine lv_lookup (tgt := 96) (off := 84) hx hb dX4_readsOrder_12 (by decide) (by rw [hk2]; decide) (by decide) ?_
    have hc : sgn T L np = 107 ∨ sgn T L np = 110 := Or.inr ((nI_eq (by omega) (by decide)).mp hk2)
    refine lv_aload_n hx hb dX4_readsOrder_96 rfl (lv_at hl 0 rfl) ?_
    refine lv_dup hx hb dX4_readsOrder_97 rfl ?_
    refine va_get (D := D) (ci := 4) (v := .int (nI np)) (C := RX4) (T := TX4) (N := 10) hx hb hts hin_X4 hown hK.1 hP 0 rfl rfl 2 (by decide) f_21 (fun _ h9 => h9) rfl dX4_readsOrder_98 ?_
    refine lv_iconst (v := nI 1) hx hb dX4_readsOrder_101 (by decide) ?_
    refine xn_add hx hb (r := (np + 1)) rfl dX4_readsOrder_102 ?_
    refine va_put (D := D) (ci := 4) (v := .int (nI (np + 1))) (ty := .int) (C := RX4) (T := TX4) (N := 10) hx hb hts hin_X4 tyX4 tyX4_ok nmX4 hown hK.1 hP hD hS 0 rfl rfl 2 (by decide) f_21 (fun _ h9 => h9) rfl (by decide +kernel) rfl rfl (Nat.le_of_ble_eq_true rfl) dX4_readsOrder_103 (fun H locs hP1 hD1 hS1 => ?_)
    clear hP hD hS
    have hP : va_P D vwCl [(a, .inr (4, [.ref b, .int (nI L), .int (nI (np + 1)), .int (nI (sgn T L np)), .int f1, .int f2, .int (nI od), .int (nI fp), .int (nI fr), .int fc])), (b, .inl (y 0, 60, .inl sg))] H := hP1
    have hD : va_D A [(a, .inr (4, [.ref b, .int (nI L), .int (nI (np + 1)), .int (nI (sgn T L np)), .int f1, .int f2, .int (nI od), .int (nI fp), .int (nI fr), .int fc])), (b, .inl (y 0, 60, .inl sg))] := hD1
    have hS := hS1
    clear hP1 hD1 hS1
    refine lv_aload_n hx hb dX4_readsOrder_106 rfl (lv_at hl 0 rfl) ?_
    have hFc := xD_in (W0 := [(a, .inr (4, [.ref b, .int (nI L), .int (nI (np + 1)), .int (nI (sgn T L np)), .int f1, .int f2, .int (nI od), .int (nI fp), .int (nI fr), .int fc])), (b, .inl (y 0, 60, .inl sg))]) hD [0, 1] rfl
    refine va_calli (va_runV (As := []) (rest := []) ⟨hx, hb, hml, hown, hts⟩ (c_X4_readsFirst l D y a b sg T L hT (np + 1) (sgn T L np) f1 f2 od fp fr fc (by omega) ) (cwV 0 hts gX4_readsOrder_X4_readsFirst rfl rfl rfl hd_X4_readsFirst ⟨Nat.le_of_ble_eq_true rfl, Nat.le_of_ble_eq_true rfl⟩) (xpv_w hK hP hD [0, 1] 0 rfl rfl rfl rfl rfl) rfl rfl hl.1 rfl (lv_room (Nat.le_of_ble_eq_true rfl)) dX4_readsOrder_107 ⟨Nat.zero_le _, Nat.zero_le _⟩) hS (fun q _ h => hFc q h) hFc (fun r8 u8 t H locs ht hvm hw8 hB hz1 hk1 hS1 => ?_)
    have hB : va_P D vwCl [(a, .inr (4, [.ref b, .int (nI L), .int (nI (nuP T L (np + 1))), .int (nI (sgn T L np)), .int (nuI T L (np + 1)), .int f2, .int (nI od), .int (nI fp), .int (nI fr), .int fc])), (b, .inl (y 0, 60, .inl sg))] t.heap := hB
    rw [ht] at hB
    have hw8 : r8 = nI (bN (dgt T L (np + 1))) := hw8
    have hJ := xj_join (ws2 := [(a, .inr (4, [.ref b, .int (nI L), .int (nI (nuP T L (np + 1))), .int (nI (sgn T L np)), .int (nuI T L (np + 1)), .int f2, .int (nI od), .int (nI fp), .int (nI fr), .int fc])), (b, .inl (y 0, 60, .inl sg))]) hP hD [0, 1] [] rfl rfl rfl rfl rfl rfl hk1 hB
    clear hP hD hS hB hk1 hz1 hFc hvm ht
    obtain ⟨hP, hD⟩ := hJ
    have hS := hS1
    clear hS1
    subst hw8
    refine xn_if_eq hx hb (by omega) (tgt := 142) dX4_readsOrder_110 (by decide) (fun kc110 => ?_) (fun kc110 => ?_)
    · refine lv_iconst (v := nI 0) hx hb dX4_readsOrder_142 (by decide) ?_
      have hd1 := bN_0.mp kc110
      have hno : ¬ orK T L np := fun hk => hd1 ((orK_2 hc).mp hk).1
      rw [nuP_n hd1] at hP
      subst hQe
      exact xw_z hx hb hr hlocks (nuI T L (np + 1), f2) hS dX4_readsOrder_143 (by omega) (⟨congrArg nI (bN_f (c := orK T L np) hno).symm, fun hk => absurd hk hno⟩) (fun t ht => by rw [ht]; exact (by rw [orP_2 hc, n2P_f hd1]; exact hP))
    · refine lv_aload_n hx hb dX4_readsOrder_113 rfl (lv_at hl 0 rfl) ?_
      refine lv_bipush (v := nI 44) hx hb dX4_readsOrder_114 (by decide) ?_
      have hFc := xD_in (W0 := [(a, .inr (4, [.ref b, .int (nI L), .int (nI (nuP T L (np + 1))), .int (nI (sgn T L np)), .int (nuI T L (np + 1)), .int f2, .int (nI od), .int (nI fp), .int (nI fr), .int fc])), (b, .inl (y 0, 60, .inl sg))]) hD [0, 1] rfl
      refine va_calli (va_runV (As := [.int (nI 44)]) (rest := []) ⟨hx, hb, hml, hown, hts⟩ (c_X4_reads l D y a b sg T L hT (nuP T L (np + 1)) (sgn T L np) (nuI T L (np + 1)) f2 od fp fr fc (by omega) 44 (by omega)) (cwV 1 hts gX4_readsOrder_X4_reads rfl rfl rfl hd_X4_reads ⟨Nat.le_of_ble_eq_true rfl, Nat.le_of_ble_eq_true rfl⟩) (xpv_w hK hP hD [0, 1] 0 rfl rfl rfl rfl rfl) rfl rfl hl.1 rfl (lv_room (Nat.le_of_ble_eq_true rfl)) dX4_readsOrder_116 ⟨Nat.zero_le _, Nat.zero_le _⟩) hS (fun q _ h => hFc q h) hFc (fun r9 u9 t H locs ht hvm hw9 hB hz1 hk1 hS1 => ?_)
      have hB : va_P D vwCl [(a, .inr (4, [.ref b, .int (nI L), .int (nI ((nuP T L (np + 1)) + bN (sgn T L (nuP T L (np + 1)) = 44))), .int (nI (sgn T L np)), .int (nuI T L (np + 1)), .int f2, .int (nI od), .int (nI fp), .int (nI fr), .int fc])), (b, .inl (y 0, 60, .inl sg))] t.heap := hB
      rw [ht] at hB
      have hw9 : r9 = nI (bN (sgn T L (nuP T L (np + 1)) = 44)) := hw9
      have hJ := xj_join (ws2 := [(a, .inr (4, [.ref b, .int (nI L), .int (nI ((nuP T L (np + 1)) + bN (sgn T L (nuP T L (np + 1)) = 44))), .int (nI (sgn T L np)), .int (nuI T L (np + 1)), .int f2, .int (nI od), .int (nI fp), .int (nI fr), .int fc])), (b, .inl (y 0, 60, .inl sg))]) hP hD [0, 1] [] rfl rfl rfl rfl rfl rfl hk1 hB
      clear hP hD hS hB hk1 hz1 hFc hvm ht
      obtain ⟨hP, hD⟩ := hJ
      have hS := hS1
      clear hS1
      subst hw9
      refine xn_if_eq hx hb (by omega) (tgt := 142) dX4_readsOrder_119 (by decide) (fun kc119 => ?_) (fun kc119 => ?_)
      · refine lv_iconst (v := nI 0) hx hb dX4_readsOrder_142 (by decide) ?_
        have hd1 := bN_n0.mp kc110
        have hd2 := bN_0.mp kc119
        have hno : ¬ orK T L np := fun hk => hd2 ((orK_2 hc).mp hk).2.1
        rw [bN_f hd2] at hP
        subst hQe
        exact xw_z hx hb hr hlocks (nuI T L (np + 1), f2) hS dX4_readsOrder_143 (by omega) (⟨congrArg nI (bN_f (c := orK T L np) hno).symm, fun hk => absurd hk hno⟩) (fun t ht => by rw [ht]; exact (by rw [orP_2 hc, n2P_c hd1 hd2]; exact hP))
      · have hb9 := bN_t (bN_n0.mp kc119)
        rw [hb9] at hP hD
        replace hP : va_P D vwCl [(a, .inr (4, [.ref b, .int (nI L), .int (nI (nuP T L (np + 1) + 1)), .int (nI (sgn T L np)), .int (nuI T L (np + 1)), .int f2, .int (nI od), .int (nI fp), .int (nI fr), .int fc])), (b, .inl (y 0, 60, .inl sg))] H := hP
        replace hD : va_D A [(a, .inr (4, [.ref b, .int (nI L), .int (nI (nuP T L (np + 1) + 1)), .int (nI (sgn T L np)), .int (nuI T L (np + 1)), .int f2, .int (nI od), .int (nI fp), .int (nI fr), .int fc])), (b, .inl (y 0, 60, .inl sg))] := hD
        refine lv_aload_n hx hb dX4_readsOrder_122 rfl (lv_at hl 0 rfl) ?_
        have hFc := xD_in (W0 := [(a, .inr (4, [.ref b, .int (nI L), .int (nI (nuP T L (np + 1) + 1)), .int (nI (sgn T L np)), .int (nuI T L (np + 1)), .int f2, .int (nI od), .int (nI fp), .int (nI fr), .int fc])), (b, .inl (y 0, 60, .inl sg))]) hD [0, 1] rfl
        refine va_calli (va_runV (As := []) (rest := []) ⟨hx, hb, hml, hown, hts⟩ (c_X4_readsSecond l D y a b sg T L hT (nuP T L (np + 1) + 1) (sgn T L np) (nuI T L (np + 1)) f2 od fp fr fc (by omega) ) (cwV 0 hts gX4_readsOrder_X4_readsSecond rfl rfl rfl hd_X4_readsSecond ⟨Nat.le_of_ble_eq_true rfl, Nat.le_of_ble_eq_true rfl⟩) (xpv_w hK hP hD [0, 1] 0 rfl rfl rfl rfl rfl) rfl rfl hl.1 rfl (lv_room (Nat.le_of_ble_eq_true rfl)) dX4_readsOrder_123 ⟨Nat.zero_le _, Nat.zero_le _⟩) hS (fun q _ h => hFc q h) hFc (fun r10 u10 t H locs ht hvm hw10 hB hz1 hk1 hS1 => ?_)
        have hB : va_P D vwCl [(a, .inr (4, [.ref b, .int (nI L), .int (nI (nuP T L (nuP T L (np + 1) + 1))), .int (nI (sgn T L np)), .int (nuI T L (np + 1)), .int (nuI T L (nuP T L (np + 1) + 1)), .int (nI od), .int (nI fp), .int (nI fr), .int fc])), (b, .inl (y 0, 60, .inl sg))] t.heap := hB
        rw [ht] at hB
        have hw10 : r10 = nI (bN (dgt T L (nuP T L (np + 1) + 1))) := hw10
        have hJ := xj_join (ws2 := [(a, .inr (4, [.ref b, .int (nI L), .int (nI (nuP T L (nuP T L (np + 1) + 1))), .int (nI (sgn T L np)), .int (nuI T L (np + 1)), .int (nuI T L (nuP T L (np + 1) + 1)), .int (nI od), .int (nI fp), .int (nI fr), .int fc])), (b, .inl (y 0, 60, .inl sg))]) hP hD [0, 1] [] rfl rfl rfl rfl rfl rfl hk1 hB
        clear hP hD hS hB hk1 hz1 hFc hvm ht
        obtain ⟨hP, hD⟩ := hJ
        have hS := hS1
        clear hS1
        subst hw10
        refine xn_if_eq hx hb (by omega) (tgt := 142) dX4_readsOrder_126 (by decide) (fun kc126 => ?_) (fun kc126 => ?_)
        · refine lv_iconst (v := nI 0) hx hb dX4_readsOrder_142 (by decide) ?_
          have hd1 := bN_n0.mp kc110
          have hd2 := bN_n0.mp kc119
          have hd3 := bN_0.mp kc126
          have hno : ¬ orK T L np := fun hk => hd3 ((orK_2 hc).mp hk).2.2.1
          rw [nuP_n hd3] at hP
          subst hQe
          exact xw_z hx hb hr hlocks (nuI T L (np + 1), nuI T L (nuP T L (np + 1) + 1)) hS dX4_readsOrder_143 (by omega) (⟨congrArg nI (bN_f (c := orK T L np) hno).symm, fun hk => absurd hk hno⟩) (fun t ht => by rw [ht]; exact (by rw [orP_2 hc, n2P_t hd1 hd2, n1P_f hd3]; exact hP))
        · refine lv_aload_n hx hb dX4_readsOrder_129 rfl (lv_at hl 0 rfl) ?_
          refine lv_bipush (v := nI 59) hx hb dX4_readsOrder_130 (by decide) ?_
          have hFc := xD_in (W0 := [(a, .inr (4, [.ref b, .int (nI L), .int (nI (nuP T L (nuP T L (np + 1) + 1))), .int (nI (sgn T L np)), .int (nuI T L (np + 1)), .int (nuI T L (nuP T L (np + 1) + 1)), .int (nI od), .int (nI fp), .int (nI fr), .int fc])), (b, .inl (y 0, 60, .inl sg))]) hD [0, 1] rfl
          refine va_calli (va_runV (As := [.int (nI 59)]) (rest := []) ⟨hx, hb, hml, hown, hts⟩ (c_X4_reads l D y a b sg T L hT (nuP T L (nuP T L (np + 1) + 1)) (sgn T L np) (nuI T L (np + 1)) (nuI T L (nuP T L (np + 1) + 1)) od fp fr fc (by omega) 59 (by omega)) (cwV 1 hts gX4_readsOrder_X4_reads rfl rfl rfl hd_X4_reads ⟨Nat.le_of_ble_eq_true rfl, Nat.le_of_ble_eq_true rfl⟩) (xpv_w hK hP hD [0, 1] 0 rfl rfl rfl rfl rfl) rfl rfl hl.1 rfl (lv_room (Nat.le_of_ble_eq_true rfl)) dX4_readsOrder_132 ⟨Nat.zero_le _, Nat.zero_le _⟩) hS (fun q _ h => hFc q h) hFc (fun r11 u11 t H locs ht hvm hw11 hB hz1 hk1 hS1 => ?_)
          have hB : va_P D vwCl [(a, .inr (4, [.ref b, .int (nI L), .int (nI ((nuP T L (nuP T L (np + 1) + 1)) + bN (sgn T L (nuP T L (nuP T L (np + 1) + 1)) = 59))), .int (nI (sgn T L np)), .int (nuI T L (np + 1)), .int (nuI T L (nuP T L (np + 1) + 1)), .int (nI od), .int (nI fp), .int (nI fr), .int fc])), (b, .inl (y 0, 60, .inl sg))] t.heap := hB
          rw [ht] at hB
          have hw11 : r11 = nI (bN (sgn T L (nuP T L (nuP T L (np + 1) + 1)) = 59)) := hw11
          have hJ := xj_join (ws2 := [(a, .inr (4, [.ref b, .int (nI L), .int (nI ((nuP T L (nuP T L (np + 1) + 1)) + bN (sgn T L (nuP T L (nuP T L (np + 1) + 1)) = 59))), .int (nI (sgn T L np)), .int (nuI T L (np + 1)), .int (nuI T L (nuP T L (np + 1) + 1)), .int (nI od), .int (nI fp), .int (nI fr), .int fc])), (b, .inl (y 0, 60, .inl sg))]) hP hD [0, 1] [] rfl rfl rfl rfl rfl rfl hk1 hB
          clear hP hD hS hB hk1 hz1 hFc hvm ht
          obtain ⟨hP, hD⟩ := hJ
          have hS := hS1
          clear hS1
          subst hw11
          refine xn_if_eq hx hb (by omega) (tgt := 142) dX4_readsOrder_135 (by decide) (fun kc135 => ?_) (fun kc135 => ?_)
          · refine lv_iconst (v := nI 0) hx hb dX4_readsOrder_142 (by decide) ?_
            have hd1 := bN_n0.mp kc110
            have hd2 := bN_n0.mp kc119
            have hd3 := bN_n0.mp kc126
            have hno : ¬ orK T L np := fun hk => (bN_0.mp kc135) ((orK_2 hc).mp hk).2.2.2
            subst hQe
            exact xw_z hx hb hr hlocks (nuI T L (np + 1), nuI T L (nuP T L (np + 1) + 1)) hS dX4_readsOrder_143 (by omega) (⟨congrArg nI (bN_f (c := orK T L np) hno).symm, fun hk => absurd hk hno⟩) (fun t ht => by rw [ht]; exact (by rw [orP_2 hc, n2P_t hd1 hd2, n1P_t hd3]; exact hP))
          · refine lv_iconst (v := nI 1) hx hb dX4_readsOrder_138 (by decide) ?_
            refine lv_goto (tgt := 143) hx hb dX4_readsOrder_139 (by decide) ?_
            have hd1 := bN_n0.mp kc110
            have hd2 := bN_n0.mp kc119
            have hd3 := bN_n0.mp kc126
            have hyes : orK T L np := (orK_2 hc).mpr ⟨hd1, hd2, hd3, bN_n0.mp kc135⟩
            subst hQe
            exact xw_z hx hb hr hlocks (nuI T L (np + 1), nuI T L (nuP T L (np + 1) + 1)) hS dX4_readsOrder_143 (by omega) (⟨congrArg nI (bN_t (c := orK T L np) hyes).symm, fun _ => ⟨fun _ => by unfold orX; rw [if_neg (by omega), nuI_d hd1], fun _ => nuI_d hd3⟩⟩) (fun t ht => by rw [ht]; exact (by rw [orP_2 hc, n2P_t hd1 hd2, n1P_t hd3]; exact hP))
  by_cases hk3 : (nI (sgn T L np)) = nI 116
  · refine lv_lookup (tgt := 176) (off := 164) hx hb dX4_readsOrder_12 (by decide) (by rw [hk3]; decide) (by decide) ?_
    have hc : sgn T L np = 116 := (nI_eq (by omega) (by decide)).mp hk3
    refine lv_aload_n hx hb dX4_readsOrder_176 rfl (lv_at hl 0 rfl) ?_
    refine lv_dup hx hb dX4_readsOrder_177 rfl ?_
    refine va_get (D := D) (ci := 4) (v := .int (nI np)) (C := RX4) (T := TX4) (N := 10) hx hb hts hin_X4 hown hK.1 hP 0 rfl rfl 2 (by decide) f_21 (fun _ h9 => h9) rfl dX4_readsOrder_178 ?_
    refine lv_iconst (v := nI 1) hx hb dX4_readsOrder_181 (by decide) ?_
    refine xn_add hx hb (r := (np + 1)) rfl dX4_readsOrder_182 ?_
    refine va_put (D := D) (ci := 4) (v := .int (nI (np + 1))) (ty := .int) (C := RX4) (T := TX4) (N := 10) hx hb hts hin_X4 tyX4 tyX4_ok nmX4 hown hK.1 hP hD hS 0 rfl rfl 2 (by decide) f_21 (fun _ h9 => h9) rfl (by decide +kernel) rfl rfl (Nat.le_of_ble_eq_true rfl) dX4_readsOrder_183 (fun H locs hP1 hD1 hS1 => ?_)
    clear hP hD hS
    have hP : va_P D vwCl [(a, .inr (4, [.ref b, .int (nI L), .int (nI (np + 1)), .int (nI (sgn T L np)), .int f1, .int f2, .int (nI od), .int (nI fp), .int (nI fr), .int fc])), (b, .inl (y 0, 60, .inl sg))] H := hP1
    have hD : va_D A [(a, .inr (4, [.ref b, .int (nI L), .int (nI (np + 1)), .int (nI (sgn T L np)), .int f1, .int f2, .int (nI od), .int (nI fp), .int (nI fr), .int fc])), (b, .inl (y 0, 60, .inl sg))] := hD1
    have hS := hS1
    clear hP1 hD1 hS1
    refine lv_aload_n hx hb dX4_readsOrder_186 rfl (lv_at hl 0 rfl) ?_
    refine lv_bipush (v := nI 59) hx hb dX4_readsOrder_187 (by decide) ?_
    have hFc := xD_in (W0 := [(a, .inr (4, [.ref b, .int (nI L), .int (nI (np + 1)), .int (nI (sgn T L np)), .int f1, .int f2, .int (nI od), .int (nI fp), .int (nI fr), .int fc])), (b, .inl (y 0, 60, .inl sg))]) hD [0, 1] rfl
    refine va_calli (va_runV (As := [.int (nI 59)]) (rest := []) ⟨hx, hb, hml, hown, hts⟩ (c_X4_reads l D y a b sg T L hT (np + 1) (sgn T L np) f1 f2 od fp fr fc (by omega) 59 (by omega)) (cwV 1 hts gX4_readsOrder_X4_reads rfl rfl rfl hd_X4_reads ⟨Nat.le_of_ble_eq_true rfl, Nat.le_of_ble_eq_true rfl⟩) (xpv_w hK hP hD [0, 1] 0 rfl rfl rfl rfl rfl) rfl rfl hl.1 rfl (lv_room (Nat.le_of_ble_eq_true rfl)) dX4_readsOrder_189 ⟨Nat.zero_le _, Nat.zero_le _⟩) hS (fun q _ h => hFc q h) hFc (fun r12 u12 t H locs ht hvm hw12 hB hz1 hk1 hS1 => ?_)
    have hB : va_P D vwCl [(a, .inr (4, [.ref b, .int (nI L), .int (nI ((np + 1) + bN (sgn T L (np + 1) = 59))), .int (nI (sgn T L np)), .int f1, .int f2, .int (nI od), .int (nI fp), .int (nI fr), .int fc])), (b, .inl (y 0, 60, .inl sg))] t.heap := hB
    rw [ht] at hB
    have hw12 : r12 = nI (bN (sgn T L (np + 1) = 59)) := hw12
    have hJ := xj_join (ws2 := [(a, .inr (4, [.ref b, .int (nI L), .int (nI ((np + 1) + bN (sgn T L (np + 1) = 59))), .int (nI (sgn T L np)), .int f1, .int f2, .int (nI od), .int (nI fp), .int (nI fr), .int fc])), (b, .inl (y 0, 60, .inl sg))]) hP hD [0, 1] [] rfl rfl rfl rfl rfl rfl hk1 hB
    clear hP hD hS hB hk1 hz1 hFc hvm ht
    obtain ⟨hP, hD⟩ := hJ
    have hS := hS1
    clear hS1
    subst hw12
    subst hQe
    exact xw_z hx hb hr hlocks (f1, f2) hS dX4_readsOrder_192 (bN_lt) (⟨congrArg nI (bN_c (orK_116 hc).symm), fun hk => ⟨fun hq => absurd hc hq, fun hq => absurd hq (by omega)⟩⟩) (fun t ht => by rw [ht]; exact (by rw [orP_116 hc]; exact hP))
  by_cases hk4 : (nI (sgn T L np)) = nI 120
  · refine lv_lookup (tgt := 144) (off := 132) hx hb dX4_readsOrder_12 (by decide) (by rw [hk4]; decide) (by decide) ?_
    have hc : sgn T L np = 120 := (nI_eq (by omega) (by decide)).mp hk4
    refine lv_aload_n hx hb dX4_readsOrder_144 rfl (lv_at hl 0 rfl) ?_
    refine lv_dup hx hb dX4_readsOrder_145 rfl ?_
    refine va_get (D := D) (ci := 4) (v := .int (nI np)) (C := RX4) (T := TX4) (N := 10) hx hb hts hin_X4 hown hK.1 hP 0 rfl rfl 2 (by decide) f_21 (fun _ h9 => h9) rfl dX4_readsOrder_146 ?_
    refine lv_iconst (v := nI 1) hx hb dX4_readsOrder_149 (by decide) ?_
    refine xn_add hx hb (r := (np + 1)) rfl dX4_readsOrder_150 ?_
    refine va_put (D := D) (ci := 4) (v := .int (nI (np + 1))) (ty := .int) (C := RX4) (T := TX4) (N := 10) hx hb hts hin_X4 tyX4 tyX4_ok nmX4 hown hK.1 hP hD hS 0 rfl rfl 2 (by decide) f_21 (fun _ h9 => h9) rfl (by decide +kernel) rfl rfl (Nat.le_of_ble_eq_true rfl) dX4_readsOrder_151 (fun H locs hP1 hD1 hS1 => ?_)
    clear hP hD hS
    have hP : va_P D vwCl [(a, .inr (4, [.ref b, .int (nI L), .int (nI (np + 1)), .int (nI (sgn T L np)), .int f1, .int f2, .int (nI od), .int (nI fp), .int (nI fr), .int fc])), (b, .inl (y 0, 60, .inl sg))] H := hP1
    have hD : va_D A [(a, .inr (4, [.ref b, .int (nI L), .int (nI (np + 1)), .int (nI (sgn T L np)), .int f1, .int f2, .int (nI od), .int (nI fp), .int (nI fr), .int fc])), (b, .inl (y 0, 60, .inl sg))] := hD1
    have hS := hS1
    clear hP1 hD1 hS1
    refine lv_aload_n hx hb dX4_readsOrder_154 rfl (lv_at hl 0 rfl) ?_
    have hFc := xD_in (W0 := [(a, .inr (4, [.ref b, .int (nI L), .int (nI (np + 1)), .int (nI (sgn T L np)), .int f1, .int f2, .int (nI od), .int (nI fp), .int (nI fr), .int fc])), (b, .inl (y 0, 60, .inl sg))]) hD [0, 1] rfl
    refine va_calli (va_runV (As := []) (rest := []) ⟨hx, hb, hml, hown, hts⟩ (c_X4_readsFirst l D y a b sg T L hT (np + 1) (sgn T L np) f1 f2 od fp fr fc (by omega) ) (cwV 0 hts gX4_readsOrder_X4_readsFirst rfl rfl rfl hd_X4_readsFirst ⟨Nat.le_of_ble_eq_true rfl, Nat.le_of_ble_eq_true rfl⟩) (xpv_w hK hP hD [0, 1] 0 rfl rfl rfl rfl rfl) rfl rfl hl.1 rfl (lv_room (Nat.le_of_ble_eq_true rfl)) dX4_readsOrder_155 ⟨Nat.zero_le _, Nat.zero_le _⟩) hS (fun q _ h => hFc q h) hFc (fun r13 u13 t H locs ht hvm hw13 hB hz1 hk1 hS1 => ?_)
    have hB : va_P D vwCl [(a, .inr (4, [.ref b, .int (nI L), .int (nI (nuP T L (np + 1))), .int (nI (sgn T L np)), .int (nuI T L (np + 1)), .int f2, .int (nI od), .int (nI fp), .int (nI fr), .int fc])), (b, .inl (y 0, 60, .inl sg))] t.heap := hB
    rw [ht] at hB
    have hw13 : r13 = nI (bN (dgt T L (np + 1))) := hw13
    have hJ := xj_join (ws2 := [(a, .inr (4, [.ref b, .int (nI L), .int (nI (nuP T L (np + 1))), .int (nI (sgn T L np)), .int (nuI T L (np + 1)), .int f2, .int (nI od), .int (nI fp), .int (nI fr), .int fc])), (b, .inl (y 0, 60, .inl sg))]) hP hD [0, 1] [] rfl rfl rfl rfl rfl rfl hk1 hB
    clear hP hD hS hB hk1 hz1 hFc hvm ht
    obtain ⟨hP, hD⟩ := hJ
    have hS := hS1
    clear hS1
    subst hw13
    refine xn_if_eq hx hb (by omega) (tgt := 174) dX4_readsOrder_158 (by decide) (fun kc158 => ?_) (fun kc158 => ?_)
    · refine lv_iconst (v := nI 0) hx hb dX4_readsOrder_174 (by decide) ?_
      have hd1 := bN_0.mp kc158
      have hno : ¬ orK T L np := fun hk => hd1 ((orK_120 hc).mp hk).1
      rw [nuP_n hd1] at hP
      subst hQe
      exact xw_z hx hb hr hlocks (nuI T L (np + 1), f2) hS dX4_readsOrder_175 (by omega) (⟨congrArg nI (bN_f (c := orK T L np) hno).symm, fun hk => absurd hk hno⟩) (fun t ht => by rw [ht]; exact (by rw [orP_120 hc, n1P_f hd1]; exact hP))
    · refine lv_aload_n hx hb dX4_readsOrder_161 rfl (lv_at hl 0 rfl) ?_
      refine lv_bipush (v := nI 59) hx hb dX4_readsOrder_162 (by decide) ?_
      have hFc := xD_in (W0 := [(a, .inr (4, [.ref b, .int (nI L), .int (nI (nuP T L (np + 1))), .int (nI (sgn T L np)), .int (nuI T L (np + 1)), .int f2, .int (nI od), .int (nI fp), .int (nI fr), .int fc])), (b, .inl (y 0, 60, .inl sg))]) hD [0, 1] rfl
      refine va_calli (va_runV (As := [.int (nI 59)]) (rest := []) ⟨hx, hb, hml, hown, hts⟩ (c_X4_reads l D y a b sg T L hT (nuP T L (np + 1)) (sgn T L np) (nuI T L (np + 1)) f2 od fp fr fc (by omega) 59 (by omega)) (cwV 1 hts gX4_readsOrder_X4_reads rfl rfl rfl hd_X4_reads ⟨Nat.le_of_ble_eq_true rfl, Nat.le_of_ble_eq_true rfl⟩) (xpv_w hK hP hD [0, 1] 0 rfl rfl rfl rfl rfl) rfl rfl hl.1 rfl (lv_room (Nat.le_of_ble_eq_true rfl)) dX4_readsOrder_164 ⟨Nat.zero_le _, Nat.zero_le _⟩) hS (fun q _ h => hFc q h) hFc (fun r14 u14 t H locs ht hvm hw14 hB hz1 hk1 hS1 => ?_)
      have hB : va_P D vwCl [(a, .inr (4, [.ref b, .int (nI L), .int (nI ((nuP T L (np + 1)) + bN (sgn T L (nuP T L (np + 1)) = 59))), .int (nI (sgn T L np)), .int (nuI T L (np + 1)), .int f2, .int (nI od), .int (nI fp), .int (nI fr), .int fc])), (b, .inl (y 0, 60, .inl sg))] t.heap := hB
      rw [ht] at hB
      have hw14 : r14 = nI (bN (sgn T L (nuP T L (np + 1)) = 59)) := hw14
      have hJ := xj_join (ws2 := [(a, .inr (4, [.ref b, .int (nI L), .int (nI ((nuP T L (np + 1)) + bN (sgn T L (nuP T L (np + 1)) = 59))), .int (nI (sgn T L np)), .int (nuI T L (np + 1)), .int f2, .int (nI od), .int (nI fp), .int (nI fr), .int fc])), (b, .inl (y 0, 60, .inl sg))]) hP hD [0, 1] [] rfl rfl rfl rfl rfl rfl hk1 hB
      clear hP hD hS hB hk1 hz1 hFc hvm ht
      obtain ⟨hP, hD⟩ := hJ
      have hS := hS1
      clear hS1
      subst hw14
      refine xn_if_eq hx hb (by omega) (tgt := 174) dX4_readsOrder_167 (by decide) (fun kc167 => ?_) (fun kc167 => ?_)
      · refine lv_iconst (v := nI 0) hx hb dX4_readsOrder_174 (by decide) ?_
        have hd1 := bN_n0.mp kc158
        have hno : ¬ orK T L np := fun hk => (bN_0.mp kc167) ((orK_120 hc).mp hk).2
        subst hQe
        exact xw_z hx hb hr hlocks (nuI T L (np + 1), f2) hS dX4_readsOrder_175 (by omega) (⟨congrArg nI (bN_f (c := orK T L np) hno).symm, fun hk => absurd hk hno⟩) (fun t ht => by rw [ht]; exact (by rw [orP_120 hc, n1P_t hd1]; exact hP))
      · refine lv_iconst (v := nI 1) hx hb dX4_readsOrder_170 (by decide) ?_
        refine lv_goto (tgt := 175) hx hb dX4_readsOrder_171 (by decide) ?_
        have hd1 := bN_n0.mp kc158
        have hyes : orK T L np := (orK_120 hc).mpr ⟨hd1, bN_n0.mp kc167⟩
        subst hQe
        exact xw_z hx hb hr hlocks (nuI T L (np + 1), f2) hS dX4_readsOrder_175 (by omega) (⟨congrArg nI (bN_t (c := orK T L np) hyes).symm, fun _ => ⟨fun _ => by unfold orX; rw [if_neg (by omega), nuI_d hd1], fun hq => absurd hq (by omega)⟩⟩) (fun t ht => by rw [ht]; exact (by rw [orP_120 hc, n1P_t hd1]; exact hP))
  refine lv_lookup (tgt := 193) (off := 181) hx hb dX4_readsOrder_12 (by decide) (by rw [lv_osw hk0 (by decide)]; rw [lv_osw hk1 (by decide)]; rw [lv_osw hk2 (by decide)]; rw [lv_osw hk3 (by decide)]; rw [lv_osw hk4 (by decide)]; rfl) (by decide) ?_
  have ng0 : ¬ sgn T L np = 99 := fun hq => hk0 (by rw [hq])
  have ng1 : ¬ sgn T L np = 107 := fun hq => hk1 (by rw [hq])
  have ng2 : ¬ sgn T L np = 110 := fun hq => hk2 (by rw [hq])
  have ng3 : ¬ sgn T L np = 116 := fun hq => hk3 (by rw [hq])
  have ng4 : ¬ sgn T L np = 120 := fun hq => hk4 (by rw [hq])
  refine lv_iconst (v := nI 0) hx hb dX4_readsOrder_193 (by decide) ?_
  have hno : ¬ orK T L np := orK_no ng0 ng1 ng2 ng3 ng4
  subst hQe
  exact xw_z hx hb hr hlocks (f1, f2) hS dX4_readsOrder_194 (by omega) (⟨congrArg nI (bN_f (c := orK T L np) hno).symm, fun hk => absurd hk hno⟩) (fun t ht => by rw [ht]; exact (by rw [orP_no ng0 ng1 ng2 ng3 ng4]; exact hP))
set_option maxHeartbeats 8000000 in
set_option maxRecDepth 100000 in
theorem c_X4_doneOn (l : Launch) (D : va_G) (y : Nat → ClassId) (a b : Nat) (sg : Nat → Int32) (T : Nat → Nat) (L : Nat) (hT : RepT T L sg) (np kd : Nat) (f1 f2 : Int32) (od fp fr : Nat) (fc : Int32) (hp : np < 2 ^ 30) (x z : Nat) (hf1 : ¬ kd = 116 → f1 = nI x) (hf2 : kd = 107 ∨ kd = 110 → f2 = nI z) (hkd : kd = 99 ∨ kd = 107 ∨ kd = 110 ∨ kd = 116 ∨ kd = 120) (h : Nat → Nat) (V : Nat → Nat) (q : Nat → Nat → Int32) (hR : RepC V q) (hI : Inv V) : Met l yX4_doneOn wsX4_doneOn ({ frames := 4, cells := 0, slots := 0, locals := 91 }) (va_Pc [.ref a, .ref (h 0)] (xPw D y [(a, .inr (4, [.ref b, .int (nI L), .int (nI np), .int (nI kd), .int f1, .int f2, .int (nI od), .int (nI fp), .int (nI fr), .int fc])), (b, .inl (y 0, 60, .inl sg)), (h 0, .inr (2, [.ref (h 1), .ref (h 2), .ref (h 3), .ref (h 4), .int (nI (V 16)), .int (nI (V 67)), .int (rmb V), .int (nI (V 66))])), (h 1, .inl (y 1, 8, .inl (q 0))), (h 2, .inl (y 1, 8, .inl (q 1))), (h 3, .inl (y 1, 24, .inl (q 2))), (h 4, .inl (y 1, 4, .inl (q 3)))])) (va_Qi (fun r (u : Nat → Nat → Int32) => r = doI V kd x z ∧ RepC (doV V kd x z) u) (fun (u : Nat → Nat → Int32) t => va_P D vwCl [(a, .inr (4, [.ref b, .int (nI L), .int (nI np), .int (nI kd), .int f1, .int f2, .int (nI od), .int (nI fp), .int (nI fr), .int fc])), (b, .inl (y 0, 60, .inl sg)), (h 0, .inr (2, [.ref (h 1), .ref (h 2), .ref (h 3), .ref (h 4), .int (nI ((doV V kd x z) 16)), .int (nI ((doV V kd x z) 67)), .int (rmb (doV V kd x z)), .int (nI ((doV V kd x z) 66))])), (h 1, .inl (y 1, 8, .inl (u 0))), (h 2, .inl (y 1, 8, .inl (u 1))), (h 3, .inl (y 1, 24, .inl (u 2))), (h 4, .inl (y 1, 4, .inl (u 3)))] t.heap) (xIn [(a, .inr (4, [.ref b, .int (nI L), .int (nI np), .int (nI kd), .int f1, .int f2, .int (nI od), .int (nI fp), .int (nI fr), .int fc])), (b, .inl (y 0, 60, .inl sg)), (h 0, .inr (2, [.ref (h 1), .ref (h 2), .ref (h 3), .ref (h 4), .int (nI (V 16)), .int (nI (V 67)), .int (rmb V), .int (nI (V 66))])), (h 1, .inl (y 1, 8, .inl (q 0))), (h 2, .inl (y 1, 8, .inl (q 1))), (h 3, .inl (y 1, 24, .inl (q 2))), (h 4, .inl (y 1, 4, .inl (q 3)))])) 0 0 (xIn [(a, .inr (4, [.ref b, .int (nI L), .int (nI np), .int (nI kd), .int f1, .int f2, .int (nI od), .int (nI fp), .int (nI fr), .int fc])), (b, .inl (y 0, 60, .inl sg)), (h 0, .inr (2, [.ref (h 1), .ref (h 2), .ref (h 3), .ref (h 4), .int (nI (V 16)), .int (nI (V 67)), .int (rmb V), .int (nI (V 66))])), (h 1, .inl (y 1, 8, .inl (q 0))), (h 2, .inl (y 1, 8, .inl (q 1))), (h 3, .inl (y 1, 24, .inl (q 2))), (h 4, .inl (y 1, 4, .inl (q 3)))]) := by
  refine Met.ofW (cc := cX4_doneOn) (maxL := 2) (ret := (some .int)) (by decide) rfl ?_
  intro p e s m args below meth c s₁ B hml hv
  obtain ⟨rfl, hP, hK, hD0⟩ := hv
  have hx := B.exec
  have hb := B.bytes
  have hr := B.returns
  have hts := atoms_spec (ws := wsX4_doneOn) B.pre
  have hown : s.vm.findClass RX4 = some m.cls := findClass_of_methodNamed B.named
  have hlocks := B.notSynchronized
  have f_48 := hts (.fieldLink RX4 48 "LoomTunes$Script" "kind" "C") (by decide +kernel)
  have f_65 := hts (.fieldLink RX4 65 "LoomTunes$Script" "first" "I") (by decide +kernel)
  have f_72 := hts (.fieldLink RX4 72 "LoomTunes$Script" "second" "I") (by decide +kernel)
  have hin_X4 : ∀ w ∈ wsX40, w ∈ wsX4_doneOn := by decide +kernel
  have hD := xD_self hD0
  generalize hAe : xIn [(a, .inr (4, [.ref b, .int (nI L), .int (nI np), .int (nI kd), .int f1, .int f2, .int (nI od), .int (nI fp), .int (nI fr), .int fc])), (b, .inl (y 0, 60, .inl sg)), (h 0, .inr (2, [.ref (h 1), .ref (h 2), .ref (h 3), .ref (h 4), .int (nI (V 16)), .int (nI (V 67)), .int (rmb V), .int (nI (V 66))])), (h 1, .inl (y 1, 8, .inl (q 0))), (h 2, .inl (y 1, 8, .inl (q 1))), (h 3, .inl (y 1, 24, .inl (q 2))), (h 4, .inl (y 1, 4, .inl (q 3)))] = A at hD ⊢
  have hS : va_S A s.heap s.heap [] := va_S.rf
  have hP : va_P D vwCl [(a, .inr (4, [.ref b, .int (nI L), .int (nI np), .int (nI kd), .int f1, .int f2, .int (nI od), .int (nI fp), .int (nI fr), .int fc])), (b, .inl (y 0, 60, .inl sg)), (h 0, .inr (2, [.ref (h 1), .ref (h 2), .ref (h 3), .ref (h 4), .int (nI (V 16)), .int (nI (V 67)), .int (rmb V), .int (nI (V 66))])), (h 1, .inl (y 1, 8, .inl (q 0))), (h 2, .inl (y 1, 8, .inl (q 1))), (h 3, .inl (y 1, 24, .inl (q 2))), (h 4, .inl (y 1, 4, .inl (q 3)))] s.heap := hP
  have hl := lv_entry ([.ref a, .ref (h 0)]) (n := 2) (Nat.le_of_ble_eq_true rfl)
  rw [lg_entry_eq]
  generalize (lg_sl ([.ref a, .ref (h 0)]) ++ List.replicate (2 - (lg_sl ([.ref a, .ref (h 0)])).length) Slot.unset).toArray = ls at hl ⊢
  have hl : lv_has ls 2 [(0, .ref a), (1, .ref (h 0))] := hl
  generalize hQe : (MQ below (va_Qi (fun r (u : Nat → Nat → Int32) => r = doI V kd x z ∧ RepC (doV V kd x z) u) (fun (u : Nat → Nat → Int32) t => va_P D vwCl [(a, .inr (4, [.ref b, .int (nI L), .int (nI np), .int (nI kd), .int f1, .int f2, .int (nI od), .int (nI fp), .int (nI fr), .int fc])), (b, .inl (y 0, 60, .inl sg)), (h 0, .inr (2, [.ref (h 1), .ref (h 2), .ref (h 3), .ref (h 4), .int (nI ((doV V kd x z) 16)), .int (nI ((doV V kd x z) 67)), .int (rmb (doV V kd x z)), .int (nI ((doV V kd x z) 66))])), (h 1, .inl (y 1, 8, .inl (u 0))), (h 2, .inl (y 1, 8, .inl (u 1))), (h 3, .inl (y 1, 24, .inl (u 2))), (h 4, .inl (y 1, 4, .inl (u 3)))] t.heap) A) ([.ref a, .ref (h 0)] : List Value).toArray s 0 0 A) = Q
  have hkb : kd < 200 := by omega
  refine lv_aload_n hx hb dX4_doneOn_0 rfl (lv_at hl 0 rfl) ?_
  refine va_get (D := D) (ci := 4) (v := .int (nI kd)) (C := RX4) (T := TX4) (N := 10) hx hb hts hin_X4 hown hK.1 hP 0 rfl rfl 3 (by decide) f_48 (fun _ h9 => h9) rfl dX4_doneOn_1 ?_
  by_cases hk0 : (nI kd) = nI 99
  · refine lv_lookup (tgt := 48) (off := 44) hx hb dX4_doneOn_4 (by decide) (by rw [hk0]; decide) (by decide) ?_
    have hc : kd = 99 := (nI_eq (by omega) (by decide)).mp hk0
    refine lv_aload_n hx hb dX4_doneOn_48 rfl (lv_at hl 1 rfl) ?_
    refine lv_aload_n hx hb dX4_doneOn_49 rfl (lv_at hl 0 rfl) ?_
    refine va_get (D := D) (ci := 4) (v := .int f1) (C := RX4) (T := TX4) (N := 10) hx hb hts hin_X4 hown hK.1 hP 0 rfl rfl 4 (by decide) f_65 (fun _ h9 => h9) rfl dX4_doneOn_50 ?_
    refine xv (hf1 (by omega)) ?_
    have hFc := xD_in (W0 := [(h 0, .inr (2, [.ref (h 1), .ref (h 2), .ref (h 3), .ref (h 4), .int (nI (V 16)), .int (nI (V 67)), .int (rmb V), .int (nI (V 66))])), (h 1, .inl (y 1, 8, .inl (q 0))), (h 2, .inl (y 1, 8, .inl (q 1))), (h 3, .inl (y 1, 24, .inl (q 2))), (h 4, .inl (y 1, 4, .inl (q 3)))]) hD [2, 3, 4, 5, 6] rfl
    refine va_calli (va_runV (As := [.int (nI x)]) (rest := []) ⟨hx, hb, hml, hown, hts⟩ (c_X2_offer l D y h V q hR hI (nI x)) (cwV 1 hts gX4_doneOn_X2_offer rfl rfl rfl hd_X2_offer ⟨Nat.le_of_ble_eq_true rfl, Nat.le_of_ble_eq_true rfl⟩) (xpv_w hK hP hD [2, 3, 4, 5, 6] 2 rfl rfl rfl rfl rfl) rfl rfl hl.1 rfl (lv_room (Nat.le_of_ble_eq_true rfl)) dX4_doneOn_53 ⟨Nat.zero_le _, Nat.zero_le _⟩) hS (fun q _ h => hFc q h) hFc (fun r1 u1 t H locs ht hvm hw1 hB hz1 hk1 hS1 => ?_)
    have hB : va_P D vwCl [(h 0, .inr (2, [.ref (h 1), .ref (h 2), .ref (h 3), .ref (h 4), .int (nI ((ofV V (nI x)) 16)), .int (nI ((ofV V (nI x)) 67)), .int (rmb (ofV V (nI x))), .int (nI ((ofV V (nI x)) 66))])), (h 1, .inl (y 1, 8, .inl (u1 0))), (h 2, .inl (y 1, 8, .inl (u1 1))), (h 3, .inl (y 1, 24, .inl (u1 2))), (h 4, .inl (y 1, 4, .inl (u1 3)))] t.heap := hB
    rw [ht] at hB
    have hw1 : r1 = ansI V (nI x) ∧ RepC (ofV V (nI x)) u1 := hw1
    have hJ := xj_join (ws2 := [(a, .inr (4, [.ref b, .int (nI L), .int (nI np), .int (nI kd), .int f1, .int f2, .int (nI od), .int (nI fp), .int (nI fr), .int fc])), (b, .inl (y 0, 60, .inl sg)), (h 0, .inr (2, [.ref (h 1), .ref (h 2), .ref (h 3), .ref (h 4), .int (nI ((ofV V (nI x)) 16)), .int (nI ((ofV V (nI x)) 67)), .int (rmb (ofV V (nI x))), .int (nI ((ofV V (nI x)) 66))])), (h 1, .inl (y 1, 8, .inl (u1 0))), (h 2, .inl (y 1, 8, .inl (u1 1))), (h 3, .inl (y 1, 24, .inl (u1 2))), (h 4, .inl (y 1, 4, .inl (u1 3)))]) hP hD [2, 3, 4, 5, 6] [0, 1] rfl rfl rfl rfl rfl rfl hk1 hB
    clear hP hD hS hB hk1 hz1 hFc hvm ht
    obtain ⟨hP, hD⟩ := hJ
    have hS := hS1
    clear hS1
    obtain ⟨hr1, hRu1⟩ := hw1
    subst hr1
    subst hQe
    exact xw_i hx hb hr hlocks u1 hS dX4_doneOn_56 (⟨(do_99 hc).1.symm, by rw [(do_99 hc).2]; exact hRu1⟩) (fun t ht => by rw [ht]; exact (by rw [(do_99 hc).2]; exact hP))
  by_cases hk1 : (nI kd) = nI 107
  · refine lv_lookup (tgt := 70) (off := 66) hx hb dX4_doneOn_4 (by decide) (by rw [hk1]; decide) (by decide) ?_
    have hc : kd = 107 := (nI_eq (by omega) (by decide)).mp hk1
    refine lv_aload_n hx hb dX4_doneOn_70 rfl (lv_at hl 1 rfl) ?_
    refine lv_aload_n hx hb dX4_doneOn_71 rfl (lv_at hl 0 rfl) ?_
    refine va_get (D := D) (ci := 4) (v := .int f1) (C := RX4) (T := TX4) (N := 10) hx hb hts hin_X4 hown hK.1 hP 0 rfl rfl 4 (by decide) f_65 (fun _ h9 => h9) rfl dX4_doneOn_72 ?_
    refine xv (hf1 (by omega)) ?_
    refine lv_aload_n hx hb dX4_doneOn_75 rfl (lv_at hl 0 rfl) ?_
    refine va_get (D := D) (ci := 4) (v := .int f2) (C := RX4) (T := TX4) (N := 10) hx hb hts hin_X4 hown hK.1 hP 0 rfl rfl 5 (by decide) f_72 (fun _ h9 => h9) rfl dX4_doneOn_76 ?_
    refine xv (hf2 (by omega)) ?_
    have hFc := xD_in (W0 := [(h 0, .inr (2, [.ref (h 1), .ref (h 2), .ref (h 3), .ref (h 4), .int (nI (V 16)), .int (nI (V 67)), .int (rmb V), .int (nI (V 66))])), (h 1, .inl (y 1, 8, .inl (q 0))), (h 2, .inl (y 1, 8, .inl (q 1))), (h 3, .inl (y 1, 24, .inl (q 2))), (h 4, .inl (y 1, 4, .inl (q 3)))]) hD [2, 3, 4, 5, 6] rfl
    refine va_calli (va_runV (As := [.int (nI x), .int (nI z)]) (rest := []) ⟨hx, hb, hml, hown, hts⟩ (c_X2_dye l D y h V q hR hI (nI x) (nI z)) (cwV 2 hts gX4_doneOn_X2_dye rfl rfl rfl hd_X2_dye ⟨Nat.le_of_ble_eq_true rfl, Nat.le_of_ble_eq_true rfl⟩) (xpv_w hK hP hD [2, 3, 4, 5, 6] 2 rfl rfl rfl rfl rfl) rfl rfl hl.1 rfl (lv_room (Nat.le_of_ble_eq_true rfl)) dX4_doneOn_79 ⟨Nat.zero_le _, Nat.zero_le _⟩) hS (fun q _ h => hFc q h) hFc (fun r2 u2 t H locs ht hvm hw2 hB hz1 hk1 hS1 => ?_)
    have hB : va_P D vwCl [(h 0, .inr (2, [.ref (h 1), .ref (h 2), .ref (h 3), .ref (h 4), .int (nI ((dyV V (nI x) (nI z)) 16)), .int (nI ((dyV V (nI x) (nI z)) 67)), .int (rmb (dyV V (nI x) (nI z))), .int (nI ((dyV V (nI x) (nI z)) 66))])), (h 1, .inl (y 1, 8, .inl (u2 0))), (h 2, .inl (y 1, 8, .inl (u2 1))), (h 3, .inl (y 1, 24, .inl (u2 2))), (h 4, .inl (y 1, 4, .inl (u2 3)))] t.heap := hB
    rw [ht] at hB
    have hw2 : r2 = dyI V (nI x) (nI z) ∧ RepC (dyV V (nI x) (nI z)) u2 := hw2
    have hJ := xj_join (ws2 := [(a, .inr (4, [.ref b, .int (nI L), .int (nI np), .int (nI kd), .int f1, .int f2, .int (nI od), .int (nI fp), .int (nI fr), .int fc])), (b, .inl (y 0, 60, .inl sg)), (h 0, .inr (2, [.ref (h 1), .ref (h 2), .ref (h 3), .ref (h 4), .int (nI ((dyV V (nI x) (nI z)) 16)), .int (nI ((dyV V (nI x) (nI z)) 67)), .int (rmb (dyV V (nI x) (nI z))), .int (nI ((dyV V (nI x) (nI z)) 66))])), (h 1, .inl (y 1, 8, .inl (u2 0))), (h 2, .inl (y 1, 8, .inl (u2 1))), (h 3, .inl (y 1, 24, .inl (u2 2))), (h 4, .inl (y 1, 4, .inl (u2 3)))]) hP hD [2, 3, 4, 5, 6] [0, 1] rfl rfl rfl rfl rfl rfl hk1 hB
    clear hP hD hS hB hk1 hz1 hFc hvm ht
    obtain ⟨hP, hD⟩ := hJ
    have hS := hS1
    clear hS1
    obtain ⟨hr2, hRu2⟩ := hw2
    subst hr2
    subst hQe
    exact xw_i hx hb hr hlocks u2 hS dX4_doneOn_82 (⟨(do_107 hc).1.symm, by rw [(do_107 hc).2]; exact hRu2⟩) (fun t ht => by rw [ht]; exact (by rw [(do_107 hc).2]; exact hP))
  by_cases hk2 : (nI kd) = nI 110
  · refine lv_lookup (tgt := 57) (off := 53) hx hb dX4_doneOn_4 (by decide) (by rw [hk2]; decide) (by decide) ?_
    have hc : kd = 110 := (nI_eq (by omega) (by decide)).mp hk2
    refine lv_aload_n hx hb dX4_doneOn_57 rfl (lv_at hl 1 rfl) ?_
    refine lv_aload_n hx hb dX4_doneOn_58 rfl (lv_at hl 0 rfl) ?_
    refine va_get (D := D) (ci := 4) (v := .int f1) (C := RX4) (T := TX4) (N := 10) hx hb hts hin_X4 hown hK.1 hP 0 rfl rfl 4 (by decide) f_65 (fun _ h9 => h9) rfl dX4_doneOn_59 ?_
    refine xv (hf1 (by omega)) ?_
    refine lv_aload_n hx hb dX4_doneOn_62 rfl (lv_at hl 0 rfl) ?_
    refine va_get (D := D) (ci := 4) (v := .int f2) (C := RX4) (T := TX4) (N := 10) hx hb hts hin_X4 hown hK.1 hP 0 rfl rfl 5 (by decide) f_72 (fun _ h9 => h9) rfl dX4_doneOn_63 ?_
    refine xv (hf2 (by omega)) ?_
    have hFc := xD_in (W0 := [(h 0, .inr (2, [.ref (h 1), .ref (h 2), .ref (h 3), .ref (h 4), .int (nI (V 16)), .int (nI (V 67)), .int (rmb V), .int (nI (V 66))])), (h 1, .inl (y 1, 8, .inl (q 0))), (h 2, .inl (y 1, 8, .inl (q 1))), (h 3, .inl (y 1, 24, .inl (q 2))), (h 4, .inl (y 1, 4, .inl (q 3)))]) hD [2, 3, 4, 5, 6] rfl
    refine va_calli (va_runV (As := [.int (nI x), .int (nI z)]) (rest := []) ⟨hx, hb, hml, hown, hts⟩ (c_X2_tune l D y h V q hR hI (nI x) (nI z)) (cwV 2 hts gX4_doneOn_X2_tune rfl rfl rfl hd_X2_tune ⟨Nat.le_of_ble_eq_true rfl, Nat.le_of_ble_eq_true rfl⟩) (xpv_w hK hP hD [2, 3, 4, 5, 6] 2 rfl rfl rfl rfl rfl) rfl rfl hl.1 rfl (lv_room (Nat.le_of_ble_eq_true rfl)) dX4_doneOn_66 ⟨Nat.zero_le _, Nat.zero_le _⟩) hS (fun q _ h => hFc q h) hFc (fun r3 u3 t H locs ht hvm hw3 hB hz1 hk1 hS1 => ?_)
    have hB : va_P D vwCl [(h 0, .inr (2, [.ref (h 1), .ref (h 2), .ref (h 3), .ref (h 4), .int (nI ((tuV V (nI x) (nI z)) 16)), .int (nI ((tuV V (nI x) (nI z)) 67)), .int (rmb (tuV V (nI x) (nI z))), .int (nI ((tuV V (nI x) (nI z)) 66))])), (h 1, .inl (y 1, 8, .inl (u3 0))), (h 2, .inl (y 1, 8, .inl (u3 1))), (h 3, .inl (y 1, 24, .inl (u3 2))), (h 4, .inl (y 1, 4, .inl (u3 3)))] t.heap := hB
    rw [ht] at hB
    have hw3 : r3 = tuI V (nI x) (nI z) ∧ RepC (tuV V (nI x) (nI z)) u3 := hw3
    have hJ := xj_join (ws2 := [(a, .inr (4, [.ref b, .int (nI L), .int (nI np), .int (nI kd), .int f1, .int f2, .int (nI od), .int (nI fp), .int (nI fr), .int fc])), (b, .inl (y 0, 60, .inl sg)), (h 0, .inr (2, [.ref (h 1), .ref (h 2), .ref (h 3), .ref (h 4), .int (nI ((tuV V (nI x) (nI z)) 16)), .int (nI ((tuV V (nI x) (nI z)) 67)), .int (rmb (tuV V (nI x) (nI z))), .int (nI ((tuV V (nI x) (nI z)) 66))])), (h 1, .inl (y 1, 8, .inl (u3 0))), (h 2, .inl (y 1, 8, .inl (u3 1))), (h 3, .inl (y 1, 24, .inl (u3 2))), (h 4, .inl (y 1, 4, .inl (u3 3)))]) hP hD [2, 3, 4, 5, 6] [0, 1] rfl rfl rfl rfl rfl rfl hk1 hB
    clear hP hD hS hB hk1 hz1 hFc hvm ht
    obtain ⟨hP, hD⟩ := hJ
    have hS := hS1
    clear hS1
    obtain ⟨hr3, hRu3⟩ := hw3
    subst hr3
    subst hQe
    exact xw_i hx hb hr hlocks u3 hS dX4_doneOn_69 (⟨(do_110 hc).1.symm, by rw [(do_110 hc).2]; exact hRu3⟩) (fun t ht => by rw [ht]; exact (by rw [(do_110 hc).2]; exact hP))
  by_cases hk3 : (nI kd) = nI 120
  · refine lv_lookup (tgt := 83) (off := 79) hx hb dX4_doneOn_4 (by decide) (by rw [hk3]; decide) (by decide) ?_
    have hc : kd = 120 := (nI_eq (by omega) (by decide)).mp hk3
    refine lv_aload_n hx hb dX4_doneOn_83 rfl (lv_at hl 1 rfl) ?_
    refine lv_aload_n hx hb dX4_doneOn_84 rfl (lv_at hl 0 rfl) ?_
    refine va_get (D := D) (ci := 4) (v := .int f1) (C := RX4) (T := TX4) (N := 10) hx hb hts hin_X4 hown hK.1 hP 0 rfl rfl 4 (by decide) f_65 (fun _ h9 => h9) rfl dX4_doneOn_85 ?_
    refine xv (hf1 (by omega)) ?_
    have hFc := xD_in (W0 := [(h 0, .inr (2, [.ref (h 1), .ref (h 2), .ref (h 3), .ref (h 4), .int (nI (V 16)), .int (nI (V 67)), .int (rmb V), .int (nI (V 66))])), (h 1, .inl (y 1, 8, .inl (q 0))), (h 2, .inl (y 1, 8, .inl (q 1))), (h 3, .inl (y 1, 24, .inl (q 2))), (h 4, .inl (y 1, 4, .inl (q 3)))]) hD [2, 3, 4, 5, 6] rfl
    refine va_calli (va_runV (As := [.int (nI x)]) (rest := []) ⟨hx, hb, hml, hown, hts⟩ (c_X2_tearOut l D y h V q hR hI (nI x)) (cwV 1 hts gX4_doneOn_X2_tearOut rfl rfl rfl hd_X2_tearOut ⟨Nat.le_of_ble_eq_true rfl, Nat.le_of_ble_eq_true rfl⟩) (xpv_w hK hP hD [2, 3, 4, 5, 6] 2 rfl rfl rfl rfl rfl) rfl rfl hl.1 rfl (lv_room (Nat.le_of_ble_eq_true rfl)) dX4_doneOn_88 ⟨Nat.zero_le _, Nat.zero_le _⟩) hS (fun q _ h => hFc q h) hFc (fun r4 u4 t H locs ht hvm hw4 hB hz1 hk1 hS1 => ?_)
    have hB : va_P D vwCl [(h 0, .inr (2, [.ref (h 1), .ref (h 2), .ref (h 3), .ref (h 4), .int (nI ((teV V (nI x)) 16)), .int (nI ((teV V (nI x)) 67)), .int (rmb (teV V (nI x))), .int (nI ((teV V (nI x)) 66))])), (h 1, .inl (y 1, 8, .inl (u4 0))), (h 2, .inl (y 1, 8, .inl (u4 1))), (h 3, .inl (y 1, 24, .inl (u4 2))), (h 4, .inl (y 1, 4, .inl (u4 3)))] t.heap := hB
    rw [ht] at hB
    have hw4 : r4 = teI V (nI x) ∧ RepC (teV V (nI x)) u4 := hw4
    have hJ := xj_join (ws2 := [(a, .inr (4, [.ref b, .int (nI L), .int (nI np), .int (nI kd), .int f1, .int f2, .int (nI od), .int (nI fp), .int (nI fr), .int fc])), (b, .inl (y 0, 60, .inl sg)), (h 0, .inr (2, [.ref (h 1), .ref (h 2), .ref (h 3), .ref (h 4), .int (nI ((teV V (nI x)) 16)), .int (nI ((teV V (nI x)) 67)), .int (rmb (teV V (nI x))), .int (nI ((teV V (nI x)) 66))])), (h 1, .inl (y 1, 8, .inl (u4 0))), (h 2, .inl (y 1, 8, .inl (u4 1))), (h 3, .inl (y 1, 24, .inl (u4 2))), (h 4, .inl (y 1, 4, .inl (u4 3)))]) hP hD [2, 3, 4, 5, 6] [0, 1] rfl rfl rfl rfl rfl rfl hk1 hB
    clear hP hD hS hB hk1 hz1 hFc hvm ht
    obtain ⟨hP, hD⟩ := hJ
    have hS := hS1
    clear hS1
    obtain ⟨hr4, hRu4⟩ := hw4
    subst hr4
    subst hQe
    exact xw_i hx hb hr hlocks u4 hS dX4_doneOn_91 (⟨(do_120 hc).1.symm, by rw [(do_120 hc).2]; exact hRu4⟩) (fun t ht => by rw [ht]; exact (by rw [(do_120 hc).2]; exact hP))
  refine lv_lookup (tgt := 92) (off := 88) hx hb dX4_doneOn_4 (by decide) (by rw [lv_osw hk0 (by decide)]; rw [lv_osw hk1 (by decide)]; rw [lv_osw hk2 (by decide)]; rw [lv_osw hk3 (by decide)]; rfl) (by decide) ?_
  have ng0 : ¬ kd = 99 := fun hq => hk0 (by rw [hq])
  have ng1 : ¬ kd = 107 := fun hq => hk1 (by rw [hq])
  have ng2 : ¬ kd = 110 := fun hq => hk2 (by rw [hq])
  have ng3 : ¬ kd = 120 := fun hq => hk3 (by rw [hq])
  have hc : kd = 116 := by omega
  refine lv_aload_n hx hb dX4_doneOn_92 rfl (lv_at hl 1 rfl) ?_
  have hFc := xD_in (W0 := [(h 0, .inr (2, [.ref (h 1), .ref (h 2), .ref (h 3), .ref (h 4), .int (nI (V 16)), .int (nI (V 67)), .int (rmb V), .int (nI (V 66))])), (h 1, .inl (y 1, 8, .inl (q 0))), (h 2, .inl (y 1, 8, .inl (q 1))), (h 3, .inl (y 1, 24, .inl (q 2))), (h 4, .inl (y 1, 4, .inl (q 3)))]) hD [2, 3, 4, 5, 6] rfl
  refine va_calli (va_runV (As := []) (rest := []) ⟨hx, hb, hml, hown, hts⟩ (c_X2_reverse l D y h V q hR hI ) (cwV 0 hts gX4_doneOn_X2_reverse rfl rfl rfl hd_X2_reverse ⟨Nat.le_of_ble_eq_true rfl, Nat.le_of_ble_eq_true rfl⟩) (xpv_w hK hP hD [2, 3, 4, 5, 6] 2 rfl rfl rfl rfl rfl) rfl rfl hl.1 rfl (lv_room (Nat.le_of_ble_eq_true rfl)) dX4_doneOn_93 ⟨Nat.zero_le _, Nat.zero_le _⟩) hS (fun q _ h => hFc q h) hFc (fun r5 u5 t H locs ht hvm hw5 hB hz1 hk1 hS1 => ?_)
  have hB : va_P D vwCl [(h 0, .inr (2, [.ref (h 1), .ref (h 2), .ref (h 3), .ref (h 4), .int (nI ((reV V) 16)), .int (nI ((reV V) 67)), .int (rmb (reV V)), .int (nI ((reV V) 66))])), (h 1, .inl (y 1, 8, .inl (u5 0))), (h 2, .inl (y 1, 8, .inl (u5 1))), (h 3, .inl (y 1, 24, .inl (u5 2))), (h 4, .inl (y 1, 4, .inl (u5 3)))] t.heap := hB
  rw [ht] at hB
  have hw5 : r5 = reI V ∧ RepC (reV V) u5 := hw5
  have hJ := xj_join (ws2 := [(a, .inr (4, [.ref b, .int (nI L), .int (nI np), .int (nI kd), .int f1, .int f2, .int (nI od), .int (nI fp), .int (nI fr), .int fc])), (b, .inl (y 0, 60, .inl sg)), (h 0, .inr (2, [.ref (h 1), .ref (h 2), .ref (h 3), .ref (h 4), .int (nI ((reV V) 16)), .int (nI ((reV V) 67)), .int (rmb (reV V)), .int (nI ((reV V) 66))])), (h 1, .inl (y 1, 8, .inl (u5 0))), (h 2, .inl (y 1, 8, .inl (u5 1))), (h 3, .inl (y 1, 24, .inl (u5 2))), (h 4, .inl (y 1, 4, .inl (u5 3)))]) hP hD [2, 3, 4, 5, 6] [0, 1] rfl rfl rfl rfl rfl rfl hk1 hB
  clear hP hD hS hB hk1 hz1 hFc hvm ht
  obtain ⟨hP, hD⟩ := hJ
  have hS := hS1
  clear hS1
  obtain ⟨hr5, hRu5⟩ := hw5
  subst hr5
  subst hQe
  exact xw_i hx hb hr hlocks u5 hS dX4_doneOn_96 (⟨(do_116 hc).1.symm, by rw [(do_116 hc).2]; exact hRu5⟩) (fun t ht => by rw [ht]; exact (by rw [(do_116 hc).2]; exact hP))
set_option maxHeartbeats 8000000 in
set_option maxRecDepth 100000 in
theorem c_X4_runsOn (l : Launch) (D : va_G) (y : Nat → ClassId) (a b : Nat) (sg : Nat → Int32) (T : Nat → Nat) (L : Nat) (hT : RepT T L sg) (np kd : Nat) (f1 f2 : Int32) (od fp fr : Nat) (fc : Int32) (hp : np < 2 ^ 30) (h : Nat → Nat) (V : Nat → Nat) (q : Nat → Nat → Int32) (hR : RepC V q) (hI : Inv V) : Met l yX4_runsOn wsX4_runsOn ({ frames := 5, cells := 0, slots := 0, locals := 112 }) (va_Pc [.ref a, .ref (h 0)] (xPw D y [(a, .inr (4, [.ref b, .int (nI L), .int (nI np), .int (nI kd), .int f1, .int f2, .int (nI od), .int (nI fp), .int (nI fr), .int fc])), (b, .inl (y 0, 60, .inl sg)), (h 0, .inr (2, [.ref (h 1), .ref (h 2), .ref (h 3), .ref (h 4), .int (nI (V 16)), .int (nI (V 67)), .int (rmb V), .int (nI (V 66))])), (h 1, .inl (y 1, 8, .inl (q 0))), (h 2, .inl (y 1, 8, .inl (q 1))), (h 3, .inl (y 1, 24, .inl (q 2))), (h 4, .inl (y 1, 4, .inl (q 3)))])) (va_Qi (fun r (u : Nat × Nat × Int32 × Int32 × Nat × Nat × Nat × Int32 × (Nat → Nat) × (Nat → Nat → Int32)) => r = nI (bN ((goA T L V).2.2.1 = 0)) ∧ u.2.2.2.2.1 = (goA T L V).1 ∧ (¬ (goA T L V).2.2.1 = 0 → u.2.2.2.2.2.1 = (goA T L V).2.1 ∧ u.2.2.2.2.2.2.1 = (goA T L V).2.2.1 ∧ u.2.2.2.2.2.2.2.1 = (goA T L V).2.2.2.1) ∧ ((goA T L V).2.2.1 = 0 → u.2.2.2.2.2.2.2.2.1 = (goA T L V).2.2.2.2 ∧ RepC u.2.2.2.2.2.2.2.2.1 u.2.2.2.2.2.2.2.2.2) ∧ u.1 < 2 ^ 28) (fun (u : Nat × Nat × Int32 × Int32 × Nat × Nat × Nat × Int32 × (Nat → Nat) × (Nat → Nat → Int32)) t => va_P D vwCl [(a, .inr (4, [.ref b, .int (nI L), .int (nI u.1), .int (nI u.2.1), .int u.2.2.1, .int u.2.2.2.1, .int (nI u.2.2.2.2.1), .int (nI u.2.2.2.2.2.1), .int (nI u.2.2.2.2.2.2.1), .int u.2.2.2.2.2.2.2.1])), (b, .inl (y 0, 60, .inl sg)), (h 0, .inr (2, [.ref (h 1), .ref (h 2), .ref (h 3), .ref (h 4), .int (nI ((u.2.2.2.2.2.2.2.2.1) 16)), .int (nI ((u.2.2.2.2.2.2.2.2.1) 67)), .int (rmb (u.2.2.2.2.2.2.2.2.1)), .int (nI ((u.2.2.2.2.2.2.2.2.1) 66))])), (h 1, .inl (y 1, 8, .inl ((u.2.2.2.2.2.2.2.2.2) 0))), (h 2, .inl (y 1, 8, .inl ((u.2.2.2.2.2.2.2.2.2) 1))), (h 3, .inl (y 1, 24, .inl ((u.2.2.2.2.2.2.2.2.2) 2))), (h 4, .inl (y 1, 4, .inl ((u.2.2.2.2.2.2.2.2.2) 3)))] t.heap) (xIn [(a, .inr (4, [.ref b, .int (nI L), .int (nI np), .int (nI kd), .int f1, .int f2, .int (nI od), .int (nI fp), .int (nI fr), .int fc])), (b, .inl (y 0, 60, .inl sg)), (h 0, .inr (2, [.ref (h 1), .ref (h 2), .ref (h 3), .ref (h 4), .int (nI (V 16)), .int (nI (V 67)), .int (rmb V), .int (nI (V 66))])), (h 1, .inl (y 1, 8, .inl (q 0))), (h 2, .inl (y 1, 8, .inl (q 1))), (h 3, .inl (y 1, 24, .inl (q 2))), (h 4, .inl (y 1, 4, .inl (q 3)))])) 0 0 (xIn [(a, .inr (4, [.ref b, .int (nI L), .int (nI np), .int (nI kd), .int f1, .int f2, .int (nI od), .int (nI fp), .int (nI fr), .int fc])), (b, .inl (y 0, 60, .inl sg)), (h 0, .inr (2, [.ref (h 1), .ref (h 2), .ref (h 3), .ref (h 4), .int (nI (V 16)), .int (nI (V 67)), .int (rmb V), .int (nI (V 66))])), (h 1, .inl (y 1, 8, .inl (q 0))), (h 2, .inl (y 1, 8, .inl (q 1))), (h 3, .inl (y 1, 24, .inl (q 2))), (h 4, .inl (y 1, 4, .inl (q 3)))]) := by
  refine Met.ofW (cc := cX4_runsOn) (maxL := 4) (ret := (some .boolean)) (by decide) rfl ?_
  intro p e s m args below meth c s₁ B hml hv
  obtain ⟨rfl, hP, hK, hD0⟩ := hv
  have hx := B.exec
  have hb := B.bytes
  have hr := B.returns
  have hts := atoms_spec (ws := wsX4_runsOn) B.pre
  have hown : s.vm.findClass RX4 = some m.cls := findClass_of_methodNamed B.named
  have hlocks := B.notSynchronized
  have f_15 := hts (.fieldLink RX4 15 "LoomTunes$Script" "length" "I") (by decide +kernel)
  have f_21 := hts (.fieldLink RX4 21 "LoomTunes$Script" "next" "I") (by decide +kernel)
  have f_24 := hts (.fieldLink RX4 24 "LoomTunes$Script" "orders" "I") (by decide +kernel)
  have f_27 := hts (.fieldLink RX4 27 "LoomTunes$Script" "faultPlace" "I") (by decide +kernel)
  have f_34 := hts (.fieldLink RX4 34 "LoomTunes$Script" "faultReason" "I") (by decide +kernel)
  have f_37 := hts (.fieldLink RX4 37 "LoomTunes$Script" "faultCause" "I") (by decide +kernel)
  have hin_X4 : ∀ w ∈ wsX40, w ∈ wsX4_runsOn := by decide +kernel
  have hD := xD_self hD0
  generalize hAe : xIn [(a, .inr (4, [.ref b, .int (nI L), .int (nI np), .int (nI kd), .int f1, .int f2, .int (nI od), .int (nI fp), .int (nI fr), .int fc])), (b, .inl (y 0, 60, .inl sg)), (h 0, .inr (2, [.ref (h 1), .ref (h 2), .ref (h 3), .ref (h 4), .int (nI (V 16)), .int (nI (V 67)), .int (rmb V), .int (nI (V 66))])), (h 1, .inl (y 1, 8, .inl (q 0))), (h 2, .inl (y 1, 8, .inl (q 1))), (h 3, .inl (y 1, 24, .inl (q 2))), (h 4, .inl (y 1, 4, .inl (q 3)))] = A at hD ⊢
  have hS : va_S A s.heap s.heap [] := va_S.rf
  have hP : va_P D vwCl [(a, .inr (4, [.ref b, .int (nI L), .int (nI np), .int (nI kd), .int f1, .int f2, .int (nI od), .int (nI fp), .int (nI fr), .int fc])), (b, .inl (y 0, 60, .inl sg)), (h 0, .inr (2, [.ref (h 1), .ref (h 2), .ref (h 3), .ref (h 4), .int (nI (V 16)), .int (nI (V 67)), .int (rmb V), .int (nI (V 66))])), (h 1, .inl (y 1, 8, .inl (q 0))), (h 2, .inl (y 1, 8, .inl (q 1))), (h 3, .inl (y 1, 24, .inl (q 2))), (h 4, .inl (y 1, 4, .inl (q 3)))] s.heap := hP
  have hl := lv_entry ([.ref a, .ref (h 0)]) (n := 4) (Nat.le_of_ble_eq_true rfl)
  rw [lg_entry_eq]
  generalize (lg_sl ([.ref a, .ref (h 0)]) ++ List.replicate (4 - (lg_sl ([.ref a, .ref (h 0)])).length) Slot.unset).toArray = ls at hl ⊢
  have hl : lv_has ls 4 [(0, .ref a), (1, .ref (h 0))] := hl
  generalize hQe : (MQ below (va_Qi (fun r (u : Nat × Nat × Int32 × Int32 × Nat × Nat × Nat × Int32 × (Nat → Nat) × (Nat → Nat → Int32)) => r = nI (bN ((goA T L V).2.2.1 = 0)) ∧ u.2.2.2.2.1 = (goA T L V).1 ∧ (¬ (goA T L V).2.2.1 = 0 → u.2.2.2.2.2.1 = (goA T L V).2.1 ∧ u.2.2.2.2.2.2.1 = (goA T L V).2.2.1 ∧ u.2.2.2.2.2.2.2.1 = (goA T L V).2.2.2.1) ∧ ((goA T L V).2.2.1 = 0 → u.2.2.2.2.2.2.2.2.1 = (goA T L V).2.2.2.2 ∧ RepC u.2.2.2.2.2.2.2.2.1 u.2.2.2.2.2.2.2.2.2) ∧ u.1 < 2 ^ 28) (fun (u : Nat × Nat × Int32 × Int32 × Nat × Nat × Nat × Int32 × (Nat → Nat) × (Nat → Nat → Int32)) t => va_P D vwCl [(a, .inr (4, [.ref b, .int (nI L), .int (nI u.1), .int (nI u.2.1), .int u.2.2.1, .int u.2.2.2.1, .int (nI u.2.2.2.2.1), .int (nI u.2.2.2.2.2.1), .int (nI u.2.2.2.2.2.2.1), .int u.2.2.2.2.2.2.2.1])), (b, .inl (y 0, 60, .inl sg)), (h 0, .inr (2, [.ref (h 1), .ref (h 2), .ref (h 3), .ref (h 4), .int (nI ((u.2.2.2.2.2.2.2.2.1) 16)), .int (nI ((u.2.2.2.2.2.2.2.2.1) 67)), .int (rmb (u.2.2.2.2.2.2.2.2.1)), .int (nI ((u.2.2.2.2.2.2.2.2.1) 66))])), (h 1, .inl (y 1, 8, .inl ((u.2.2.2.2.2.2.2.2.2) 0))), (h 2, .inl (y 1, 8, .inl ((u.2.2.2.2.2.2.2.2.2) 1))), (h 3, .inl (y 1, 24, .inl ((u.2.2.2.2.2.2.2.2.2) 2))), (h 4, .inl (y 1, 4, .inl ((u.2.2.2.2.2.2.2.2.2) 3)))] t.heap) A) ([.ref a, .ref (h 0)] : List Value).toArray s 0 0 A) = Q
  have hL := hT.1
  refine lv_aload_n hx hb dX4_runsOn_0 rfl (lv_at hl 0 rfl) ?_
  refine lv_iconst (v := nI 0) hx hb dX4_runsOn_1 (by decide) ?_
  refine va_put (D := D) (ci := 4) (v := .int (nI 0)) (ty := .int) (C := RX4) (T := TX4) (N := 10) hx hb hts hin_X4 tyX4 tyX4_ok nmX4 hown hK.1 hP hD hS 0 rfl rfl 2 (by decide) f_21 (fun _ h9 => h9) rfl (by decide +kernel) rfl rfl (Nat.le_of_ble_eq_true rfl) dX4_runsOn_2 (fun H locs hP1 hD1 hS1 => ?_)
  clear hP hD hS
  have hP : va_P D vwCl [(a, .inr (4, [.ref b, .int (nI L), .int (nI 0), .int (nI kd), .int f1, .int f2, .int (nI od), .int (nI fp), .int (nI fr), .int fc])), (b, .inl (y 0, 60, .inl sg)), (h 0, .inr (2, [.ref (h 1), .ref (h 2), .ref (h 3), .ref (h 4), .int (nI (V 16)), .int (nI (V 67)), .int (rmb V), .int (nI (V 66))])), (h 1, .inl (y 1, 8, .inl (q 0))), (h 2, .inl (y 1, 8, .inl (q 1))), (h 3, .inl (y 1, 24, .inl (q 2))), (h 4, .inl (y 1, 4, .inl (q 3)))] H := hP1
  have hD : va_D A [(a, .inr (4, [.ref b, .int (nI L), .int (nI 0), .int (nI kd), .int f1, .int f2, .int (nI od), .int (nI fp), .int (nI fr), .int fc])), (b, .inl (y 0, 60, .inl sg)), (h 0, .inr (2, [.ref (h 1), .ref (h 2), .ref (h 3), .ref (h 4), .int (nI (V 16)), .int (nI (V 67)), .int (rmb V), .int (nI (V 66))])), (h 1, .inl (y 1, 8, .inl (q 0))), (h 2, .inl (y 1, 8, .inl (q 1))), (h 3, .inl (y 1, 24, .inl (q 2))), (h 4, .inl (y 1, 4, .inl (q 3)))] := hD1
  have hS := hS1
  clear hP1 hD1 hS1
  refine lv_aload_n hx hb dX4_runsOn_5 rfl (lv_at hl 0 rfl) ?_
  refine lv_iconst (v := nI 0) hx hb dX4_runsOn_6 (by decide) ?_
  refine va_put (D := D) (ci := 4) (v := .int (nI 0)) (ty := .int) (C := RX4) (T := TX4) (N := 10) hx hb hts hin_X4 tyX4 tyX4_ok nmX4 hown hK.1 hP hD hS 0 rfl rfl 6 (by decide) f_24 (fun _ h9 => h9) rfl (by decide +kernel) rfl rfl (Nat.le_of_ble_eq_true rfl) dX4_runsOn_7 (fun H locs hP1 hD1 hS1 => ?_)
  clear hP hD hS
  have hP : va_P D vwCl [(a, .inr (4, [.ref b, .int (nI L), .int (nI 0), .int (nI kd), .int f1, .int f2, .int (nI 0), .int (nI fp), .int (nI fr), .int fc])), (b, .inl (y 0, 60, .inl sg)), (h 0, .inr (2, [.ref (h 1), .ref (h 2), .ref (h 3), .ref (h 4), .int (nI (V 16)), .int (nI (V 67)), .int (rmb V), .int (nI (V 66))])), (h 1, .inl (y 1, 8, .inl (q 0))), (h 2, .inl (y 1, 8, .inl (q 1))), (h 3, .inl (y 1, 24, .inl (q 2))), (h 4, .inl (y 1, 4, .inl (q 3)))] H := hP1
  have hD : va_D A [(a, .inr (4, [.ref b, .int (nI L), .int (nI 0), .int (nI kd), .int f1, .int f2, .int (nI 0), .int (nI fp), .int (nI fr), .int fc])), (b, .inl (y 0, 60, .inl sg)), (h 0, .inr (2, [.ref (h 1), .ref (h 2), .ref (h 3), .ref (h 4), .int (nI (V 16)), .int (nI (V 67)), .int (rmb V), .int (nI (V 66))])), (h 1, .inl (y 1, 8, .inl (q 0))), (h 2, .inl (y 1, 8, .inl (q 1))), (h 3, .inl (y 1, 24, .inl (q 2))), (h 4, .inl (y 1, 4, .inl (q 3)))] := hD1
  have hS := hS1
  clear hP1 hD1 hS1
  refine lv_iconst (v := nI 0) hx hb dX4_runsOn_10 (by decide) ?_
  refine lv_istore_n (lv' := [(2, .int (nI 0)), (0, .ref a), (1, .ref (h 0))]) hx hb dX4_runsOn_11 rfl hl (by decide) rfl (fun ls hl => ?_)
  have lp12 : ∀ (n : Nat) (k : Nat) (p2 : Nat) (kd2 : Nat) (g1 : Int32) (g2 : Int32) (fp2 : Nat) (V2 : Nat → Nat) (q2 : Nat → Nat → Int32), 60 - k < n → (k ≤ 60) → (p2 ≤ 100) → (RepC V2 q2) → (Inv V2) → (goF T L (60 - k) p2 V2 k = goA T L V) → ∀ (H : Heap) (locs : List Loc), va_P D vwCl [(a, .inr (4, [.ref b, .int (nI L), .int (nI p2), .int (nI kd2), .int g1, .int g2, .int (nI k), .int (nI fp2), .int (nI fr), .int fc])), (b, .inl (y 0, 60, .inl sg)), (h 0, .inr (2, [.ref (h 1), .ref (h 2), .ref (h 3), .ref (h 4), .int (nI (V2 16)), .int (nI (V2 67)), .int (rmb V2), .int (nI (V2 66))])), (h 1, .inl (y 1, 8, .inl (q2 0))), (h 2, .inl (y 1, 8, .inl (q2 1))), (h 3, .inl (y 1, 24, .inl (q2 2))), (h 4, .inl (y 1, 4, .inl (q2 3)))] H → va_D A [(a, .inr (4, [.ref b, .int (nI L), .int (nI p2), .int (nI kd2), .int g1, .int g2, .int (nI k), .int (nI fp2), .int (nI fr), .int fc])), (b, .inl (y 0, 60, .inl sg)), (h 0, .inr (2, [.ref (h 1), .ref (h 2), .ref (h 3), .ref (h 4), .int (nI (V2 16)), .int (nI (V2 67)), .int (rmb V2), .int (nI (V2 66))])), (h 1, .inl (y 1, 8, .inl (q2 0))), (h 2, .inl (y 1, 8, .inl (q2 1))), (h 3, .inl (y 1, 24, .inl (q2 2))), (h 4, .inl (y 1, 4, .inl (q2 3)))] → va_S A s.heap H locs → ∀ ls : Array Slot, lv_has ls 4 [(2, .int (nI k)), (0, .ref a), (1, .ref (h 0))] → W p l e (headSpec wsX4_runsOn ({ frames := 5, cells := 0, slots := 0, locals := 112 })).room s m ([.ref a, .ref (h 0)] : List Value).toArray below meth c H locs 0 0 Q (F0 m 12 ls []) := by
    intro n
    induction n with
    | zero => intro k p2 kd2 g1 g2 fp2 V2 q2 hm; exact absurd hm (Nat.not_lt_zero _)
    | succ n ih12 =>
      intro k p2 kd2 g1 g2 fp2 V2 q2 hm hk hp2 hR2 hI2 hg H locs hP hD hS ls hl
      refine lv_iload_n hx hb dX4_runsOn_12 rfl (lv_at hl 0 rfl) ?_
      refine lv_bipush (v := nI 60) hx hb dX4_runsOn_13 (by decide) ?_
      refine xn_icmp_ge hx hb (by omega) (by omega) (tgt := 102) dX4_runsOn_15 (by decide) (fun kc15 => ?_) (fun kc15 => ?_)
      · refine lv_iconst (v := nI 1) hx hb dX4_runsOn_102 (by decide) ?_
        subst hQe
        exact xw_z hx hb hr hlocks (p2, kd2, g1, g2, k, fp2, fr, fc, V2, q2) hS dX4_runsOn_103 (by omega) (by rw [hg.symm.trans (goF_60 kc15)]; exact ⟨congrArg nI (bN_t (by rfl)).symm, rfl, fun hq => absurd rfl hq, fun _ => ⟨rfl, hR2⟩, by show p2 < 2 ^ 28; omega⟩) (fun t ht => by rw [ht]; exact (hP))
      · refine lv_aload_n hx hb dX4_runsOn_18 rfl (lv_at hl 1 rfl) ?_
        refine va_get (D := D) (ci := 4) (v := .int (nI p2)) (C := RX4) (T := TX4) (N := 10) hx hb hts hin_X4 hown hK.1 hP 0 rfl rfl 2 (by decide) f_21 (fun _ h9 => h9) rfl dX4_runsOn_19 ?_
        refine lv_aload_n hx hb dX4_runsOn_22 rfl (lv_at hl 1 rfl) ?_
        refine va_get (D := D) (ci := 4) (v := .int (nI L)) (C := RX4) (T := TX4) (N := 10) hx hb hts hin_X4 hown hK.1 hP 0 rfl rfl 1 (by decide) f_15 (fun _ h9 => h9) rfl dX4_runsOn_23 ?_
        refine xn_icmp_ge hx hb (by omega) (by omega) (tgt := 102) dX4_runsOn_26 (by decide) (fun kc26 => ?_) (fun kc26 => ?_)
        · refine lv_iconst (v := nI 1) hx hb dX4_runsOn_102 (by decide) ?_
          subst hQe
          exact xw_z hx hb hr hlocks (p2, kd2, g1, g2, k, fp2, fr, fc, V2, q2) hS dX4_runsOn_103 (by omega) (by rw [hg.symm.trans (goF_e kc15 kc26)]; exact ⟨congrArg nI (bN_t (by rfl)).symm, rfl, fun hq => absurd rfl hq, fun _ => ⟨rfl, hR2⟩, by show p2 < 2 ^ 28; omega⟩) (fun t ht => by rw [ht]; exact (hP))
        · have hol2 := orP_le (T := T) (L := L) (p := p2)
          refine lv_aload_n hx hb dX4_runsOn_29 rfl (lv_at hl 1 rfl) ?_
          refine lv_aload_n hx hb dX4_runsOn_30 rfl (lv_at hl 1 rfl) ?_
          refine va_get (D := D) (ci := 4) (v := .int (nI p2)) (C := RX4) (T := TX4) (N := 10) hx hb hts hin_X4 hown hK.1 hP 0 rfl rfl 2 (by decide) f_21 (fun _ h9 => h9) rfl dX4_runsOn_31 ?_
          refine va_put (D := D) (ci := 4) (v := .int (nI p2)) (ty := .int) (C := RX4) (T := TX4) (N := 10) hx hb hts hin_X4 tyX4 tyX4_ok nmX4 hown hK.1 hP hD hS 0 rfl rfl 7 (by decide) f_27 (fun _ h9 => h9) rfl (by decide +kernel) rfl rfl (Nat.le_of_ble_eq_true rfl) dX4_runsOn_34 (fun H locs hP1 hD1 hS1 => ?_)
          clear hP hD hS
          have hP : va_P D vwCl [(a, .inr (4, [.ref b, .int (nI L), .int (nI p2), .int (nI kd2), .int g1, .int g2, .int (nI k), .int (nI p2), .int (nI fr), .int fc])), (b, .inl (y 0, 60, .inl sg)), (h 0, .inr (2, [.ref (h 1), .ref (h 2), .ref (h 3), .ref (h 4), .int (nI (V2 16)), .int (nI (V2 67)), .int (rmb V2), .int (nI (V2 66))])), (h 1, .inl (y 1, 8, .inl (q2 0))), (h 2, .inl (y 1, 8, .inl (q2 1))), (h 3, .inl (y 1, 24, .inl (q2 2))), (h 4, .inl (y 1, 4, .inl (q2 3)))] H := hP1
          have hD : va_D A [(a, .inr (4, [.ref b, .int (nI L), .int (nI p2), .int (nI kd2), .int g1, .int g2, .int (nI k), .int (nI p2), .int (nI fr), .int fc])), (b, .inl (y 0, 60, .inl sg)), (h 0, .inr (2, [.ref (h 1), .ref (h 2), .ref (h 3), .ref (h 4), .int (nI (V2 16)), .int (nI (V2 67)), .int (rmb V2), .int (nI (V2 66))])), (h 1, .inl (y 1, 8, .inl (q2 0))), (h 2, .inl (y 1, 8, .inl (q2 1))), (h 3, .inl (y 1, 24, .inl (q2 2))), (h 4, .inl (y 1, 4, .inl (q2 3)))] := hD1
          have hS := hS1
          clear hP1 hD1 hS1
          refine lv_aload_n hx hb dX4_runsOn_37 rfl (lv_at hl 1 rfl) ?_
          have hFc := xD_in (W0 := [(a, .inr (4, [.ref b, .int (nI L), .int (nI p2), .int (nI kd2), .int g1, .int g2, .int (nI k), .int (nI p2), .int (nI fr), .int fc])), (b, .inl (y 0, 60, .inl sg))]) hD [0, 1] rfl
          refine va_calli (va_runV (As := []) (rest := []) ⟨hx, hb, hml, hown, hts⟩ (c_X4_readsOrder l D y a b sg T L hT p2 kd2 g1 g2 k p2 fr fc (by omega) ) (cwV 0 hts gX4_runsOn_X4_readsOrder rfl rfl rfl hd_X4_readsOrder ⟨Nat.le_of_ble_eq_true rfl, Nat.le_of_ble_eq_true rfl⟩) (xpv_w hK hP hD [0, 1] 0 rfl rfl rfl rfl rfl) rfl rfl hl.1 rfl (lv_room (Nat.le_of_ble_eq_true rfl)) dX4_runsOn_38 ⟨Nat.zero_le _, Nat.zero_le _⟩) hS (fun q _ h => hFc q h) hFc (fun r1 u1 t H locs ht hvm hw1 hB hz1 hk1 hS1 => ?_)
          have hB : va_P D vwCl [(a, .inr (4, [.ref b, .int (nI L), .int (nI (orP T L p2)), .int (nI (sgn T L p2)), .int u1.1, .int u1.2, .int (nI k), .int (nI p2), .int (nI fr), .int fc])), (b, .inl (y 0, 60, .inl sg))] t.heap := hB
          rw [ht] at hB
          have hw1 : r1 = nI (bN (orK T L p2)) ∧ (orK T L p2 → (¬ sgn T L p2 = 116 → u1.1 = nI (orX T L p2)) ∧ (sgn T L p2 = 107 ∨ sgn T L p2 = 110 → u1.2 = nI (orY T L p2))) := hw1
          have hJ := xj_join (ws2 := [(a, .inr (4, [.ref b, .int (nI L), .int (nI (orP T L p2)), .int (nI (sgn T L p2)), .int u1.1, .int u1.2, .int (nI k), .int (nI p2), .int (nI fr), .int fc])), (b, .inl (y 0, 60, .inl sg)), (h 0, .inr (2, [.ref (h 1), .ref (h 2), .ref (h 3), .ref (h 4), .int (nI (V2 16)), .int (nI (V2 67)), .int (rmb V2), .int (nI (V2 66))])), (h 1, .inl (y 1, 8, .inl (q2 0))), (h 2, .inl (y 1, 8, .inl (q2 1))), (h 3, .inl (y 1, 24, .inl (q2 2))), (h 4, .inl (y 1, 4, .inl (q2 3)))]) hP hD [0, 1] [2, 3, 4, 5, 6] rfl rfl rfl rfl rfl rfl hk1 hB
          clear hP hD hS hB hk1 hz1 hFc hvm ht
          obtain ⟨hP, hD⟩ := hJ
          have hS := hS1
          clear hS1
          obtain ⟨hr1, hxu1⟩ := hw1
          subst hr1
          refine xn_if_ne hx hb (by have hq := bN_lt (c := orK T L p2); omega) (tgt := 64) dX4_runsOn_41 (by decide) (fun kc41 => ?_) (fun kc41 => ?_)
          · have hok := bN_n0.mp kc41
            refine lv_aload_n hx hb dX4_runsOn_64 rfl (lv_at hl 1 rfl) ?_
            refine lv_aload_n hx hb dX4_runsOn_65 rfl (lv_at hl 2 rfl) ?_
            have hFc := xD_in (W0 := [(a, .inr (4, [.ref b, .int (nI L), .int (nI (orP T L p2)), .int (nI (sgn T L p2)), .int u1.1, .int u1.2, .int (nI k), .int (nI p2), .int (nI fr), .int fc])), (b, .inl (y 0, 60, .inl sg)), (h 0, .inr (2, [.ref (h 1), .ref (h 2), .ref (h 3), .ref (h 4), .int (nI (V2 16)), .int (nI (V2 67)), .int (rmb V2), .int (nI (V2 66))])), (h 1, .inl (y 1, 8, .inl (q2 0))), (h 2, .inl (y 1, 8, .inl (q2 1))), (h 3, .inl (y 1, 24, .inl (q2 2))), (h 4, .inl (y 1, 4, .inl (q2 3)))]) hD [0, 1, 2, 3, 4, 5, 6] rfl
            refine va_calli (va_runV (As := [.ref (h 0)]) (rest := []) ⟨hx, hb, hml, hown, hts⟩ (c_X4_doneOn l D y a b sg T L hT (orP T L p2) (sgn T L p2) u1.1 u1.2 k p2 fr fc (by omega) (orX T L p2) (orY T L p2) (fun hq => (hxu1 hok).1 hq) (fun hq => (hxu1 hok).2 hq) (orK_k hok) h V2 q2 hR2 hI2) (cwV 1 hts gX4_runsOn_X4_doneOn rfl rfl rfl hd_X4_doneOn ⟨Nat.le_of_ble_eq_true rfl, Nat.le_of_ble_eq_true rfl⟩) (xpv_w hK hP hD [0, 1, 2, 3, 4, 5, 6] 0 rfl rfl rfl rfl rfl) rfl rfl hl.1 rfl (lv_room (Nat.le_of_ble_eq_true rfl)) dX4_runsOn_66 ⟨Nat.zero_le _, Nat.zero_le _⟩) hS (fun q _ h => hFc q h) hFc (fun r2 u2 t H locs ht hvm hw2 hB hz1 hk1 hS1 => ?_)
            have hB : va_P D vwCl [(a, .inr (4, [.ref b, .int (nI L), .int (nI (orP T L p2)), .int (nI (sgn T L p2)), .int u1.1, .int u1.2, .int (nI k), .int (nI p2), .int (nI fr), .int fc])), (b, .inl (y 0, 60, .inl sg)), (h 0, .inr (2, [.ref (h 1), .ref (h 2), .ref (h 3), .ref (h 4), .int (nI ((doV V2 (sgn T L p2) (orX T L p2) (orY T L p2)) 16)), .int (nI ((doV V2 (sgn T L p2) (orX T L p2) (orY T L p2)) 67)), .int (rmb (doV V2 (sgn T L p2) (orX T L p2) (orY T L p2))), .int (nI ((doV V2 (sgn T L p2) (orX T L p2) (orY T L p2)) 66))])), (h 1, .inl (y 1, 8, .inl (u2 0))), (h 2, .inl (y 1, 8, .inl (u2 1))), (h 3, .inl (y 1, 24, .inl (u2 2))), (h 4, .inl (y 1, 4, .inl (u2 3)))] t.heap := hB
            rw [ht] at hB
            have hw2 : r2 = doI V2 (sgn T L p2) (orX T L p2) (orY T L p2) ∧ RepC (doV V2 (sgn T L p2) (orX T L p2) (orY T L p2)) u2 := hw2
            have hJ := xj_join (ws2 := [(a, .inr (4, [.ref b, .int (nI L), .int (nI (orP T L p2)), .int (nI (sgn T L p2)), .int u1.1, .int u1.2, .int (nI k), .int (nI p2), .int (nI fr), .int fc])), (b, .inl (y 0, 60, .inl sg)), (h 0, .inr (2, [.ref (h 1), .ref (h 2), .ref (h 3), .ref (h 4), .int (nI ((doV V2 (sgn T L p2) (orX T L p2) (orY T L p2)) 16)), .int (nI ((doV V2 (sgn T L p2) (orX T L p2) (orY T L p2)) 67)), .int (rmb (doV V2 (sgn T L p2) (orX T L p2) (orY T L p2))), .int (nI ((doV V2 (sgn T L p2) (orX T L p2) (orY T L p2)) 66))])), (h 1, .inl (y 1, 8, .inl (u2 0))), (h 2, .inl (y 1, 8, .inl (u2 1))), (h 3, .inl (y 1, 24, .inl (u2 2))), (h 4, .inl (y 1, 4, .inl (u2 3)))]) hP hD [0, 1, 2, 3, 4, 5, 6] [] rfl rfl rfl rfl rfl rfl hk1 hB
            clear hP hD hS hB hk1 hz1 hFc hvm ht
            obtain ⟨hP, hD⟩ := hJ
            have hS := hS1
            clear hS1
            obtain ⟨hr2, hRu2⟩ := hw2
            subst hr2
            refine lv_istore_n (lv' := [(3, .int (doI V2 (sgn T L p2) (orX T L p2) (orY T L p2))), (2, .int (nI k)), (0, .ref a), (1, .ref (h 0))]) hx hb dX4_runsOn_69 rfl hl (by decide) rfl (fun ls hl => ?_)
            refine lv_iload_n hx hb dX4_runsOn_70 rfl (lv_at hl 0 rfl) ?_
            refine lv_if_ge (tgt := 86) hx hb dX4_runsOn_71 (by decide) (fun kc71 => ?_) (fun kc71 => ?_)
            · refine lv_aload_n hx hb dX4_runsOn_86 rfl (lv_at hl 2 rfl) ?_
              refine lv_dup hx hb dX4_runsOn_87 rfl ?_
              refine va_get (D := D) (ci := 4) (v := .int (nI k)) (C := RX4) (T := TX4) (N := 10) hx hb hts hin_X4 hown hK.1 hP 0 rfl rfl 6 (by decide) f_24 (fun _ h9 => h9) rfl dX4_runsOn_88 ?_
              refine lv_iconst (v := nI 1) hx hb dX4_runsOn_91 (by decide) ?_
              refine xn_add hx hb (r := (k + 1)) rfl dX4_runsOn_92 ?_
              refine va_put (D := D) (ci := 4) (v := .int (nI (k + 1))) (ty := .int) (C := RX4) (T := TX4) (N := 10) hx hb hts hin_X4 tyX4 tyX4_ok nmX4 hown hK.1 hP hD hS 0 rfl rfl 6 (by decide) f_24 (fun _ h9 => h9) rfl (by decide +kernel) rfl rfl (Nat.le_of_ble_eq_true rfl) dX4_runsOn_93 (fun H locs hP1 hD1 hS1 => ?_)
              clear hP hD hS
              have hP : va_P D vwCl [(a, .inr (4, [.ref b, .int (nI L), .int (nI (orP T L p2)), .int (nI (sgn T L p2)), .int u1.1, .int u1.2, .int (nI (k + 1)), .int (nI p2), .int (nI fr), .int fc])), (b, .inl (y 0, 60, .inl sg)), (h 0, .inr (2, [.ref (h 1), .ref (h 2), .ref (h 3), .ref (h 4), .int (nI ((doV V2 (sgn T L p2) (orX T L p2) (orY T L p2)) 16)), .int (nI ((doV V2 (sgn T L p2) (orX T L p2) (orY T L p2)) 67)), .int (rmb (doV V2 (sgn T L p2) (orX T L p2) (orY T L p2))), .int (nI ((doV V2 (sgn T L p2) (orX T L p2) (orY T L p2)) 66))])), (h 1, .inl (y 1, 8, .inl (u2 0))), (h 2, .inl (y 1, 8, .inl (u2 1))), (h 3, .inl (y 1, 24, .inl (u2 2))), (h 4, .inl (y 1, 4, .inl (u2 3)))] H := hP1
              have hD : va_D A [(a, .inr (4, [.ref b, .int (nI L), .int (nI (orP T L p2)), .int (nI (sgn T L p2)), .int u1.1, .int u1.2, .int (nI (k + 1)), .int (nI p2), .int (nI fr), .int fc])), (b, .inl (y 0, 60, .inl sg)), (h 0, .inr (2, [.ref (h 1), .ref (h 2), .ref (h 3), .ref (h 4), .int (nI ((doV V2 (sgn T L p2) (orX T L p2) (orY T L p2)) 16)), .int (nI ((doV V2 (sgn T L p2) (orX T L p2) (orY T L p2)) 67)), .int (rmb (doV V2 (sgn T L p2) (orX T L p2) (orY T L p2))), .int (nI ((doV V2 (sgn T L p2) (orX T L p2) (orY T L p2)) 66))])), (h 1, .inl (y 1, 8, .inl (u2 0))), (h 2, .inl (y 1, 8, .inl (u2 1))), (h 3, .inl (y 1, 24, .inl (u2 2))), (h 4, .inl (y 1, 4, .inl (u2 3)))] := hD1
              have hS := hS1
              clear hP1 hD1 hS1
              refine lv_iinc (v := nI (k + 1)) (lv' := [(2, .int (nI (k + 1))), (3, .int (doI V2 (sgn T L p2) (orX T L p2) (orY T L p2))), (0, .ref a), (1, .ref (h 0))]) hx hb dX4_runsOn_96 hl (k := 1) rfl (nI_add k 1) (by decide) rfl (fun ls hl => ?_)
              refine lv_goto (tgt := 12) hx hb dX4_runsOn_99 (by decide) ?_
              exact ih12 (k + 1) (orP T L p2) (sgn T L p2) u1.1 u1.2 p2 (doV V2 (sgn T L p2) (orX T L p2) (orY T L p2)) u2 (by omega) (by omega) (by omega) (hRu2) (do_inv hI2 _ _ _) ((goF_s kc15 kc26 hok (fun hq => Int32.not_lt.mpr kc71 hq)).symm.trans hg) _ _ hP hD hS ls (lv_sub hl [0, 2, 3] rfl)
            · refine lv_aload_n hx hb dX4_runsOn_74 rfl (lv_at hl 2 rfl) ?_
              refine lv_iconst (v := nI 2) hx hb dX4_runsOn_75 (by decide) ?_
              refine va_put (D := D) (ci := 4) (v := .int (nI 2)) (ty := .int) (C := RX4) (T := TX4) (N := 10) hx hb hts hin_X4 tyX4 tyX4_ok nmX4 hown hK.1 hP hD hS 0 rfl rfl 8 (by decide) f_34 (fun _ h9 => h9) rfl (by decide +kernel) rfl rfl (Nat.le_of_ble_eq_true rfl) dX4_runsOn_76 (fun H locs hP1 hD1 hS1 => ?_)
              clear hP hD hS
              have hP : va_P D vwCl [(a, .inr (4, [.ref b, .int (nI L), .int (nI (orP T L p2)), .int (nI (sgn T L p2)), .int u1.1, .int u1.2, .int (nI k), .int (nI p2), .int (nI 2), .int fc])), (b, .inl (y 0, 60, .inl sg)), (h 0, .inr (2, [.ref (h 1), .ref (h 2), .ref (h 3), .ref (h 4), .int (nI ((doV V2 (sgn T L p2) (orX T L p2) (orY T L p2)) 16)), .int (nI ((doV V2 (sgn T L p2) (orX T L p2) (orY T L p2)) 67)), .int (rmb (doV V2 (sgn T L p2) (orX T L p2) (orY T L p2))), .int (nI ((doV V2 (sgn T L p2) (orX T L p2) (orY T L p2)) 66))])), (h 1, .inl (y 1, 8, .inl (u2 0))), (h 2, .inl (y 1, 8, .inl (u2 1))), (h 3, .inl (y 1, 24, .inl (u2 2))), (h 4, .inl (y 1, 4, .inl (u2 3)))] H := hP1
              have hD : va_D A [(a, .inr (4, [.ref b, .int (nI L), .int (nI (orP T L p2)), .int (nI (sgn T L p2)), .int u1.1, .int u1.2, .int (nI k), .int (nI p2), .int (nI 2), .int fc])), (b, .inl (y 0, 60, .inl sg)), (h 0, .inr (2, [.ref (h 1), .ref (h 2), .ref (h 3), .ref (h 4), .int (nI ((doV V2 (sgn T L p2) (orX T L p2) (orY T L p2)) 16)), .int (nI ((doV V2 (sgn T L p2) (orX T L p2) (orY T L p2)) 67)), .int (rmb (doV V2 (sgn T L p2) (orX T L p2) (orY T L p2))), .int (nI ((doV V2 (sgn T L p2) (orX T L p2) (orY T L p2)) 66))])), (h 1, .inl (y 1, 8, .inl (u2 0))), (h 2, .inl (y 1, 8, .inl (u2 1))), (h 3, .inl (y 1, 24, .inl (u2 2))), (h 4, .inl (y 1, 4, .inl (u2 3)))] := hD1
              have hS := hS1
              clear hP1 hD1 hS1
              refine lv_aload_n hx hb dX4_runsOn_79 rfl (lv_at hl 2 rfl) ?_
              refine lv_iload_n hx hb dX4_runsOn_80 rfl (lv_at hl 0 rfl) ?_
              refine va_put (D := D) (ci := 4) (v := .int (doI V2 (sgn T L p2) (orX T L p2) (orY T L p2))) (ty := .int) (C := RX4) (T := TX4) (N := 10) hx hb hts hin_X4 tyX4 tyX4_ok nmX4 hown hK.1 hP hD hS 0 rfl rfl 9 (by decide) f_37 (fun _ h9 => h9) rfl (by decide +kernel) rfl rfl (Nat.le_of_ble_eq_true rfl) dX4_runsOn_81 (fun H locs hP1 hD1 hS1 => ?_)
              clear hP hD hS
              have hP : va_P D vwCl [(a, .inr (4, [.ref b, .int (nI L), .int (nI (orP T L p2)), .int (nI (sgn T L p2)), .int u1.1, .int u1.2, .int (nI k), .int (nI p2), .int (nI 2), .int (doI V2 (sgn T L p2) (orX T L p2) (orY T L p2))])), (b, .inl (y 0, 60, .inl sg)), (h 0, .inr (2, [.ref (h 1), .ref (h 2), .ref (h 3), .ref (h 4), .int (nI ((doV V2 (sgn T L p2) (orX T L p2) (orY T L p2)) 16)), .int (nI ((doV V2 (sgn T L p2) (orX T L p2) (orY T L p2)) 67)), .int (rmb (doV V2 (sgn T L p2) (orX T L p2) (orY T L p2))), .int (nI ((doV V2 (sgn T L p2) (orX T L p2) (orY T L p2)) 66))])), (h 1, .inl (y 1, 8, .inl (u2 0))), (h 2, .inl (y 1, 8, .inl (u2 1))), (h 3, .inl (y 1, 24, .inl (u2 2))), (h 4, .inl (y 1, 4, .inl (u2 3)))] H := hP1
              have hD : va_D A [(a, .inr (4, [.ref b, .int (nI L), .int (nI (orP T L p2)), .int (nI (sgn T L p2)), .int u1.1, .int u1.2, .int (nI k), .int (nI p2), .int (nI 2), .int (doI V2 (sgn T L p2) (orX T L p2) (orY T L p2))])), (b, .inl (y 0, 60, .inl sg)), (h 0, .inr (2, [.ref (h 1), .ref (h 2), .ref (h 3), .ref (h 4), .int (nI ((doV V2 (sgn T L p2) (orX T L p2) (orY T L p2)) 16)), .int (nI ((doV V2 (sgn T L p2) (orX T L p2) (orY T L p2)) 67)), .int (rmb (doV V2 (sgn T L p2) (orX T L p2) (orY T L p2))), .int (nI ((doV V2 (sgn T L p2) (orX T L p2) (orY T L p2)) 66))])), (h 1, .inl (y 1, 8, .inl (u2 0))), (h 2, .inl (y 1, 8, .inl (u2 1))), (h 3, .inl (y 1, 24, .inl (u2 2))), (h 4, .inl (y 1, 4, .inl (u2 3)))] := hD1
              have hS := hS1
              clear hP1 hD1 hS1
              refine lv_iconst (v := nI 0) hx hb dX4_runsOn_84 (by decide) ?_
              subst hQe
              exact xw_z hx hb hr hlocks (orP T L p2, sgn T L p2, u1.1, u1.2, k, p2, 2, doI V2 (sgn T L p2) (orX T L p2) (orY T L p2), (doV V2 (sgn T L p2) (orX T L p2) (orY T L p2)), u2) hS dX4_runsOn_85 (by omega) (by rw [hg.symm.trans (goF_2 kc15 kc26 hok (Int32.not_le.mp kc71))]; exact ⟨congrArg nI (bN_f (show ¬ (2 : Nat) = 0 by decide)).symm, rfl, fun _ => ⟨rfl, rfl, rfl⟩, fun hq => absurd hq (show ¬ (2 : Nat) = 0 by decide), by show orP T L p2 < 2 ^ 28; omega⟩) (fun t ht => by rw [ht]; exact (hP))
          · refine lv_aload_n hx hb dX4_runsOn_44 rfl (lv_at hl 1 rfl) ?_
            refine lv_iconst (v := nI 1) hx hb dX4_runsOn_45 (by decide) ?_
            refine va_put (D := D) (ci := 4) (v := .int (nI 1)) (ty := .int) (C := RX4) (T := TX4) (N := 10) hx hb hts hin_X4 tyX4 tyX4_ok nmX4 hown hK.1 hP hD hS 0 rfl rfl 8 (by decide) f_34 (fun _ h9 => h9) rfl (by decide +kernel) rfl rfl (Nat.le_of_ble_eq_true rfl) dX4_runsOn_46 (fun H locs hP1 hD1 hS1 => ?_)
            clear hP hD hS
            have hP : va_P D vwCl [(a, .inr (4, [.ref b, .int (nI L), .int (nI (orP T L p2)), .int (nI (sgn T L p2)), .int u1.1, .int u1.2, .int (nI k), .int (nI p2), .int (nI 1), .int fc])), (b, .inl (y 0, 60, .inl sg)), (h 0, .inr (2, [.ref (h 1), .ref (h 2), .ref (h 3), .ref (h 4), .int (nI (V2 16)), .int (nI (V2 67)), .int (rmb V2), .int (nI (V2 66))])), (h 1, .inl (y 1, 8, .inl (q2 0))), (h 2, .inl (y 1, 8, .inl (q2 1))), (h 3, .inl (y 1, 24, .inl (q2 2))), (h 4, .inl (y 1, 4, .inl (q2 3)))] H := hP1
            have hD : va_D A [(a, .inr (4, [.ref b, .int (nI L), .int (nI (orP T L p2)), .int (nI (sgn T L p2)), .int u1.1, .int u1.2, .int (nI k), .int (nI p2), .int (nI 1), .int fc])), (b, .inl (y 0, 60, .inl sg)), (h 0, .inr (2, [.ref (h 1), .ref (h 2), .ref (h 3), .ref (h 4), .int (nI (V2 16)), .int (nI (V2 67)), .int (rmb V2), .int (nI (V2 66))])), (h 1, .inl (y 1, 8, .inl (q2 0))), (h 2, .inl (y 1, 8, .inl (q2 1))), (h 3, .inl (y 1, 24, .inl (q2 2))), (h 4, .inl (y 1, 4, .inl (q2 3)))] := hD1
            have hS := hS1
            clear hP1 hD1 hS1
            refine lv_aload_n hx hb dX4_runsOn_49 rfl (lv_at hl 1 rfl) ?_
            refine lv_aload_n hx hb dX4_runsOn_50 rfl (lv_at hl 1 rfl) ?_
            refine va_get (D := D) (ci := 4) (v := .int (nI (orP T L p2))) (C := RX4) (T := TX4) (N := 10) hx hb hts hin_X4 hown hK.1 hP 0 rfl rfl 2 (by decide) f_21 (fun _ h9 => h9) rfl dX4_runsOn_51 ?_
            refine lv_aload_n hx hb dX4_runsOn_54 rfl (lv_at hl 1 rfl) ?_
            refine va_get (D := D) (ci := 4) (v := .int (nI p2)) (C := RX4) (T := TX4) (N := 10) hx hb hts hin_X4 hown hK.1 hP 0 rfl rfl 7 (by decide) f_27 (fun _ h9 => h9) rfl dX4_runsOn_55 ?_
            refine xn_sub hx hb (r := ((orP T L p2) - p2)) (by omega) rfl dX4_runsOn_58 ?_
            refine va_put (D := D) (ci := 4) (v := .int (nI ((orP T L p2) - p2))) (ty := .int) (C := RX4) (T := TX4) (N := 10) hx hb hts hin_X4 tyX4 tyX4_ok nmX4 hown hK.1 hP hD hS 0 rfl rfl 9 (by decide) f_37 (fun _ h9 => h9) rfl (by decide +kernel) rfl rfl (Nat.le_of_ble_eq_true rfl) dX4_runsOn_59 (fun H locs hP1 hD1 hS1 => ?_)
            clear hP hD hS
            have hP : va_P D vwCl [(a, .inr (4, [.ref b, .int (nI L), .int (nI (orP T L p2)), .int (nI (sgn T L p2)), .int u1.1, .int u1.2, .int (nI k), .int (nI p2), .int (nI 1), .int (nI ((orP T L p2) - p2))])), (b, .inl (y 0, 60, .inl sg)), (h 0, .inr (2, [.ref (h 1), .ref (h 2), .ref (h 3), .ref (h 4), .int (nI (V2 16)), .int (nI (V2 67)), .int (rmb V2), .int (nI (V2 66))])), (h 1, .inl (y 1, 8, .inl (q2 0))), (h 2, .inl (y 1, 8, .inl (q2 1))), (h 3, .inl (y 1, 24, .inl (q2 2))), (h 4, .inl (y 1, 4, .inl (q2 3)))] H := hP1
            have hD : va_D A [(a, .inr (4, [.ref b, .int (nI L), .int (nI (orP T L p2)), .int (nI (sgn T L p2)), .int u1.1, .int u1.2, .int (nI k), .int (nI p2), .int (nI 1), .int (nI ((orP T L p2) - p2))])), (b, .inl (y 0, 60, .inl sg)), (h 0, .inr (2, [.ref (h 1), .ref (h 2), .ref (h 3), .ref (h 4), .int (nI (V2 16)), .int (nI (V2 67)), .int (rmb V2), .int (nI (V2 66))])), (h 1, .inl (y 1, 8, .inl (q2 0))), (h 2, .inl (y 1, 8, .inl (q2 1))), (h 3, .inl (y 1, 24, .inl (q2 2))), (h 4, .inl (y 1, 4, .inl (q2 3)))] := hD1
            have hS := hS1
            clear hP1 hD1 hS1
            refine lv_iconst (v := nI 0) hx hb dX4_runsOn_62 (by decide) ?_
            subst hQe
            exact xw_z hx hb hr hlocks (orP T L p2, sgn T L p2, u1.1, u1.2, k, p2, 1, nI ((orP T L p2) - p2), V2, q2) hS dX4_runsOn_63 (by omega) (by rw [hg.symm.trans (goF_1 kc15 kc26 (bN_0.mp kc41))]; exact ⟨congrArg nI (bN_f (show ¬ (1 : Nat) = 0 by decide)).symm, rfl, fun _ => ⟨rfl, rfl, rfl⟩, fun hq => absurd hq (show ¬ (1 : Nat) = 0 by decide), by show orP T L p2 < 2 ^ 28; omega⟩) (fun t ht => by rw [ht]; exact (hP))
  exact lp12 ((60 - 0) + 1) 0 0 kd f1 f2 fp V q (Nat.lt_succ_self _) (by omega) (by omega) (hR) (hI) (rfl) _ _ hP hD hS ls (lv_sub hl [0, 1, 2] rfl)
