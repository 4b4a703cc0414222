set_option maxHeartbeats 8000000 in
set_option maxRecDepth 100000 in
theorem c_X7_puts (l : Launch) (D : va_G) (y : Nat → ClassId) (g s0 a0 b0 x0 kn L ta wr le : Nat) (o1 o2 : Int32) (po rs : Nat) (ca : Int32) (V : Nat → Nat) (k v : Nat) (hk : k < 72) : Met l yX7_puts wsX7_puts ({ frames := 0, cells := 0, slots := 0, locals := 0 }) (va_Pc [.ref g, .int (nI k), .int (nI v)] (xPw D y [(g, .inr (7, [.ref s0, .ref a0, .ref b0, .int (nI kn), .ref x0, .int (nI L), .int (nI ta), .int (nI wr), .int (nI le), .int o1, .int o2, .int (nI po), .int (nI rs), .int ca])), (s0, .inl (y 1, 72, .inl (fun j9 => nI (V j9))))])) (va_Qi (fun r (u : Unit) => r = nI (V k)) (fun (u : Unit) t => va_P D vwCl [(g, .inr (7, [.ref s0, .ref a0, .ref b0, .int (nI kn), .ref x0, .int (nI L), .int (nI ta), .int (nI wr), .int (nI le), .int o1, .int o2, .int (nI po), .int (nI rs), .int ca])), (s0, .inl (y 1, 72, .inl (fun j9 => nI ((uN V k v) j9))))] t.heap) (xIn [(g, .inr (7, [.ref s0, .ref a0, .ref b0, .int (nI kn), .ref x0, .int (nI L), .int (nI ta), .int (nI wr), .int (nI le), .int o1, .int o2, .int (nI po), .int (nI rs), .int ca])), (s0, .inl (y 1, 72, .inl (fun j9 => nI (V j9))))])) 0 0 (xIn [(g, .inr (7, [.ref s0, .ref a0, .ref b0, .int (nI kn), .ref x0, .int (nI L), .int (nI ta), .int (nI wr), .int (nI le), .int o1, .int o2, .int (nI po), .int (nI rs), .int ca])), (s0, .inl (y 1, 72, .inl (fun j9 => nI (V j9))))]) := by
  refine Met.ofW (cc := cX7_puts) (maxL := 4) (ret := (some .int)) (by decide) rfl ?_
  intro p e s m args below meth c s₁ B hml hv
  obtain ⟨rfl, hP, hK, hD0⟩ := hv
  have hx := B.exec
  have hb := B.bytes
  have hr := B.returns
  have hts := atoms_spec (ws := wsX7_puts) B.pre
  have hown : s.vm.findClass RX7 = some m.cls := findClass_of_methodNamed B.named
  have hlocks := B.notSynchronized
  have f_7 := hts (.fieldLink RX7 7 "LoomTunesModel" "s" "[I") (by decide +kernel)
  have hin_X7 : ∀ w ∈ wsX70, w ∈ wsX7_puts := by decide +kernel
  have hD := xD_self hD0
  generalize hAe : xIn [(g, .inr (7, [.ref s0, .ref a0, .ref b0, .int (nI kn), .ref x0, .int (nI L), .int (nI ta), .int (nI wr), .int (nI le), .int o1, .int o2, .int (nI po), .int (nI rs), .int ca])), (s0, .inl (y 1, 72, .inl (fun j9 => nI (V j9))))] = A at hD ⊢
  have hS : va_S A s.heap s.heap [] := va_S.rf
  have hP : va_P D vwCl [(g, .inr (7, [.ref s0, .ref a0, .ref b0, .int (nI kn), .ref x0, .int (nI L), .int (nI ta), .int (nI wr), .int (nI le), .int o1, .int o2, .int (nI po), .int (nI rs), .int ca])), (s0, .inl (y 1, 72, .inl (fun j9 => nI (V j9))))] s.heap := hP
  have hl := lv_entry ([.ref g, .int (nI k), .int (nI v)]) (n := 4) (Nat.le_of_ble_eq_true rfl)
  rw [lg_entry_eq]
  generalize (lg_sl ([.ref g, .int (nI k), .int (nI v)]) ++ List.replicate (4 - (lg_sl ([.ref g, .int (nI k), .int (nI v)])).length) Slot.unset).toArray = ls at hl ⊢
  have hl : lv_has ls 4 [(0, .ref g), (1, .int (nI k)), (2, .int (nI v))] := hl
  generalize hQe : (MQ below (va_Qi (fun r (u : Unit) => r = nI (V k)) (fun (u : Unit) t => va_P D vwCl [(g, .inr (7, [.ref s0, .ref a0, .ref b0, .int (nI kn), .ref x0, .int (nI L), .int (nI ta), .int (nI wr), .int (nI le), .int o1, .int o2, .int (nI po), .int (nI rs), .int ca])), (s0, .inl (y 1, 72, .inl (fun j9 => nI ((uN V k v) j9))))] t.heap) A) ([.ref g, .int (nI k), .int (nI v)] : List Value).toArray s 0 0 A) = Q
  refine lv_aload_n hx hb dX7_puts_0 rfl (lv_at hl 0 rfl) ?_
  refine va_get (D := D) (ci := 7) (v := .ref s0) (C := RX7) (T := TX7) (N := 14) hx hb hts hin_X7 hown hK.1 hP 0 rfl rfl 0 (by decide) f_7 (fun _ h9 => h9) rfl dX7_puts_1 ?_
  refine lv_iload_n hx hb dX7_puts_4 rfl (lv_at hl 1 rfl) ?_
  refine xn_iald hx hb hK hP 1 rfl (by omega) (by first | decide | omega) (v := nI (V k)) (rfl) dX7_puts_5 ?_
  refine lv_istore_n (lv' := [(3, .int (nI (V k))), (0, .ref g), (1, .int (nI k)), (2, .int (nI v))]) hx hb dX7_puts_6 rfl hl (by decide) rfl (fun ls hl => ?_)
  refine lv_aload_n hx hb dX7_puts_7 rfl (lv_at hl 1 rfl) ?_
  refine va_get (D := D) (ci := 7) (v := .ref s0) (C := RX7) (T := TX7) (N := 14) hx hb hts hin_X7 hown hK.1 hP 0 rfl rfl 0 (by decide) f_7 (fun _ h9 => h9) rfl dX7_puts_8 ?_
  refine lv_iload_n hx hb dX7_puts_11 rfl (lv_at hl 2 rfl) ?_
  refine lv_iload_n hx hb dX7_puts_12 rfl (lv_at hl 3 rfl) ?_
  refine xn_iast hx hb hK hP hD hS 1 (g := fun j9 => nI ((uN V k v) j9)) rfl (by omega) (by first | decide | omega) (uN_I) dX7_puts_13 (fun H locs hP1 hD1 hS1 => ?_)
  clear hP hD hS
  have hP : va_P D vwCl [(g, .inr (7, [.ref s0, .ref a0, .ref b0, .int (nI kn), .ref x0, .int (nI L), .int (nI ta), .int (nI wr), .int (nI le), .int o1, .int o2, .int (nI po), .int (nI rs), .int ca])), (s0, .inl (y 1, 72, .inl (fun j9 => nI ((uN V k v) j9))))] H := hP1
  have hD : va_D A [(g, .inr (7, [.ref s0, .ref a0, .ref b0, .int (nI kn), .ref x0, .int (nI L), .int (nI ta), .int (nI wr), .int (nI le), .int o1, .int o2, .int (nI po), .int (nI rs), .int ca])), (s0, .inl (y 1, 72, .inl (fun j9 => nI ((uN V k v) j9))))] := hD1
  have hS := hS1
  clear hP1 hD1 hS1
  refine lv_iload_n hx hb dX7_puts_14 rfl (lv_at hl 0 rfl) ?_
  subst hQe
  exact xw_i hx hb hr hlocks () hS dX7_puts_15 (rfl) (fun t ht => by rw [ht]; exact (hP))
set_option maxHeartbeats 8000000 in
set_option maxRecDepth 100000 in
theorem c_X7_exchange (l : Launch) (D : va_G) (y : Nat → ClassId) (g s0 a0 b0 x0 kn L ta wr le : Nat) (o1 o2 : Int32) (po rs : Nat) (ca : Int32) (V : Nat → Nat) (a b : Nat) (ha : a < 24) (hb0 : b < 24) : Met l yX7_exchange wsX7_exchange ({ frames := 0, cells := 0, slots := 0, locals := 0 }) (va_Pc [.ref g, .int (nI a), .int (nI b)] (xPw D y [(g, .inr (7, [.ref s0, .ref a0, .ref b0, .int (nI kn), .ref x0, .int (nI L), .int (nI ta), .int (nI wr), .int (nI le), .int o1, .int o2, .int (nI po), .int (nI rs), .int ca])), (s0, .inl (y 1, 72, .inl (fun j9 => nI (V j9))))])) (va_Qv (fun (u : Unit) => True) (fun (u : Unit) t => va_P D vwCl [(g, .inr (7, [.ref s0, .ref a0, .ref b0, .int (nI kn), .ref x0, .int (nI L), .int (nI ta), .int (nI wr), .int (nI le), .int o1, .int o2, .int (nI po), .int (nI rs), .int ca])), (s0, .inl (y 1, 72, .inl (fun j9 => nI ((exc V a b) j9))))] t.heap) (xIn [(g, .inr (7, [.ref s0, .ref a0, .ref b0, .int (nI kn), .ref x0, .int (nI L), .int (nI ta), .int (nI wr), .int (nI le), .int o1, .int o2, .int (nI po), .int (nI rs), .int ca])), (s0, .inl (y 1, 72, .inl (fun j9 => nI (V j9))))])) 0 0 (xIn [(g, .inr (7, [.ref s0, .ref a0, .ref b0, .int (nI kn), .ref x0, .int (nI L), .int (nI ta), .int (nI wr), .int (nI le), .int o1, .int o2, .int (nI po), .int (nI rs), .int ca])), (s0, .inl (y 1, 72, .inl (fun j9 => nI (V j9))))]) := by
  refine Met.ofW (cc := cX7_exchange) (maxL := 5) (ret := none) (by decide) rfl ?_
  intro p e s m args below meth c s₁ B hml hv
  obtain ⟨rfl, hP, hK, hD0⟩ := hv
  have hx := B.exec
  have hb := B.bytes
  have hr := B.returns
  have hts := atoms_spec (ws := wsX7_exchange) B.pre
  have hown : s.vm.findClass RX7 = some m.cls := findClass_of_methodNamed B.named
  have hlocks := B.notSynchronized
  have f_7 := hts (.fieldLink RX7 7 "LoomTunesModel" "s" "[I") (by decide +kernel)
  have hin_X7 : ∀ w ∈ wsX70, w ∈ wsX7_exchange := by decide +kernel
  have hD := xD_self hD0
  generalize hAe : xIn [(g, .inr (7, [.ref s0, .ref a0, .ref b0, .int (nI kn), .ref x0, .int (nI L), .int (nI ta), .int (nI wr), .int (nI le), .int o1, .int o2, .int (nI po), .int (nI rs), .int ca])), (s0, .inl (y 1, 72, .inl (fun j9 => nI (V j9))))] = A at hD ⊢
  have hS : va_S A s.heap s.heap [] := va_S.rf
  have hP : va_P D vwCl [(g, .inr (7, [.ref s0, .ref a0, .ref b0, .int (nI kn), .ref x0, .int (nI L), .int (nI ta), .int (nI wr), .int (nI le), .int o1, .int o2, .int (nI po), .int (nI rs), .int ca])), (s0, .inl (y 1, 72, .inl (fun j9 => nI (V j9))))] s.heap := hP
  have hl := lv_entry ([.ref g, .int (nI a), .int (nI b)]) (n := 5) (Nat.le_of_ble_eq_true rfl)
  rw [lg_entry_eq]
  generalize (lg_sl ([.ref g, .int (nI a), .int (nI b)]) ++ List.replicate (5 - (lg_sl ([.ref g, .int (nI a), .int (nI b)])).length) Slot.unset).toArray = ls at hl ⊢
  have hl : lv_has ls 5 [(0, .ref g), (1, .int (nI a)), (2, .int (nI b))] := hl
  generalize hQe : (MQ below (va_Qv (fun (u : Unit) => True) (fun (u : Unit) t => va_P D vwCl [(g, .inr (7, [.ref s0, .ref a0, .ref b0, .int (nI kn), .ref x0, .int (nI L), .int (nI ta), .int (nI wr), .int (nI le), .int o1, .int o2, .int (nI po), .int (nI rs), .int ca])), (s0, .inl (y 1, 72, .inl (fun j9 => nI ((exc V a b) j9))))] t.heap) A) ([.ref g, .int (nI a), .int (nI b)] : List Value).toArray s 0 0 A) = Q
  refine lv_aload_n hx hb dX7_exchange_0 rfl (lv_at hl 0 rfl) ?_
  refine va_get (D := D) (ci := 7) (v := .ref s0) (C := RX7) (T := TX7) (N := 14) hx hb hts hin_X7 hown hK.1 hP 0 rfl rfl 0 (by decide) f_7 (fun _ h9 => h9) rfl dX7_exchange_1 ?_
  refine lv_bipush (v := nI 17) hx hb dX7_exchange_4 (by decide) ?_
  refine lv_iload_n hx hb dX7_exchange_6 rfl (lv_at hl 1 rfl) ?_
  refine xn_add hx hb (r := (17 + a)) rfl dX7_exchange_7 ?_
  refine xn_iald hx hb hK hP 1 rfl (by omega) (by first | decide | omega) (v := nI (V (17 + a))) (rfl) dX7_exchange_8 ?_
  refine lv_istore_n (lv' := [(3, .int (nI (V (17 + a)))), (0, .ref g), (1, .int (nI a)), (2, .int (nI b))]) hx hb dX7_exchange_9 rfl hl (by decide) rfl (fun ls hl => ?_)
  refine lv_aload_n hx hb dX7_exchange_10 rfl (lv_at hl 1 rfl) ?_
  refine va_get (D := D) (ci := 7) (v := .ref s0) (C := RX7) (T := TX7) (N := 14) hx hb hts hin_X7 hown hK.1 hP 0 rfl rfl 0 (by decide) f_7 (fun _ h9 => h9) rfl dX7_exchange_11 ?_
  refine lv_bipush (v := nI 41) hx hb dX7_exchange_14 (by decide) ?_
  refine lv_iload_n hx hb dX7_exchange_16 rfl (lv_at hl 2 rfl) ?_
  refine xn_add hx hb (r := (41 + a)) rfl dX7_exchange_17 ?_
  refine xn_iald hx hb hK hP 1 rfl (by omega) (by first | decide | omega) (v := nI (V (41 + a))) (rfl) dX7_exchange_18 ?_
  refine lv_istore (lv' := [(4, .int (nI (V (41 + a)))), (3, .int (nI (V (17 + a)))), (0, .ref g), (1, .int (nI a)), (2, .int (nI b))]) hx hb dX7_exchange_19 hl (by decide) rfl (fun ls hl => ?_)
  refine lv_aload_n hx hb dX7_exchange_21 rfl (lv_at hl 2 rfl) ?_
  refine va_get (D := D) (ci := 7) (v := .ref s0) (C := RX7) (T := TX7) (N := 14) hx hb hts hin_X7 hown hK.1 hP 0 rfl rfl 0 (by decide) f_7 (fun _ h9 => h9) rfl dX7_exchange_22 ?_
  refine lv_bipush (v := nI 17) hx hb dX7_exchange_25 (by decide) ?_
  refine lv_iload_n hx hb dX7_exchange_27 rfl (lv_at hl 3 rfl) ?_
  refine xn_add hx hb (r := (17 + a)) rfl dX7_exchange_28 ?_
  refine lv_aload_n hx hb dX7_exchange_29 rfl (lv_at hl 2 rfl) ?_
  refine va_get (D := D) (ci := 7) (v := .ref s0) (C := RX7) (T := TX7) (N := 14) hx hb hts hin_X7 hown hK.1 hP 0 rfl rfl 0 (by decide) f_7 (fun _ h9 => h9) rfl dX7_exchange_30 ?_
  refine lv_bipush (v := nI 17) hx hb dX7_exchange_33 (by decide) ?_
  refine lv_iload_n hx hb dX7_exchange_35 rfl (lv_at hl 4 rfl) ?_
  refine xn_add hx hb (r := (17 + b)) rfl dX7_exchange_36 ?_
  refine xn_iald hx hb hK hP 1 rfl (by omega) (by first | decide | omega) (v := nI (V (17 + b))) (rfl) dX7_exchange_37 ?_
  refine xn_iast hx hb hK hP hD hS 1 (g := fun j9 => nI ((uN V (17 + a) (V (17 + b))) j9)) rfl (by omega) (by first | decide | omega) (uN_I) dX7_exchange_38 (fun H locs hP1 hD1 hS1 => ?_)
  clear hP hD hS
  have hP : va_P D vwCl [(g, .inr (7, [.ref s0, .ref a0, .ref b0, .int (nI kn), .ref x0, .int (nI L), .int (nI ta), .int (nI wr), .int (nI le), .int o1, .int o2, .int (nI po), .int (nI rs), .int ca])), (s0, .inl (y 1, 72, .inl (fun j9 => nI ((uN V (17 + a) (V (17 + b))) j9))))] H := hP1
  have hD : va_D A [(g, .inr (7, [.ref s0, .ref a0, .ref b0, .int (nI kn), .ref x0, .int (nI L), .int (nI ta), .int (nI wr), .int (nI le), .int o1, .int o2, .int (nI po), .int (nI rs), .int ca])), (s0, .inl (y 1, 72, .inl (fun j9 => nI ((uN V (17 + a) (V (17 + b))) j9))))] := hD1
  have hS := hS1
  clear hP1 hD1 hS1
  refine lv_aload_n hx hb dX7_exchange_39 rfl (lv_at hl 2 rfl) ?_
  refine va_get (D := D) (ci := 7) (v := .ref s0) (C := RX7) (T := TX7) (N := 14) hx hb hts hin_X7 hown hK.1 hP 0 rfl rfl 0 (by decide) f_7 (fun _ h9 => h9) rfl dX7_exchange_40 ?_
  refine lv_bipush (v := nI 41) hx hb dX7_exchange_43 (by decide) ?_
  refine lv_iload_n hx hb dX7_exchange_45 rfl (lv_at hl 3 rfl) ?_
  refine xn_add hx hb (r := (41 + a)) rfl dX7_exchange_46 ?_
  refine lv_aload_n hx hb dX7_exchange_47 rfl (lv_at hl 2 rfl) ?_
  refine va_get (D := D) (ci := 7) (v := .ref s0) (C := RX7) (T := TX7) (N := 14) hx hb hts hin_X7 hown hK.1 hP 0 rfl rfl 0 (by decide) f_7 (fun _ h9 => h9) rfl dX7_exchange_48 ?_
  refine lv_bipush (v := nI 41) hx hb dX7_exchange_51 (by decide) ?_
  refine lv_iload_n hx hb dX7_exchange_53 rfl (lv_at hl 4 rfl) ?_
  refine xn_add hx hb (r := (41 + b)) rfl dX7_exchange_54 ?_
  refine xn_iald hx hb hK hP 1 rfl (by omega) (by first | decide | omega) (v := nI ((uN V (17 + a) (V (17 + b))) (41 + b))) (rfl) dX7_exchange_55 ?_
  refine xv (congrArg nI (uN_n (by omega))) ?_
  refine xn_iast hx hb hK hP hD hS 1 (g := fun j9 => nI ((uN (uN V (17 + a) (V (17 + b))) (41 + a) (V (41 + b))) j9)) rfl (by omega) (by first | decide | omega) (uN_I) dX7_exchange_56 (fun H locs hP1 hD1 hS1 => ?_)
  clear hP hD hS
  have hP : va_P D vwCl [(g, .inr (7, [.ref s0, .ref a0, .ref b0, .int (nI kn), .ref x0, .int (nI L), .int (nI ta), .int (nI wr), .int (nI le), .int o1, .int o2, .int (nI po), .int (nI rs), .int ca])), (s0, .inl (y 1, 72, .inl (fun j9 => nI ((uN (uN V (17 + a) (V (17 + b))) (41 + a) (V (41 + b))) j9))))] H := hP1
  have hD : va_D A [(g, .inr (7, [.ref s0, .ref a0, .ref b0, .int (nI kn), .ref x0, .int (nI L), .int (nI ta), .int (nI wr), .int (nI le), .int o1, .int o2, .int (nI po), .int (nI rs), .int ca])), (s0, .inl (y 1, 72, .inl (fun j9 => nI ((uN (uN V (17 + a) (V (17 + b))) (41 + a) (V (41 + b))) j9))))] := hD1
  have hS := hS1
  clear hP1 hD1 hS1
  refine lv_aload_n hx hb dX7_exchange_57 rfl (lv_at hl 2 rfl) ?_
  refine va_get (D := D) (ci := 7) (v := .ref s0) (C := RX7) (T := TX7) (N := 14) hx hb hts hin_X7 hown hK.1 hP 0 rfl rfl 0 (by decide) f_7 (fun _ h9 => h9) rfl dX7_exchange_58 ?_
  refine lv_bipush (v := nI 17) hx hb dX7_exchange_61 (by decide) ?_
  refine lv_iload_n hx hb dX7_exchange_63 rfl (lv_at hl 4 rfl) ?_
  refine xn_add hx hb (r := (17 + b)) rfl dX7_exchange_64 ?_
  refine lv_iload_n hx hb dX7_exchange_65 rfl (lv_at hl 1 rfl) ?_
  refine xn_iast hx hb hK hP hD hS 1 (g := fun j9 => nI ((uN (uN (uN V (17 + a) (V (17 + b))) (41 + a) (V (41 + b))) (17 + b) (V (17 + a))) j9)) rfl (by omega) (by first | decide | omega) (uN_I) dX7_exchange_66 (fun H locs hP1 hD1 hS1 => ?_)
  clear hP hD hS
  have hP : va_P D vwCl [(g, .inr (7, [.ref s0, .ref a0, .ref b0, .int (nI kn), .ref x0, .int (nI L), .int (nI ta), .int (nI wr), .int (nI le), .int o1, .int o2, .int (nI po), .int (nI rs), .int ca])), (s0, .inl (y 1, 72, .inl (fun j9 => nI ((uN (uN (uN V (17 + a) (V (17 + b))) (41 + a) (V (41 + b))) (17 + b) (V (17 + a))) j9))))] H := hP1
  have hD : va_D A [(g, .inr (7, [.ref s0, .ref a0, .ref b0, .int (nI kn), .ref x0, .int (nI L), .int (nI ta), .int (nI wr), .int (nI le), .int o1, .int o2, .int (nI po), .int (nI rs), .int ca])), (s0, .inl (y 1, 72, .inl (fun j9 => nI ((uN (uN (uN V (17 + a) (V (17 + b))) (41 + a) (V (41 + b))) (17 + b) (V (17 + a))) j9))))] := hD1
  have hS := hS1
  clear hP1 hD1 hS1
  refine lv_aload_n hx hb dX7_exchange_67 rfl (lv_at hl 2 rfl) ?_
  refine va_get (D := D) (ci := 7) (v := .ref s0) (C := RX7) (T := TX7) (N := 14) hx hb hts hin_X7 hown hK.1 hP 0 rfl rfl 0 (by decide) f_7 (fun _ h9 => h9) rfl dX7_exchange_68 ?_
  refine lv_bipush (v := nI 41) hx hb dX7_exchange_71 (by decide) ?_
  refine lv_iload_n hx hb dX7_exchange_73 rfl (lv_at hl 4 rfl) ?_
  refine xn_add hx hb (r := (41 + b)) rfl dX7_exchange_74 ?_
  refine lv_iload hx hb dX7_exchange_75 (lv_at hl 0 rfl) ?_
  refine xn_iast hx hb hK hP hD hS 1 (g := fun j9 => nI ((uN (uN (uN (uN V (17 + a) (V (17 + b))) (41 + a) (V (41 + b))) (17 + b) (V (17 + a))) (41 + b) (V (41 + a))) j9)) rfl (by omega) (by first | decide | omega) (uN_I) dX7_exchange_77 (fun H locs hP1 hD1 hS1 => ?_)
  clear hP hD hS
  have hP : va_P D vwCl [(g, .inr (7, [.ref s0, .ref a0, .ref b0, .int (nI kn), .ref x0, .int (nI L), .int (nI ta), .int (nI wr), .int (nI le), .int o1, .int o2, .int (nI po), .int (nI rs), .int ca])), (s0, .inl (y 1, 72, .inl (fun j9 => nI ((uN (uN (uN (uN V (17 + a) (V (17 + b))) (41 + a) (V (41 + b))) (17 + b) (V (17 + a))) (41 + b) (V (41 + a))) j9))))] H := hP1
  have hD : va_D A [(g, .inr (7, [.ref s0, .ref a0, .ref b0, .int (nI kn), .ref x0, .int (nI L), .int (nI ta), .int (nI wr), .int (nI le), .int o1, .int o2, .int (nI po), .int (nI rs), .int ca])), (s0, .inl (y 1, 72, .inl (fun j9 => nI ((uN (uN (uN (uN V (17 + a) (V (17 + b))) (41 + a) (V (41 + b))) (17 + b) (V (17 + a))) (41 + b) (V (41 + a))) j9))))] := hD1
  have hS := hS1
  clear hP1 hD1 hS1
  subst hQe
  exact xw_v hx hb hr hlocks () hS dX7_exchange_78 (trivial) (fun t ht => by rw [ht]; exact (hP))
set_option maxHeartbeats 8000000 in
set_option maxRecDepth 100000 in
theorem c_X7_turns (l : Launch) (D : va_G) (y : Nat → ClassId) (g s0 a0 b0 x0 kn L ta wr le : Nat) (o1 o2 : Int32) (po rs : Nat) (ca : Int32) (V : Nat → Nat) (hI : Inv V) : Met l yX7_turns wsX7_turns ({ frames := 1, cells := 0, slots := 0, locals := 24 }) (va_Pc [.ref g] (xPw D y [(g, .inr (7, [.ref s0, .ref a0, .ref b0, .int (nI kn), .ref x0, .int (nI L), .int (nI ta), .int (nI wr), .int (nI le), .int o1, .int o2, .int (nI po), .int (nI rs), .int ca])), (s0, .inl (y 1, 72, .inl (fun j9 => nI (V j9))))])) (va_Qi (fun r (u : Unit) => r = nI (V 16)) (fun (u : Unit) t => va_P D vwCl [(g, .inr (7, [.ref s0, .ref a0, .ref b0, .int (nI kn), .ref x0, .int (nI L), .int (nI ta), .int (nI wr), .int (nI le), .int o1, .int o2, .int (nI po), .int (nI rs), .int ca])), (s0, .inl (y 1, 72, .inl (fun j9 => nI ((rvA V (V 16 / 2)) j9))))] t.heap) (xIn [(g, .inr (7, [.ref s0, .ref a0, .ref b0, .int (nI kn), .ref x0, .int (nI L), .int (nI ta), .int (nI wr), .int (nI le), .int o1, .int o2, .int (nI po), .int (nI rs), .int ca])), (s0, .inl (y 1, 72, .inl (fun j9 => nI (V j9))))])) 0 0 (xIn [(g, .inr (7, [.ref s0, .ref a0, .ref b0, .int (nI kn), .ref x0, .int (nI L), .int (nI ta), .int (nI wr), .int (nI le), .int o1, .int o2, .int (nI po), .int (nI rs), .int ca])), (s0, .inl (y 1, 72, .inl (fun j9 => nI (V j9))))]) := by
  refine Met.ofW (cc := cX7_turns) (maxL := 2) (ret := (some .int)) (by decide) rfl ?_
  intro p e s m args below meth c s₁ B hml hv
  obtain ⟨rfl, hP, hK, hD0⟩ := hv
  have hx := B.exec
  have hb := B.bytes
  have hr := B.returns
  have hts := atoms_spec (ws := wsX7_turns) B.pre
  have hown : s.vm.findClass RX7 = some m.cls := findClass_of_methodNamed B.named
  have hlocks := B.notSynchronized
  have f_7 := hts (.fieldLink RX7 7 "LoomTunesModel" "s" "[I") (by decide +kernel)
  have hin_X7 : ∀ w ∈ wsX70, w ∈ wsX7_turns := by decide +kernel
  have hD := xD_self hD0
  generalize hAe : xIn [(g, .inr (7, [.ref s0, .ref a0, .ref b0, .int (nI kn), .ref x0, .int (nI L), .int (nI ta), .int (nI wr), .int (nI le), .int o1, .int o2, .int (nI po), .int (nI rs), .int ca])), (s0, .inl (y 1, 72, .inl (fun j9 => nI (V j9))))] = A at hD ⊢
  have hS : va_S A s.heap s.heap [] := va_S.rf
  have hP : va_P D vwCl [(g, .inr (7, [.ref s0, .ref a0, .ref b0, .int (nI kn), .ref x0, .int (nI L), .int (nI ta), .int (nI wr), .int (nI le), .int o1, .int o2, .int (nI po), .int (nI rs), .int ca])), (s0, .inl (y 1, 72, .inl (fun j9 => nI (V j9))))] s.heap := hP
  have hl := lv_entry ([.ref g]) (n := 2) (Nat.le_of_ble_eq_true rfl)
  rw [lg_entry_eq]
  generalize (lg_sl ([.ref g]) ++ List.replicate (2 - (lg_sl ([.ref g])).length) Slot.unset).toArray = ls at hl ⊢
  have hl : lv_has ls 2 [(0, .ref g)] := hl
  generalize hQe : (MQ below (va_Qi (fun r (u : Unit) => r = nI (V 16)) (fun (u : Unit) t => va_P D vwCl [(g, .inr (7, [.ref s0, .ref a0, .ref b0, .int (nI kn), .ref x0, .int (nI L), .int (nI ta), .int (nI wr), .int (nI le), .int o1, .int o2, .int (nI po), .int (nI rs), .int ca])), (s0, .inl (y 1, 72, .inl (fun j9 => nI ((rvA V (V 16 / 2)) j9))))] t.heap) A) ([.ref g] : List Value).toArray s 0 0 A) = Q
  have hsz := hI.sz
  refine lv_iconst (v := nI 0) hx hb dX7_turns_0 (by decide) ?_
  refine lv_istore_n (lv' := [(1, .int (nI 0)), (0, .ref g)]) hx hb dX7_turns_1 rfl hl (by decide) rfl (fun ls hl => ?_)
  have lp2 : ∀ (n : Nat) (i : Nat), V 16 / 2 - i < n → (2 * i ≤ V 16) → ∀ (H : Heap) (locs : List Loc), va_P D vwCl [(g, .inr (7, [.ref s0, .ref a0, .ref b0, .int (nI kn), .ref x0, .int (nI L), .int (nI ta), .int (nI wr), .int (nI le), .int o1, .int o2, .int (nI po), .int (nI rs), .int ca])), (s0, .inl (y 1, 72, .inl (fun j9 => nI ((rvA V i) j9))))] H → va_D A [(g, .inr (7, [.ref s0, .ref a0, .ref b0, .int (nI kn), .ref x0, .int (nI L), .int (nI ta), .int (nI wr), .int (nI le), .int o1, .int o2, .int (nI po), .int (nI rs), .int ca])), (s0, .inl (y 1, 72, .inl (fun j9 => nI ((rvA V i) j9))))] → va_S A s.heap H locs → ∀ ls : Array Slot, lv_has ls 2 [(1, .int (nI i)), (0, .ref g)] → W p l e (headSpec wsX7_turns ({ frames := 1, cells := 0, slots := 0, locals := 24 })).room s m ([.ref g] : List Value).toArray below meth c H locs 0 0 Q (F0 m 2 ls []) := by
    intro n
    induction n with
    | zero => intro i hm; exact absurd hm (Nat.not_lt_zero _)
    | succ n ih2 =>
      intro i hm hi H locs hP hD hS ls hl
      have e16 : rvA V i 16 = V 16 := rvA_fix hsz (by omega) i (by omega)
      refine lv_iload_n hx hb dX7_turns_2 rfl (lv_at hl 0 rfl) ?_
      refine lv_aload_n hx hb dX7_turns_3 rfl (lv_at hl 1 rfl) ?_
      refine va_get (D := D) (ci := 7) (v := .ref s0) (C := RX7) (T := TX7) (N := 14) hx hb hts hin_X7 hown hK.1 hP 0 rfl rfl 0 (by decide) f_7 (fun _ h9 => h9) rfl dX7_turns_4 ?_
      refine lv_bipush (v := nI 16) hx hb dX7_turns_7 (by decide) ?_
      refine xn_iald hx hb hK hP 1 rfl (by omega) (by first | decide | omega) (v := nI ((rvA V i) 16)) (rfl) dX7_turns_9 ?_
      refine xv (congrArg nI (e16)) ?_
      refine lv_iconst (v := nI 2) hx hb dX7_turns_10 (by decide) ?_
      refine xn_div hx hb (r := ((V 16) / 2)) (by omega) (by omega) (by omega) rfl dX7_turns_11 ?_
      refine xn_icmp_ge hx hb (by omega) (by omega) (tgt := 37) dX7_turns_12 (by decide) (fun kc12 => ?_) (fun kc12 => ?_)
      · have hi9 : i = V 16 / 2 := by omega
        refine lv_aload_n hx hb dX7_turns_37 rfl (lv_at hl 1 rfl) ?_
        refine va_get (D := D) (ci := 7) (v := .ref s0) (C := RX7) (T := TX7) (N := 14) hx hb hts hin_X7 hown hK.1 hP 0 rfl rfl 0 (by decide) f_7 (fun _ h9 => h9) rfl dX7_turns_38 ?_
        refine lv_bipush (v := nI 16) hx hb dX7_turns_41 (by decide) ?_
        refine xn_iald hx hb hK hP 1 rfl (by omega) (by first | decide | omega) (v := nI ((rvA V i) 16)) (rfl) dX7_turns_43 ?_
        refine xv (congrArg nI (e16)) ?_
        subst hQe
        exact xw_i hx hb hr hlocks () hS dX7_turns_44 (rfl) (fun t ht => by rw [ht]; exact (by rw [← hi9]; exact hP))
      · refine lv_aload_n hx hb dX7_turns_15 rfl (lv_at hl 1 rfl) ?_
        refine lv_iload_n hx hb dX7_turns_16 rfl (lv_at hl 0 rfl) ?_
        refine lv_aload_n hx hb dX7_turns_17 rfl (lv_at hl 1 rfl) ?_
        refine va_get (D := D) (ci := 7) (v := .ref s0) (C := RX7) (T := TX7) (N := 14) hx hb hts hin_X7 hown hK.1 hP 0 rfl rfl 0 (by decide) f_7 (fun _ h9 => h9) rfl dX7_turns_18 ?_
        refine lv_bipush (v := nI 16) hx hb dX7_turns_21 (by decide) ?_
        refine xn_iald hx hb hK hP 1 rfl (by omega) (by first | decide | omega) (v := nI ((rvA V i) 16)) (rfl) dX7_turns_23 ?_
        refine xv (congrArg nI (e16)) ?_
        refine lv_iconst (v := nI 1) hx hb dX7_turns_24 (by decide) ?_
        refine xn_sub hx hb (r := ((V 16) - 1)) (by omega) rfl dX7_turns_25 ?_
        refine lv_iload_n hx hb dX7_turns_26 rfl (lv_at hl 0 rfl) ?_
        refine xn_sub hx hb (r := (((V 16) - 1) - i)) (by omega) rfl dX7_turns_27 ?_
        have hFc := xD_in (W0 := [(g, .inr (7, [.ref s0, .ref a0, .ref b0, .int (nI kn), .ref x0, .int (nI L), .int (nI ta), .int (nI wr), .int (nI le), .int o1, .int o2, .int (nI po), .int (nI rs), .int ca])), (s0, .inl (y 1, 72, .inl (fun j9 => nI ((rvA V i) j9))))]) hD [0, 1] rfl
        refine va_callv (va_runV (As := [.int (nI i), .int (nI (((V 16) - 1) - i))]) (rest := []) ⟨hx, hb, hml, hown, hts⟩ (c_X7_exchange l D y g s0 a0 b0 x0 kn L ta wr le o1 o2 po rs ca (rvA V i) i (((V 16) - 1) - i) (by omega) (by omega)) (cwV 2 hts gX7_turns_X7_exchange rfl rfl rfl hd_X7_exchange ⟨Nat.le_of_ble_eq_true rfl, Nat.le_of_ble_eq_true rfl⟩) (xpv_w hK hP hD [0, 1] 0 rfl rfl rfl rfl rfl) rfl rfl hl.1 rfl (lv_room (Nat.le_of_ble_eq_true rfl)) dX7_turns_28 ⟨Nat.zero_le _, Nat.zero_le _⟩) hS (fun q _ h => hFc q h) hFc (fun u1 t H locs ht hvm hw1 hB hz1 hk1 hS1 => ?_)
        have hB : va_P D vwCl [(g, .inr (7, [.ref s0, .ref a0, .ref b0, .int (nI kn), .ref x0, .int (nI L), .int (nI ta), .int (nI wr), .int (nI le), .int o1, .int o2, .int (nI po), .int (nI rs), .int ca])), (s0, .inl (y 1, 72, .inl (fun j9 => nI ((exc (rvA V i) i (((V 16) - 1) - i)) j9))))] t.heap := hB
        rw [ht] at hB
        have hJ := xj_join (ws2 := [(g, .inr (7, [.ref s0, .ref a0, .ref b0, .int (nI kn), .ref x0, .int (nI L), .int (nI ta), .int (nI wr), .int (nI le), .int o1, .int o2, .int (nI po), .int (nI rs), .int ca])), (s0, .inl (y 1, 72, .inl (fun j9 => nI ((exc (rvA V i) i (((V 16) - 1) - i)) j9))))]) hP hD [0, 1] [] rfl rfl rfl rfl rfl rfl hk1 hB
        clear hP hD hS hB hk1 hz1 hFc hvm ht
        obtain ⟨hP, hD⟩ := hJ
        have hS := hS1
        clear hS1
        refine lv_iinc (v := nI (i + 1)) (lv' := [(1, .int (nI (i + 1))), (0, .ref g)]) hx hb dX7_turns_31 hl (k := 0) rfl (nI_add i 1) (by decide) rfl (fun ls hl => ?_)
        refine lv_goto (tgt := 2) hx hb dX7_turns_34 (by decide) ?_
        have hW2 : ([(g, .inr (7, [.ref s0, .ref a0, .ref b0, .int (nI kn), .ref x0, .int (nI L), .int (nI ta), .int (nI wr), .int (nI le), .int o1, .int o2, .int (nI po), .int (nI rs), .int ca])), (s0, .inl (y 1, 72, .inl (fun j9 => nI ((exc (rvA V i) i (((V 16) - 1) - i)) j9))))] : va_W) = [(g, .inr (7, [.ref s0, .ref a0, .ref b0, .int (nI kn), .ref x0, .int (nI L), .int (nI ta), .int (nI wr), .int (nI le), .int o1, .int o2, .int (nI po), .int (nI rs), .int ca])), (s0, .inl (y 1, 72, .inl (fun j9 => nI ((rvA V (i + 1)) j9))))] := rfl
        exact ih2 (i + 1) (by omega) (by omega) _ _ (xP_eq hP hW2) (xD_eq hD hW2) hS ls (lv_sub hl [0, 1] rfl)
  have hW3 : ([(g, .inr (7, [.ref s0, .ref a0, .ref b0, .int (nI kn), .ref x0, .int (nI L), .int (nI ta), .int (nI wr), .int (nI le), .int o1, .int o2, .int (nI po), .int (nI rs), .int ca])), (s0, .inl (y 1, 72, .inl (fun j9 => nI (V j9))))] : va_W) = [(g, .inr (7, [.ref s0, .ref a0, .ref b0, .int (nI kn), .ref x0, .int (nI L), .int (nI ta), .int (nI wr), .int (nI le), .int o1, .int o2, .int (nI po), .int (nI rs), .int ca])), (s0, .inl (y 1, 72, .inl (fun j9 => nI ((rvA V 0) j9))))] := rfl
  exact lp2 ((V 16 / 2 - 0) + 1) 0 (Nat.lt_succ_self _) (by omega) _ _ (xP_eq hP hW3) (xD_eq hD hW3) hS ls (lv_sub hl [0, 1] rfl)
set_option maxHeartbeats 8000000 in
set_option maxRecDepth 100000 in
theorem c_X7_tears (l : Launch) (D : va_G) (y : Nat → ClassId) (g s0 a0 b0 x0 kn L ta wr le : Nat) (o1 o2 : Int32) (po rs : Nat) (ca : Int32) (V : Nat → Nat) (hI : Inv V) (k : Nat) (hk : k < V 16) : Met l yX7_tears wsX7_tears ({ frames := 0, cells := 0, slots := 0, locals := 0 }) (va_Pc [.ref g, .int (nI k)] (xPw D y [(g, .inr (7, [.ref s0, .ref a0, .ref b0, .int (nI kn), .ref x0, .int (nI L), .int (nI ta), .int (nI wr), .int (nI le), .int o1, .int o2, .int (nI po), .int (nI rs), .int ca])), (s0, .inl (y 1, 72, .inl (fun j9 => nI (V j9))))])) (va_Qi (fun r (u : Unit) => r = nI (V (17 + k))) (fun (u : Unit) t => va_P D vwCl [(g, .inr (7, [.ref s0, .ref a0, .ref b0, .int (nI kn), .ref x0, .int (nI L), .int (nI ta), .int (nI wr), .int (nI le), .int o1, .int o2, .int (nI po), .int (nI rs), .int ca])), (s0, .inl (y 1, 72, .inl (fun j9 => nI ((teA V k) j9))))] t.heap) (xIn [(g, .inr (7, [.ref s0, .ref a0, .ref b0, .int (nI kn), .ref x0, .int (nI L), .int (nI ta), .int (nI wr), .int (nI le), .int o1, .int o2, .int (nI po), .int (nI rs), .int ca])), (s0, .inl (y 1, 72, .inl (fun j9 => nI (V j9))))])) 0 0 (xIn [(g, .inr (7, [.ref s0, .ref a0, .ref b0, .int (nI kn), .ref x0, .int (nI L), .int (nI ta), .int (nI wr), .int (nI le), .int o1, .int o2, .int (nI po), .int (nI rs), .int ca])), (s0, .inl (y 1, 72, .inl (fun j9 => nI (V j9))))]) := by
  refine Met.ofW (cc := cX7_tears) (maxL := 4) (ret := (some .int)) (by decide) rfl ?_
  intro p e s m args below meth c s₁ B hml hv
  obtain ⟨rfl, hP, hK, hD0⟩ := hv
  have hx := B.exec
  have hb := B.bytes
  have hr := B.returns
  have hts := atoms_spec (ws := wsX7_tears) B.pre
  have hown : s.vm.findClass RX7 = some m.cls := findClass_of_methodNamed B.named
  have hlocks := B.notSynchronized
  have f_7 := hts (.fieldLink RX7 7 "LoomTunesModel" "s" "[I") (by decide +kernel)
  have hin_X7 : ∀ w ∈ wsX70, w ∈ wsX7_tears := by decide +kernel
  have hD := xD_self hD0
  generalize hAe : xIn [(g, .inr (7, [.ref s0, .ref a0, .ref b0, .int (nI kn), .ref x0, .int (nI L), .int (nI ta), .int (nI wr), .int (nI le), .int o1, .int o2, .int (nI po), .int (nI rs), .int ca])), (s0, .inl (y 1, 72, .inl (fun j9 => nI (V j9))))] = A at hD ⊢
  have hS : va_S A s.heap s.heap [] := va_S.rf
  have hP : va_P D vwCl [(g, .inr (7, [.ref s0, .ref a0, .ref b0, .int (nI kn), .ref x0, .int (nI L), .int (nI ta), .int (nI wr), .int (nI le), .int o1, .int o2, .int (nI po), .int (nI rs), .int ca])), (s0, .inl (y 1, 72, .inl (fun j9 => nI (V j9))))] s.heap := hP
  have hl := lv_entry ([.ref g, .int (nI k)]) (n := 4) (Nat.le_of_ble_eq_true rfl)
  rw [lg_entry_eq]
  generalize (lg_sl ([.ref g, .int (nI k)]) ++ List.replicate (4 - (lg_sl ([.ref g, .int (nI k)])).length) Slot.unset).toArray = ls at hl ⊢
  have hl : lv_has ls 4 [(0, .ref g), (1, .int (nI k))] := hl
  generalize hQe : (MQ below (va_Qi (fun r (u : Unit) => r = nI (V (17 + k))) (fun (u : Unit) t => va_P D vwCl [(g, .inr (7, [.ref s0, .ref a0, .ref b0, .int (nI kn), .ref x0, .int (nI L), .int (nI ta), .int (nI wr), .int (nI le), .int o1, .int o2, .int (nI po), .int (nI rs), .int ca])), (s0, .inl (y 1, 72, .inl (fun j9 => nI ((teA V k) j9))))] t.heap) A) ([.ref g, .int (nI k)] : List Value).toArray s 0 0 A) = Q
  have hsz := hI.sz
  refine lv_aload_n hx hb dX7_tears_0 rfl (lv_at hl 0 rfl) ?_
  refine va_get (D := D) (ci := 7) (v := .ref s0) (C := RX7) (T := TX7) (N := 14) hx hb hts hin_X7 hown hK.1 hP 0 rfl rfl 0 (by decide) f_7 (fun _ h9 => h9) rfl dX7_tears_1 ?_
  refine lv_bipush (v := nI 17) hx hb dX7_tears_4 (by decide) ?_
  refine lv_iload_n hx hb dX7_tears_6 rfl (lv_at hl 1 rfl) ?_
  refine xn_add hx hb (r := (17 + k)) rfl dX7_tears_7 ?_
  refine xn_iald hx hb hK hP 1 rfl (by omega) (by first | decide | omega) (v := nI (V (17 + k))) (rfl) dX7_tears_8 ?_
  refine lv_istore_n (lv' := [(2, .int (nI (V (17 + k)))), (0, .ref g), (1, .int (nI k))]) hx hb dX7_tears_9 rfl hl (by decide) rfl (fun ls hl => ?_)
  refine lv_aload_n hx hb dX7_tears_10 rfl (lv_at hl 1 rfl) ?_
  refine va_get (D := D) (ci := 7) (v := .ref s0) (C := RX7) (T := TX7) (N := 14) hx hb hts hin_X7 hown hK.1 hP 0 rfl rfl 0 (by decide) f_7 (fun _ h9 => h9) rfl dX7_tears_11 ?_
  refine lv_bipush (v := nI 16) hx hb dX7_tears_14 (by decide) ?_
  refine lv_dup2_11 hx hb dX7_tears_16 rfl rfl ?_
  refine xn_iald hx hb hK hP 1 rfl (by omega) (by first | decide | omega) (v := nI (V 16)) (rfl) dX7_tears_17 ?_
  refine lv_iconst (v := nI 1) hx hb dX7_tears_18 (by decide) ?_
  refine xn_sub hx hb (r := ((V 16) - 1)) (by omega) rfl dX7_tears_19 ?_
  refine xn_iast hx hb hK hP hD hS 1 (g := fun j9 => nI ((uN V 16 ((V 16) - 1)) j9)) rfl (by omega) (by first | decide | omega) (uN_I) dX7_tears_20 (fun H locs hP1 hD1 hS1 => ?_)
  clear hP hD hS
  have hP : va_P D vwCl [(g, .inr (7, [.ref s0, .ref a0, .ref b0, .int (nI kn), .ref x0, .int (nI L), .int (nI ta), .int (nI wr), .int (nI le), .int o1, .int o2, .int (nI po), .int (nI rs), .int ca])), (s0, .inl (y 1, 72, .inl (fun j9 => nI ((uN V 16 ((V 16) - 1)) j9))))] H := hP1
  have hD : va_D A [(g, .inr (7, [.ref s0, .ref a0, .ref b0, .int (nI kn), .ref x0, .int (nI L), .int (nI ta), .int (nI wr), .int (nI le), .int o1, .int o2, .int (nI po), .int (nI rs), .int ca])), (s0, .inl (y 1, 72, .inl (fun j9 => nI ((uN V 16 ((V 16) - 1)) j9))))] := hD1
  have hS := hS1
  clear hP1 hD1 hS1
  refine lv_iload_n hx hb dX7_tears_21 rfl (lv_at hl 2 rfl) ?_
  refine lv_istore_n (lv' := [(3, .int (nI k)), (2, .int (nI (V (17 + k)))), (0, .ref g), (1, .int (nI k))]) hx hb dX7_tears_22 rfl hl (by decide) rfl (fun ls hl => ?_)
  have lp23 : ∀ (n : Nat) (i : Nat), V 16 - i < n → (k ≤ i) → (i ≤ V 16 - 1) → ∀ (H : Heap) (locs : List Loc), va_P D vwCl [(g, .inr (7, [.ref s0, .ref a0, .ref b0, .int (nI kn), .ref x0, .int (nI L), .int (nI ta), .int (nI wr), .int (nI le), .int o1, .int o2, .int (nI po), .int (nI rs), .int ca])), (s0, .inl (y 1, 72, .inl (fun j9 => nI ((teB V k i) j9))))] H → va_D A [(g, .inr (7, [.ref s0, .ref a0, .ref b0, .int (nI kn), .ref x0, .int (nI L), .int (nI ta), .int (nI wr), .int (nI le), .int o1, .int o2, .int (nI po), .int (nI rs), .int ca])), (s0, .inl (y 1, 72, .inl (fun j9 => nI ((teB V k i) j9))))] → va_S A s.heap H locs → ∀ ls : Array Slot, lv_has ls 4 [(3, .int (nI i)), (2, .int (nI (V (17 + k)))), (0, .ref g), (1, .int (nI k))] → W p l e (headSpec wsX7_tears ({ frames := 0, cells := 0, slots := 0, locals := 0 })).room s m ([.ref g, .int (nI k)] : List Value).toArray below meth c H locs 0 0 Q (F0 m 23 ls []) := by
    intro n
    induction n with
    | zero => intro i hm; exact absurd hm (Nat.not_lt_zero _)
    | succ n ih23 =>
      intro i hm h0 hi H locs hP hD hS ls hl
      have e16 : teB V k i 16 = V 16 - 1 := teB_16
      refine lv_iload_n hx hb dX7_tears_23 rfl (lv_at hl 0 rfl) ?_
      refine lv_aload_n hx hb dX7_tears_24 rfl (lv_at hl 2 rfl) ?_
      refine va_get (D := D) (ci := 7) (v := .ref s0) (C := RX7) (T := TX7) (N := 14) hx hb hts hin_X7 hown hK.1 hP 0 rfl rfl 0 (by decide) f_7 (fun _ h9 => h9) rfl dX7_tears_25 ?_
      refine lv_bipush (v := nI 16) hx hb dX7_tears_28 (by decide) ?_
      refine xn_iald hx hb hK hP 1 rfl (by omega) (by first | decide | omega) (v := nI ((teB V k i) 16)) (rfl) dX7_tears_30 ?_
      refine xv (congrArg nI (e16)) ?_
      refine xn_icmp_ge hx hb (by omega) (by omega) (tgt := 80) dX7_tears_31 (by decide) (fun kc31 => ?_) (fun kc31 => ?_)
      · have hi9 : i = V 16 - 1 := by omega
        refine lv_iload_n hx hb dX7_tears_80 rfl (lv_at hl 1 rfl) ?_
        subst hQe
        exact xw_i hx hb hr hlocks () hS dX7_tears_81 (rfl) (fun t ht => by rw [ht]; exact (by rw [show teA V k = teB V k i by rw [hi9]; rfl]; exact hP))
      · have en := teB_n (V := V) (c := k) (i := i) (k := i + 1) (by omega) (by omega) (by omega)
        refine lv_aload_n hx hb dX7_tears_34 rfl (lv_at hl 2 rfl) ?_
        refine va_get (D := D) (ci := 7) (v := .ref s0) (C := RX7) (T := TX7) (N := 14) hx hb hts hin_X7 hown hK.1 hP 0 rfl rfl 0 (by decide) f_7 (fun _ h9 => h9) rfl dX7_tears_35 ?_
        refine lv_bipush (v := nI 17) hx hb dX7_tears_38 (by decide) ?_
        refine lv_iload_n hx hb dX7_tears_40 rfl (lv_at hl 0 rfl) ?_
        refine xn_add hx hb (r := (17 + i)) rfl dX7_tears_41 ?_
        refine lv_aload_n hx hb dX7_tears_42 rfl (lv_at hl 2 rfl) ?_
        refine va_get (D := D) (ci := 7) (v := .ref s0) (C := RX7) (T := TX7) (N := 14) hx hb hts hin_X7 hown hK.1 hP 0 rfl rfl 0 (by decide) f_7 (fun _ h9 => h9) rfl dX7_tears_43 ?_
        refine lv_bipush (v := nI 17) hx hb dX7_tears_46 (by decide) ?_
        refine lv_iload_n hx hb dX7_tears_48 rfl (lv_at hl 0 rfl) ?_
        refine xn_add hx hb (r := (17 + i)) rfl dX7_tears_49 ?_
        refine lv_iconst (v := nI 1) hx hb dX7_tears_50 (by decide) ?_
        refine xn_add hx hb (r := ((17 + i) + 1)) rfl dX7_tears_51 ?_
        refine xn_iald hx hb hK hP 1 rfl (by omega) (by first | decide | omega) (v := nI ((teB V k i) ((17 + i) + 1))) (rfl) dX7_tears_52 ?_
        refine xv (congrArg nI en.1) ?_
        refine xn_iast hx hb hK hP hD hS 1 (g := fun j9 => nI ((uN (teB V k i) (17 + i) (V (17 + (i + 1)))) j9)) rfl (by omega) (by first | decide | omega) (uN_I) dX7_tears_53 (fun H locs hP1 hD1 hS1 => ?_)
        clear hP hD hS
        have hP : va_P D vwCl [(g, .inr (7, [.ref s0, .ref a0, .ref b0, .int (nI kn), .ref x0, .int (nI L), .int (nI ta), .int (nI wr), .int (nI le), .int o1, .int o2, .int (nI po), .int (nI rs), .int ca])), (s0, .inl (y 1, 72, .inl (fun j9 => nI ((uN (teB V k i) (17 + i) (V (17 + (i + 1)))) j9))))] H := hP1
        have hD : va_D A [(g, .inr (7, [.ref s0, .ref a0, .ref b0, .int (nI kn), .ref x0, .int (nI L), .int (nI ta), .int (nI wr), .int (nI le), .int o1, .int o2, .int (nI po), .int (nI rs), .int ca])), (s0, .inl (y 1, 72, .inl (fun j9 => nI ((uN (teB V k i) (17 + i) (V (17 + (i + 1)))) j9))))] := hD1
        have hS := hS1
        clear hP1 hD1 hS1
        refine lv_aload_n hx hb dX7_tears_54 rfl (lv_at hl 2 rfl) ?_
        refine va_get (D := D) (ci := 7) (v := .ref s0) (C := RX7) (T := TX7) (N := 14) hx hb hts hin_X7 hown hK.1 hP 0 rfl rfl 0 (by decide) f_7 (fun _ h9 => h9) rfl dX7_tears_55 ?_
        refine lv_bipush (v := nI 41) hx hb dX7_tears_58 (by decide) ?_
        refine lv_iload_n hx hb dX7_tears_60 rfl (lv_at hl 0 rfl) ?_
        refine xn_add hx hb (r := (41 + i)) rfl dX7_tears_61 ?_
        refine lv_aload_n hx hb dX7_tears_62 rfl (lv_at hl 2 rfl) ?_
        refine va_get (D := D) (ci := 7) (v := .ref s0) (C := RX7) (T := TX7) (N := 14) hx hb hts hin_X7 hown hK.1 hP 0 rfl rfl 0 (by decide) f_7 (fun _ h9 => h9) rfl dX7_tears_63 ?_
        refine lv_bipush (v := nI 41) hx hb dX7_tears_66 (by decide) ?_
        refine lv_iload_n hx hb dX7_tears_68 rfl (lv_at hl 0 rfl) ?_
        refine xn_add hx hb (r := (41 + i)) rfl dX7_tears_69 ?_
        refine lv_iconst (v := nI 1) hx hb dX7_tears_70 (by decide) ?_
        refine xn_add hx hb (r := ((41 + i) + 1)) rfl dX7_tears_71 ?_
        refine xn_iald hx hb hK hP 1 rfl (by omega) (by first | decide | omega) (v := nI ((uN (teB V k i) (17 + i) (V (17 + (i + 1)))) ((41 + i) + 1))) (rfl) dX7_tears_72 ?_
        refine xv (congrArg nI ((uN_n (by omega)).trans en.2)) ?_
        refine xn_iast hx hb hK hP hD hS 1 (g := fun j9 => nI ((uN (uN (teB V k i) (17 + i) (V (17 + (i + 1)))) (41 + i) (V (41 + (i + 1)))) j9)) rfl (by omega) (by first | decide | omega) (uN_I) dX7_tears_73 (fun H locs hP1 hD1 hS1 => ?_)
        clear hP hD hS
        have hP : va_P D vwCl [(g, .inr (7, [.ref s0, .ref a0, .ref b0, .int (nI kn), .ref x0, .int (nI L), .int (nI ta), .int (nI wr), .int (nI le), .int o1, .int o2, .int (nI po), .int (nI rs), .int ca])), (s0, .inl (y 1, 72, .inl (fun j9 => nI ((uN (uN (teB V k i) (17 + i) (V (17 + (i + 1)))) (41 + i) (V (41 + (i + 1)))) j9))))] H := hP1
        have hD : va_D A [(g, .inr (7, [.ref s0, .ref a0, .ref b0, .int (nI kn), .ref x0, .int (nI L), .int (nI ta), .int (nI wr), .int (nI le), .int o1, .int o2, .int (nI po), .int (nI rs), .int ca])), (s0, .inl (y 1, 72, .inl (fun j9 => nI ((uN (uN (teB V k i) (17 + i) (V (17 + (i + 1)))) (41 + i) (V (41 + (i + 1)))) j9))))] := hD1
        have hS := hS1
        clear hP1 hD1 hS1
        refine lv_iinc (v := nI (i + 1)) (lv' := [(3, .int (nI (i + 1))), (2, .int (nI (V (17 + k)))), (0, .ref g), (1, .int (nI k))]) hx hb dX7_tears_74 hl (k := 0) rfl (nI_add i 1) (by decide) rfl (fun ls hl => ?_)
        refine lv_goto (tgt := 23) hx hb dX7_tears_77 (by decide) ?_
        have hW1 : ([(g, .inr (7, [.ref s0, .ref a0, .ref b0, .int (nI kn), .ref x0, .int (nI L), .int (nI ta), .int (nI wr), .int (nI le), .int o1, .int o2, .int (nI po), .int (nI rs), .int ca])), (s0, .inl (y 1, 72, .inl (fun j9 => nI ((uN (uN (teB V k i) (17 + i) (V (17 + (i + 1)))) (41 + i) (V (41 + (i + 1)))) j9))))] : va_W) = [(g, .inr (7, [.ref s0, .ref a0, .ref b0, .int (nI kn), .ref x0, .int (nI L), .int (nI ta), .int (nI wr), .int (nI le), .int o1, .int o2, .int (nI po), .int (nI rs), .int ca])), (s0, .inl (y 1, 72, .inl (fun j9 => nI ((teB V k (i + 1)) j9))))] := by rw [← teB_s (V := V) (c := k) (i := i) (by omega) (by omega)]
        exact ih23 (i + 1) (by omega) (by omega) (by omega) _ _ (xP_eq hP hW1) (xD_eq hD hW1) hS ls (lv_sub hl [0, 1, 2, 3] rfl)
  have hW2 : ([(g, .inr (7, [.ref s0, .ref a0, .ref b0, .int (nI kn), .ref x0, .int (nI L), .int (nI ta), .int (nI wr), .int (nI le), .int o1, .int o2, .int (nI po), .int (nI rs), .int ca])), (s0, .inl (y 1, 72, .inl (fun j9 => nI ((uN V 16 ((V 16) - 1)) j9))))] : va_W) = [(g, .inr (7, [.ref s0, .ref a0, .ref b0, .int (nI kn), .ref x0, .int (nI L), .int (nI ta), .int (nI wr), .int (nI le), .int o1, .int o2, .int (nI po), .int (nI rs), .int ca])), (s0, .inl (y 1, 72, .inl (fun j9 => nI ((teB V k k) j9))))] := by rw [teB_0]
  exact lp23 ((V 16 - k) + 1) k (Nat.lt_succ_self _) (by omega) (by omega) _ _ (xP_eq hP hW2) (xD_eq hD hW2) hS ls (lv_sub hl [0, 1, 2, 3] rfl)
set_option maxHeartbeats 8000000 in
set_option maxRecDepth 100000 in
theorem c_X7_brings (l : Launch) (D : va_G) (y : Nat → ClassId) (g s0 a0 b0 x0 kn L ta wr le : Nat) (o1 o2 : Int32) (po rs : Nat) (ca : Int32) (V : Nat → Nat) (hI : Inv V) (k : Nat) (hk : k < 256) (hz : V 16 < 24) : Met l yX7_brings wsX7_brings ({ frames := 4, cells := 0, slots := 0, locals := 92 }) (va_Pc [.ref g, .int (nI k)] (xPw D y [(g, .inr (7, [.ref s0, .ref a0, .ref b0, .int (nI kn), .ref x0, .int (nI L), .int (nI ta), .int (nI wr), .int (nI le), .int o1, .int o2, .int (nI po), .int (nI rs), .int ca])), (s0, .inl (y 1, 72, .inl (fun j9 => nI (V j9))))])) (va_Qi (fun r (u : Unit) => r = nI (ans V k)) (fun (u : Unit) t => va_P D vwCl [(g, .inr (7, [.ref s0, .ref a0, .ref b0, .int (nI kn), .ref x0, .int (nI L), .int (nI ta), .int (nI wr), .int (nI le), .int o1, .int o2, .int (nI po), .int (nI rs), .int ca])), (s0, .inl (y 1, 72, .inl (fun j9 => nI ((brV V k) j9))))] t.heap) (xIn [(g, .inr (7, [.ref s0, .ref a0, .ref b0, .int (nI kn), .ref x0, .int (nI L), .int (nI ta), .int (nI wr), .int (nI le), .int o1, .int o2, .int (nI po), .int (nI rs), .int ca])), (s0, .inl (y 1, 72, .inl (fun j9 => nI (V j9))))])) 0 0 (xIn [(g, .inr (7, [.ref s0, .ref a0, .ref b0, .int (nI kn), .ref x0, .int (nI L), .int (nI ta), .int (nI wr), .int (nI le), .int o1, .int o2, .int (nI po), .int (nI rs), .int ca])), (s0, .inl (y 1, 72, .inl (fun j9 => nI (V j9))))]) := by
  refine Met.ofW (cc := cX7_brings) (maxL := 3) (ret := (some .int)) (by decide) rfl ?_
  intro p e s m args below meth c s₁ B hml hv
  obtain ⟨rfl, hP, hK, hD0⟩ := hv
  have hx := B.exec
  have hb := B.bytes
  have hr := B.returns
  have hts := atoms_spec (ws := wsX7_brings) B.pre
  have hown : s.vm.findClass RX7 = some m.cls := findClass_of_methodNamed B.named
  have hlocks := B.notSynchronized
  have f_7 := hts (.fieldLink RX7 7 "LoomTunesModel" "s" "[I") (by decide +kernel)
  have hin_X7 : ∀ w ∈ wsX70, w ∈ wsX7_brings := by decide +kernel
  have hD := xD_self hD0
  generalize hAe : xIn [(g, .inr (7, [.ref s0, .ref a0, .ref b0, .int (nI kn), .ref x0, .int (nI L), .int (nI ta), .int (nI wr), .int (nI le), .int o1, .int o2, .int (nI po), .int (nI rs), .int ca])), (s0, .inl (y 1, 72, .inl (fun j9 => nI (V j9))))] = A at hD ⊢
  have hS : va_S A s.heap s.heap [] := va_S.rf
  have hP : va_P D vwCl [(g, .inr (7, [.ref s0, .ref a0, .ref b0, .int (nI kn), .ref x0, .int (nI L), .int (nI ta), .int (nI wr), .int (nI le), .int o1, .int o2, .int (nI po), .int (nI rs), .int ca])), (s0, .inl (y 1, 72, .inl (fun j9 => nI (V j9))))] s.heap := hP
  have hl := lv_entry ([.ref g, .int (nI k)]) (n := 3) (Nat.le_of_ble_eq_true rfl)
  rw [lg_entry_eq]
  generalize (lg_sl ([.ref g, .int (nI k)]) ++ List.replicate (3 - (lg_sl ([.ref g, .int (nI k)])).length) Slot.unset).toArray = ls at hl ⊢
  have hl : lv_has ls 3 [(0, .ref g), (1, .int (nI k))] := hl
  generalize hQe : (MQ below (va_Qi (fun r (u : Unit) => r = nI (ans V k)) (fun (u : Unit) t => va_P D vwCl [(g, .inr (7, [.ref s0, .ref a0, .ref b0, .int (nI kn), .ref x0, .int (nI L), .int (nI ta), .int (nI wr), .int (nI le), .int o1, .int o2, .int (nI po), .int (nI rs), .int ca])), (s0, .inl (y 1, 72, .inl (fun j9 => nI ((brV V k) j9))))] t.heap) A) ([.ref g, .int (nI k)] : List Value).toArray s 0 0 A) = Q
  have hsz := hI.sz
  have hal := ans_le (V := V) (h := k)
  have han := ans_in (V := V) (h := k)
  have hti := hI.ti
  have hrm := hI.rm
  refine lv_aload_n hx hb dX7_brings_0 rfl (lv_at hl 0 rfl) ?_
  refine lv_iload_n hx hb dX7_brings_1 rfl (lv_at hl 1 rfl) ?_
  refine xc_V (As := [.int (nI k)]) (rest := []) ⟨hx, hb, hml, hown, hts⟩ (c_X7_says l D y g s0 a0 b0 x0 kn L ta wr le o1 o2 po rs ca V hI k (by omega)) (cwV 1 hts gX7_brings_X7_says rfl rfl rfl hd_X7_says ⟨Nat.le_of_ble_eq_true rfl, Nat.le_of_ble_eq_true rfl⟩) (xpv_r hK hP [0, 1] 0 rfl rfl rfl) rfl hl.1 rfl (Nat.le_of_ble_eq_true rfl) dX7_brings_2 ⟨Nat.zero_le _, Nat.zero_le _⟩ (fun r1 hr1 => ?_)
  subst hr1
  refine lv_istore_n (lv' := [(2, .int (nI (ans V k))), (0, .ref g), (1, .int (nI k))]) hx hb dX7_brings_5 rfl hl (by decide) rfl (fun ls hl => ?_)
  refine lv_iload_n hx hb dX7_brings_6 rfl (lv_at hl 0 rfl) ?_
  refine xn_if_eq hx hb (by omega) (tgt := 16) dX7_brings_7 (by decide) (fun kc7 => ?_) (fun kc7 => ?_)
  · refine lv_aload_n hx hb dX7_brings_16 rfl (lv_at hl 1 rfl) ?_
    refine va_get (D := D) (ci := 7) (v := .ref s0) (C := RX7) (T := TX7) (N := 14) hx hb hts hin_X7 hown hK.1 hP 0 rfl rfl 0 (by decide) f_7 (fun _ h9 => h9) rfl dX7_brings_17 ?_
    refine lv_bipush (v := nI 17) hx hb dX7_brings_20 (by decide) ?_
    refine lv_aload_n hx hb dX7_brings_22 rfl (lv_at hl 1 rfl) ?_
    refine va_get (D := D) (ci := 7) (v := .ref s0) (C := RX7) (T := TX7) (N := 14) hx hb hts hin_X7 hown hK.1 hP 0 rfl rfl 0 (by decide) f_7 (fun _ h9 => h9) rfl dX7_brings_23 ?_
    refine lv_bipush (v := nI 16) hx hb dX7_brings_26 (by decide) ?_
    refine xn_iald hx hb hK hP 1 rfl (by omega) (by first | decide | omega) (v := nI (V 16)) (rfl) dX7_brings_28 ?_
    refine xn_add hx hb (r := (17 + (V 16))) rfl dX7_brings_29 ?_
    refine lv_iload_n hx hb dX7_brings_30 rfl (lv_at hl 2 rfl) ?_
    refine xn_iast hx hb hK hP hD hS 1 (g := fun j9 => nI ((uN V (17 + (V 16)) k) j9)) rfl (by omega) (by first | decide | omega) (uN_I) dX7_brings_31 (fun H locs hP1 hD1 hS1 => ?_)
    clear hP hD hS
    have hP : va_P D vwCl [(g, .inr (7, [.ref s0, .ref a0, .ref b0, .int (nI kn), .ref x0, .int (nI L), .int (nI ta), .int (nI wr), .int (nI le), .int o1, .int o2, .int (nI po), .int (nI rs), .int ca])), (s0, .inl (y 1, 72, .inl (fun j9 => nI ((uN V (17 + (V 16)) k) j9))))] H := hP1
    have hD : va_D A [(g, .inr (7, [.ref s0, .ref a0, .ref b0, .int (nI kn), .ref x0, .int (nI L), .int (nI ta), .int (nI wr), .int (nI le), .int o1, .int o2, .int (nI po), .int (nI rs), .int ca])), (s0, .inl (y 1, 72, .inl (fun j9 => nI ((uN V (17 + (V 16)) k) j9))))] := hD1
    have hS := hS1
    clear hP1 hD1 hS1
    refine lv_aload_n hx hb dX7_brings_32 rfl (lv_at hl 1 rfl) ?_
    refine va_get (D := D) (ci := 7) (v := .ref s0) (C := RX7) (T := TX7) (N := 14) hx hb hts hin_X7 hown hK.1 hP 0 rfl rfl 0 (by decide) f_7 (fun _ h9 => h9) rfl dX7_brings_33 ?_
    refine lv_bipush (v := nI 41) hx hb dX7_brings_36 (by decide) ?_
    refine lv_aload_n hx hb dX7_brings_38 rfl (lv_at hl 1 rfl) ?_
    refine va_get (D := D) (ci := 7) (v := .ref s0) (C := RX7) (T := TX7) (N := 14) hx hb hts hin_X7 hown hK.1 hP 0 rfl rfl 0 (by decide) f_7 (fun _ h9 => h9) rfl dX7_brings_39 ?_
    refine lv_bipush (v := nI 16) hx hb dX7_brings_42 (by decide) ?_
    refine xn_iald hx hb hK hP 1 rfl (by omega) (by first | decide | omega) (v := nI ((uN V (17 + (V 16)) k) 16)) (rfl) dX7_brings_44 ?_
    refine xv (congrArg nI (uN_n (by omega))) ?_
    refine xn_add hx hb (r := (41 + (V 16))) rfl dX7_brings_45 ?_
    refine lv_iload_n hx hb dX7_brings_46 rfl (lv_at hl 0 rfl) ?_
    have jn57 : ∀ (st0 : Nat) (ls : Array Slot), lv_has ls 3 [(2, .int (nI (ans V k))), (0, .ref g), (1, .int (nI k))] → (st0 < 2 ∧ (uN (uN (uN (uN V (17 + V 16) k) (41 + V 16) st0) 16 (V 16 + 1)) 66 0 = brV V k)) → W p l e (headSpec wsX7_brings ({ frames := 4, cells := 0, slots := 0, locals := 92 })).room s m ([.ref g, .int (nI k)] : List Value).toArray below meth c H locs 0 0 Q (F0 m 57 ls [.int (nI st0), .int (nI (41 + V 16)), .ref s0]) := by
      intro st0 ls hl hst
      refine xn_iast hx hb hK hP hD hS 1 (g := fun j9 => nI ((uN (uN V (17 + (V 16)) k) (41 + V 16) st0) j9)) rfl (by omega) (by first | decide | omega) (uN_I) dX7_brings_57 (fun H locs hP1 hD1 hS1 => ?_)
      clear hP hD hS
      have hP : va_P D vwCl [(g, .inr (7, [.ref s0, .ref a0, .ref b0, .int (nI kn), .ref x0, .int (nI L), .int (nI ta), .int (nI wr), .int (nI le), .int o1, .int o2, .int (nI po), .int (nI rs), .int ca])), (s0, .inl (y 1, 72, .inl (fun j9 => nI ((uN (uN V (17 + (V 16)) k) (41 + V 16) st0) j9))))] H := hP1
      have hD : va_D A [(g, .inr (7, [.ref s0, .ref a0, .ref b0, .int (nI kn), .ref x0, .int (nI L), .int (nI ta), .int (nI wr), .int (nI le), .int o1, .int o2, .int (nI po), .int (nI rs), .int ca])), (s0, .inl (y 1, 72, .inl (fun j9 => nI ((uN (uN V (17 + (V 16)) k) (41 + V 16) st0) j9))))] := hD1
      have hS := hS1
      clear hP1 hD1 hS1
      refine lv_aload_n hx hb dX7_brings_58 rfl (lv_at hl 1 rfl) ?_
      refine va_get (D := D) (ci := 7) (v := .ref s0) (C := RX7) (T := TX7) (N := 14) hx hb hts hin_X7 hown hK.1 hP 0 rfl rfl 0 (by decide) f_7 (fun _ h9 => h9) rfl dX7_brings_59 ?_
      refine lv_bipush (v := nI 16) hx hb dX7_brings_62 (by decide) ?_
      refine lv_dup2_11 hx hb dX7_brings_64 rfl rfl ?_
      refine xn_iald hx hb hK hP 1 rfl (by omega) (by first | decide | omega) (v := nI ((uN (uN V (17 + (V 16)) k) (41 + V 16) st0) 16)) (rfl) dX7_brings_65 ?_
      refine xv (congrArg nI ((uN_n (by omega)).trans (uN_n (by omega)))) ?_
      refine lv_iconst (v := nI 1) hx hb dX7_brings_66 (by decide) ?_
      refine xn_add hx hb (r := ((V 16) + 1)) rfl dX7_brings_67 ?_
      refine xn_iast hx hb hK hP hD hS 1 (g := fun j9 => nI ((uN (uN (uN V (17 + (V 16)) k) (41 + V 16) st0) 16 ((V 16) + 1)) j9)) rfl (by omega) (by first | decide | omega) (uN_I) dX7_brings_68 (fun H locs hP1 hD1 hS1 => ?_)
      clear hP hD hS
      have hP : va_P D vwCl [(g, .inr (7, [.ref s0, .ref a0, .ref b0, .int (nI kn), .ref x0, .int (nI L), .int (nI ta), .int (nI wr), .int (nI le), .int o1, .int o2, .int (nI po), .int (nI rs), .int ca])), (s0, .inl (y 1, 72, .inl (fun j9 => nI ((uN (uN (uN V (17 + (V 16)) k) (41 + V 16) st0) 16 ((V 16) + 1)) j9))))] H := hP1
      have hD : va_D A [(g, .inr (7, [.ref s0, .ref a0, .ref b0, .int (nI kn), .ref x0, .int (nI L), .int (nI ta), .int (nI wr), .int (nI le), .int o1, .int o2, .int (nI po), .int (nI rs), .int ca])), (s0, .inl (y 1, 72, .inl (fun j9 => nI ((uN (uN (uN V (17 + (V 16)) k) (41 + V 16) st0) 16 ((V 16) + 1)) j9))))] := hD1
      have hS := hS1
      clear hP1 hD1 hS1
      refine lv_aload_n hx hb dX7_brings_69 rfl (lv_at hl 1 rfl) ?_
      refine va_get (D := D) (ci := 7) (v := .ref s0) (C := RX7) (T := TX7) (N := 14) hx hb hts hin_X7 hown hK.1 hP 0 rfl rfl 0 (by decide) f_7 (fun _ h9 => h9) rfl dX7_brings_70 ?_
      refine lv_bipush (v := nI 66) hx hb dX7_brings_73 (by decide) ?_
      refine lv_iconst (v := nI 0) hx hb dX7_brings_75 (by decide) ?_
      refine xn_iast hx hb hK hP hD hS 1 (g := fun j9 => nI ((uN (uN (uN (uN V (17 + (V 16)) k) (41 + V 16) st0) 16 ((V 16) + 1)) 66 0) j9)) rfl (by omega) (by first | decide | omega) (uN_I) dX7_brings_76 (fun H locs hP1 hD1 hS1 => ?_)
      clear hP hD hS
      have hP : va_P D vwCl [(g, .inr (7, [.ref s0, .ref a0, .ref b0, .int (nI kn), .ref x0, .int (nI L), .int (nI ta), .int (nI wr), .int (nI le), .int o1, .int o2, .int (nI po), .int (nI rs), .int ca])), (s0, .inl (y 1, 72, .inl (fun j9 => nI ((uN (uN (uN (uN V (17 + (V 16)) k) (41 + V 16) st0) 16 ((V 16) + 1)) 66 0) j9))))] H := hP1
      have hD : va_D A [(g, .inr (7, [.ref s0, .ref a0, .ref b0, .int (nI kn), .ref x0, .int (nI L), .int (nI ta), .int (nI wr), .int (nI le), .int o1, .int o2, .int (nI po), .int (nI rs), .int ca])), (s0, .inl (y 1, 72, .inl (fun j9 => nI ((uN (uN (uN (uN V (17 + (V 16)) k) (41 + V 16) st0) 16 ((V 16) + 1)) 66 0) j9))))] := hD1
      have hS := hS1
      clear hP1 hD1 hS1
      refine lv_goto (tgt := 140) hx hb dX7_brings_77 (by decide) ?_
      refine lv_iload_n hx hb dX7_brings_140 rfl (lv_at hl 0 rfl) ?_
      subst hQe
      exact xw_i hx hb hr hlocks () hS dX7_brings_141 (rfl) (fun t ht => by rw [ht]; exact (by rw [← hst.2]; exact hP))
    refine lv_bipush (v := nI 9) hx hb dX7_brings_47 (by decide) ?_
    refine xn_icmp_le hx hb (by omega) (by omega) (tgt := 56) dX7_brings_49 (by decide) (fun kc49 => ?_) (fun kc49 => ?_)
    · refine lv_iconst (v := nI 0) hx hb dX7_brings_56 (by decide) ?_
      exact jn57 0 ls (lv_sub hl [0, 1, 2] rfl) (⟨by decide, by first | (rw [br_0 (by omega)]; rfl) | (rw [br_1 (by omega) (by omega) han]; rfl)⟩)
    · refine lv_iconst (v := nI 1) hx hb dX7_brings_52 (by decide) ?_
      refine lv_goto (tgt := 57) hx hb dX7_brings_53 (by decide) ?_
      exact jn57 1 ls (lv_sub hl [0, 1, 2] rfl) (⟨by decide, by first | (rw [br_0 (by omega)]; rfl) | (rw [br_1 (by omega) (by omega) han]; rfl)⟩)
  · refine lv_iload_n hx hb dX7_brings_10 rfl (lv_at hl 0 rfl) ?_
    refine lv_bipush (v := nI 9) hx hb dX7_brings_11 (by decide) ?_
    refine xn_icmp_le hx hb (by omega) (by omega) (tgt := 80) dX7_brings_13 (by decide) (fun kc13 => ?_) (fun kc13 => ?_)
    · refine lv_aload_n hx hb dX7_brings_80 rfl (lv_at hl 1 rfl) ?_
      refine va_get (D := D) (ci := 7) (v := .ref s0) (C := RX7) (T := TX7) (N := 14) hx hb hts hin_X7 hown hK.1 hP 0 rfl rfl 0 (by decide) f_7 (fun _ h9 => h9) rfl dX7_brings_81 ?_
      refine lv_bipush (v := nI 66) hx hb dX7_brings_84 (by decide) ?_
      refine lv_aload_n hx hb dX7_brings_86 rfl (lv_at hl 1 rfl) ?_
      refine va_get (D := D) (ci := 7) (v := .ref s0) (C := RX7) (T := TX7) (N := 14) hx hb hts hin_X7 hown hK.1 hP 0 rfl rfl 0 (by decide) f_7 (fun _ h9 => h9) rfl dX7_brings_87 ?_
      refine lv_bipush (v := nI 66) hx hb dX7_brings_90 (by decide) ?_
      refine xn_iald hx hb hK hP 1 rfl (by omega) (by first | decide | omega) (v := nI (V 66)) (rfl) dX7_brings_92 ?_
      have jn120 : ∀ (t0 : Nat) (ls : Array Slot), lv_has ls 3 [(2, .int (nI (ans V k))), (0, .ref g), (1, .int (nI k))] → (t0 = if ¬ V 66 = 0 ∧ V 65 = k then V 66 + 1 else 1) → W p l e (headSpec wsX7_brings ({ frames := 4, cells := 0, slots := 0, locals := 92 })).room s m ([.ref g, .int (nI k)] : List Value).toArray below meth c s.heap [] 0 0 Q (F0 m 120 ls [.int (nI t0), .int (nI 66), .ref s0]) := by
        intro t0 ls hl ht0
        refine xn_iast hx hb hK hP hD hS 1 (g := fun j9 => nI ((uN V 66 t0) j9)) rfl (by omega) (by first | decide | omega) (uN_I) dX7_brings_120 (fun H locs hP1 hD1 hS1 => ?_)
        clear hP hD hS
        have hP : va_P D vwCl [(g, .inr (7, [.ref s0, .ref a0, .ref b0, .int (nI kn), .ref x0, .int (nI L), .int (nI ta), .int (nI wr), .int (nI le), .int o1, .int o2, .int (nI po), .int (nI rs), .int ca])), (s0, .inl (y 1, 72, .inl (fun j9 => nI ((uN V 66 t0) j9))))] H := hP1
        have hD : va_D A [(g, .inr (7, [.ref s0, .ref a0, .ref b0, .int (nI kn), .ref x0, .int (nI L), .int (nI ta), .int (nI wr), .int (nI le), .int o1, .int o2, .int (nI po), .int (nI rs), .int ca])), (s0, .inl (y 1, 72, .inl (fun j9 => nI ((uN V 66 t0) j9))))] := hD1
        have hS := hS1
        clear hP1 hD1 hS1
        refine lv_aload_n hx hb dX7_brings_121 rfl (lv_at hl 1 rfl) ?_
        refine va_get (D := D) (ci := 7) (v := .ref s0) (C := RX7) (T := TX7) (N := 14) hx hb hts hin_X7 hown hK.1 hP 0 rfl rfl 0 (by decide) f_7 (fun _ h9 => h9) rfl dX7_brings_122 ?_
        refine lv_bipush (v := nI 65) hx hb dX7_brings_125 (by decide) ?_
        refine lv_iload_n hx hb dX7_brings_127 rfl (lv_at hl 2 rfl) ?_
        refine xn_iast hx hb hK hP hD hS 1 (g := fun j9 => nI ((uN (uN V 66 t0) 65 k) j9)) rfl (by omega) (by first | decide | omega) (uN_I) dX7_brings_128 (fun H locs hP1 hD1 hS1 => ?_)
        clear hP hD hS
        have hP : va_P D vwCl [(g, .inr (7, [.ref s0, .ref a0, .ref b0, .int (nI kn), .ref x0, .int (nI L), .int (nI ta), .int (nI wr), .int (nI le), .int o1, .int o2, .int (nI po), .int (nI rs), .int ca])), (s0, .inl (y 1, 72, .inl (fun j9 => nI ((uN (uN V 66 t0) 65 k) j9))))] H := hP1
        have hD : va_D A [(g, .inr (7, [.ref s0, .ref a0, .ref b0, .int (nI kn), .ref x0, .int (nI L), .int (nI ta), .int (nI wr), .int (nI le), .int o1, .int o2, .int (nI po), .int (nI rs), .int ca])), (s0, .inl (y 1, 72, .inl (fun j9 => nI ((uN (uN V 66 t0) 65 k) j9))))] := hD1
        have hS := hS1
        clear hP1 hD1 hS1
        refine lv_aload_n hx hb dX7_brings_129 rfl (lv_at hl 1 rfl) ?_
        refine va_get (D := D) (ci := 7) (v := .ref s0) (C := RX7) (T := TX7) (N := 14) hx hb hts hin_X7 hown hK.1 hP 0 rfl rfl 0 (by decide) f_7 (fun _ h9 => h9) rfl dX7_brings_130 ?_
        refine lv_bipush (v := nI 67) hx hb dX7_brings_133 (by decide) ?_
        refine lv_dup2_11 hx hb dX7_brings_135 rfl rfl ?_
        refine xn_iald hx hb hK hP 1 rfl (by omega) (by first | decide | omega) (v := nI ((uN (uN V 66 t0) 65 k) 67)) (rfl) dX7_brings_136 ?_
        refine xv (congrArg nI ((uN_n (by omega)).trans (uN_n (by omega)))) ?_
        refine lv_iconst (v := nI 1) hx hb dX7_brings_137 (by decide) ?_
        refine xn_add hx hb (r := ((V 67) + 1)) rfl dX7_brings_138 ?_
        refine xn_iast hx hb hK hP hD hS 1 (g := fun j9 => nI ((uN (uN (uN V 66 t0) 65 k) 67 ((V 67) + 1)) j9)) rfl (by omega) (by first | decide | omega) (uN_I) dX7_brings_139 (fun H locs hP1 hD1 hS1 => ?_)
        clear hP hD hS
        have hP : va_P D vwCl [(g, .inr (7, [.ref s0, .ref a0, .ref b0, .int (nI kn), .ref x0, .int (nI L), .int (nI ta), .int (nI wr), .int (nI le), .int o1, .int o2, .int (nI po), .int (nI rs), .int ca])), (s0, .inl (y 1, 72, .inl (fun j9 => nI ((uN (uN (uN V 66 t0) 65 k) 67 ((V 67) + 1)) j9))))] H := hP1
        have hD : va_D A [(g, .inr (7, [.ref s0, .ref a0, .ref b0, .int (nI kn), .ref x0, .int (nI L), .int (nI ta), .int (nI wr), .int (nI le), .int o1, .int o2, .int (nI po), .int (nI rs), .int ca])), (s0, .inl (y 1, 72, .inl (fun j9 => nI ((uN (uN (uN V 66 t0) 65 k) 67 ((V 67) + 1)) j9))))] := hD1
        have hS := hS1
        clear hP1 hD1 hS1
        refine lv_iload_n hx hb dX7_brings_140 rfl (lv_at hl 0 rfl) ?_
        subst hQe
        exact xw_i hx hb hr hlocks () hS dX7_brings_141 (rfl) (fun t ht => by rw [ht]; exact (by rw [br_r (by omega) (by omega) han]; unfold rfV; rw [← ht0]; exact hP))
      refine xn_if_le hx hb (by omega) (tgt := 119) dX7_brings_93 (by decide) (fun kc93 => ?_) (fun kc93 => ?_)
      · refine lv_iconst (v := nI 1) hx hb dX7_brings_119 (by decide) ?_
        exact jn120 1 ls (lv_sub hl [0, 1, 2] rfl) (by first | (rw [if_pos ⟨by omega, by omega⟩]; done) | (rw [if_neg (by omega)]; done))
      · refine lv_aload_n hx hb dX7_brings_96 rfl (lv_at hl 1 rfl) ?_
        refine va_get (D := D) (ci := 7) (v := .ref s0) (C := RX7) (T := TX7) (N := 14) hx hb hts hin_X7 hown hK.1 hP 0 rfl rfl 0 (by decide) f_7 (fun _ h9 => h9) rfl dX7_brings_97 ?_
        refine lv_bipush (v := nI 65) hx hb dX7_brings_100 (by decide) ?_
        refine xn_iald hx hb hK hP 1 rfl (by omega) (by first | decide | omega) (v := nI (V 65)) (rfl) dX7_brings_102 ?_
        refine lv_iload_n hx hb dX7_brings_103 rfl (lv_at hl 2 rfl) ?_
        refine xn_icmp_ne hx hb (by omega) (by omega) (tgt := 119) dX7_brings_104 (by decide) (fun kc104 => ?_) (fun kc104 => ?_)
        · refine lv_iconst (v := nI 1) hx hb dX7_brings_119 (by decide) ?_
          exact jn120 1 ls (lv_sub hl [0, 1, 2] rfl) (by first | (rw [if_pos ⟨by omega, by omega⟩]; done) | (rw [if_neg (by omega)]; done))
        · refine lv_aload_n hx hb dX7_brings_107 rfl (lv_at hl 1 rfl) ?_
          refine va_get (D := D) (ci := 7) (v := .ref s0) (C := RX7) (T := TX7) (N := 14) hx hb hts hin_X7 hown hK.1 hP 0 rfl rfl 0 (by decide) f_7 (fun _ h9 => h9) rfl dX7_brings_108 ?_
          refine lv_bipush (v := nI 66) hx hb dX7_brings_111 (by decide) ?_
          refine xn_iald hx hb hK hP 1 rfl (by omega) (by first | decide | omega) (v := nI (V 66)) (rfl) dX7_brings_113 ?_
          refine lv_iconst (v := nI 1) hx hb dX7_brings_114 (by decide) ?_
          refine xn_add hx hb (r := ((V 66) + 1)) rfl dX7_brings_115 ?_
          refine lv_goto (tgt := 120) hx hb dX7_brings_116 (by decide) ?_
          exact jn120 ((V 66) + 1) ls (lv_sub hl [0, 1, 2] rfl) (by first | (rw [if_pos ⟨by omega, by omega⟩]; done) | (rw [if_neg (by omega)]; done))
    · refine lv_aload_n hx hb dX7_brings_16 rfl (lv_at hl 1 rfl) ?_
      refine va_get (D := D) (ci := 7) (v := .ref s0) (C := RX7) (T := TX7) (N := 14) hx hb hts hin_X7 hown hK.1 hP 0 rfl rfl 0 (by decide) f_7 (fun _ h9 => h9) rfl dX7_brings_17 ?_
      refine lv_bipush (v := nI 17) hx hb dX7_brings_20 (by decide) ?_
      refine lv_aload_n hx hb dX7_brings_22 rfl (lv_at hl 1 rfl) ?_
      refine va_get (D := D) (ci := 7) (v := .ref s0) (C := RX7) (T := TX7) (N := 14) hx hb hts hin_X7 hown hK.1 hP 0 rfl rfl 0 (by decide) f_7 (fun _ h9 => h9) rfl dX7_brings_23 ?_
      refine lv_bipush (v := nI 16) hx hb dX7_brings_26 (by decide) ?_
      refine xn_iald hx hb hK hP 1 rfl (by omega) (by first | decide | omega) (v := nI (V 16)) (rfl) dX7_brings_28 ?_
      refine xn_add hx hb (r := (17 + (V 16))) rfl dX7_brings_29 ?_
      refine lv_iload_n hx hb dX7_brings_30 rfl (lv_at hl 2 rfl) ?_
      refine xn_iast hx hb hK hP hD hS 1 (g := fun j9 => nI ((uN V (17 + (V 16)) k) j9)) rfl (by omega) (by first | decide | omega) (uN_I) dX7_brings_31 (fun H locs hP1 hD1 hS1 => ?_)
      clear hP hD hS
      have hP : va_P D vwCl [(g, .inr (7, [.ref s0, .ref a0, .ref b0, .int (nI kn), .ref x0, .int (nI L), .int (nI ta), .int (nI wr), .int (nI le), .int o1, .int o2, .int (nI po), .int (nI rs), .int ca])), (s0, .inl (y 1, 72, .inl (fun j9 => nI ((uN V (17 + (V 16)) k) j9))))] H := hP1
      have hD : va_D A [(g, .inr (7, [.ref s0, .ref a0, .ref b0, .int (nI kn), .ref x0, .int (nI L), .int (nI ta), .int (nI wr), .int (nI le), .int o1, .int o2, .int (nI po), .int (nI rs), .int ca])), (s0, .inl (y 1, 72, .inl (fun j9 => nI ((uN V (17 + (V 16)) k) j9))))] := hD1
      have hS := hS1
      clear hP1 hD1 hS1
      refine lv_aload_n hx hb dX7_brings_32 rfl (lv_at hl 1 rfl) ?_
      refine va_get (D := D) (ci := 7) (v := .ref s0) (C := RX7) (T := TX7) (N := 14) hx hb hts hin_X7 hown hK.1 hP 0 rfl rfl 0 (by decide) f_7 (fun _ h9 => h9) rfl dX7_brings_33 ?_
      refine lv_bipush (v := nI 41) hx hb dX7_brings_36 (by decide) ?_
      refine lv_aload_n hx hb dX7_brings_38 rfl (lv_at hl 1 rfl) ?_
      refine va_get (D := D) (ci := 7) (v := .ref s0) (C := RX7) (T := TX7) (N := 14) hx hb hts hin_X7 hown hK.1 hP 0 rfl rfl 0 (by decide) f_7 (fun _ h9 => h9) rfl dX7_brings_39 ?_
      refine lv_bipush (v := nI 16) hx hb dX7_brings_42 (by decide) ?_
      refine xn_iald hx hb hK hP 1 rfl (by omega) (by first | decide | omega) (v := nI ((uN V (17 + (V 16)) k) 16)) (rfl) dX7_brings_44 ?_
      refine xv (congrArg nI (uN_n (by omega))) ?_
      refine xn_add hx hb (r := (41 + (V 16))) rfl dX7_brings_45 ?_
      refine lv_iload_n hx hb dX7_brings_46 rfl (lv_at hl 0 rfl) ?_
      have jn57 : ∀ (st0 : Nat) (ls : Array Slot), lv_has ls 3 [(2, .int (nI (ans V k))), (0, .ref g), (1, .int (nI k))] → (st0 < 2 ∧ (uN (uN (uN (uN V (17 + V 16) k) (41 + V 16) st0) 16 (V 16 + 1)) 66 0 = brV V k)) → W p l e (headSpec wsX7_brings ({ frames := 4, cells := 0, slots := 0, locals := 92 })).room s m ([.ref g, .int (nI k)] : List Value).toArray below meth c H locs 0 0 Q (F0 m 57 ls [.int (nI st0), .int (nI (41 + V 16)), .ref s0]) := by
        intro st0 ls hl hst
        refine xn_iast hx hb hK hP hD hS 1 (g := fun j9 => nI ((uN (uN V (17 + (V 16)) k) (41 + V 16) st0) j9)) rfl (by omega) (by first | decide | omega) (uN_I) dX7_brings_57 (fun H locs hP1 hD1 hS1 => ?_)
        clear hP hD hS
        have hP : va_P D vwCl [(g, .inr (7, [.ref s0, .ref a0, .ref b0, .int (nI kn), .ref x0, .int (nI L), .int (nI ta), .int (nI wr), .int (nI le), .int o1, .int o2, .int (nI po), .int (nI rs), .int ca])), (s0, .inl (y 1, 72, .inl (fun j9 => nI ((uN (uN V (17 + (V 16)) k) (41 + V 16) st0) j9))))] H := hP1
        have hD : va_D A [(g, .inr (7, [.ref s0, .ref a0, .ref b0, .int (nI kn), .ref x0, .int (nI L), .int (nI ta), .int (nI wr), .int (nI le), .int o1, .int o2, .int (nI po), .int (nI rs), .int ca])), (s0, .inl (y 1, 72, .inl (fun j9 => nI ((uN (uN V (17 + (V 16)) k) (41 + V 16) st0) j9))))] := hD1
        have hS := hS1
        clear hP1 hD1 hS1
        refine lv_aload_n hx hb dX7_brings_58 rfl (lv_at hl 1 rfl) ?_
        refine va_get (D := D) (ci := 7) (v := .ref s0) (C := RX7) (T := TX7) (N := 14) hx hb hts hin_X7 hown hK.1 hP 0 rfl rfl 0 (by decide) f_7 (fun _ h9 => h9) rfl dX7_brings_59 ?_
        refine lv_bipush (v := nI 16) hx hb dX7_brings_62 (by decide) ?_
        refine lv_dup2_11 hx hb dX7_brings_64 rfl rfl ?_
        refine xn_iald hx hb hK hP 1 rfl (by omega) (by first | decide | omega) (v := nI ((uN (uN V (17 + (V 16)) k) (41 + V 16) st0) 16)) (rfl) dX7_brings_65 ?_
        refine xv (congrArg nI ((uN_n (by omega)).trans (uN_n (by omega)))) ?_
        refine lv_iconst (v := nI 1) hx hb dX7_brings_66 (by decide) ?_
        refine xn_add hx hb (r := ((V 16) + 1)) rfl dX7_brings_67 ?_
        refine xn_iast hx hb hK hP hD hS 1 (g := fun j9 => nI ((uN (uN (uN V (17 + (V 16)) k) (41 + V 16) st0) 16 ((V 16) + 1)) j9)) rfl (by omega) (by first | decide | omega) (uN_I) dX7_brings_68 (fun H locs hP1 hD1 hS1 => ?_)
        clear hP hD hS
        have hP : va_P D vwCl [(g, .inr (7, [.ref s0, .ref a0, .ref b0, .int (nI kn), .ref x0, .int (nI L), .int (nI ta), .int (nI wr), .int (nI le), .int o1, .int o2, .int (nI po), .int (nI rs), .int ca])), (s0, .inl (y 1, 72, .inl (fun j9 => nI ((uN (uN (uN V (17 + (V 16)) k) (41 + V 16) st0) 16 ((V 16) + 1)) j9))))] H := hP1
        have hD : va_D A [(g, .inr (7, [.ref s0, .ref a0, .ref b0, .int (nI kn), .ref x0, .int (nI L), .int (nI ta), .int (nI wr), .int (nI le), .int o1, .int o2, .int (nI po), .int (nI rs), .int ca])), (s0, .inl (y 1, 72, .inl (fun j9 => nI ((uN (uN (uN V (17 + (V 16)) k) (41 + V 16) st0) 16 ((V 16) + 1)) j9))))] := hD1
        have hS := hS1
        clear hP1 hD1 hS1
        refine lv_aload_n hx hb dX7_brings_69 rfl (lv_at hl 1 rfl) ?_
        refine va_get (D := D) (ci := 7) (v := .ref s0) (C := RX7) (T := TX7) (N := 14) hx hb hts hin_X7 hown hK.1 hP 0 rfl rfl 0 (by decide) f_7 (fun _ h9 => h9) rfl dX7_brings_70 ?_
        refine lv_bipush (v := nI 66) hx hb dX7_brings_73 (by decide) ?_
        refine lv_iconst (v := nI 0) hx hb dX7_brings_75 (by decide) ?_
        refine xn_iast hx hb hK hP hD hS 1 (g := fun j9 => nI ((uN (uN (uN (uN V (17 + (V 16)) k) (41 + V 16) st0) 16 ((V 16) + 1)) 66 0) j9)) rfl (by omega) (by first | decide | omega) (uN_I) dX7_brings_76 (fun H locs hP1 hD1 hS1 => ?_)
        clear hP hD hS
        have hP : va_P D vwCl [(g, .inr (7, [.ref s0, .ref a0, .ref b0, .int (nI kn), .ref x0, .int (nI L), .int (nI ta), .int (nI wr), .int (nI le), .int o1, .int o2, .int (nI po), .int (nI rs), .int ca])), (s0, .inl (y 1, 72, .inl (fun j9 => nI ((uN (uN (uN (uN V (17 + (V 16)) k) (41 + V 16) st0) 16 ((V 16) + 1)) 66 0) j9))))] H := hP1
        have hD : va_D A [(g, .inr (7, [.ref s0, .ref a0, .ref b0, .int (nI kn), .ref x0, .int (nI L), .int (nI ta), .int (nI wr), .int (nI le), .int o1, .int o2, .int (nI po), .int (nI rs), .int ca])), (s0, .inl (y 1, 72, .inl (fun j9 => nI ((uN (uN (uN (uN V (17 + (V 16)) k) (41 + V 16) st0) 16 ((V 16) + 1)) 66 0) j9))))] := hD1
        have hS := hS1
        clear hP1 hD1 hS1
        refine lv_goto (tgt := 140) hx hb dX7_brings_77 (by decide) ?_
        refine lv_iload_n hx hb dX7_brings_140 rfl (lv_at hl 0 rfl) ?_
        subst hQe
        exact xw_i hx hb hr hlocks () hS dX7_brings_141 (rfl) (fun t ht => by rw [ht]; exact (by rw [← hst.2]; exact hP))
      refine lv_bipush (v := nI 9) hx hb dX7_brings_47 (by decide) ?_
      refine xn_icmp_le hx hb (by omega) (by omega) (tgt := 56) dX7_brings_49 (by decide) (fun kc49 => ?_) (fun kc49 => ?_)
      · refine lv_iconst (v := nI 0) hx hb dX7_brings_56 (by decide) ?_
        exact jn57 0 ls (lv_sub hl [0, 1, 2] rfl) (⟨by decide, by first | (rw [br_0 (by omega)]; rfl) | (rw [br_1 (by omega) (by omega) han]; rfl)⟩)
      · refine lv_iconst (v := nI 1) hx hb dX7_brings_52 (by decide) ?_
        refine lv_goto (tgt := 57) hx hb dX7_brings_53 (by decide) ?_
        exact jn57 1 ls (lv_sub hl [0, 1, 2] rfl) (⟨by decide, by first | (rw [br_0 (by omega)]; rfl) | (rw [br_1 (by omega) (by omega) han]; rfl)⟩)
set_option maxHeartbeats 8000000 in
set_option maxRecDepth 100000 in
theorem c_X7_know (l : Launch) (D : va_G) (y : Nat → ClassId) (g s0 a0 b0 x0 kn L ta wr le : Nat) (o1 o2 : Int32) (po rs : Nat) (ca : Int32) (V : Nat → Nat) (Bf : Nat → Nat) (Bk : Nat → Nat → Nat) (hB0 : RepB kn Bk Bf) (hk4 : kn ≤ 4) : Met l yX7_know wsX7_know ({ frames := 0, cells := 0, slots := 0, locals := 0 }) (va_Pc [.ref g] (xPw D y [(g, .inr (7, [.ref s0, .ref a0, .ref b0, .int (nI kn), .ref x0, .int (nI L), .int (nI ta), .int (nI wr), .int (nI le), .int o1, .int o2, .int (nI po), .int (nI rs), .int ca])), (s0, .inl (y 1, 72, .inl (fun j9 => nI (V j9)))), (b0, .inl (y 1, 288, .inl (fun j9 => nI (Bf j9))))])) (va_Qv (fun (u : Nat → Nat) => RepB (kpN kn) (knB kn Bk V) u) (fun (u : Nat → Nat) t => va_P D vwCl [(g, .inr (7, [.ref s0, .ref a0, .ref b0, .int (nI (kpN kn)), .ref x0, .int (nI L), .int (nI ta), .int (nI wr), .int (nI le), .int o1, .int o2, .int (nI po), .int (nI rs), .int ca])), (s0, .inl (y 1, 72, .inl (fun j9 => nI (V j9)))), (b0, .inl (y 1, 288, .inl (fun j9 => nI (u j9))))] t.heap) (xIn [(g, .inr (7, [.ref s0, .ref a0, .ref b0, .int (nI kn), .ref x0, .int (nI L), .int (nI ta), .int (nI wr), .int (nI le), .int o1, .int o2, .int (nI po), .int (nI rs), .int ca])), (s0, .inl (y 1, 72, .inl (fun j9 => nI (V j9)))), (b0, .inl (y 1, 288, .inl (fun j9 => nI (Bf j9))))])) 0 0 (xIn [(g, .inr (7, [.ref s0, .ref a0, .ref b0, .int (nI kn), .ref x0, .int (nI L), .int (nI ta), .int (nI wr), .int (nI le), .int o1, .int o2, .int (nI po), .int (nI rs), .int ca])), (s0, .inl (y 1, 72, .inl (fun j9 => nI (V j9)))), (b0, .inl (y 1, 288, .inl (fun j9 => nI (Bf j9))))]) := by
  refine Met.ofW (cc := cX7_know) (maxL := 2) (ret := none) (by decide) rfl ?_
  intro p e s m args below meth c s₁ B hml hv
  obtain ⟨rfl, hP, hK, hD0⟩ := hv
  have hx := B.exec
  have hb := B.bytes
  have hr := B.returns
  have hts := atoms_spec (ws := wsX7_know) B.pre
  have hown : s.vm.findClass RX7 = some m.cls := findClass_of_methodNamed B.named
  have hlocks := B.notSynchronized
  have f_16 := hts (.fieldLink RX7 16 "LoomTunesModel" "before" "[I") (by decide +kernel)
  have f_26 := hts (.fieldLink RX7 26 "LoomTunesModel" "known" "I") (by decide +kernel)
  have f_7 := hts (.fieldLink RX7 7 "LoomTunesModel" "s" "[I") (by decide +kernel)
  have hin_X7 : ∀ w ∈ wsX70, w ∈ wsX7_know := by decide +kernel
  have hD := xD_self hD0
  generalize hAe : xIn [(g, .inr (7, [.ref s0, .ref a0, .ref b0, .int (nI kn), .ref x0, .int (nI L), .int (nI ta), .int (nI wr), .int (nI le), .int o1, .int o2, .int (nI po), .int (nI rs), .int ca])), (s0, .inl (y 1, 72, .inl (fun j9 => nI (V j9)))), (b0, .inl (y 1, 288, .inl (fun j9 => nI (Bf j9))))] = A at hD ⊢
  have hS : va_S A s.heap s.heap [] := va_S.rf
  have hP : va_P D vwCl [(g, .inr (7, [.ref s0, .ref a0, .ref b0, .int (nI kn), .ref x0, .int (nI L), .int (nI ta), .int (nI wr), .int (nI le), .int o1, .int o2, .int (nI po), .int (nI rs), .int ca])), (s0, .inl (y 1, 72, .inl (fun j9 => nI (V j9)))), (b0, .inl (y 1, 288, .inl (fun j9 => nI (Bf j9))))] s.heap := hP
  have hl := lv_entry ([.ref g]) (n := 2) (Nat.le_of_ble_eq_true rfl)
  rw [lg_entry_eq]
  generalize (lg_sl ([.ref g]) ++ List.replicate (2 - (lg_sl ([.ref g])).length) Slot.unset).toArray = ls at hl ⊢
  have hl : lv_has ls 2 [(0, .ref g)] := hl
  generalize hQe : (MQ below (va_Qv (fun (u : Nat → Nat) => RepB (kpN kn) (knB kn Bk V) u) (fun (u : Nat → Nat) t => va_P D vwCl [(g, .inr (7, [.ref s0, .ref a0, .ref b0, .int (nI (kpN kn)), .ref x0, .int (nI L), .int (nI ta), .int (nI wr), .int (nI le), .int o1, .int o2, .int (nI po), .int (nI rs), .int ca])), (s0, .inl (y 1, 72, .inl (fun j9 => nI (V j9)))), (b0, .inl (y 1, 288, .inl (fun j9 => nI (u j9))))] t.heap) A) ([.ref g] : List Value).toArray s 0 0 A) = Q
  refine lv_aload_n hx hb dX7_know_0 rfl (lv_at hl 0 rfl) ?_
  refine va_get (D := D) (ci := 7) (v := .int (nI kn)) (C := RX7) (T := TX7) (N := 14) hx hb hts hin_X7 hown hK.1 hP 0 rfl rfl 3 (by decide) f_26 (fun _ h9 => h9) rfl dX7_know_1 ?_
  refine lv_iconst (v := nI 4) hx hb dX7_know_4 (by decide) ?_
  refine xn_icmp_ne hx hb (by omega) (by omega) (tgt := 48) dX7_know_5 (by decide) (fun kc5 => ?_) (fun kc5 => ?_)
  · refine lv_iconst (v := nI 0) hx hb dX7_know_48 (by decide) ?_
    refine lv_istore_n (lv' := [(1, .int (nI 0)), (0, .ref g)]) hx hb dX7_know_49 rfl hl (by decide) rfl (fun ls hl => ?_)
    have lp50 : ∀ (n : Nat) (j : Nat), 72 - j < n → (j ≤ 72) → ∀ (H : Heap) (locs : List Loc), va_P D vwCl [(g, .inr (7, [.ref s0, .ref a0, .ref b0, .int (nI kn), .ref x0, .int (nI L), .int (nI ta), .int (nI wr), .int (nI le), .int o1, .int o2, .int (nI po), .int (nI rs), .int ca])), (s0, .inl (y 1, 72, .inl (fun j9 => nI (V j9)))), (b0, .inl (y 1, 288, .inl (fun j9 => nI ((cpN Bf V (72 * kn) j) j9))))] H → va_D A [(g, .inr (7, [.ref s0, .ref a0, .ref b0, .int (nI kn), .ref x0, .int (nI L), .int (nI ta), .int (nI wr), .int (nI le), .int o1, .int o2, .int (nI po), .int (nI rs), .int ca])), (s0, .inl (y 1, 72, .inl (fun j9 => nI (V j9)))), (b0, .inl (y 1, 288, .inl (fun j9 => nI ((cpN Bf V (72 * kn) j) j9))))] → va_S A s.heap H locs → ∀ ls : Array Slot, lv_has ls 2 [(1, .int (nI j)), (0, .ref g)] → W p l e (headSpec wsX7_know ({ frames := 0, cells := 0, slots := 0, locals := 0 })).room s m ([.ref g] : List Value).toArray below meth c H locs 0 0 Q (F0 m 50 ls []) := by
      intro n
      induction n with
      | zero => intro j hm; exact absurd hm (Nat.not_lt_zero _)
      | succ n ih50 =>
        intro j hm hj H locs hP hD hS ls hl
        refine lv_iload_n hx hb dX7_know_50 rfl (lv_at hl 0 rfl) ?_
        refine lv_bipush (v := nI 72) hx hb dX7_know_51 (by decide) ?_
        refine xn_icmp_ge hx hb (by omega) (by omega) (tgt := 82) dX7_know_53 (by decide) (fun kc53 => ?_) (fun kc53 => ?_)
        · have hi72 : j = 72 := by omega
          refine lv_aload_n hx hb dX7_know_82 rfl (lv_at hl 1 rfl) ?_
          refine lv_dup hx hb dX7_know_83 rfl ?_
          refine va_get (D := D) (ci := 7) (v := .int (nI kn)) (C := RX7) (T := TX7) (N := 14) hx hb hts hin_X7 hown hK.1 hP 0 rfl rfl 3 (by decide) f_26 (fun _ h9 => h9) rfl dX7_know_84 ?_
          refine lv_iconst (v := nI 1) hx hb dX7_know_87 (by decide) ?_
          refine xn_add hx hb (r := (kn + 1)) rfl dX7_know_88 ?_
          refine va_put (D := D) (ci := 7) (v := .int (nI (kn + 1))) (ty := .int) (C := RX7) (T := TX7) (N := 14) hx hb hts hin_X7 tyX7 tyX7_ok nmX7 hown hK.1 hP hD hS 0 rfl rfl 3 (by decide) f_26 (fun _ h9 => h9) rfl (by decide +kernel) rfl rfl (Nat.le_of_ble_eq_true rfl) dX7_know_89 (fun H locs hP1 hD1 hS1 => ?_)
          clear hP hD hS
          have hP : va_P D vwCl [(g, .inr (7, [.ref s0, .ref a0, .ref b0, .int (nI (kn + 1)), .ref x0, .int (nI L), .int (nI ta), .int (nI wr), .int (nI le), .int o1, .int o2, .int (nI po), .int (nI rs), .int ca])), (s0, .inl (y 1, 72, .inl (fun j9 => nI (V j9)))), (b0, .inl (y 1, 288, .inl (fun j9 => nI ((cpN Bf V (72 * kn) j) j9))))] H := hP1
          have hD : va_D A [(g, .inr (7, [.ref s0, .ref a0, .ref b0, .int (nI (kn + 1)), .ref x0, .int (nI L), .int (nI ta), .int (nI wr), .int (nI le), .int o1, .int o2, .int (nI po), .int (nI rs), .int ca])), (s0, .inl (y 1, 72, .inl (fun j9 => nI (V j9)))), (b0, .inl (y 1, 288, .inl (fun j9 => nI ((cpN Bf V (72 * kn) j) j9))))] := hD1
          have hS := hS1
          clear hP1 hD1 hS1
          subst hQe
          exact xw_v hx hb hr hlocks (cpN Bf V (72 * kn) 72) hS dX7_know_92 (kn_a (by omega) hB0) (fun t ht => by rw [ht]; exact (by rw [hi72] at hP; rw [kp_a (by omega)]; exact hP))
        · refine lv_aload_n hx hb dX7_know_56 rfl (lv_at hl 1 rfl) ?_
          refine va_get (D := D) (ci := 7) (v := .ref b0) (C := RX7) (T := TX7) (N := 14) hx hb hts hin_X7 hown hK.1 hP 0 rfl rfl 2 (by decide) f_16 (fun _ h9 => h9) rfl dX7_know_57 ?_
          refine lv_bipush (v := nI 72) hx hb dX7_know_60 (by decide) ?_
          refine lv_aload_n hx hb dX7_know_62 rfl (lv_at hl 1 rfl) ?_
          refine va_get (D := D) (ci := 7) (v := .int (nI kn)) (C := RX7) (T := TX7) (N := 14) hx hb hts hin_X7 hown hK.1 hP 0 rfl rfl 3 (by decide) f_26 (fun _ h9 => h9) rfl dX7_know_63 ?_
          refine xn_mul hx hb (r := (72 * kn)) rfl dX7_know_66 ?_
          refine lv_iload_n hx hb dX7_know_67 rfl (lv_at hl 0 rfl) ?_
          refine xn_add hx hb (r := ((72 * kn) + j)) rfl dX7_know_68 ?_
          refine lv_aload_n hx hb dX7_know_69 rfl (lv_at hl 1 rfl) ?_
          refine va_get (D := D) (ci := 7) (v := .ref s0) (C := RX7) (T := TX7) (N := 14) hx hb hts hin_X7 hown hK.1 hP 0 rfl rfl 0 (by decide) f_7 (fun _ h9 => h9) rfl dX7_know_70 ?_
          refine lv_iload_n hx hb dX7_know_73 rfl (lv_at hl 0 rfl) ?_
          refine xn_iald hx hb hK hP 1 rfl (by omega) (by first | decide | omega) (v := nI (V j)) (rfl) dX7_know_74 ?_
          refine xn_iast hx hb hK hP hD hS 2 (g := fun j9 => nI ((uN (cpN Bf V (72 * kn) j) ((72 * kn) + j) (V j)) j9)) rfl (by omega) (by first | decide | omega) (uN_I) dX7_know_75 (fun H locs hP1 hD1 hS1 => ?_)
          clear hP hD hS
          have hP : va_P D vwCl [(g, .inr (7, [.ref s0, .ref a0, .ref b0, .int (nI kn), .ref x0, .int (nI L), .int (nI ta), .int (nI wr), .int (nI le), .int o1, .int o2, .int (nI po), .int (nI rs), .int ca])), (s0, .inl (y 1, 72, .inl (fun j9 => nI (V j9)))), (b0, .inl (y 1, 288, .inl (fun j9 => nI ((uN (cpN Bf V (72 * kn) j) ((72 * kn) + j) (V j)) j9))))] H := hP1
          have hD : va_D A [(g, .inr (7, [.ref s0, .ref a0, .ref b0, .int (nI kn), .ref x0, .int (nI L), .int (nI ta), .int (nI wr), .int (nI le), .int o1, .int o2, .int (nI po), .int (nI rs), .int ca])), (s0, .inl (y 1, 72, .inl (fun j9 => nI (V j9)))), (b0, .inl (y 1, 288, .inl (fun j9 => nI ((uN (cpN Bf V (72 * kn) j) ((72 * kn) + j) (V j)) j9))))] := hD1
          have hS := hS1
          clear hP1 hD1 hS1
          refine lv_iinc (v := nI (j + 1)) (lv' := [(1, .int (nI (j + 1))), (0, .ref g)]) hx hb dX7_know_76 hl (k := 0) rfl (nI_add j 1) (by decide) rfl (fun ls hl => ?_)
          refine lv_goto (tgt := 50) hx hb dX7_know_79 (by decide) ?_
          have hW1 : ([(g, .inr (7, [.ref s0, .ref a0, .ref b0, .int (nI kn), .ref x0, .int (nI L), .int (nI ta), .int (nI wr), .int (nI le), .int o1, .int o2, .int (nI po), .int (nI rs), .int ca])), (s0, .inl (y 1, 72, .inl (fun j9 => nI (V j9)))), (b0, .inl (y 1, 288, .inl (fun j9 => nI ((uN (cpN Bf V (72 * kn) j) ((72 * kn) + j) (V j)) j9))))] : va_W) = [(g, .inr (7, [.ref s0, .ref a0, .ref b0, .int (nI kn), .ref x0, .int (nI L), .int (nI ta), .int (nI wr), .int (nI le), .int o1, .int o2, .int (nI po), .int (nI rs), .int ca])), (s0, .inl (y 1, 72, .inl (fun j9 => nI (V j9)))), (b0, .inl (y 1, 288, .inl (fun j9 => nI ((cpN Bf V (72 * kn) (j + 1)) j9))))] := by rw [← cp_s]
          exact ih50 (j + 1) (by omega) (by omega) _ _ (xP_eq hP hW1) (xD_eq hD hW1) hS ls (lv_sub hl [0, 1] rfl)
    have hW2 : ([(g, .inr (7, [.ref s0, .ref a0, .ref b0, .int (nI kn), .ref x0, .int (nI L), .int (nI ta), .int (nI wr), .int (nI le), .int o1, .int o2, .int (nI po), .int (nI rs), .int ca])), (s0, .inl (y 1, 72, .inl (fun j9 => nI (V j9)))), (b0, .inl (y 1, 288, .inl (fun j9 => nI (Bf j9))))] : va_W) = [(g, .inr (7, [.ref s0, .ref a0, .ref b0, .int (nI kn), .ref x0, .int (nI L), .int (nI ta), .int (nI wr), .int (nI le), .int o1, .int o2, .int (nI po), .int (nI rs), .int ca])), (s0, .inl (y 1, 72, .inl (fun j9 => nI (V j9)))), (b0, .inl (y 1, 288, .inl (fun j9 => nI ((cpN Bf V (72 * kn) 0) j9))))] := by rw [cp_0]
    exact lp50 ((72 - 0) + 1) 0 (Nat.lt_succ_self _) (by omega) _ _ (xP_eq hP hW2) (xD_eq hD hW2) hS ls (lv_sub hl [0, 1] rfl)
  · have kn4 : kn = 4 := by omega
    refine lv_iconst (v := nI 0) hx hb dX7_know_8 (by decide) ?_
    refine lv_istore_n (lv' := [(1, .int (nI 0)), (0, .ref g)]) hx hb dX7_know_9 rfl hl (by decide) rfl (fun ls hl => ?_)
    have lp10 : ∀ (n : Nat) (i : Nat), 216 - i < n → (i ≤ 216) → ∀ (H : Heap) (locs : List Loc), va_P D vwCl [(g, .inr (7, [.ref s0, .ref a0, .ref b0, .int (nI kn), .ref x0, .int (nI L), .int (nI ta), .int (nI wr), .int (nI le), .int o1, .int o2, .int (nI po), .int (nI rs), .int ca])), (s0, .inl (y 1, 72, .inl (fun j9 => nI (V j9)))), (b0, .inl (y 1, 288, .inl (fun j9 => nI ((shN Bf i) j9))))] H → va_D A [(g, .inr (7, [.ref s0, .ref a0, .ref b0, .int (nI kn), .ref x0, .int (nI L), .int (nI ta), .int (nI wr), .int (nI le), .int o1, .int o2, .int (nI po), .int (nI rs), .int ca])), (s0, .inl (y 1, 72, .inl (fun j9 => nI (V j9)))), (b0, .inl (y 1, 288, .inl (fun j9 => nI ((shN Bf i) j9))))] → va_S A s.heap H locs → ∀ ls : Array Slot, lv_has ls 2 [(1, .int (nI i)), (0, .ref g)] → W p l e (headSpec wsX7_know ({ frames := 0, cells := 0, slots := 0, locals := 0 })).room s m ([.ref g] : List Value).toArray below meth c H locs 0 0 Q (F0 m 10 ls []) := by
      intro n
      induction n with
      | zero => intro i hm; exact absurd hm (Nat.not_lt_zero _)
      | succ n ih10 =>
        intro i hm hi H locs hP hD hS ls hl
        refine lv_iload_n hx hb dX7_know_10 rfl (lv_at hl 0 rfl) ?_
        refine lv_sipush (v := nI 216) hx hb dX7_know_11 (by decide) ?_
        refine xn_icmp_ge hx hb (by omega) (by omega) (tgt := 38) dX7_know_14 (by decide) (fun kc14 => ?_) (fun kc14 => ?_)
        · have hi9 : i = 216 := by omega
          refine lv_aload_n hx hb dX7_know_38 rfl (lv_at hl 1 rfl) ?_
          refine lv_dup hx hb dX7_know_39 rfl ?_
          refine va_get (D := D) (ci := 7) (v := .int (nI kn)) (C := RX7) (T := TX7) (N := 14) hx hb hts hin_X7 hown hK.1 hP 0 rfl rfl 3 (by decide) f_26 (fun _ h9 => h9) rfl dX7_know_40 ?_
          refine lv_iconst (v := nI 1) hx hb dX7_know_43 (by decide) ?_
          refine xn_sub hx hb (r := (kn - 1)) (by omega) rfl dX7_know_44 ?_
          refine va_put (D := D) (ci := 7) (v := .int (nI (kn - 1))) (ty := .int) (C := RX7) (T := TX7) (N := 14) hx hb hts hin_X7 tyX7 tyX7_ok nmX7 hown hK.1 hP hD hS 0 rfl rfl 3 (by decide) f_26 (fun _ h9 => h9) rfl (by decide +kernel) rfl rfl (Nat.le_of_ble_eq_true rfl) dX7_know_45 (fun H locs hP1 hD1 hS1 => ?_)
          clear hP hD hS
          have hP : va_P D vwCl [(g, .inr (7, [.ref s0, .ref a0, .ref b0, .int (nI (kn - 1)), .ref x0, .int (nI L), .int (nI ta), .int (nI wr), .int (nI le), .int o1, .int o2, .int (nI po), .int (nI rs), .int ca])), (s0, .inl (y 1, 72, .inl (fun j9 => nI (V j9)))), (b0, .inl (y 1, 288, .inl (fun j9 => nI ((shN Bf i) j9))))] H := hP1
          have hD : va_D A [(g, .inr (7, [.ref s0, .ref a0, .ref b0, .int (nI (kn - 1)), .ref x0, .int (nI L), .int (nI ta), .int (nI wr), .int (nI le), .int o1, .int o2, .int (nI po), .int (nI rs), .int ca])), (s0, .inl (y 1, 72, .inl (fun j9 => nI (V j9)))), (b0, .inl (y 1, 288, .inl (fun j9 => nI ((shN Bf i) j9))))] := hD1
          have hS := hS1
          clear hP1 hD1 hS1
          rw [hi9] at hP hD
          replace hP : va_P D vwCl [(g, .inr (7, [.ref s0, .ref a0, .ref b0, .int (nI (kn - 1)), .ref x0, .int (nI L), .int (nI ta), .int (nI wr), .int (nI le), .int o1, .int o2, .int (nI po), .int (nI rs), .int ca])), (s0, .inl (y 1, 72, .inl (fun j9 => nI (V j9)))), (b0, .inl (y 1, 288, .inl (fun j9 => nI ((shN Bf 216) j9))))] H := hP
          replace hD : va_D A [(g, .inr (7, [.ref s0, .ref a0, .ref b0, .int (nI (kn - 1)), .ref x0, .int (nI L), .int (nI ta), .int (nI wr), .int (nI le), .int o1, .int o2, .int (nI po), .int (nI rs), .int ca])), (s0, .inl (y 1, 72, .inl (fun j9 => nI (V j9)))), (b0, .inl (y 1, 288, .inl (fun j9 => nI ((shN Bf 216) j9))))] := hD
          refine lv_iconst (v := nI 0) hx hb dX7_know_48 (by decide) ?_
          refine lv_istore_n (lv' := [(1, .int (nI 0)), (0, .ref g)]) hx hb dX7_know_49 rfl hl (by decide) rfl (fun ls hl => ?_)
          have lp50 : ∀ (n : Nat) (j : Nat), 72 - j < n → (j ≤ 72) → ∀ (H : Heap) (locs : List Loc), va_P D vwCl [(g, .inr (7, [.ref s0, .ref a0, .ref b0, .int (nI (kn - 1)), .ref x0, .int (nI L), .int (nI ta), .int (nI wr), .int (nI le), .int o1, .int o2, .int (nI po), .int (nI rs), .int ca])), (s0, .inl (y 1, 72, .inl (fun j9 => nI (V j9)))), (b0, .inl (y 1, 288, .inl (fun j9 => nI ((cpN (shN Bf 216) V (72 * 3) j) j9))))] H → va_D A [(g, .inr (7, [.ref s0, .ref a0, .ref b0, .int (nI (kn - 1)), .ref x0, .int (nI L), .int (nI ta), .int (nI wr), .int (nI le), .int o1, .int o2, .int (nI po), .int (nI rs), .int ca])), (s0, .inl (y 1, 72, .inl (fun j9 => nI (V j9)))), (b0, .inl (y 1, 288, .inl (fun j9 => nI ((cpN (shN Bf 216) V (72 * 3) j) j9))))] → va_S A s.heap H locs → ∀ ls : Array Slot, lv_has ls 2 [(1, .int (nI j)), (0, .ref g)] → W p l e (headSpec wsX7_know ({ frames := 0, cells := 0, slots := 0, locals := 0 })).room s m ([.ref g] : List Value).toArray below meth c H locs 0 0 Q (F0 m 50 ls []) := by
            intro n
            induction n with
            | zero => intro j hm; exact absurd hm (Nat.not_lt_zero _)
            | succ n ih50 =>
              intro j hm hj H locs hP hD hS ls hl
              refine lv_iload_n hx hb dX7_know_50 rfl (lv_at hl 0 rfl) ?_
              refine lv_bipush (v := nI 72) hx hb dX7_know_51 (by decide) ?_
              refine xn_icmp_ge hx hb (by omega) (by omega) (tgt := 82) dX7_know_53 (by decide) (fun kc53 => ?_) (fun kc53 => ?_)
              · have hi72 : j = 72 := by omega
                refine lv_aload_n hx hb dX7_know_82 rfl (lv_at hl 1 rfl) ?_
                refine lv_dup hx hb dX7_know_83 rfl ?_
                refine va_get (D := D) (ci := 7) (v := .int (nI (kn - 1))) (C := RX7) (T := TX7) (N := 14) hx hb hts hin_X7 hown hK.1 hP 0 rfl rfl 3 (by decide) f_26 (fun _ h9 => h9) rfl dX7_know_84 ?_
                refine lv_iconst (v := nI 1) hx hb dX7_know_87 (by decide) ?_
                refine xn_add hx hb (r := ((kn - 1) + 1)) rfl dX7_know_88 ?_
                refine va_put (D := D) (ci := 7) (v := .int (nI ((kn - 1) + 1))) (ty := .int) (C := RX7) (T := TX7) (N := 14) hx hb hts hin_X7 tyX7 tyX7_ok nmX7 hown hK.1 hP hD hS 0 rfl rfl 3 (by decide) f_26 (fun _ h9 => h9) rfl (by decide +kernel) rfl rfl (Nat.le_of_ble_eq_true rfl) dX7_know_89 (fun H locs hP1 hD1 hS1 => ?_)
                clear hP hD hS
                have hP : va_P D vwCl [(g, .inr (7, [.ref s0, .ref a0, .ref b0, .int (nI ((kn - 1) + 1)), .ref x0, .int (nI L), .int (nI ta), .int (nI wr), .int (nI le), .int o1, .int o2, .int (nI po), .int (nI rs), .int ca])), (s0, .inl (y 1, 72, .inl (fun j9 => nI (V j9)))), (b0, .inl (y 1, 288, .inl (fun j9 => nI ((cpN (shN Bf 216) V (72 * 3) j) j9))))] H := hP1
                have hD : va_D A [(g, .inr (7, [.ref s0, .ref a0, .ref b0, .int (nI ((kn - 1) + 1)), .ref x0, .int (nI L), .int (nI ta), .int (nI wr), .int (nI le), .int o1, .int o2, .int (nI po), .int (nI rs), .int ca])), (s0, .inl (y 1, 72, .inl (fun j9 => nI (V j9)))), (b0, .inl (y 1, 288, .inl (fun j9 => nI ((cpN (shN Bf 216) V (72 * 3) j) j9))))] := hD1
                have hS := hS1
                clear hP1 hD1 hS1
                subst hQe
                exact xw_v hx hb hr hlocks (cpN (shN Bf 216) V (72 * 3) 72) hS dX7_know_92 (kn_b kn4 hB0) (fun t ht => by rw [ht]; exact (by rw [hi72] at hP; rw [kp_b kn4]; exact hP))
              · refine lv_aload_n hx hb dX7_know_56 rfl (lv_at hl 1 rfl) ?_
                refine va_get (D := D) (ci := 7) (v := .ref b0) (C := RX7) (T := TX7) (N := 14) hx hb hts hin_X7 hown hK.1 hP 0 rfl rfl 2 (by decide) f_16 (fun _ h9 => h9) rfl dX7_know_57 ?_
                refine lv_bipush (v := nI 72) hx hb dX7_know_60 (by decide) ?_
                refine lv_aload_n hx hb dX7_know_62 rfl (lv_at hl 1 rfl) ?_
                refine va_get (D := D) (ci := 7) (v := .int (nI (kn - 1))) (C := RX7) (T := TX7) (N := 14) hx hb hts hin_X7 hown hK.1 hP 0 rfl rfl 3 (by decide) f_26 (fun _ h9 => h9) rfl dX7_know_63 ?_
                refine xn_mul hx hb (r := (72 * (kn - 1))) rfl dX7_know_66 ?_
                refine lv_iload_n hx hb dX7_know_67 rfl (lv_at hl 0 rfl) ?_
                refine xn_add hx hb (r := ((72 * (kn - 1)) + j)) rfl dX7_know_68 ?_
                refine lv_aload_n hx hb dX7_know_69 rfl (lv_at hl 1 rfl) ?_
                refine va_get (D := D) (ci := 7) (v := .ref s0) (C := RX7) (T := TX7) (N := 14) hx hb hts hin_X7 hown hK.1 hP 0 rfl rfl 0 (by decide) f_7 (fun _ h9 => h9) rfl dX7_know_70 ?_
                refine lv_iload_n hx hb dX7_know_73 rfl (lv_at hl 0 rfl) ?_
                refine xn_iald hx hb hK hP 1 rfl (by omega) (by first | decide | omega) (v := nI (V j)) (rfl) dX7_know_74 ?_
                refine xn_iast hx hb hK hP hD hS 2 (g := fun j9 => nI ((uN (cpN (shN Bf 216) V (72 * 3) j) ((72 * (kn - 1)) + j) (V j)) j9)) rfl (by omega) (by first | decide | omega) (uN_I) dX7_know_75 (fun H locs hP1 hD1 hS1 => ?_)
                clear hP hD hS
                have hP : va_P D vwCl [(g, .inr (7, [.ref s0, .ref a0, .ref b0, .int (nI (kn - 1)), .ref x0, .int (nI L), .int (nI ta), .int (nI wr), .int (nI le), .int o1, .int o2, .int (nI po), .int (nI rs), .int ca])), (s0, .inl (y 1, 72, .inl (fun j9 => nI (V j9)))), (b0, .inl (y 1, 288, .inl (fun j9 => nI ((uN (cpN (shN Bf 216) V (72 * 3) j) ((72 * (kn - 1)) + j) (V j)) j9))))] H := hP1
                have hD : va_D A [(g, .inr (7, [.ref s0, .ref a0, .ref b0, .int (nI (kn - 1)), .ref x0, .int (nI L), .int (nI ta), .int (nI wr), .int (nI le), .int o1, .int o2, .int (nI po), .int (nI rs), .int ca])), (s0, .inl (y 1, 72, .inl (fun j9 => nI (V j9)))), (b0, .inl (y 1, 288, .inl (fun j9 => nI ((uN (cpN (shN Bf 216) V (72 * 3) j) ((72 * (kn - 1)) + j) (V j)) j9))))] := hD1
                have hS := hS1
                clear hP1 hD1 hS1
                refine lv_iinc (v := nI (j + 1)) (lv' := [(1, .int (nI (j + 1))), (0, .ref g)]) hx hb dX7_know_76 hl (k := 0) rfl (nI_add j 1) (by decide) rfl (fun ls hl => ?_)
                refine lv_goto (tgt := 50) hx hb dX7_know_79 (by decide) ?_
                have hW3 : ([(g, .inr (7, [.ref s0, .ref a0, .ref b0, .int (nI (kn - 1)), .ref x0, .int (nI L), .int (nI ta), .int (nI wr), .int (nI le), .int o1, .int o2, .int (nI po), .int (nI rs), .int ca])), (s0, .inl (y 1, 72, .inl (fun j9 => nI (V j9)))), (b0, .inl (y 1, 288, .inl (fun j9 => nI ((uN (cpN (shN Bf 216) V (72 * 3) j) ((72 * (kn - 1)) + j) (V j)) j9))))] : va_W) = [(g, .inr (7, [.ref s0, .ref a0, .ref b0, .int (nI (kn - 1)), .ref x0, .int (nI L), .int (nI ta), .int (nI wr), .int (nI le), .int o1, .int o2, .int (nI po), .int (nI rs), .int ca])), (s0, .inl (y 1, 72, .inl (fun j9 => nI (V j9)))), (b0, .inl (y 1, 288, .inl (fun j9 => nI ((cpN (shN Bf 216) V (72 * 3) (j + 1)) j9))))] := by rw [← cp_s, show kn - 1 = 3 by omega]
                exact ih50 (j + 1) (by omega) (by omega) _ _ (xP_eq hP hW3) (xD_eq hD hW3) hS ls (lv_sub hl [0, 1] rfl)
          have hW4 : ([(g, .inr (7, [.ref s0, .ref a0, .ref b0, .int (nI (kn - 1)), .ref x0, .int (nI L), .int (nI ta), .int (nI wr), .int (nI le), .int o1, .int o2, .int (nI po), .int (nI rs), .int ca])), (s0, .inl (y 1, 72, .inl (fun j9 => nI (V j9)))), (b0, .inl (y 1, 288, .inl (fun j9 => nI ((shN Bf 216) j9))))] : va_W) = [(g, .inr (7, [.ref s0, .ref a0, .ref b0, .int (nI (kn - 1)), .ref x0, .int (nI L), .int (nI ta), .int (nI wr), .int (nI le), .int o1, .int o2, .int (nI po), .int (nI rs), .int ca])), (s0, .inl (y 1, 72, .inl (fun j9 => nI (V j9)))), (b0, .inl (y 1, 288, .inl (fun j9 => nI ((cpN (shN Bf 216) V (72 * 3) 0) j9))))] := by rw [cp_0]
          exact lp50 ((72 - 0) + 1) 0 (Nat.lt_succ_self _) (by omega) _ _ (xP_eq hP hW4) (xD_eq hD hW4) hS ls (lv_sub hl [0, 1] rfl)
        · refine lv_aload_n hx hb dX7_know_17 rfl (lv_at hl 1 rfl) ?_
          refine va_get (D := D) (ci := 7) (v := .ref b0) (C := RX7) (T := TX7) (N := 14) hx hb hts hin_X7 hown hK.1 hP 0 rfl rfl 2 (by decide) f_16 (fun _ h9 => h9) rfl dX7_know_18 ?_
          refine lv_iload_n hx hb dX7_know_21 rfl (lv_at hl 0 rfl) ?_
          refine lv_aload_n hx hb dX7_know_22 rfl (lv_at hl 1 rfl) ?_
          refine va_get (D := D) (ci := 7) (v := .ref b0) (C := RX7) (T := TX7) (N := 14) hx hb hts hin_X7 hown hK.1 hP 0 rfl rfl 2 (by decide) f_16 (fun _ h9 => h9) rfl dX7_know_23 ?_
          refine lv_bipush (v := nI 72) hx hb dX7_know_26 (by decide) ?_
          refine lv_iload_n hx hb dX7_know_28 rfl (lv_at hl 0 rfl) ?_
          refine xn_add hx hb (r := (72 + i)) rfl dX7_know_29 ?_
          refine xn_iald hx hb hK hP 2 rfl (by omega) (by first | decide | omega) (v := nI ((shN Bf i) (72 + i))) (rfl) dX7_know_30 ?_
          refine xn_iast hx hb hK hP hD hS 2 (g := fun j9 => nI ((uN (shN Bf i) i ((shN Bf i) (72 + i))) j9)) rfl (by omega) (by first | decide | omega) (uN_I) dX7_know_31 (fun H locs hP1 hD1 hS1 => ?_)
          clear hP hD hS
          have hP : va_P D vwCl [(g, .inr (7, [.ref s0, .ref a0, .ref b0, .int (nI kn), .ref x0, .int (nI L), .int (nI ta), .int (nI wr), .int (nI le), .int o1, .int o2, .int (nI po), .int (nI rs), .int ca])), (s0, .inl (y 1, 72, .inl (fun j9 => nI (V j9)))), (b0, .inl (y 1, 288, .inl (fun j9 => nI ((uN (shN Bf i) i ((shN Bf i) (72 + i))) j9))))] H := hP1
          have hD : va_D A [(g, .inr (7, [.ref s0, .ref a0, .ref b0, .int (nI kn), .ref x0, .int (nI L), .int (nI ta), .int (nI wr), .int (nI le), .int o1, .int o2, .int (nI po), .int (nI rs), .int ca])), (s0, .inl (y 1, 72, .inl (fun j9 => nI (V j9)))), (b0, .inl (y 1, 288, .inl (fun j9 => nI ((uN (shN Bf i) i ((shN Bf i) (72 + i))) j9))))] := hD1
          have hS := hS1
          clear hP1 hD1 hS1
          refine lv_iinc (v := nI (i + 1)) (lv' := [(1, .int (nI (i + 1))), (0, .ref g)]) hx hb dX7_know_32 hl (k := 0) rfl (nI_add i 1) (by decide) rfl (fun ls hl => ?_)
          refine lv_goto (tgt := 10) hx hb dX7_know_35 (by decide) ?_
          have hW5 : ([(g, .inr (7, [.ref s0, .ref a0, .ref b0, .int (nI kn), .ref x0, .int (nI L), .int (nI ta), .int (nI wr), .int (nI le), .int o1, .int o2, .int (nI po), .int (nI rs), .int ca])), (s0, .inl (y 1, 72, .inl (fun j9 => nI (V j9)))), (b0, .inl (y 1, 288, .inl (fun j9 => nI ((uN (shN Bf i) i ((shN Bf i) (72 + i))) j9))))] : va_W) = [(g, .inr (7, [.ref s0, .ref a0, .ref b0, .int (nI kn), .ref x0, .int (nI L), .int (nI ta), .int (nI wr), .int (nI le), .int o1, .int o2, .int (nI po), .int (nI rs), .int ca])), (s0, .inl (y 1, 72, .inl (fun j9 => nI (V j9)))), (b0, .inl (y 1, 288, .inl (fun j9 => nI ((shN Bf (i + 1)) j9))))] := by rw [← sh_s]
          exact ih10 (i + 1) (by omega) (by omega) _ _ (xP_eq hP hW5) (xD_eq hD hW5) hS ls (lv_sub hl [0, 1] rfl)
    have hW6 : ([(g, .inr (7, [.ref s0, .ref a0, .ref b0, .int (nI kn), .ref x0, .int (nI L), .int (nI ta), .int (nI wr), .int (nI le), .int o1, .int o2, .int (nI po), .int (nI rs), .int ca])), (s0, .inl (y 1, 72, .inl (fun j9 => nI (V j9)))), (b0, .inl (y 1, 288, .inl (fun j9 => nI (Bf j9))))] : va_W) = [(g, .inr (7, [.ref s0, .ref a0, .ref b0, .int (nI kn), .ref x0, .int (nI L), .int (nI ta), .int (nI wr), .int (nI le), .int o1, .int o2, .int (nI po), .int (nI rs), .int ca])), (s0, .inl (y 1, 72, .inl (fun j9 => nI (V j9)))), (b0, .inl (y 1, 288, .inl (fun j9 => nI ((shN Bf 0) j9))))] := by rw [sh_0]
    exact lp10 ((216 - 0) + 1) 0 (Nat.lt_succ_self _) (by omega) _ _ (xP_eq hP hW6) (xD_eq hD hW6) hS ls (lv_sub hl [0, 1] rfl)
set_option maxHeartbeats 8000000 in
set_option maxRecDepth 100000 in
theorem c_X7_putAside (l : Launch) (D : va_G) (y : Nat → ClassId) (g s0 a0 b0 x0 kn L ta wr le : Nat) (o1 o2 : Int32) (po rs : Nat) (ca : Int32) (V : Nat → Nat) (Au : Nat → Nat) : Met l yX7_putAside wsX7_putAside ({ frames := 0, cells := 0, slots := 0, locals := 0 }) (va_Pc [.ref g] (xPw D y [(g, .inr (7, [.ref s0, .ref a0, .ref b0, .int (nI kn), .ref x0, .int (nI L), .int (nI ta), .int (nI wr), .int (nI le), .int o1, .int o2, .int (nI po), .int (nI rs), .int ca])), (s0, .inl (y 1, 72, .inl (fun j9 => nI (V j9)))), (a0, .inl (y 1, 72, .inl (fun j9 => nI (Au j9))))])) (va_Qv (fun (u : Unit) => True) (fun (u : Unit) t => va_P D vwCl [(g, .inr (7, [.ref s0, .ref a0, .ref b0, .int (nI kn), .ref x0, .int (nI L), .int (nI ta), .int (nI wr), .int (nI le), .int o1, .int o2, .int (nI po), .int (nI rs), .int ca])), (s0, .inl (y 1, 72, .inl (fun j9 => nI (V j9)))), (a0, .inl (y 1, 72, .inl (fun j9 => nI (V j9))))] t.heap) (xIn [(g, .inr (7, [.ref s0, .ref a0, .ref b0, .int (nI kn), .ref x0, .int (nI L), .int (nI ta), .int (nI wr), .int (nI le), .int o1, .int o2, .int (nI po), .int (nI rs), .int ca])), (s0, .inl (y 1, 72, .inl (fun j9 => nI (V j9)))), (a0, .inl (y 1, 72, .inl (fun j9 => nI (Au j9))))])) 0 0 (xIn [(g, .inr (7, [.ref s0, .ref a0, .ref b0, .int (nI kn), .ref x0, .int (nI L), .int (nI ta), .int (nI wr), .int (nI le), .int o1, .int o2, .int (nI po), .int (nI rs), .int ca])), (s0, .inl (y 1, 72, .inl (fun j9 => nI (V j9)))), (a0, .inl (y 1, 72, .inl (fun j9 => nI (Au j9))))]) := by
  refine Met.ofW (cc := cX7_putAside) (maxL := 2) (ret := none) (by decide) rfl ?_
  intro p e s m args below meth c s₁ B hml hv
  obtain ⟨rfl, hP, hK, hD0⟩ := hv
  have hx := B.exec
  have hb := B.bytes
  have hr := B.returns
  have hts := atoms_spec (ws := wsX7_putAside) B.pre
  have hown : s.vm.findClass RX7 = some m.cls := findClass_of_methodNamed B.named
  have hlocks := B.notSynchronized
  have f_13 := hts (.fieldLink RX7 13 "LoomTunesModel" "aside" "[I") (by decide +kernel)
  have f_7 := hts (.fieldLink RX7 7 "LoomTunesModel" "s" "[I") (by decide +kernel)
  have hin_X7 : ∀ w ∈ wsX70, w ∈ wsX7_putAside := by decide +kernel
  have hD := xD_self hD0
  generalize hAe : xIn [(g, .inr (7, [.ref s0, .ref a0, .ref b0, .int (nI kn), .ref x0, .int (nI L), .int (nI ta), .int (nI wr), .int (nI le), .int o1, .int o2, .int (nI po), .int (nI rs), .int ca])), (s0, .inl (y 1, 72, .inl (fun j9 => nI (V j9)))), (a0, .inl (y 1, 72, .inl (fun j9 => nI (Au j9))))] = A at hD ⊢
  have hS : va_S A s.heap s.heap [] := va_S.rf
  have hP : va_P D vwCl [(g, .inr (7, [.ref s0, .ref a0, .ref b0, .int (nI kn), .ref x0, .int (nI L), .int (nI ta), .int (nI wr), .int (nI le), .int o1, .int o2, .int (nI po), .int (nI rs), .int ca])), (s0, .inl (y 1, 72, .inl (fun j9 => nI (V j9)))), (a0, .inl (y 1, 72, .inl (fun j9 => nI (Au j9))))] s.heap := hP
  have hl := lv_entry ([.ref g]) (n := 2) (Nat.le_of_ble_eq_true rfl)
  rw [lg_entry_eq]
  generalize (lg_sl ([.ref g]) ++ List.replicate (2 - (lg_sl ([.ref g])).length) Slot.unset).toArray = ls at hl ⊢
  have hl : lv_has ls 2 [(0, .ref g)] := hl
  generalize hQe : (MQ below (va_Qv (fun (u : Unit) => True) (fun (u : Unit) t => va_P D vwCl [(g, .inr (7, [.ref s0, .ref a0, .ref b0, .int (nI kn), .ref x0, .int (nI L), .int (nI ta), .int (nI wr), .int (nI le), .int o1, .int o2, .int (nI po), .int (nI rs), .int ca])), (s0, .inl (y 1, 72, .inl (fun j9 => nI (V j9)))), (a0, .inl (y 1, 72, .inl (fun j9 => nI (V j9))))] t.heap) A) ([.ref g] : List Value).toArray s 0 0 A) = Q
  refine lv_iconst (v := nI 0) hx hb dX7_putAside_0 (by decide) ?_
  refine lv_istore_n (lv' := [(1, .int (nI 0)), (0, .ref g)]) hx hb dX7_putAside_1 rfl hl (by decide) rfl (fun ls hl => ?_)
  have lp2 : ∀ (n : Nat) (i : Nat), 72 - i < n → (i ≤ 72) → ∀ (H : Heap) (locs : List Loc), va_P D vwCl [(g, .inr (7, [.ref s0, .ref a0, .ref b0, .int (nI kn), .ref x0, .int (nI L), .int (nI ta), .int (nI wr), .int (nI le), .int o1, .int o2, .int (nI po), .int (nI rs), .int ca])), (s0, .inl (y 1, 72, .inl (fun j9 => nI (V j9)))), (a0, .inl (y 1, 72, .inl (fun j9 => nI ((mixN V Au i) j9))))] H → va_D A [(g, .inr (7, [.ref s0, .ref a0, .ref b0, .int (nI kn), .ref x0, .int (nI L), .int (nI ta), .int (nI wr), .int (nI le), .int o1, .int o2, .int (nI po), .int (nI rs), .int ca])), (s0, .inl (y 1, 72, .inl (fun j9 => nI (V j9)))), (a0, .inl (y 1, 72, .inl (fun j9 => nI ((mixN V Au i) j9))))] → va_S A s.heap H locs → ∀ ls : Array Slot, lv_has ls 2 [(1, .int (nI i)), (0, .ref g)] → W p l e (headSpec wsX7_putAside ({ frames := 0, cells := 0, slots := 0, locals := 0 })).room s m ([.ref g] : List Value).toArray below meth c H locs 0 0 Q (F0 m 2 ls []) := by
    intro n
    induction n with
    | zero => intro i hm; exact absurd hm (Nat.not_lt_zero _)
    | succ n ih2 =>
      intro i hm hi H locs hP hD hS ls hl
      refine lv_iload_n hx hb dX7_putAside_2 rfl (lv_at hl 0 rfl) ?_
      refine lv_bipush (v := nI 72) hx hb dX7_putAside_3 (by decide) ?_
      refine xn_icmp_ge hx hb (by omega) (by omega) (tgt := 26) dX7_putAside_5 (by decide) (fun kc5 => ?_) (fun kc5 => ?_)
      · subst hQe
        exact xw_v hx hb hr hlocks () hS dX7_putAside_26 (trivial) (fun t ht => by rw [ht]; exact (xP_arr hP 2 (fun j9 => nI (V j9)) rfl (fun j hj => congrArg nI (mix_lt (by omega)))))
      · refine lv_aload_n hx hb dX7_putAside_8 rfl (lv_at hl 1 rfl) ?_
        refine va_get (D := D) (ci := 7) (v := .ref a0) (C := RX7) (T := TX7) (N := 14) hx hb hts hin_X7 hown hK.1 hP 0 rfl rfl 1 (by decide) f_13 (fun _ h9 => h9) rfl dX7_putAside_9 ?_
        refine lv_iload_n hx hb dX7_putAside_12 rfl (lv_at hl 0 rfl) ?_
        refine lv_aload_n hx hb dX7_putAside_13 rfl (lv_at hl 1 rfl) ?_
        refine va_get (D := D) (ci := 7) (v := .ref s0) (C := RX7) (T := TX7) (N := 14) hx hb hts hin_X7 hown hK.1 hP 0 rfl rfl 0 (by decide) f_7 (fun _ h9 => h9) rfl dX7_putAside_14 ?_
        refine lv_iload_n hx hb dX7_putAside_17 rfl (lv_at hl 0 rfl) ?_
        refine xn_iald hx hb hK hP 1 rfl (by omega) (by first | decide | omega) (v := nI (V i)) (rfl) dX7_putAside_18 ?_
        refine xn_iast hx hb hK hP hD hS 2 (g := fun j9 => nI ((uN (mixN V Au i) i (V i)) j9)) rfl (by omega) (by first | decide | omega) (uN_I) dX7_putAside_19 (fun H locs hP1 hD1 hS1 => ?_)
        clear hP hD hS
        have hP : va_P D vwCl [(g, .inr (7, [.ref s0, .ref a0, .ref b0, .int (nI kn), .ref x0, .int (nI L), .int (nI ta), .int (nI wr), .int (nI le), .int o1, .int o2, .int (nI po), .int (nI rs), .int ca])), (s0, .inl (y 1, 72, .inl (fun j9 => nI (V j9)))), (a0, .inl (y 1, 72, .inl (fun j9 => nI ((uN (mixN V Au i) i (V i)) j9))))] H := hP1
        have hD : va_D A [(g, .inr (7, [.ref s0, .ref a0, .ref b0, .int (nI kn), .ref x0, .int (nI L), .int (nI ta), .int (nI wr), .int (nI le), .int o1, .int o2, .int (nI po), .int (nI rs), .int ca])), (s0, .inl (y 1, 72, .inl (fun j9 => nI (V j9)))), (a0, .inl (y 1, 72, .inl (fun j9 => nI ((uN (mixN V Au i) i (V i)) j9))))] := hD1
        have hS := hS1
        clear hP1 hD1 hS1
        refine lv_iinc (v := nI (i + 1)) (lv' := [(1, .int (nI (i + 1))), (0, .ref g)]) hx hb dX7_putAside_20 hl (k := 0) rfl (nI_add i 1) (by decide) rfl (fun ls hl => ?_)
        refine lv_goto (tgt := 2) hx hb dX7_putAside_23 (by decide) ?_
        have hW1 : ([(g, .inr (7, [.ref s0, .ref a0, .ref b0, .int (nI kn), .ref x0, .int (nI L), .int (nI ta), .int (nI wr), .int (nI le), .int o1, .int o2, .int (nI po), .int (nI rs), .int ca])), (s0, .inl (y 1, 72, .inl (fun j9 => nI (V j9)))), (a0, .inl (y 1, 72, .inl (fun j9 => nI ((uN (mixN V Au i) i (V i)) j9))))] : va_W) = [(g, .inr (7, [.ref s0, .ref a0, .ref b0, .int (nI kn), .ref x0, .int (nI L), .int (nI ta), .int (nI wr), .int (nI le), .int o1, .int o2, .int (nI po), .int (nI rs), .int ca])), (s0, .inl (y 1, 72, .inl (fun j9 => nI (V j9)))), (a0, .inl (y 1, 72, .inl (fun j9 => nI ((mixN V Au (i + 1)) j9))))] := by rw [← mix_s]
        exact ih2 (i + 1) (by omega) (by omega) _ _ (xP_eq hP hW1) (xD_eq hD hW1) hS ls (lv_sub hl [0, 1] rfl)
  have hW2 : ([(g, .inr (7, [.ref s0, .ref a0, .ref b0, .int (nI kn), .ref x0, .int (nI L), .int (nI ta), .int (nI wr), .int (nI le), .int o1, .int o2, .int (nI po), .int (nI rs), .int ca])), (s0, .inl (y 1, 72, .inl (fun j9 => nI (V j9)))), (a0, .inl (y 1, 72, .inl (fun j9 => nI (Au j9))))] : va_W) = [(g, .inr (7, [.ref s0, .ref a0, .ref b0, .int (nI kn), .ref x0, .int (nI L), .int (nI ta), .int (nI wr), .int (nI le), .int o1, .int o2, .int (nI po), .int (nI rs), .int ca])), (s0, .inl (y 1, 72, .inl (fun j9 => nI (V j9)))), (a0, .inl (y 1, 72, .inl (fun j9 => nI ((mixN V Au 0) j9))))] := by rw [mix_0]
  exact lp2 ((72 - 0) + 1) 0 (Nat.lt_succ_self _) (by omega) _ _ (xP_eq hP hW2) (xD_eq hD hW2) hS ls (lv_sub hl [0, 1] rfl)
set_option maxHeartbeats 8000000 in
set_option maxRecDepth 100000 in
theorem c_X7_putBack (l : Launch) (D : va_G) (y : Nat → ClassId) (g s0 a0 b0 x0 kn L ta wr le : Nat) (o1 o2 : Int32) (po rs : Nat) (ca : Int32) (V : Nat → Nat) (Au : Nat → Nat) : Met l yX7_putBack wsX7_putBack ({ frames := 0, cells := 0, slots := 0, locals := 0 }) (va_Pc [.ref g] (xPw D y [(g, .inr (7, [.ref s0, .ref a0, .ref b0, .int (nI kn), .ref x0, .int (nI L), .int (nI ta), .int (nI wr), .int (nI le), .int o1, .int o2, .int (nI po), .int (nI rs), .int ca])), (s0, .inl (y 1, 72, .inl (fun j9 => nI (V j9)))), (a0, .inl (y 1, 72, .inl (fun j9 => nI (Au j9))))])) (va_Qv (fun (u : Unit) => True) (fun (u : Unit) t => va_P D vwCl [(g, .inr (7, [.ref s0, .ref a0, .ref b0, .int (nI kn), .ref x0, .int (nI L), .int (nI ta), .int (nI wr), .int (nI le), .int o1, .int o2, .int (nI po), .int (nI rs), .int ca])), (s0, .inl (y 1, 72, .inl (fun j9 => nI (Au j9)))), (a0, .inl (y 1, 72, .inl (fun j9 => nI (Au j9))))] t.heap) (xIn [(g, .inr (7, [.ref s0, .ref a0, .ref b0, .int (nI kn), .ref x0, .int (nI L), .int (nI ta), .int (nI wr), .int (nI le), .int o1, .int o2, .int (nI po), .int (nI rs), .int ca])), (s0, .inl (y 1, 72, .inl (fun j9 => nI (V j9)))), (a0, .inl (y 1, 72, .inl (fun j9 => nI (Au j9))))])) 0 0 (xIn [(g, .inr (7, [.ref s0, .ref a0, .ref b0, .int (nI kn), .ref x0, .int (nI L), .int (nI ta), .int (nI wr), .int (nI le), .int o1, .int o2, .int (nI po), .int (nI rs), .int ca])), (s0, .inl (y 1, 72, .inl (fun j9 => nI (V j9)))), (a0, .inl (y 1, 72, .inl (fun j9 => nI (Au j9))))]) := by
  refine Met.ofW (cc := cX7_putBack) (maxL := 2) (ret := none) (by decide) rfl ?_
  intro p e s m args below meth c s₁ B hml hv
  obtain ⟨rfl, hP, hK, hD0⟩ := hv
  have hx := B.exec
  have hb := B.bytes
  have hr := B.returns
  have hts := atoms_spec (ws := wsX7_putBack) B.pre
  have hown : s.vm.findClass RX7 = some m.cls := findClass_of_methodNamed B.named
  have hlocks := B.notSynchronized
  have f_13 := hts (.fieldLink RX7 13 "LoomTunesModel" "aside" "[I") (by decide +kernel)
  have f_7 := hts (.fieldLink RX7 7 "LoomTunesModel" "s" "[I") (by decide +kernel)
  have hin_X7 : ∀ w ∈ wsX70, w ∈ wsX7_putBack := by decide +kernel
  have hD := xD_self hD0
  generalize hAe : xIn [(g, .inr (7, [.ref s0, .ref a0, .ref b0, .int (nI kn), .ref x0, .int (nI L), .int (nI ta), .int (nI wr), .int (nI le), .int o1, .int o2, .int (nI po), .int (nI rs), .int ca])), (s0, .inl (y 1, 72, .inl (fun j9 => nI (V j9)))), (a0, .inl (y 1, 72, .inl (fun j9 => nI (Au j9))))] = A at hD ⊢
  have hS : va_S A s.heap s.heap [] := va_S.rf
  have hP : va_P D vwCl [(g, .inr (7, [.ref s0, .ref a0, .ref b0, .int (nI kn), .ref x0, .int (nI L), .int (nI ta), .int (nI wr), .int (nI le), .int o1, .int o2, .int (nI po), .int (nI rs), .int ca])), (s0, .inl (y 1, 72, .inl (fun j9 => nI (V j9)))), (a0, .inl (y 1, 72, .inl (fun j9 => nI (Au j9))))] s.heap := hP
  have hl := lv_entry ([.ref g]) (n := 2) (Nat.le_of_ble_eq_true rfl)
  rw [lg_entry_eq]
  generalize (lg_sl ([.ref g]) ++ List.replicate (2 - (lg_sl ([.ref g])).length) Slot.unset).toArray = ls at hl ⊢
  have hl : lv_has ls 2 [(0, .ref g)] := hl
  generalize hQe : (MQ below (va_Qv (fun (u : Unit) => True) (fun (u : Unit) t => va_P D vwCl [(g, .inr (7, [.ref s0, .ref a0, .ref b0, .int (nI kn), .ref x0, .int (nI L), .int (nI ta), .int (nI wr), .int (nI le), .int o1, .int o2, .int (nI po), .int (nI rs), .int ca])), (s0, .inl (y 1, 72, .inl (fun j9 => nI (Au j9)))), (a0, .inl (y 1, 72, .inl (fun j9 => nI (Au j9))))] t.heap) A) ([.ref g] : List Value).toArray s 0 0 A) = Q
  refine lv_iconst (v := nI 0) hx hb dX7_putBack_0 (by decide) ?_
  refine lv_istore_n (lv' := [(1, .int (nI 0)), (0, .ref g)]) hx hb dX7_putBack_1 rfl hl (by decide) rfl (fun ls hl => ?_)
  have lp2 : ∀ (n : Nat) (i : Nat), 72 - i < n → (i ≤ 72) → ∀ (H : Heap) (locs : List Loc), va_P D vwCl [(g, .inr (7, [.ref s0, .ref a0, .ref b0, .int (nI kn), .ref x0, .int (nI L), .int (nI ta), .int (nI wr), .int (nI le), .int o1, .int o2, .int (nI po), .int (nI rs), .int ca])), (s0, .inl (y 1, 72, .inl (fun j9 => nI ((mixN Au V i) j9)))), (a0, .inl (y 1, 72, .inl (fun j9 => nI (Au j9))))] H → va_D A [(g, .inr (7, [.ref s0, .ref a0, .ref b0, .int (nI kn), .ref x0, .int (nI L), .int (nI ta), .int (nI wr), .int (nI le), .int o1, .int o2, .int (nI po), .int (nI rs), .int ca])), (s0, .inl (y 1, 72, .inl (fun j9 => nI ((mixN Au V i) j9)))), (a0, .inl (y 1, 72, .inl (fun j9 => nI (Au j9))))] → va_S A s.heap H locs → ∀ ls : Array Slot, lv_has ls 2 [(1, .int (nI i)), (0, .ref g)] → W p l e (headSpec wsX7_putBack ({ frames := 0, cells := 0, slots := 0, locals := 0 })).room s m ([.ref g] : List Value).toArray below meth c H locs 0 0 Q (F0 m 2 ls []) := by
    intro n
    induction n with
    | zero => intro i hm; exact absurd hm (Nat.not_lt_zero _)
    | succ n ih2 =>
      intro i hm hi H locs hP hD hS ls hl
      refine lv_iload_n hx hb dX7_putBack_2 rfl (lv_at hl 0 rfl) ?_
      refine lv_bipush (v := nI 72) hx hb dX7_putBack_3 (by decide) ?_
      refine xn_icmp_ge hx hb (by omega) (by omega) (tgt := 26) dX7_putBack_5 (by decide) (fun kc5 => ?_) (fun kc5 => ?_)
      · subst hQe
        exact xw_v hx hb hr hlocks () hS dX7_putBack_26 (trivial) (fun t ht => by rw [ht]; exact (xP_arr hP 1 (fun j9 => nI (Au j9)) rfl (fun j hj => congrArg nI (mix_lt (by omega)))))
      · refine lv_aload_n hx hb dX7_putBack_8 rfl (lv_at hl 1 rfl) ?_
        refine va_get (D := D) (ci := 7) (v := .ref s0) (C := RX7) (T := TX7) (N := 14) hx hb hts hin_X7 hown hK.1 hP 0 rfl rfl 0 (by decide) f_7 (fun _ h9 => h9) rfl dX7_putBack_9 ?_
        refine lv_iload_n hx hb dX7_putBack_12 rfl (lv_at hl 0 rfl) ?_
        refine lv_aload_n hx hb dX7_putBack_13 rfl (lv_at hl 1 rfl) ?_
        refine va_get (D := D) (ci := 7) (v := .ref a0) (C := RX7) (T := TX7) (N := 14) hx hb hts hin_X7 hown hK.1 hP 0 rfl rfl 1 (by decide) f_13 (fun _ h9 => h9) rfl dX7_putBack_14 ?_
        refine lv_iload_n hx hb dX7_putBack_17 rfl (lv_at hl 0 rfl) ?_
        refine xn_iald hx hb hK hP 2 rfl (by omega) (by first | decide | omega) (v := nI (Au i)) (rfl) dX7_putBack_18 ?_
        refine xn_iast hx hb hK hP hD hS 1 (g := fun j9 => nI ((uN (mixN Au V i) i (Au i)) j9)) rfl (by omega) (by first | decide | omega) (uN_I) dX7_putBack_19 (fun H locs hP1 hD1 hS1 => ?_)
        clear hP hD hS
        have hP : va_P D vwCl [(g, .inr (7, [.ref s0, .ref a0, .ref b0, .int (nI kn), .ref x0, .int (nI L), .int (nI ta), .int (nI wr), .int (nI le), .int o1, .int o2, .int (nI po), .int (nI rs), .int ca])), (s0, .inl (y 1, 72, .inl (fun j9 => nI ((uN (mixN Au V i) i (Au i)) j9)))), (a0, .inl (y 1, 72, .inl (fun j9 => nI (Au j9))))] H := hP1
        have hD : va_D A [(g, .inr (7, [.ref s0, .ref a0, .ref b0, .int (nI kn), .ref x0, .int (nI L), .int (nI ta), .int (nI wr), .int (nI le), .int o1, .int o2, .int (nI po), .int (nI rs), .int ca])), (s0, .inl (y 1, 72, .inl (fun j9 => nI ((uN (mixN Au V i) i (Au i)) j9)))), (a0, .inl (y 1, 72, .inl (fun j9 => nI (Au j9))))] := hD1
        have hS := hS1
        clear hP1 hD1 hS1
        refine lv_iinc (v := nI (i + 1)) (lv' := [(1, .int (nI (i + 1))), (0, .ref g)]) hx hb dX7_putBack_20 hl (k := 0) rfl (nI_add i 1) (by decide) rfl (fun ls hl => ?_)
        refine lv_goto (tgt := 2) hx hb dX7_putBack_23 (by decide) ?_
        have hW1 : ([(g, .inr (7, [.ref s0, .ref a0, .ref b0, .int (nI kn), .ref x0, .int (nI L), .int (nI ta), .int (nI wr), .int (nI le), .int o1, .int o2, .int (nI po), .int (nI rs), .int ca])), (s0, .inl (y 1, 72, .inl (fun j9 => nI ((uN (mixN Au V i) i (Au i)) j9)))), (a0, .inl (y 1, 72, .inl (fun j9 => nI (Au j9))))] : va_W) = [(g, .inr (7, [.ref s0, .ref a0, .ref b0, .int (nI kn), .ref x0, .int (nI L), .int (nI ta), .int (nI wr), .int (nI le), .int o1, .int o2, .int (nI po), .int (nI rs), .int ca])), (s0, .inl (y 1, 72, .inl (fun j9 => nI ((mixN Au V (i + 1)) j9)))), (a0, .inl (y 1, 72, .inl (fun j9 => nI (Au j9))))] := by rw [← mix_s]
        exact ih2 (i + 1) (by omega) (by omega) _ _ (xP_eq hP hW1) (xD_eq hD hW1) hS ls (lv_sub hl [0, 1] rfl)
  have hW2 : ([(g, .inr (7, [.ref s0, .ref a0, .ref b0, .int (nI kn), .ref x0, .int (nI L), .int (nI ta), .int (nI wr), .int (nI le), .int o1, .int o2, .int (nI po), .int (nI rs), .int ca])), (s0, .inl (y 1, 72, .inl (fun j9 => nI (V j9)))), (a0, .inl (y 1, 72, .inl (fun j9 => nI (Au j9))))] : va_W) = [(g, .inr (7, [.ref s0, .ref a0, .ref b0, .int (nI kn), .ref x0, .int (nI L), .int (nI ta), .int (nI wr), .int (nI le), .int o1, .int o2, .int (nI po), .int (nI rs), .int ca])), (s0, .inl (y 1, 72, .inl (fun j9 => nI ((mixN Au V 0) j9)))), (a0, .inl (y 1, 72, .inl (fun j9 => nI (Au j9))))] := by rw [mix_0]
  exact lp2 ((72 - 0) + 1) 0 (Nat.lt_succ_self _) (by omega) _ _ (xP_eq hP hW2) (xD_eq hD hW2) hS ls (lv_sub hl [0, 1] rfl)
set_option maxHeartbeats 8000000 in
set_option maxRecDepth 100000 in
theorem c_X7_note (l : Launch) (D : va_G) (y : Nat → ClassId) (g s0 a0 b0 x0 kn L ta wr le : Nat) (o1 o2 : Int32) (po rs : Nat) (ca : Int32) (V : Nat → Nat) (hI : Inv V) (Bf : Nat → Nat) (Bk : Nat → Nat → Nat) (hB0 : RepB kn Bk Bf) (hk4 : kn ≤ 4) (x : Int32) (w : Int32) : Met l yX7_note wsX7_note ({ frames := 1, cells := 0, slots := 0, locals := 23 }) (va_Pc [.ref g, .int x, .int w] (xPw D y [(g, .inr (7, [.ref s0, .ref a0, .ref b0, .int (nI kn), .ref x0, .int (nI L), .int (nI ta), .int (nI wr), .int (nI le), .int o1, .int o2, .int (nI po), .int (nI rs), .int ca])), (s0, .inl (y 1, 72, .inl (fun j9 => nI (V j9)))), (b0, .inl (y 1, 288, .inl (fun j9 => nI (Bf j9))))])) (va_Qi (fun r (u : Nat → Nat) => r = tuI V x w ∧ RepB (stN (tuI V x w) kn) (stB (tuI V x w) kn Bk V) u) (fun (u : Nat → Nat) t => va_P D vwCl [(g, .inr (7, [.ref s0, .ref a0, .ref b0, .int (nI (stN (tuI V x w) kn)), .ref x0, .int (nI L), .int (nI ta), .int (nI wr), .int (nI le), .int o1, .int o2, .int (nI po), .int (nI rs), .int ca])), (s0, .inl (y 1, 72, .inl (fun j9 => nI ((stV (tuI V x w) V (tuV V x w)) j9)))), (b0, .inl (y 1, 288, .inl (fun j9 => nI (u j9))))] t.heap) (xIn [(g, .inr (7, [.ref s0, .ref a0, .ref b0, .int (nI kn), .ref x0, .int (nI L), .int (nI ta), .int (nI wr), .int (nI le), .int o1, .int o2, .int (nI po), .int (nI rs), .int ca])), (s0, .inl (y 1, 72, .inl (fun j9 => nI (V j9)))), (b0, .inl (y 1, 288, .inl (fun j9 => nI (Bf j9))))])) 0 0 (xIn [(g, .inr (7, [.ref s0, .ref a0, .ref b0, .int (nI kn), .ref x0, .int (nI L), .int (nI ta), .int (nI wr), .int (nI le), .int o1, .int o2, .int (nI po), .int (nI rs), .int ca])), (s0, .inl (y 1, 72, .inl (fun j9 => nI (V j9)))), (b0, .inl (y 1, 288, .inl (fun j9 => nI (Bf j9))))]) := by
  refine Met.ofW (cc := cX7_note) (maxL := 3) (ret := (some .int)) (by decide) rfl ?_
  intro p e s m args below meth c s₁ B hml hv
  obtain ⟨rfl, hP, hK, hD0⟩ := hv
  have hx := B.exec
  have hb := B.bytes
  have hr := B.returns
  have hts := atoms_spec (ws := wsX7_note) B.pre
  have hown : s.vm.findClass RX7 = some m.cls := findClass_of_methodNamed B.named
  have hlocks := B.notSynchronized
  have f_51 := hts (.constant RX7 51 (-1000001)) (by decide +kernel)
  have hD := xD_self hD0
  generalize hAe : xIn [(g, .inr (7, [.ref s0, .ref a0, .ref b0, .int (nI kn), .ref x0, .int (nI L), .int (nI ta), .int (nI wr), .int (nI le), .int o1, .int o2, .int (nI po), .int (nI rs), .int ca])), (s0, .inl (y 1, 72, .inl (fun j9 => nI (V j9)))), (b0, .inl (y 1, 288, .inl (fun j9 => nI (Bf j9))))] = A at hD ⊢
  have hS : va_S A s.heap s.heap [] := va_S.rf
  have hP : va_P D vwCl [(g, .inr (7, [.ref s0, .ref a0, .ref b0, .int (nI kn), .ref x0, .int (nI L), .int (nI ta), .int (nI wr), .int (nI le), .int o1, .int o2, .int (nI po), .int (nI rs), .int ca])), (s0, .inl (y 1, 72, .inl (fun j9 => nI (V j9)))), (b0, .inl (y 1, 288, .inl (fun j9 => nI (Bf j9))))] s.heap := hP
  have hl := lv_entry ([.ref g, .int x, .int w]) (n := 3) (Nat.le_of_ble_eq_true rfl)
  rw [lg_entry_eq]
  generalize (lg_sl ([.ref g, .int x, .int w]) ++ List.replicate (3 - (lg_sl ([.ref g, .int x, .int w])).length) Slot.unset).toArray = ls at hl ⊢
  have hl : lv_has ls 3 [(0, .ref g), (1, .int x), (2, .int w)] := hl
  generalize hQe : (MQ below (va_Qi (fun r (u : Nat → Nat) => r = tuI V x w ∧ RepB (stN (tuI V x w) kn) (stB (tuI V x w) kn Bk V) u) (fun (u : Nat → Nat) t => va_P D vwCl [(g, .inr (7, [.ref s0, .ref a0, .ref b0, .int (nI (stN (tuI V x w) kn)), .ref x0, .int (nI L), .int (nI ta), .int (nI wr), .int (nI le), .int o1, .int o2, .int (nI po), .int (nI rs), .int ca])), (s0, .inl (y 1, 72, .inl (fun j9 => nI ((stV (tuI V x w) V (tuV V x w)) j9)))), (b0, .inl (y 1, 288, .inl (fun j9 => nI (u j9))))] t.heap) A) ([.ref g, .int x, .int w] : List Value).toArray s 0 0 A) = Q
  have hsz := hI.sz
  have hbl1 := bN_lt (c := ¬ x < nI 0 ∧ ¬ nI 7 < x)
  have hbl2 := bN_lt (c := ¬ w < nI 0 ∧ ¬ nI 47 < w)
  refine lv_iload_n hx hb dX7_note_0 rfl (lv_at hl 1 rfl) ?_
  refine lv_iconst (v := nI 0) hx hb dX7_note_1 (by decide) ?_
  refine lv_bipush (v := nI 7) hx hb dX7_note_2 (by decide) ?_
  refine xc_S (As := [.int x, .int (nI 0), .int (nI 7)]) (rest := []) ⟨hx, hb, hml, hown, hts⟩ (c_X7_in l x (nI 0) (nI 7)) (va_cwS 3 hts gX7_note_X7_in rfl rfl rfl hd_X7_in.2 ⟨Nat.le_of_ble_eq_true rfl, Nat.le_of_ble_eq_true rfl⟩) xps_0 rfl hl.1 rfl (Nat.le_of_ble_eq_true rfl) dX7_note_4 ⟨Nat.zero_le _, Nat.zero_le _⟩ (fun r1 hr1 => ?_)
  subst hr1
  refine xn_if_eq hx hb (by omega) (tgt := 20) dX7_note_7 (by decide) (fun kc7 => ?_) (fun kc7 => ?_)
  · refine lv_ldc hx hb hown f_51 dX7_note_20 ?_
    have ef := tune_f (V := V) (x := x) (z := w) (fun hq => by first | exact (bN_0.mp kc7) ((inx rfl (by decide)).mpr hq.1) | exact (bN_0.mp kc17) ((inx rfl (by decide)).mpr hq.2))
    have hxv : tuI V x w < 0 := by rw [ef.1]; decide
    subst hQe
    exact xw_i hx hb hr hlocks Bf hS dX7_note_22 (⟨ef.1.symm, by rw [stN_n hxv, stB_n hxv]; exact hB0⟩) (fun t ht => by rw [ht]; exact (by rw [stV_n hxv, stN_n hxv]; exact hP))
  · refine lv_iload_n hx hb dX7_note_10 rfl (lv_at hl 2 rfl) ?_
    refine lv_iconst (v := nI 0) hx hb dX7_note_11 (by decide) ?_
    refine lv_bipush (v := nI 47) hx hb dX7_note_12 (by decide) ?_
    refine xc_S (As := [.int w, .int (nI 0), .int (nI 47)]) (rest := []) ⟨hx, hb, hml, hown, hts⟩ (c_X7_in l w (nI 0) (nI 47)) (va_cwS 3 hts gX7_note_X7_in rfl rfl rfl hd_X7_in.2 ⟨Nat.le_of_ble_eq_true rfl, Nat.le_of_ble_eq_true rfl⟩) xps_0 rfl hl.1 rfl (Nat.le_of_ble_eq_true rfl) dX7_note_14 ⟨Nat.zero_le _, Nat.zero_le _⟩ (fun r2 hr2 => ?_)
    subst hr2
    refine xn_if_ne hx hb (by omega) (tgt := 23) dX7_note_17 (by decide) (fun kc17 => ?_) (fun kc17 => ?_)
    · obtain ⟨k, hk, rfl⟩ := inR_k (n := 8) (by decide) ((inx rfl (by decide)).mp (bN_n0.mp kc7))
      obtain ⟨j, hj, rfl⟩ := inR_k (n := 48) (by decide) ((inx rfl (by decide)).mp (bN_n0.mp kc17))
      refine lv_aload_n hx hb dX7_note_23 rfl (lv_at hl 0 rfl) ?_
      have hFc := xD_in (W0 := [(g, .inr (7, [.ref s0, .ref a0, .ref b0, .int (nI kn), .ref x0, .int (nI L), .int (nI ta), .int (nI wr), .int (nI le), .int o1, .int o2, .int (nI po), .int (nI rs), .int ca])), (s0, .inl (y 1, 72, .inl (fun j9 => nI (V j9)))), (b0, .inl (y 1, 288, .inl (fun j9 => nI (Bf j9))))]) hD [0, 1, 2] rfl
      refine va_callv (va_runV (As := []) (rest := []) ⟨hx, hb, hml, hown, hts⟩ (c_X7_know l D y g s0 a0 b0 x0 kn L ta wr le o1 o2 po rs ca V Bf Bk hB0 hk4) (cwV 0 hts gX7_note_X7_know rfl rfl rfl hd_X7_know ⟨Nat.le_of_ble_eq_true rfl, Nat.le_of_ble_eq_true rfl⟩) (xpv_w hK hP hD [0, 1, 2] 0 rfl rfl rfl rfl rfl) rfl rfl hl.1 rfl (lv_room (Nat.le_of_ble_eq_true rfl)) dX7_note_24 ⟨Nat.zero_le _, Nat.zero_le _⟩) hS (fun q _ h => hFc q h) hFc (fun u3 t H locs ht hvm hw3 hB hz1 hk1 hS1 => ?_)
      have hB : va_P D vwCl [(g, .inr (7, [.ref s0, .ref a0, .ref b0, .int (nI (kpN kn)), .ref x0, .int (nI L), .int (nI ta), .int (nI wr), .int (nI le), .int o1, .int o2, .int (nI po), .int (nI rs), .int ca])), (s0, .inl (y 1, 72, .inl (fun j9 => nI (V j9)))), (b0, .inl (y 1, 288, .inl (fun j9 => nI (u3 j9))))] t.heap := hB
      rw [ht] at hB
      have hw3 : RepB (kpN kn) (knB kn Bk V) u3 := hw3
      have hJ := xj_join (ws2 := [(g, .inr (7, [.ref s0, .ref a0, .ref b0, .int (nI (kpN kn)), .ref x0, .int (nI L), .int (nI ta), .int (nI wr), .int (nI le), .int o1, .int o2, .int (nI po), .int (nI rs), .int ca])), (s0, .inl (y 1, 72, .inl (fun j9 => nI (V j9)))), (b0, .inl (y 1, 288, .inl (fun j9 => nI (u3 j9))))]) hP hD [0, 1, 2] [] rfl rfl rfl rfl rfl rfl hk1 hB
      clear hP hD hS hB hk1 hz1 hFc hvm ht
      obtain ⟨hP, hD⟩ := hJ
      have hS := hS1
      clear hS1
      refine lv_aload_n hx hb dX7_note_27 rfl (lv_at hl 0 rfl) ?_
      refine lv_iconst (v := nI 0) hx hb dX7_note_28 (by decide) ?_
      refine lv_iload_n hx hb dX7_note_29 rfl (lv_at hl 1 rfl) ?_
      refine xn_add hx hb (r := k) (Nat.zero_add _) dX7_note_30 ?_
      refine lv_iload_n hx hb dX7_note_31 rfl (lv_at hl 2 rfl) ?_
      have hFc := xD_in (W0 := [(g, .inr (7, [.ref s0, .ref a0, .ref b0, .int (nI (kpN kn)), .ref x0, .int (nI L), .int (nI ta), .int (nI wr), .int (nI le), .int o1, .int o2, .int (nI po), .int (nI rs), .int ca])), (s0, .inl (y 1, 72, .inl (fun j9 => nI (V j9))))]) hD [0, 1] rfl
      refine va_calli (va_runV (As := [.int (nI k), .int (nI j)]) (rest := []) ⟨hx, hb, hml, hown, hts⟩ (c_X7_puts l D y g s0 a0 b0 x0 (kpN kn) L ta wr le o1 o2 po rs ca V k j (by omega)) (cwV 2 hts gX7_note_X7_puts rfl rfl rfl hd_X7_puts ⟨Nat.le_of_ble_eq_true rfl, Nat.le_of_ble_eq_true rfl⟩) (xpv_w hK hP hD [0, 1] 0 rfl rfl rfl rfl rfl) rfl rfl hl.1 rfl (lv_room (Nat.le_of_ble_eq_true rfl)) dX7_note_32 ⟨Nat.zero_le _, Nat.zero_le _⟩) hS (fun q _ h => hFc q h) hFc (fun r4 u4 t H locs ht hvm hw4 hB hz1 hk1 hS1 => ?_)
      have hB : va_P D vwCl [(g, .inr (7, [.ref s0, .ref a0, .ref b0, .int (nI (kpN kn)), .ref x0, .int (nI L), .int (nI ta), .int (nI wr), .int (nI le), .int o1, .int o2, .int (nI po), .int (nI rs), .int ca])), (s0, .inl (y 1, 72, .inl (fun j9 => nI ((uN V k j) j9))))] t.heap := hB
      rw [ht] at hB
      have hw4 : r4 = nI (V k) := hw4
      have hJ := xj_join (ws2 := [(g, .inr (7, [.ref s0, .ref a0, .ref b0, .int (nI (kpN kn)), .ref x0, .int (nI L), .int (nI ta), .int (nI wr), .int (nI le), .int o1, .int o2, .int (nI po), .int (nI rs), .int ca])), (s0, .inl (y 1, 72, .inl (fun j9 => nI ((uN V k j) j9)))), (b0, .inl (y 1, 288, .inl (fun j9 => nI (u3 j9))))]) hP hD [0, 1] [2] rfl rfl rfl rfl rfl rfl hk1 hB
      clear hP hD hS hB hk1 hz1 hFc hvm ht
      obtain ⟨hP, hD⟩ := hJ
      have hS := hS1
      clear hS1
      subst hw4
      have e1 := tune_t (V := V) hk hj
      have hxv : ¬ tuI V (nI k) (nI j) < 0 := by rw [e1.1]; exact nI_pos (by have := hI.nt hk; omega)
      subst hQe
      exact xw_i hx hb hr hlocks u3 hS dX7_note_35 (⟨e1.1.symm, by rw [stN_p hxv, stB_p hxv]; exact hw3⟩) (fun t ht => by rw [ht]; exact (by rw [stV_p hxv, stN_p hxv, e1.2]; exact hP))
    · refine lv_ldc hx hb hown f_51 dX7_note_20 ?_
      have ef := tune_f (V := V) (x := x) (z := w) (fun hq => by first | exact (bN_0.mp kc7) ((inx rfl (by decide)).mpr hq.1) | exact (bN_0.mp kc17) ((inx rfl (by decide)).mpr hq.2))
      have hxv : tuI V x w < 0 := by rw [ef.1]; decide
      subst hQe
      exact xw_i hx hb hr hlocks Bf hS dX7_note_22 (⟨ef.1.symm, by rw [stN_n hxv, stB_n hxv]; exact hB0⟩) (fun t ht => by rw [ht]; exact (by rw [stV_n hxv, stN_n hxv]; exact hP))
set_option maxHeartbeats 8000000 in
set_option maxRecDepth 100000 in
theorem c_X7_colour (l : Launch) (D : va_G) (y : Nat → ClassId) (g s0 a0 b0 x0 kn L ta wr le : Nat) (o1 o2 : Int32) (po rs : Nat) (ca : Int32) (V : Nat → Nat) (hI : Inv V) (Bf : Nat → Nat) (Bk : Nat → Nat → Nat) (hB0 : RepB kn Bk Bf) (hk4 : kn ≤ 4) (x : Int32) (w : Int32) : Met l yX7_colour wsX7_colour ({ frames := 1, cells := 0, slots := 0, locals := 23 }) (va_Pc [.ref g, .int x, .int w] (xPw D y [(g, .inr (7, [.ref s0, .ref a0, .ref b0, .int (nI kn), .ref x0, .int (nI L), .int (nI ta), .int (nI wr), .int (nI le), .int o1, .int o2, .int (nI po), .int (nI rs), .int ca])), (s0, .inl (y 1, 72, .inl (fun j9 => nI (V j9)))), (b0, .inl (y 1, 288, .inl (fun j9 => nI (Bf j9))))])) (va_Qi (fun r (u : Nat → Nat) => r = dyI V x w ∧ RepB (stN (dyI V x w) kn) (stB (dyI V x w) kn Bk V) u) (fun (u : Nat → Nat) t => va_P D vwCl [(g, .inr (7, [.ref s0, .ref a0, .ref b0, .int (nI (stN (dyI V x w) kn)), .ref x0, .int (nI L), .int (nI ta), .int (nI wr), .int (nI le), .int o1, .int o2, .int (nI po), .int (nI rs), .int ca])), (s0, .inl (y 1, 72, .inl (fun j9 => nI ((stV (dyI V x w) V (dyV V x w)) j9)))), (b0, .inl (y 1, 288, .inl (fun j9 => nI (u j9))))] t.heap) (xIn [(g, .inr (7, [.ref s0, .ref a0, .ref b0, .int (nI kn), .ref x0, .int (nI L), .int (nI ta), .int (nI wr), .int (nI le), .int o1, .int o2, .int (nI po), .int (nI rs), .int ca])), (s0, .inl (y 1, 72, .inl (fun j9 => nI (V j9)))), (b0, .inl (y 1, 288, .inl (fun j9 => nI (Bf j9))))])) 0 0 (xIn [(g, .inr (7, [.ref s0, .ref a0, .ref b0, .int (nI kn), .ref x0, .int (nI L), .int (nI ta), .int (nI wr), .int (nI le), .int o1, .int o2, .int (nI po), .int (nI rs), .int ca])), (s0, .inl (y 1, 72, .inl (fun j9 => nI (V j9)))), (b0, .inl (y 1, 288, .inl (fun j9 => nI (Bf j9))))]) := by
  refine Met.ofW (cc := cX7_colour) (maxL := 3) (ret := (some .int)) (by decide) rfl ?_
  intro p e s m args below meth c s₁ B hml hv
  obtain ⟨rfl, hP, hK, hD0⟩ := hv
  have hx := B.exec
  have hb := B.bytes
  have hr := B.returns
  have hts := atoms_spec (ws := wsX7_colour) B.pre
  have hown : s.vm.findClass RX7 = some m.cls := findClass_of_methodNamed B.named
  have hlocks := B.notSynchronized
  have f_51 := hts (.constant RX7 51 (-1000001)) (by decide +kernel)
  have hD := xD_self hD0
  generalize hAe : xIn [(g, .inr (7, [.ref s0, .ref a0, .ref b0, .int (nI kn), .ref x0, .int (nI L), .int (nI ta), .int (nI wr), .int (nI le), .int o1, .int o2, .int (nI po), .int (nI rs), .int ca])), (s0, .inl (y 1, 72, .inl (fun j9 => nI (V j9)))), (b0, .inl (y 1, 288, .inl (fun j9 => nI (Bf j9))))] = A at hD ⊢
  have hS : va_S A s.heap s.heap [] := va_S.rf
  have hP : va_P D vwCl [(g, .inr (7, [.ref s0, .ref a0, .ref b0, .int (nI kn), .ref x0, .int (nI L), .int (nI ta), .int (nI wr), .int (nI le), .int o1, .int o2, .int (nI po), .int (nI rs), .int ca])), (s0, .inl (y 1, 72, .inl (fun j9 => nI (V j9)))), (b0, .inl (y 1, 288, .inl (fun j9 => nI (Bf j9))))] s.heap := hP
  have hl := lv_entry ([.ref g, .int x, .int w]) (n := 3) (Nat.le_of_ble_eq_true rfl)
  rw [lg_entry_eq]
  generalize (lg_sl ([.ref g, .int x, .int w]) ++ List.replicate (3 - (lg_sl ([.ref g, .int x, .int w])).length) Slot.unset).toArray = ls at hl ⊢
  have hl : lv_has ls 3 [(0, .ref g), (1, .int x), (2, .int w)] := hl
  generalize hQe : (MQ below (va_Qi (fun r (u : Nat → Nat) => r = dyI V x w ∧ RepB (stN (dyI V x w) kn) (stB (dyI V x w) kn Bk V) u) (fun (u : Nat → Nat) t => va_P D vwCl [(g, .inr (7, [.ref s0, .ref a0, .ref b0, .int (nI (stN (dyI V x w) kn)), .ref x0, .int (nI L), .int (nI ta), .int (nI wr), .int (nI le), .int o1, .int o2, .int (nI po), .int (nI rs), .int ca])), (s0, .inl (y 1, 72, .inl (fun j9 => nI ((stV (dyI V x w) V (dyV V x w)) j9)))), (b0, .inl (y 1, 288, .inl (fun j9 => nI (u j9))))] t.heap) A) ([.ref g, .int x, .int w] : List Value).toArray s 0 0 A) = Q
  have hsz := hI.sz
  have hbl1 := bN_lt (c := ¬ x < nI 0 ∧ ¬ nI 7 < x)
  have hbl2 := bN_lt (c := ¬ w < nI 0 ∧ ¬ nI 3 < w)
  refine lv_iload_n hx hb dX7_colour_0 rfl (lv_at hl 1 rfl) ?_
  refine lv_iconst (v := nI 0) hx hb dX7_colour_1 (by decide) ?_
  refine lv_bipush (v := nI 7) hx hb dX7_colour_2 (by decide) ?_
  refine xc_S (As := [.int x, .int (nI 0), .int (nI 7)]) (rest := []) ⟨hx, hb, hml, hown, hts⟩ (c_X7_in l x (nI 0) (nI 7)) (va_cwS 3 hts gX7_colour_X7_in rfl rfl rfl hd_X7_in.2 ⟨Nat.le_of_ble_eq_true rfl, Nat.le_of_ble_eq_true rfl⟩) xps_0 rfl hl.1 rfl (Nat.le_of_ble_eq_true rfl) dX7_colour_4 ⟨Nat.zero_le _, Nat.zero_le _⟩ (fun r1 hr1 => ?_)
  subst hr1
  refine xn_if_eq hx hb (by omega) (tgt := 19) dX7_colour_7 (by decide) (fun kc7 => ?_) (fun kc7 => ?_)
  · refine lv_ldc hx hb hown f_51 dX7_colour_19 ?_
    have ef := dye_f (V := V) (x := x) (z := w) (fun hq => by first | exact (bN_0.mp kc7) ((inx rfl (by decide)).mpr hq.1) | exact (bN_0.mp kc16) ((inx rfl (by decide)).mpr hq.2))
    have hxv : dyI V x w < 0 := by rw [ef.1]; decide
    subst hQe
    exact xw_i hx hb hr hlocks Bf hS dX7_colour_21 (⟨ef.1.symm, by rw [stN_n hxv, stB_n hxv]; exact hB0⟩) (fun t ht => by rw [ht]; exact (by rw [stV_n hxv, stN_n hxv]; exact hP))
  · refine lv_iload_n hx hb dX7_colour_10 rfl (lv_at hl 2 rfl) ?_
    refine lv_iconst (v := nI 0) hx hb dX7_colour_11 (by decide) ?_
    refine lv_iconst (v := nI 3) hx hb dX7_colour_12 (by decide) ?_
    refine xc_S (As := [.int w, .int (nI 0), .int (nI 3)]) (rest := []) ⟨hx, hb, hml, hown, hts⟩ (c_X7_in l w (nI 0) (nI 3)) (va_cwS 3 hts gX7_colour_X7_in rfl rfl rfl hd_X7_in.2 ⟨Nat.le_of_ble_eq_true rfl, Nat.le_of_ble_eq_true rfl⟩) xps_0 rfl hl.1 rfl (Nat.le_of_ble_eq_true rfl) dX7_colour_13 ⟨Nat.zero_le _, Nat.zero_le _⟩ (fun r2 hr2 => ?_)
    subst hr2
    refine xn_if_ne hx hb (by omega) (tgt := 22) dX7_colour_16 (by decide) (fun kc16 => ?_) (fun kc16 => ?_)
    · obtain ⟨k, hk, rfl⟩ := inR_k (n := 8) (by decide) ((inx rfl (by decide)).mp (bN_n0.mp kc7))
      obtain ⟨j, hj, rfl⟩ := inR_k (n := 4) (by decide) ((inx rfl (by decide)).mp (bN_n0.mp kc16))
      refine lv_aload_n hx hb dX7_colour_22 rfl (lv_at hl 0 rfl) ?_
      have hFc := xD_in (W0 := [(g, .inr (7, [.ref s0, .ref a0, .ref b0, .int (nI kn), .ref x0, .int (nI L), .int (nI ta), .int (nI wr), .int (nI le), .int o1, .int o2, .int (nI po), .int (nI rs), .int ca])), (s0, .inl (y 1, 72, .inl (fun j9 => nI (V j9)))), (b0, .inl (y 1, 288, .inl (fun j9 => nI (Bf j9))))]) hD [0, 1, 2] rfl
      refine va_callv (va_runV (As := []) (rest := []) ⟨hx, hb, hml, hown, hts⟩ (c_X7_know l D y g s0 a0 b0 x0 kn L ta wr le o1 o2 po rs ca V Bf Bk hB0 hk4) (cwV 0 hts gX7_colour_X7_know rfl rfl rfl hd_X7_know ⟨Nat.le_of_ble_eq_true rfl, Nat.le_of_ble_eq_true rfl⟩) (xpv_w hK hP hD [0, 1, 2] 0 rfl rfl rfl rfl rfl) rfl rfl hl.1 rfl (lv_room (Nat.le_of_ble_eq_true rfl)) dX7_colour_23 ⟨Nat.zero_le _, Nat.zero_le _⟩) hS (fun q _ h => hFc q h) hFc (fun u3 t H locs ht hvm hw3 hB hz1 hk1 hS1 => ?_)
      have hB : va_P D vwCl [(g, .inr (7, [.ref s0, .ref a0, .ref b0, .int (nI (kpN kn)), .ref x0, .int (nI L), .int (nI ta), .int (nI wr), .int (nI le), .int o1, .int o2, .int (nI po), .int (nI rs), .int ca])), (s0, .inl (y 1, 72, .inl (fun j9 => nI (V j9)))), (b0, .inl (y 1, 288, .inl (fun j9 => nI (u3 j9))))] t.heap := hB
      rw [ht] at hB
      have hw3 : RepB (kpN kn) (knB kn Bk V) u3 := hw3
      have hJ := xj_join (ws2 := [(g, .inr (7, [.ref s0, .ref a0, .ref b0, .int (nI (kpN kn)), .ref x0, .int (nI L), .int (nI ta), .int (nI wr), .int (nI le), .int o1, .int o2, .int (nI po), .int (nI rs), .int ca])), (s0, .inl (y 1, 72, .inl (fun j9 => nI (V j9)))), (b0, .inl (y 1, 288, .inl (fun j9 => nI (u3 j9))))]) hP hD [0, 1, 2] [] rfl rfl rfl rfl rfl rfl hk1 hB
      clear hP hD hS hB hk1 hz1 hFc hvm ht
      obtain ⟨hP, hD⟩ := hJ
      have hS := hS1
      clear hS1
      refine lv_aload_n hx hb dX7_colour_26 rfl (lv_at hl 0 rfl) ?_
      refine lv_bipush (v := nI 8) hx hb dX7_colour_27 (by decide) ?_
      refine lv_iload_n hx hb dX7_colour_29 rfl (lv_at hl 1 rfl) ?_
      refine xn_add hx hb (r := (8 + k)) rfl dX7_colour_30 ?_
      refine lv_iload_n hx hb dX7_colour_31 rfl (lv_at hl 2 rfl) ?_
      have hFc := xD_in (W0 := [(g, .inr (7, [.ref s0, .ref a0, .ref b0, .int (nI (kpN kn)), .ref x0, .int (nI L), .int (nI ta), .int (nI wr), .int (nI le), .int o1, .int o2, .int (nI po), .int (nI rs), .int ca])), (s0, .inl (y 1, 72, .inl (fun j9 => nI (V j9))))]) hD [0, 1] rfl
      refine va_calli (va_runV (As := [.int (nI (8 + k)), .int (nI j)]) (rest := []) ⟨hx, hb, hml, hown, hts⟩ (c_X7_puts l D y g s0 a0 b0 x0 (kpN kn) L ta wr le o1 o2 po rs ca V (8 + k) j (by omega)) (cwV 2 hts gX7_colour_X7_puts rfl rfl rfl hd_X7_puts ⟨Nat.le_of_ble_eq_true rfl, Nat.le_of_ble_eq_true rfl⟩) (xpv_w hK hP hD [0, 1] 0 rfl rfl rfl rfl rfl) rfl rfl hl.1 rfl (lv_room (Nat.le_of_ble_eq_true rfl)) dX7_colour_32 ⟨Nat.zero_le _, Nat.zero_le _⟩) hS (fun q _ h => hFc q h) hFc (fun r4 u4 t H locs ht hvm hw4 hB hz1 hk1 hS1 => ?_)
      have hB : va_P D vwCl [(g, .inr (7, [.ref s0, .ref a0, .ref b0, .int (nI (kpN kn)), .ref x0, .int (nI L), .int (nI ta), .int (nI wr), .int (nI le), .int o1, .int o2, .int (nI po), .int (nI rs), .int ca])), (s0, .inl (y 1, 72, .inl (fun j9 => nI ((uN V (8 + k) j) j9))))] t.heap := hB
      rw [ht] at hB
      have hw4 : r4 = nI (V (8 + k)) := hw4
      have hJ := xj_join (ws2 := [(g, .inr (7, [.ref s0, .ref a0, .ref b0, .int (nI (kpN kn)), .ref x0, .int (nI L), .int (nI ta), .int (nI wr), .int (nI le), .int o1, .int o2, .int (nI po), .int (nI rs), .int ca])), (s0, .inl (y 1, 72, .inl (fun j9 => nI ((uN V (8 + k) j) j9)))), (b0, .inl (y 1, 288, .inl (fun j9 => nI (u3 j9))))]) hP hD [0, 1] [2] rfl rfl rfl rfl rfl rfl hk1 hB
      clear hP hD hS hB hk1 hz1 hFc hvm ht
      obtain ⟨hP, hD⟩ := hJ
      have hS := hS1
      clear hS1
      subst hw4
      have e1 := dye_t (V := V) hk hj
      have hxv : ¬ dyI V (nI k) (nI j) < 0 := by rw [e1.1]; exact nI_pos (by have := hI.co hk; omega)
      subst hQe
      exact xw_i hx hb hr hlocks u3 hS dX7_colour_35 (⟨e1.1.symm, by rw [stN_p hxv, stB_p hxv]; exact hw3⟩) (fun t ht => by rw [ht]; exact (by rw [stV_p hxv, stN_p hxv, e1.2]; exact hP))
    · refine lv_ldc hx hb hown f_51 dX7_colour_19 ?_
      have ef := dye_f (V := V) (x := x) (z := w) (fun hq => by first | exact (bN_0.mp kc7) ((inx rfl (by decide)).mpr hq.1) | exact (bN_0.mp kc16) ((inx rfl (by decide)).mpr hq.2))
      have hxv : dyI V x w < 0 := by rw [ef.1]; decide
      subst hQe
      exact xw_i hx hb hr hlocks Bf hS dX7_colour_21 (⟨ef.1.symm, by rw [stN_n hxv, stB_n hxv]; exact hB0⟩) (fun t ht => by rw [ht]; exact (by rw [stV_n hxv, stN_n hxv]; exact hP))
set_option maxHeartbeats 8000000 in
set_option maxRecDepth 100000 in
theorem c_X7_tear (l : Launch) (D : va_G) (y : Nat → ClassId) (g s0 a0 b0 x0 kn L ta wr le : Nat) (o1 o2 : Int32) (po rs : Nat) (ca : Int32) (V : Nat → Nat) (hI : Inv V) (Bf : Nat → Nat) (Bk : Nat → Nat → Nat) (hB0 : RepB kn Bk Bf) (hk4 : kn ≤ 4) (x : Int32) : Met l yX7_tear wsX7_tear ({ frames := 2, cells := 0, slots := 0, locals := 43 }) (va_Pc [.ref g, .int x] (xPw D y [(g, .inr (7, [.ref s0, .ref a0, .ref b0, .int (nI kn), .ref x0, .int (nI L), .int (nI ta), .int (nI wr), .int (nI le), .int o1, .int o2, .int (nI po), .int (nI rs), .int ca])), (s0, .inl (y 1, 72, .inl (fun j9 => nI (V j9)))), (b0, .inl (y 1, 288, .inl (fun j9 => nI (Bf j9))))])) (va_Qi (fun r (u : Nat → Nat) => r = teI V x ∧ RepB (stN (teI V x) kn) (stB (teI V x) kn Bk V) u) (fun (u : Nat → Nat) t => va_P D vwCl [(g, .inr (7, [.ref s0, .ref a0, .ref b0, .int (nI (stN (teI V x) kn)), .ref x0, .int (nI L), .int (nI ta), .int (nI wr), .int (nI le), .int o1, .int o2, .int (nI po), .int (nI rs), .int ca])), (s0, .inl (y 1, 72, .inl (fun j9 => nI ((stV (teI V x) V (teV V x)) j9)))), (b0, .inl (y 1, 288, .inl (fun j9 => nI (u j9))))] t.heap) (xIn [(g, .inr (7, [.ref s0, .ref a0, .ref b0, .int (nI kn), .ref x0, .int (nI L), .int (nI ta), .int (nI wr), .int (nI le), .int o1, .int o2, .int (nI po), .int (nI rs), .int ca])), (s0, .inl (y 1, 72, .inl (fun j9 => nI (V j9)))), (b0, .inl (y 1, 288, .inl (fun j9 => nI (Bf j9))))])) 0 0 (xIn [(g, .inr (7, [.ref s0, .ref a0, .ref b0, .int (nI kn), .ref x0, .int (nI L), .int (nI ta), .int (nI wr), .int (nI le), .int o1, .int o2, .int (nI po), .int (nI rs), .int ca])), (s0, .inl (y 1, 72, .inl (fun j9 => nI (V j9)))), (b0, .inl (y 1, 288, .inl (fun j9 => nI (Bf j9))))]) := by
  refine Met.ofW (cc := cX7_tear) (maxL := 2) (ret := (some .int)) (by decide) rfl ?_
  intro p e s m args below meth c s₁ B hml hv
  obtain ⟨rfl, hP, hK, hD0⟩ := hv
  have hx := B.exec
  have hb := B.bytes
  have hr := B.returns
  have hts := atoms_spec (ws := wsX7_tear) B.pre
  have hown : s.vm.findClass RX7 = some m.cls := findClass_of_methodNamed B.named
  have hlocks := B.notSynchronized
  have f_51 := hts (.constant RX7 51 (-1000001)) (by decide +kernel)
  have hD := xD_self hD0
  generalize hAe : xIn [(g, .inr (7, [.ref s0, .ref a0, .ref b0, .int (nI kn), .ref x0, .int (nI L), .int (nI ta), .int (nI wr), .int (nI le), .int o1, .int o2, .int (nI po), .int (nI rs), .int ca])), (s0, .inl (y 1, 72, .inl (fun j9 => nI (V j9)))), (b0, .inl (y 1, 288, .inl (fun j9 => nI (Bf j9))))] = A at hD ⊢
  have hS : va_S A s.heap s.heap [] := va_S.rf
  have hP : va_P D vwCl [(g, .inr (7, [.ref s0, .ref a0, .ref b0, .int (nI kn), .ref x0, .int (nI L), .int (nI ta), .int (nI wr), .int (nI le), .int o1, .int o2, .int (nI po), .int (nI rs), .int ca])), (s0, .inl (y 1, 72, .inl (fun j9 => nI (V j9)))), (b0, .inl (y 1, 288, .inl (fun j9 => nI (Bf j9))))] s.heap := hP
  have hl := lv_entry ([.ref g, .int x]) (n := 2) (Nat.le_of_ble_eq_true rfl)
  rw [lg_entry_eq]
  generalize (lg_sl ([.ref g, .int x]) ++ List.replicate (2 - (lg_sl ([.ref g, .int x])).length) Slot.unset).toArray = ls at hl ⊢
  have hl : lv_has ls 2 [(0, .ref g), (1, .int x)] := hl
  generalize hQe : (MQ below (va_Qi (fun r (u : Nat → Nat) => r = teI V x ∧ RepB (stN (teI V x) kn) (stB (teI V x) kn Bk V) u) (fun (u : Nat → Nat) t => va_P D vwCl [(g, .inr (7, [.ref s0, .ref a0, .ref b0, .int (nI (stN (teI V x) kn)), .ref x0, .int (nI L), .int (nI ta), .int (nI wr), .int (nI le), .int o1, .int o2, .int (nI po), .int (nI rs), .int ca])), (s0, .inl (y 1, 72, .inl (fun j9 => nI ((stV (teI V x) V (teV V x)) j9)))), (b0, .inl (y 1, 288, .inl (fun j9 => nI (u j9))))] t.heap) A) ([.ref g, .int x] : List Value).toArray s 0 0 A) = Q
  have hsz := hI.sz
  have hbl1 := bN_lt (c := inR x (V 16))
  refine lv_aload_n hx hb dX7_tear_0 rfl (lv_at hl 0 rfl) ?_
  refine lv_iload_n hx hb dX7_tear_1 rfl (lv_at hl 1 rfl) ?_
  refine xc_V (As := [.int x]) (rest := []) ⟨hx, hb, hml, hown, hts⟩ (c_X7_isCard l D y g s0 a0 b0 x0 kn L ta wr le o1 o2 po rs ca V hI x) (cwV 1 hts gX7_tear_X7_isCard rfl rfl rfl hd_X7_isCard ⟨Nat.le_of_ble_eq_true rfl, Nat.le_of_ble_eq_true rfl⟩) (xpv_r hK hP [0, 1] 0 rfl rfl rfl) rfl hl.1 rfl (Nat.le_of_ble_eq_true rfl) dX7_tear_2 ⟨Nat.zero_le _, Nat.zero_le _⟩ (fun r1 hr1 => ?_)
  subst hr1
  refine xn_if_ne hx hb (by omega) (tgt := 11) dX7_tear_5 (by decide) (fun kc5 => ?_) (fun kc5 => ?_)
  · obtain ⟨k, hk, rfl⟩ := inR_k (by omega) (bN_n0.mp kc5)
    refine lv_aload_n hx hb dX7_tear_11 rfl (lv_at hl 0 rfl) ?_
    have hFc := xD_in (W0 := [(g, .inr (7, [.ref s0, .ref a0, .ref b0, .int (nI kn), .ref x0, .int (nI L), .int (nI ta), .int (nI wr), .int (nI le), .int o1, .int o2, .int (nI po), .int (nI rs), .int ca])), (s0, .inl (y 1, 72, .inl (fun j9 => nI (V j9)))), (b0, .inl (y 1, 288, .inl (fun j9 => nI (Bf j9))))]) hD [0, 1, 2] rfl
    refine va_callv (va_runV (As := []) (rest := []) ⟨hx, hb, hml, hown, hts⟩ (c_X7_know l D y g s0 a0 b0 x0 kn L ta wr le o1 o2 po rs ca V Bf Bk hB0 hk4) (cwV 0 hts gX7_tear_X7_know rfl rfl rfl hd_X7_know ⟨Nat.le_of_ble_eq_true rfl, Nat.le_of_ble_eq_true rfl⟩) (xpv_w hK hP hD [0, 1, 2] 0 rfl rfl rfl rfl rfl) rfl rfl hl.1 rfl (lv_room (Nat.le_of_ble_eq_true rfl)) dX7_tear_12 ⟨Nat.zero_le _, Nat.zero_le _⟩) hS (fun q _ h => hFc q h) hFc (fun u2 t H locs ht hvm hw2 hB hz1 hk1 hS1 => ?_)
    have hB : va_P D vwCl [(g, .inr (7, [.ref s0, .ref a0, .ref b0, .int (nI (kpN kn)), .ref x0, .int (nI L), .int (nI ta), .int (nI wr), .int (nI le), .int o1, .int o2, .int (nI po), .int (nI rs), .int ca])), (s0, .inl (y 1, 72, .inl (fun j9 => nI (V j9)))), (b0, .inl (y 1, 288, .inl (fun j9 => nI (u2 j9))))] t.heap := hB
    rw [ht] at hB
    have hw2 : RepB (kpN kn) (knB kn Bk V) u2 := hw2
    have hJ := xj_join (ws2 := [(g, .inr (7, [.ref s0, .ref a0, .ref b0, .int (nI (kpN kn)), .ref x0, .int (nI L), .int (nI ta), .int (nI wr), .int (nI le), .int o1, .int o2, .int (nI po), .int (nI rs), .int ca])), (s0, .inl (y 1, 72, .inl (fun j9 => nI (V j9)))), (b0, .inl (y 1, 288, .inl (fun j9 => nI (u2 j9))))]) hP hD [0, 1, 2] [] rfl rfl rfl rfl rfl rfl hk1 hB
    clear hP hD hS hB hk1 hz1 hFc hvm ht
    obtain ⟨hP, hD⟩ := hJ
    have hS := hS1
    clear hS1
    refine lv_aload_n hx hb dX7_tear_15 rfl (lv_at hl 0 rfl) ?_
    refine lv_iload_n hx hb dX7_tear_16 rfl (lv_at hl 1 rfl) ?_
    have hFc := xD_in (W0 := [(g, .inr (7, [.ref s0, .ref a0, .ref b0, .int (nI (kpN kn)), .ref x0, .int (nI L), .int (nI ta), .int (nI wr), .int (nI le), .int o1, .int o2, .int (nI po), .int (nI rs), .int ca])), (s0, .inl (y 1, 72, .inl (fun j9 => nI (V j9))))]) hD [0, 1] rfl
    refine va_calli (va_runV (As := [.int (nI k)]) (rest := []) ⟨hx, hb, hml, hown, hts⟩ (c_X7_tears l D y g s0 a0 b0 x0 (kpN kn) L ta wr le o1 o2 po rs ca V hI k (by omega)) (cwV 1 hts gX7_tear_X7_tears rfl rfl rfl hd_X7_tears ⟨Nat.le_of_ble_eq_true rfl, Nat.le_of_ble_eq_true rfl⟩) (xpv_w hK hP hD [0, 1] 0 rfl rfl rfl rfl rfl) rfl rfl hl.1 rfl (lv_room (Nat.le_of_ble_eq_true rfl)) dX7_tear_17 ⟨Nat.zero_le _, Nat.zero_le _⟩) hS (fun q _ h => hFc q h) hFc (fun r3 u3 t H locs ht hvm hw3 hB hz1 hk1 hS1 => ?_)
    have hB : va_P D vwCl [(g, .inr (7, [.ref s0, .ref a0, .ref b0, .int (nI (kpN kn)), .ref x0, .int (nI L), .int (nI ta), .int (nI wr), .int (nI le), .int o1, .int o2, .int (nI po), .int (nI rs), .int ca])), (s0, .inl (y 1, 72, .inl (fun j9 => nI ((teA V k) j9))))] t.heap := hB
    rw [ht] at hB
    have hw3 : r3 = nI (V (17 + k)) := hw3
    have hJ := xj_join (ws2 := [(g, .inr (7, [.ref s0, .ref a0, .ref b0, .int (nI (kpN kn)), .ref x0, .int (nI L), .int (nI ta), .int (nI wr), .int (nI le), .int o1, .int o2, .int (nI po), .int (nI rs), .int ca])), (s0, .inl (y 1, 72, .inl (fun j9 => nI ((teA V k) j9)))), (b0, .inl (y 1, 288, .inl (fun j9 => nI (u2 j9))))]) hP hD [0, 1] [2] rfl rfl rfl rfl rfl rfl hk1 hB
    clear hP hD hS hB hk1 hz1 hFc hvm ht
    obtain ⟨hP, hD⟩ := hJ
    have hS := hS1
    clear hS1
    subst hw3
    have e1 := te_t (V := V) hk hsz
    have hxv : ¬ teI V (nI k) < 0 := by rw [e1.1]; exact te_neg hI (by omega)
    subst hQe
    exact xw_i hx hb hr hlocks u2 hS dX7_tear_20 (⟨e1.1.symm, by rw [stN_p hxv, stB_p hxv]; exact hw2⟩) (fun t ht => by rw [ht]; exact (by rw [stV_p hxv, stN_p hxv, e1.2]; exact hP))
  · refine lv_ldc hx hb hown f_51 dX7_tear_8 ?_
    have ef := te_f (V := V) (x := x) (bN_0.mp kc5)
    have hxv : teI V x < 0 := by rw [ef.1]; decide
    subst hQe
    exact xw_i hx hb hr hlocks Bf hS dX7_tear_10 (⟨ef.1.symm, by rw [stN_n hxv, stB_n hxv]; exact hB0⟩) (fun t ht => by rw [ht]; exact (by rw [stV_n hxv, stN_n hxv]; exact hP))
set_option maxHeartbeats 8000000 in
set_option maxRecDepth 100000 in
theorem c_X7_swap (l : Launch) (D : va_G) (y : Nat → ClassId) (g s0 a0 b0 x0 kn L ta wr le : Nat) (o1 o2 : Int32) (po rs : Nat) (ca : Int32) (V : Nat → Nat) (hI : Inv V) (Bf : Nat → Nat) (Bk : Nat → Nat → Nat) (hB0 : RepB kn Bk Bf) (hk4 : kn ≤ 4) (x : Int32) (w : Int32) : Met l yX7_swap wsX7_swap ({ frames := 2, cells := 0, slots := 0, locals := 43 }) (va_Pc [.ref g, .int x, .int w] (xPw D y [(g, .inr (7, [.ref s0, .ref a0, .ref b0, .int (nI kn), .ref x0, .int (nI L), .int (nI ta), .int (nI wr), .int (nI le), .int o1, .int o2, .int (nI po), .int (nI rs), .int ca])), (s0, .inl (y 1, 72, .inl (fun j9 => nI (V j9)))), (b0, .inl (y 1, 288, .inl (fun j9 => nI (Bf j9))))])) (va_Qi (fun r (u : Nat → Nat) => r = exI V x w ∧ RepB (stN (exI V x w) kn) (stB (exI V x w) kn Bk V) u) (fun (u : Nat → Nat) t => va_P D vwCl [(g, .inr (7, [.ref s0, .ref a0, .ref b0, .int (nI (stN (exI V x w) kn)), .ref x0, .int (nI L), .int (nI ta), .int (nI wr), .int (nI le), .int o1, .int o2, .int (nI po), .int (nI rs), .int ca])), (s0, .inl (y 1, 72, .inl (fun j9 => nI ((stV (exI V x w) V (exV V x w)) j9)))), (b0, .inl (y 1, 288, .inl (fun j9 => nI (u j9))))] t.heap) (xIn [(g, .inr (7, [.ref s0, .ref a0, .ref b0, .int (nI kn), .ref x0, .int (nI L), .int (nI ta), .int (nI wr), .int (nI le), .int o1, .int o2, .int (nI po), .int (nI rs), .int ca])), (s0, .inl (y 1, 72, .inl (fun j9 => nI (V j9)))), (b0, .inl (y 1, 288, .inl (fun j9 => nI (Bf j9))))])) 0 0 (xIn [(g, .inr (7, [.ref s0, .ref a0, .ref b0, .int (nI kn), .ref x0, .int (nI L), .int (nI ta), .int (nI wr), .int (nI le), .int o1, .int o2, .int (nI po), .int (nI rs), .int ca])), (s0, .inl (y 1, 72, .inl (fun j9 => nI (V j9)))), (b0, .inl (y 1, 288, .inl (fun j9 => nI (Bf j9))))]) := by
  refine Met.ofW (cc := cX7_swap) (maxL := 3) (ret := (some .int)) (by decide) rfl ?_
  intro p e s m args below meth c s₁ B hml hv
  obtain ⟨rfl, hP, hK, hD0⟩ := hv
  have hx := B.exec
  have hb := B.bytes
  have hr := B.returns
  have hts := atoms_spec (ws := wsX7_swap) B.pre
  have hown : s.vm.findClass RX7 = some m.cls := findClass_of_methodNamed B.named
  have hlocks := B.notSynchronized
  have f_51 := hts (.constant RX7 51 (-1000001)) (by decide +kernel)
  have f_7 := hts (.fieldLink RX7 7 "LoomTunesModel" "s" "[I") (by decide +kernel)
  have hin_X7 : ∀ w ∈ wsX70, w ∈ wsX7_swap := by decide +kernel
  have hD := xD_self hD0
  generalize hAe : xIn [(g, .inr (7, [.ref s0, .ref a0, .ref b0, .int (nI kn), .ref x0, .int (nI L), .int (nI ta), .int (nI wr), .int (nI le), .int o1, .int o2, .int (nI po), .int (nI rs), .int ca])), (s0, .inl (y 1, 72, .inl (fun j9 => nI (V j9)))), (b0, .inl (y 1, 288, .inl (fun j9 => nI (Bf j9))))] = A at hD ⊢
  have hS : va_S A s.heap s.heap [] := va_S.rf
  have hP : va_P D vwCl [(g, .inr (7, [.ref s0, .ref a0, .ref b0, .int (nI kn), .ref x0, .int (nI L), .int (nI ta), .int (nI wr), .int (nI le), .int o1, .int o2, .int (nI po), .int (nI rs), .int ca])), (s0, .inl (y 1, 72, .inl (fun j9 => nI (V j9)))), (b0, .inl (y 1, 288, .inl (fun j9 => nI (Bf j9))))] s.heap := hP
  have hl := lv_entry ([.ref g, .int x, .int w]) (n := 3) (Nat.le_of_ble_eq_true rfl)
  rw [lg_entry_eq]
  generalize (lg_sl ([.ref g, .int x, .int w]) ++ List.replicate (3 - (lg_sl ([.ref g, .int x, .int w])).length) Slot.unset).toArray = ls at hl ⊢
  have hl : lv_has ls 3 [(0, .ref g), (1, .int x), (2, .int w)] := hl
  generalize hQe : (MQ below (va_Qi (fun r (u : Nat → Nat) => r = exI V x w ∧ RepB (stN (exI V x w) kn) (stB (exI V x w) kn Bk V) u) (fun (u : Nat → Nat) t => va_P D vwCl [(g, .inr (7, [.ref s0, .ref a0, .ref b0, .int (nI (stN (exI V x w) kn)), .ref x0, .int (nI L), .int (nI ta), .int (nI wr), .int (nI le), .int o1, .int o2, .int (nI po), .int (nI rs), .int ca])), (s0, .inl (y 1, 72, .inl (fun j9 => nI ((stV (exI V x w) V (exV V x w)) j9)))), (b0, .inl (y 1, 288, .inl (fun j9 => nI (u j9))))] t.heap) A) ([.ref g, .int x, .int w] : List Value).toArray s 0 0 A) = Q
  have hsz := hI.sz
  have hbl1 := bN_lt (c := inR x (V 16))
  have hbl2 := bN_lt (c := inR w (V 16))
  refine lv_aload_n hx hb dX7_swap_0 rfl (lv_at hl 0 rfl) ?_
  refine lv_iload_n hx hb dX7_swap_1 rfl (lv_at hl 1 rfl) ?_
  refine xc_V (As := [.int x]) (rest := []) ⟨hx, hb, hml, hown, hts⟩ (c_X7_isCard l D y g s0 a0 b0 x0 kn L ta wr le o1 o2 po rs ca V hI x) (cwV 1 hts gX7_swap_X7_isCard rfl rfl rfl hd_X7_isCard ⟨Nat.le_of_ble_eq_true rfl, Nat.le_of_ble_eq_true rfl⟩) (xpv_r hK hP [0, 1] 0 rfl rfl rfl) rfl hl.1 rfl (Nat.le_of_ble_eq_true rfl) dX7_swap_2 ⟨Nat.zero_le _, Nat.zero_le _⟩ (fun r1 hr1 => ?_)
  subst hr1
  refine xn_if_eq hx hb (by omega) (tgt := 21) dX7_swap_5 (by decide) (fun kc5 => ?_) (fun kc5 => ?_)
  · refine lv_ldc hx hb hown f_51 dX7_swap_21 ?_
    have ef := ex_f (V := V) (x := x) (z := w) (fun hq => by first | exact (bN_0.mp kc5) hq.1 | exact (bN_0.mp kc13) hq.2.1 | exact hq.2.2 kc18)
    have hxv : exI V x w < 0 := by rw [ef.1]; decide
    subst hQe
    exact xw_i hx hb hr hlocks Bf hS dX7_swap_23 (⟨ef.1.symm, by rw [stN_n hxv, stB_n hxv]; exact hB0⟩) (fun t ht => by rw [ht]; exact (by rw [stV_n hxv, stN_n hxv]; exact hP))
  · refine lv_aload_n hx hb dX7_swap_8 rfl (lv_at hl 0 rfl) ?_
    refine lv_iload_n hx hb dX7_swap_9 rfl (lv_at hl 2 rfl) ?_
    refine xc_V (As := [.int w]) (rest := []) ⟨hx, hb, hml, hown, hts⟩ (c_X7_isCard l D y g s0 a0 b0 x0 kn L ta wr le o1 o2 po rs ca V hI w) (cwV 1 hts gX7_swap_X7_isCard rfl rfl rfl hd_X7_isCard ⟨Nat.le_of_ble_eq_true rfl, Nat.le_of_ble_eq_true rfl⟩) (xpv_r hK hP [0, 1] 0 rfl rfl rfl) rfl hl.1 rfl (Nat.le_of_ble_eq_true rfl) dX7_swap_10 ⟨Nat.zero_le _, Nat.zero_le _⟩ (fun r2 hr2 => ?_)
    subst hr2
    refine xn_if_eq hx hb (by omega) (tgt := 21) dX7_swap_13 (by decide) (fun kc13 => ?_) (fun kc13 => ?_)
    · refine lv_ldc hx hb hown f_51 dX7_swap_21 ?_
      have ef := ex_f (V := V) (x := x) (z := w) (fun hq => by first | exact (bN_0.mp kc5) hq.1 | exact (bN_0.mp kc13) hq.2.1 | exact hq.2.2 kc18)
      have hxv : exI V x w < 0 := by rw [ef.1]; decide
      subst hQe
      exact xw_i hx hb hr hlocks Bf hS dX7_swap_23 (⟨ef.1.symm, by rw [stN_n hxv, stB_n hxv]; exact hB0⟩) (fun t ht => by rw [ht]; exact (by rw [stV_n hxv, stN_n hxv]; exact hP))
    · refine lv_iload_n hx hb dX7_swap_16 rfl (lv_at hl 1 rfl) ?_
      refine lv_iload_n hx hb dX7_swap_17 rfl (lv_at hl 2 rfl) ?_
      refine lv_icmp_ne (tgt := 24) hx hb dX7_swap_18 (by decide) (fun kc18 => ?_) (fun kc18 => ?_)
      · obtain ⟨k, hk, rfl⟩ := inR_k (by omega) (bN_n0.mp kc5)
        obtain ⟨j, hj, rfl⟩ := inR_k (by omega) (bN_n0.mp kc13)
        have hne : ¬ k = j := fun q => kc18 (by rw [q])
        refine lv_aload_n hx hb dX7_swap_24 rfl (lv_at hl 0 rfl) ?_
        have hFc := xD_in (W0 := [(g, .inr (7, [.ref s0, .ref a0, .ref b0, .int (nI kn), .ref x0, .int (nI L), .int (nI ta), .int (nI wr), .int (nI le), .int o1, .int o2, .int (nI po), .int (nI rs), .int ca])), (s0, .inl (y 1, 72, .inl (fun j9 => nI (V j9)))), (b0, .inl (y 1, 288, .inl (fun j9 => nI (Bf j9))))]) hD [0, 1, 2] rfl
        refine va_callv (va_runV (As := []) (rest := []) ⟨hx, hb, hml, hown, hts⟩ (c_X7_know l D y g s0 a0 b0 x0 kn L ta wr le o1 o2 po rs ca V Bf Bk hB0 hk4) (cwV 0 hts gX7_swap_X7_know rfl rfl rfl hd_X7_know ⟨Nat.le_of_ble_eq_true rfl, Nat.le_of_ble_eq_true rfl⟩) (xpv_w hK hP hD [0, 1, 2] 0 rfl rfl rfl rfl rfl) rfl rfl hl.1 rfl (lv_room (Nat.le_of_ble_eq_true rfl)) dX7_swap_25 ⟨Nat.zero_le _, Nat.zero_le _⟩) hS (fun q _ h => hFc q h) hFc (fun u3 t H locs ht hvm hw3 hB hz1 hk1 hS1 => ?_)
        have hB : va_P D vwCl [(g, .inr (7, [.ref s0, .ref a0, .ref b0, .int (nI (kpN kn)), .ref x0, .int (nI L), .int (nI ta), .int (nI wr), .int (nI le), .int o1, .int o2, .int (nI po), .int (nI rs), .int ca])), (s0, .inl (y 1, 72, .inl (fun j9 => nI (V j9)))), (b0, .inl (y 1, 288, .inl (fun j9 => nI (u3 j9))))] t.heap := hB
        rw [ht] at hB
        have hw3 : RepB (kpN kn) (knB kn Bk V) u3 := hw3
        have hJ := xj_join (ws2 := [(g, .inr (7, [.ref s0, .ref a0, .ref b0, .int (nI (kpN kn)), .ref x0, .int (nI L), .int (nI ta), .int (nI wr), .int (nI le), .int o1, .int o2, .int (nI po), .int (nI rs), .int ca])), (s0, .inl (y 1, 72, .inl (fun j9 => nI (V j9)))), (b0, .inl (y 1, 288, .inl (fun j9 => nI (u3 j9))))]) hP hD [0, 1, 2] [] rfl rfl rfl rfl rfl rfl hk1 hB
        clear hP hD hS hB hk1 hz1 hFc hvm ht
        obtain ⟨hP, hD⟩ := hJ
        have hS := hS1
        clear hS1
        refine lv_aload_n hx hb dX7_swap_28 rfl (lv_at hl 0 rfl) ?_
        refine lv_iload_n hx hb dX7_swap_29 rfl (lv_at hl 1 rfl) ?_
        refine lv_iload_n hx hb dX7_swap_30 rfl (lv_at hl 2 rfl) ?_
        have hFc := xD_in (W0 := [(g, .inr (7, [.ref s0, .ref a0, .ref b0, .int (nI (kpN kn)), .ref x0, .int (nI L), .int (nI ta), .int (nI wr), .int (nI le), .int o1, .int o2, .int (nI po), .int (nI rs), .int ca])), (s0, .inl (y 1, 72, .inl (fun j9 => nI (V j9))))]) hD [0, 1] rfl
        refine va_callv (va_runV (As := [.int (nI k), .int (nI j)]) (rest := []) ⟨hx, hb, hml, hown, hts⟩ (c_X7_exchange l D y g s0 a0 b0 x0 (kpN kn) L ta wr le o1 o2 po rs ca V k j (by omega) (by omega)) (cwV 2 hts gX7_swap_X7_exchange rfl rfl rfl hd_X7_exchange ⟨Nat.le_of_ble_eq_true rfl, Nat.le_of_ble_eq_true rfl⟩) (xpv_w hK hP hD [0, 1] 0 rfl rfl rfl rfl rfl) rfl rfl hl.1 rfl (lv_room (Nat.le_of_ble_eq_true rfl)) dX7_swap_31 ⟨Nat.zero_le _, Nat.zero_le _⟩) hS (fun q _ h => hFc q h) hFc (fun u4 t H locs ht hvm hw4 hB hz1 hk1 hS1 => ?_)
        have hB : va_P D vwCl [(g, .inr (7, [.ref s0, .ref a0, .ref b0, .int (nI (kpN kn)), .ref x0, .int (nI L), .int (nI ta), .int (nI wr), .int (nI le), .int o1, .int o2, .int (nI po), .int (nI rs), .int ca])), (s0, .inl (y 1, 72, .inl (fun j9 => nI ((exc V k j) j9))))] t.heap := hB
        rw [ht] at hB
        have hJ := xj_join (ws2 := [(g, .inr (7, [.ref s0, .ref a0, .ref b0, .int (nI (kpN kn)), .ref x0, .int (nI L), .int (nI ta), .int (nI wr), .int (nI le), .int o1, .int o2, .int (nI po), .int (nI rs), .int ca])), (s0, .inl (y 1, 72, .inl (fun j9 => nI ((exc V k j) j9)))), (b0, .inl (y 1, 288, .inl (fun j9 => nI (u3 j9))))]) hP hD [0, 1] [2] rfl rfl rfl rfl rfl rfl hk1 hB
        clear hP hD hS hB hk1 hz1 hFc hvm ht
        obtain ⟨hP, hD⟩ := hJ
        have hS := hS1
        clear hS1
        refine lv_aload_n hx hb dX7_swap_34 rfl (lv_at hl 0 rfl) ?_
        refine va_get (D := D) (ci := 7) (v := .ref s0) (C := RX7) (T := TX7) (N := 14) hx hb hts hin_X7 hown hK.1 hP 0 rfl rfl 0 (by decide) f_7 (fun _ h9 => h9) rfl dX7_swap_35 ?_
        refine lv_bipush (v := nI 17) hx hb dX7_swap_38 (by decide) ?_
        refine lv_iload_n hx hb dX7_swap_40 rfl (lv_at hl 1 rfl) ?_
        refine xn_add hx hb (r := (17 + k)) rfl dX7_swap_41 ?_
        refine xn_iald hx hb hK hP 1 rfl (by omega) (by first | decide | omega) (v := nI ((exc V k j) (17 + k))) (rfl) dX7_swap_42 ?_
        have e1 := ex_t (V := V) hk hj hsz hne
        have e2 : exc V k j (17 + k) = V (17 + j) := by rw [exc_hol (by omega) (by omega) (by omega), if_neg hne, if_pos rfl]
        have hxv : ¬ exI V (nI k) (nI j) < 0 := by rw [e1.1]; exact te_neg hI (by omega)
        subst hQe
        exact xw_i hx hb hr hlocks u3 hS dX7_swap_43 (⟨(congrArg nI e2).trans e1.1.symm, by rw [stN_p hxv, stB_p hxv]; exact hw3⟩) (fun t ht => by rw [ht]; exact (by rw [stV_p hxv, stN_p hxv, e1.2]; exact hP))
      · refine lv_ldc hx hb hown f_51 dX7_swap_21 ?_
        have ef := ex_f (V := V) (x := x) (z := w) (fun hq => by first | exact (bN_0.mp kc5) hq.1 | exact (bN_0.mp kc13) hq.2.1 | exact hq.2.2 kc18)
        have hxv : exI V x w < 0 := by rw [ef.1]; decide
        subst hQe
        exact xw_i hx hb hr hlocks Bf hS dX7_swap_23 (⟨ef.1.symm, by rw [stN_n hxv, stB_n hxv]; exact hB0⟩) (fun t ht => by rw [ht]; exact (by rw [stV_n hxv, stN_n hxv]; exact hP))
set_option maxHeartbeats 8000000 in
set_option maxRecDepth 100000 in
theorem c_X7_turn (l : Launch) (D : va_G) (y : Nat → ClassId) (g s0 a0 b0 x0 kn L ta wr le : Nat) (o1 o2 : Int32) (po rs : Nat) (ca : Int32) (V : Nat → Nat) (hI : Inv V) (Bf : Nat → Nat) (Bk : Nat → Nat → Nat) (hB0 : RepB kn Bk Bf) (hk4 : kn ≤ 4) : Met l yX7_turn wsX7_turn ({ frames := 2, cells := 0, slots := 0, locals := 45 }) (va_Pc [.ref g] (xPw D y [(g, .inr (7, [.ref s0, .ref a0, .ref b0, .int (nI kn), .ref x0, .int (nI L), .int (nI ta), .int (nI wr), .int (nI le), .int o1, .int o2, .int (nI po), .int (nI rs), .int ca])), (s0, .inl (y 1, 72, .inl (fun j9 => nI (V j9)))), (b0, .inl (y 1, 288, .inl (fun j9 => nI (Bf j9))))])) (va_Qi (fun r (u : Nat → Nat) => r = reI V ∧ RepB (stN (reI V) kn) (stB (reI V) kn Bk V) u) (fun (u : Nat → Nat) t => va_P D vwCl [(g, .inr (7, [.ref s0, .ref a0, .ref b0, .int (nI (stN (reI V) kn)), .ref x0, .int (nI L), .int (nI ta), .int (nI wr), .int (nI le), .int o1, .int o2, .int (nI po), .int (nI rs), .int ca])), (s0, .inl (y 1, 72, .inl (fun j9 => nI ((stV (reI V) V (reV V)) j9)))), (b0, .inl (y 1, 288, .inl (fun j9 => nI (u j9))))] t.heap) (xIn [(g, .inr (7, [.ref s0, .ref a0, .ref b0, .int (nI kn), .ref x0, .int (nI L), .int (nI ta), .int (nI wr), .int (nI le), .int o1, .int o2, .int (nI po), .int (nI rs), .int ca])), (s0, .inl (y 1, 72, .inl (fun j9 => nI (V j9)))), (b0, .inl (y 1, 288, .inl (fun j9 => nI (Bf j9))))])) 0 0 (xIn [(g, .inr (7, [.ref s0, .ref a0, .ref b0, .int (nI kn), .ref x0, .int (nI L), .int (nI ta), .int (nI wr), .int (nI le), .int o1, .int o2, .int (nI po), .int (nI rs), .int ca])), (s0, .inl (y 1, 72, .inl (fun j9 => nI (V j9)))), (b0, .inl (y 1, 288, .inl (fun j9 => nI (Bf j9))))]) := by
  refine Met.ofW (cc := cX7_turn) (maxL := 1) (ret := (some .int)) (by decide) rfl ?_
  intro p e s m args below meth c s₁ B hml hv
  obtain ⟨rfl, hP, hK, hD0⟩ := hv
  have hx := B.exec
  have hb := B.bytes
  have hr := B.returns
  have hts := atoms_spec (ws := wsX7_turn) B.pre
  have hown : s.vm.findClass RX7 = some m.cls := findClass_of_methodNamed B.named
  have hlocks := B.notSynchronized
  have f_7 := hts (.fieldLink RX7 7 "LoomTunesModel" "s" "[I") (by decide +kernel)
  have f_76 := hts (.constant RX7 76 (-1000002)) (by decide +kernel)
  have hin_X7 : ∀ w ∈ wsX70, w ∈ wsX7_turn := by decide +kernel
  have hD := xD_self hD0
  generalize hAe : xIn [(g, .inr (7, [.ref s0, .ref a0, .ref b0, .int (nI kn), .ref x0, .int (nI L), .int (nI ta), .int (nI wr), .int (nI le), .int o1, .int o2, .int (nI po), .int (nI rs), .int ca])), (s0, .inl (y 1, 72, .inl (fun j9 => nI (V j9)))), (b0, .inl (y 1, 288, .inl (fun j9 => nI (Bf j9))))] = A at hD ⊢
  have hS : va_S A s.heap s.heap [] := va_S.rf
  have hP : va_P D vwCl [(g, .inr (7, [.ref s0, .ref a0, .ref b0, .int (nI kn), .ref x0, .int (nI L), .int (nI ta), .int (nI wr), .int (nI le), .int o1, .int o2, .int (nI po), .int (nI rs), .int ca])), (s0, .inl (y 1, 72, .inl (fun j9 => nI (V j9)))), (b0, .inl (y 1, 288, .inl (fun j9 => nI (Bf j9))))] s.heap := hP
  have hl := lv_entry ([.ref g]) (n := 1) (Nat.le_of_ble_eq_true rfl)
  rw [lg_entry_eq]
  generalize (lg_sl ([.ref g]) ++ List.replicate (1 - (lg_sl ([.ref g])).length) Slot.unset).toArray = ls at hl ⊢
  have hl : lv_has ls 1 [(0, .ref g)] := hl
  generalize hQe : (MQ below (va_Qi (fun r (u : Nat → Nat) => r = reI V ∧ RepB (stN (reI V) kn) (stB (reI V) kn Bk V) u) (fun (u : Nat → Nat) t => va_P D vwCl [(g, .inr (7, [.ref s0, .ref a0, .ref b0, .int (nI (stN (reI V) kn)), .ref x0, .int (nI L), .int (nI ta), .int (nI wr), .int (nI le), .int o1, .int o2, .int (nI po), .int (nI rs), .int ca])), (s0, .inl (y 1, 72, .inl (fun j9 => nI ((stV (reI V) V (reV V)) j9)))), (b0, .inl (y 1, 288, .inl (fun j9 => nI (u j9))))] t.heap) A) ([.ref g] : List Value).toArray s 0 0 A) = Q
  have hsz := hI.sz
  refine lv_aload_n hx hb dX7_turn_0 rfl (lv_at hl 0 rfl) ?_
  refine va_get (D := D) (ci := 7) (v := .ref s0) (C := RX7) (T := TX7) (N := 14) hx hb hts hin_X7 hown hK.1 hP 0 rfl rfl 0 (by decide) f_7 (fun _ h9 => h9) rfl dX7_turn_1 ?_
  refine lv_bipush (v := nI 16) hx hb dX7_turn_4 (by decide) ?_
  refine xn_iald hx hb hK hP 1 rfl (by omega) (by first | decide | omega) (v := nI (V 16)) (rfl) dX7_turn_6 ?_
  refine lv_iconst (v := nI 2) hx hb dX7_turn_7 (by decide) ?_
  refine xn_icmp_ge hx hb (by omega) (by omega) (tgt := 14) dX7_turn_8 (by decide) (fun kc8 => ?_) (fun kc8 => ?_)
  · refine lv_aload_n hx hb dX7_turn_14 rfl (lv_at hl 0 rfl) ?_
    have hFc := xD_in (W0 := [(g, .inr (7, [.ref s0, .ref a0, .ref b0, .int (nI kn), .ref x0, .int (nI L), .int (nI ta), .int (nI wr), .int (nI le), .int o1, .int o2, .int (nI po), .int (nI rs), .int ca])), (s0, .inl (y 1, 72, .inl (fun j9 => nI (V j9)))), (b0, .inl (y 1, 288, .inl (fun j9 => nI (Bf j9))))]) hD [0, 1, 2] rfl
    refine va_callv (va_runV (As := []) (rest := []) ⟨hx, hb, hml, hown, hts⟩ (c_X7_know l D y g s0 a0 b0 x0 kn L ta wr le o1 o2 po rs ca V Bf Bk hB0 hk4) (cwV 0 hts gX7_turn_X7_know rfl rfl rfl hd_X7_know ⟨Nat.le_of_ble_eq_true rfl, Nat.le_of_ble_eq_true rfl⟩) (xpv_w hK hP hD [0, 1, 2] 0 rfl rfl rfl rfl rfl) rfl rfl hl.1 rfl (lv_room (Nat.le_of_ble_eq_true rfl)) dX7_turn_15 ⟨Nat.zero_le _, Nat.zero_le _⟩) hS (fun q _ h => hFc q h) hFc (fun u1 t H locs ht hvm hw1 hB hz1 hk1 hS1 => ?_)
    have hB : va_P D vwCl [(g, .inr (7, [.ref s0, .ref a0, .ref b0, .int (nI (kpN kn)), .ref x0, .int (nI L), .int (nI ta), .int (nI wr), .int (nI le), .int o1, .int o2, .int (nI po), .int (nI rs), .int ca])), (s0, .inl (y 1, 72, .inl (fun j9 => nI (V j9)))), (b0, .inl (y 1, 288, .inl (fun j9 => nI (u1 j9))))] t.heap := hB
    rw [ht] at hB
    have hw1 : RepB (kpN kn) (knB kn Bk V) u1 := hw1
    have hJ := xj_join (ws2 := [(g, .inr (7, [.ref s0, .ref a0, .ref b0, .int (nI (kpN kn)), .ref x0, .int (nI L), .int (nI ta), .int (nI wr), .int (nI le), .int o1, .int o2, .int (nI po), .int (nI rs), .int ca])), (s0, .inl (y 1, 72, .inl (fun j9 => nI (V j9)))), (b0, .inl (y 1, 288, .inl (fun j9 => nI (u1 j9))))]) hP hD [0, 1, 2] [] rfl rfl rfl rfl rfl rfl hk1 hB
    clear hP hD hS hB hk1 hz1 hFc hvm ht
    obtain ⟨hP, hD⟩ := hJ
    have hS := hS1
    clear hS1
    refine lv_aload_n hx hb dX7_turn_18 rfl (lv_at hl 0 rfl) ?_
    have hFc := xD_in (W0 := [(g, .inr (7, [.ref s0, .ref a0, .ref b0, .int (nI (kpN kn)), .ref x0, .int (nI L), .int (nI ta), .int (nI wr), .int (nI le), .int o1, .int o2, .int (nI po), .int (nI rs), .int ca])), (s0, .inl (y 1, 72, .inl (fun j9 => nI (V j9))))]) hD [0, 1] rfl
    refine va_calli (va_runV (As := []) (rest := []) ⟨hx, hb, hml, hown, hts⟩ (c_X7_turns l D y g s0 a0 b0 x0 (kpN kn) L ta wr le o1 o2 po rs ca V hI) (cwV 0 hts gX7_turn_X7_turns rfl rfl rfl hd_X7_turns ⟨Nat.le_of_ble_eq_true rfl, Nat.le_of_ble_eq_true rfl⟩) (xpv_w hK hP hD [0, 1] 0 rfl rfl rfl rfl rfl) rfl rfl hl.1 rfl (lv_room (Nat.le_of_ble_eq_true rfl)) dX7_turn_19 ⟨Nat.zero_le _, Nat.zero_le _⟩) hS (fun q _ h => hFc q h) hFc (fun r2 u2 t H locs ht hvm hw2 hB hz1 hk1 hS1 => ?_)
    have hB : va_P D vwCl [(g, .inr (7, [.ref s0, .ref a0, .ref b0, .int (nI (kpN kn)), .ref x0, .int (nI L), .int (nI ta), .int (nI wr), .int (nI le), .int o1, .int o2, .int (nI po), .int (nI rs), .int ca])), (s0, .inl (y 1, 72, .inl (fun j9 => nI ((rvA V (V 16 / 2)) j9))))] t.heap := hB
    rw [ht] at hB
    have hw2 : r2 = nI (V 16) := hw2
    have hJ := xj_join (ws2 := [(g, .inr (7, [.ref s0, .ref a0, .ref b0, .int (nI (kpN kn)), .ref x0, .int (nI L), .int (nI ta), .int (nI wr), .int (nI le), .int o1, .int o2, .int (nI po), .int (nI rs), .int ca])), (s0, .inl (y 1, 72, .inl (fun j9 => nI ((rvA V (V 16 / 2)) j9)))), (b0, .inl (y 1, 288, .inl (fun j9 => nI (u1 j9))))]) hP hD [0, 1] [2] rfl rfl rfl rfl rfl rfl hk1 hB
    clear hP hD hS hB hk1 hz1 hFc hvm ht
    obtain ⟨hP, hD⟩ := hJ
    have hS := hS1
    clear hS1
    subst hw2
    have e1 := re_t (V := V) kc8
    have hxv : ¬ reI V < 0 := by rw [e1.1]; exact nI_pos (by omega)
    subst hQe
    exact xw_i hx hb hr hlocks u1 hS dX7_turn_22 (⟨e1.1.symm, by rw [stN_p hxv, stB_p hxv]; exact hw1⟩) (fun t ht => by rw [ht]; exact (by rw [stV_p hxv, stN_p hxv, e1.2]; exact hP))
  · refine lv_ldc hx hb hown f_76 dX7_turn_11 ?_
    have ef := re_f (V := V) kc8
    have hxv : reI V < 0 := by rw [ef.1]; decide
    subst hQe
    exact xw_i hx hb hr hlocks Bf hS dX7_turn_13 (⟨ef.1.symm, by rw [stN_n hxv, stB_n hxv]; exact hB0⟩) (fun t ht => by rw [ht]; exact (by rw [stV_n hxv, stN_n hxv]; exact hP))
set_option maxHeartbeats 8000000 in
set_option maxRecDepth 100000 in
theorem c_X7_mirror (l : Launch) (D : va_G) (y : Nat → ClassId) (g s0 a0 b0 x0 kn L ta wr le : Nat) (o1 o2 : Int32) (po rs : Nat) (ca : Int32) (V : Nat → Nat) (hI : Inv V) (Bf : Nat → Nat) (Bk : Nat → Nat → Nat) (hB0 : RepB kn Bk Bf) (hk4 : kn ≤ 4) : Met l yX7_mirror wsX7_mirror ({ frames := 2, cells := 0, slots := 0, locals := 43 }) (va_Pc [.ref g] (xPw D y [(g, .inr (7, [.ref s0, .ref a0, .ref b0, .int (nI kn), .ref x0, .int (nI L), .int (nI ta), .int (nI wr), .int (nI le), .int o1, .int o2, .int (nI po), .int (nI rs), .int ca])), (s0, .inl (y 1, 72, .inl (fun j9 => nI (V j9)))), (b0, .inl (y 1, 288, .inl (fun j9 => nI (Bf j9))))])) (va_Qi (fun r (u : Nat → Nat) => r = flI V ∧ RepB (stN (flI V) kn) (stB (flI V) kn Bk V) u) (fun (u : Nat → Nat) t => va_P D vwCl [(g, .inr (7, [.ref s0, .ref a0, .ref b0, .int (nI (stN (flI V) kn)), .ref x0, .int (nI L), .int (nI ta), .int (nI wr), .int (nI le), .int o1, .int o2, .int (nI po), .int (nI rs), .int ca])), (s0, .inl (y 1, 72, .inl (fun j9 => nI ((stV (flI V) V (flV V)) j9)))), (b0, .inl (y 1, 288, .inl (fun j9 => nI (u j9))))] t.heap) (xIn [(g, .inr (7, [.ref s0, .ref a0, .ref b0, .int (nI kn), .ref x0, .int (nI L), .int (nI ta), .int (nI wr), .int (nI le), .int o1, .int o2, .int (nI po), .int (nI rs), .int ca])), (s0, .inl (y 1, 72, .inl (fun j9 => nI (V j9)))), (b0, .inl (y 1, 288, .inl (fun j9 => nI (Bf j9))))])) 0 0 (xIn [(g, .inr (7, [.ref s0, .ref a0, .ref b0, .int (nI kn), .ref x0, .int (nI L), .int (nI ta), .int (nI wr), .int (nI le), .int o1, .int o2, .int (nI po), .int (nI rs), .int ca])), (s0, .inl (y 1, 72, .inl (fun j9 => nI (V j9)))), (b0, .inl (y 1, 288, .inl (fun j9 => nI (Bf j9))))]) := by
  refine Met.ofW (cc := cX7_mirror) (maxL := 4) (ret := (some .int)) (by decide) rfl ?_
  intro p e s m args below meth c s₁ B hml hv
  obtain ⟨rfl, hP, hK, hD0⟩ := hv
  have hx := B.exec
  have hb := B.bytes
  have hr := B.returns
  have hts := atoms_spec (ws := wsX7_mirror) B.pre
  have hown : s.vm.findClass RX7 = some m.cls := findClass_of_methodNamed B.named
  have hlocks := B.notSynchronized
  have f_7 := hts (.fieldLink RX7 7 "LoomTunesModel" "s" "[I") (by decide +kernel)
  have f_76 := hts (.constant RX7 76 (-1000002)) (by decide +kernel)
  have hin_X7 : ∀ w ∈ wsX70, w ∈ wsX7_mirror := by decide +kernel
  have hD := xD_self hD0
  generalize hAe : xIn [(g, .inr (7, [.ref s0, .ref a0, .ref b0, .int (nI kn), .ref x0, .int (nI L), .int (nI ta), .int (nI wr), .int (nI le), .int o1, .int o2, .int (nI po), .int (nI rs), .int ca])), (s0, .inl (y 1, 72, .inl (fun j9 => nI (V j9)))), (b0, .inl (y 1, 288, .inl (fun j9 => nI (Bf j9))))] = A at hD ⊢
  have hS : va_S A s.heap s.heap [] := va_S.rf
  have hP : va_P D vwCl [(g, .inr (7, [.ref s0, .ref a0, .ref b0, .int (nI kn), .ref x0, .int (nI L), .int (nI ta), .int (nI wr), .int (nI le), .int o1, .int o2, .int (nI po), .int (nI rs), .int ca])), (s0, .inl (y 1, 72, .inl (fun j9 => nI (V j9)))), (b0, .inl (y 1, 288, .inl (fun j9 => nI (Bf j9))))] s.heap := hP
  have hl := lv_entry ([.ref g]) (n := 4) (Nat.le_of_ble_eq_true rfl)
  rw [lg_entry_eq]
  generalize (lg_sl ([.ref g]) ++ List.replicate (4 - (lg_sl ([.ref g])).length) Slot.unset).toArray = ls at hl ⊢
  have hl : lv_has ls 4 [(0, .ref g)] := hl
  generalize hQe : (MQ below (va_Qi (fun r (u : Nat → Nat) => r = flI V ∧ RepB (stN (flI V) kn) (stB (flI V) kn Bk V) u) (fun (u : Nat → Nat) t => va_P D vwCl [(g, .inr (7, [.ref s0, .ref a0, .ref b0, .int (nI (stN (flI V) kn)), .ref x0, .int (nI L), .int (nI ta), .int (nI wr), .int (nI le), .int o1, .int o2, .int (nI po), .int (nI rs), .int ca])), (s0, .inl (y 1, 72, .inl (fun j9 => nI ((stV (flI V) V (flV V)) j9)))), (b0, .inl (y 1, 288, .inl (fun j9 => nI (u j9))))] t.heap) A) ([.ref g] : List Value).toArray s 0 0 A) = Q
  have hsz := hI.sz
  refine lv_aload_n hx hb dX7_mirror_0 rfl (lv_at hl 0 rfl) ?_
  refine va_get (D := D) (ci := 7) (v := .ref s0) (C := RX7) (T := TX7) (N := 14) hx hb hts hin_X7 hown hK.1 hP 0 rfl rfl 0 (by decide) f_7 (fun _ h9 => h9) rfl dX7_mirror_1 ?_
  refine lv_bipush (v := nI 16) hx hb dX7_mirror_4 (by decide) ?_
  refine xn_iald hx hb hK hP 1 rfl (by omega) (by first | decide | omega) (v := nI (V 16)) (rfl) dX7_mirror_6 ?_
  refine xn_if_ne hx hb (by omega) (tgt := 13) dX7_mirror_7 (by decide) (fun kc7 => ?_) (fun kc7 => ?_)
  · refine lv_aload_n hx hb dX7_mirror_13 rfl (lv_at hl 0 rfl) ?_
    have hFc := xD_in (W0 := [(g, .inr (7, [.ref s0, .ref a0, .ref b0, .int (nI kn), .ref x0, .int (nI L), .int (nI ta), .int (nI wr), .int (nI le), .int o1, .int o2, .int (nI po), .int (nI rs), .int ca])), (s0, .inl (y 1, 72, .inl (fun j9 => nI (V j9)))), (b0, .inl (y 1, 288, .inl (fun j9 => nI (Bf j9))))]) hD [0, 1, 2] rfl
    refine va_callv (va_runV (As := []) (rest := []) ⟨hx, hb, hml, hown, hts⟩ (c_X7_know l D y g s0 a0 b0 x0 kn L ta wr le o1 o2 po rs ca V Bf Bk hB0 hk4) (cwV 0 hts gX7_mirror_X7_know rfl rfl rfl hd_X7_know ⟨Nat.le_of_ble_eq_true rfl, Nat.le_of_ble_eq_true rfl⟩) (xpv_w hK hP hD [0, 1, 2] 0 rfl rfl rfl rfl rfl) rfl rfl hl.1 rfl (lv_room (Nat.le_of_ble_eq_true rfl)) dX7_mirror_14 ⟨Nat.zero_le _, Nat.zero_le _⟩) hS (fun q _ h => hFc q h) hFc (fun u1 t H locs ht hvm hw1 hB hz1 hk1 hS1 => ?_)
    have hB : va_P D vwCl [(g, .inr (7, [.ref s0, .ref a0, .ref b0, .int (nI (kpN kn)), .ref x0, .int (nI L), .int (nI ta), .int (nI wr), .int (nI le), .int o1, .int o2, .int (nI po), .int (nI rs), .int ca])), (s0, .inl (y 1, 72, .inl (fun j9 => nI (V j9)))), (b0, .inl (y 1, 288, .inl (fun j9 => nI (u1 j9))))] t.heap := hB
    rw [ht] at hB
    have hw1 : RepB (kpN kn) (knB kn Bk V) u1 := hw1
    have hJ := xj_join (ws2 := [(g, .inr (7, [.ref s0, .ref a0, .ref b0, .int (nI (kpN kn)), .ref x0, .int (nI L), .int (nI ta), .int (nI wr), .int (nI le), .int o1, .int o2, .int (nI po), .int (nI rs), .int ca])), (s0, .inl (y 1, 72, .inl (fun j9 => nI (V j9)))), (b0, .inl (y 1, 288, .inl (fun j9 => nI (u1 j9))))]) hP hD [0, 1, 2] [] rfl rfl rfl rfl rfl rfl hk1 hB
    clear hP hD hS hB hk1 hz1 hFc hvm ht
    obtain ⟨hP, hD⟩ := hJ
    have hS := hS1
    clear hS1
    refine lv_iconst (v := nI 0) hx hb dX7_mirror_17 (by decide) ?_
    refine lv_istore_n (lv' := [(1, .int (nI 0)), (0, .ref g)]) hx hb dX7_mirror_18 rfl hl (by decide) rfl (fun ls hl => ?_)
    refine lv_iconst (v := nI 0) hx hb dX7_mirror_19 (by decide) ?_
    refine lv_istore_n (lv' := [(2, .int (nI 0)), (1, .int (nI 0)), (0, .ref g)]) hx hb dX7_mirror_20 rfl hl (by decide) rfl (fun ls hl => ?_)
    have lp21 : ∀ (n : Nat) (i : Nat), V 16 - i < n → (i ≤ V 16) → ∀ (H : Heap) (locs : List Loc), va_P D vwCl [(g, .inr (7, [.ref s0, .ref a0, .ref b0, .int (nI (kpN kn)), .ref x0, .int (nI L), .int (nI ta), .int (nI wr), .int (nI le), .int o1, .int o2, .int (nI po), .int (nI rs), .int ca])), (s0, .inl (y 1, 72, .inl (fun j9 => nI ((flA V i) j9)))), (b0, .inl (y 1, 288, .inl (fun j9 => nI (u1 j9))))] H → va_D A [(g, .inr (7, [.ref s0, .ref a0, .ref b0, .int (nI (kpN kn)), .ref x0, .int (nI L), .int (nI ta), .int (nI wr), .int (nI le), .int o1, .int o2, .int (nI po), .int (nI rs), .int ca])), (s0, .inl (y 1, 72, .inl (fun j9 => nI ((flA V i) j9)))), (b0, .inl (y 1, 288, .inl (fun j9 => nI (u1 j9))))] → va_S A s.heap H locs → ∀ ls : Array Slot, lv_has ls 4 [(2, .int (nI i)), (1, .int (nI (sN (fun k => if mir (V (17 + k)) = V (17 + k) then 0 else 1) i))), (0, .ref g)] → W p l e (headSpec wsX7_mirror ({ frames := 2, cells := 0, slots := 0, locals := 43 })).room s m ([.ref g] : List Value).toArray below meth c H locs 0 0 Q (F0 m 21 ls []) := by
      intro n
      induction n with
      | zero => intro i hm; exact absurd hm (Nat.not_lt_zero _)
      | succ n ih21 =>
        intro i hm hi H locs hP hD hS ls hl
        have e16 : flA V i 16 = V 16 := flA_fix i (by omega)
        refine lv_iload_n hx hb dX7_mirror_21 rfl (lv_at hl 0 rfl) ?_
        refine lv_aload_n hx hb dX7_mirror_22 rfl (lv_at hl 2 rfl) ?_
        refine va_get (D := D) (ci := 7) (v := .ref s0) (C := RX7) (T := TX7) (N := 14) hx hb hts hin_X7 hown hK.1 hP 0 rfl rfl 0 (by decide) f_7 (fun _ h9 => h9) rfl dX7_mirror_23 ?_
        refine lv_bipush (v := nI 16) hx hb dX7_mirror_26 (by decide) ?_
        refine xn_iald hx hb hK hP 1 rfl (by omega) (by first | decide | omega) (v := nI ((flA V i) 16)) (rfl) dX7_mirror_28 ?_
        refine xv (congrArg nI (e16)) ?_
        refine xn_icmp_ge hx hb (by omega) (by omega) (tgt := 80) dX7_mirror_29 (by decide) (fun kc29 => ?_) (fun kc29 => ?_)
        · refine lv_iload_n hx hb dX7_mirror_80 rfl (lv_at hl 1 rfl) ?_
          have hi9 : i = V 16 := by omega
          have e1 := fl_t (V := V) kc7
          have hxv : ¬ flI V < 0 := by rw [e1.1]; exact nI_pos (by have := sN_le (f := fun k => if mir (V (17 + k)) = V (17 + k) then 0 else 1) (b := 1) (V 16) (fun i _ => by show (if _ then _ else _) ≤ 1; split <;> omega); show sN _ _ < 2 ^ 31; omega)
          subst hQe
          exact xw_i hx hb hr hlocks u1 hS dX7_mirror_81 (⟨by rw [e1.1, hi9], by rw [stN_p hxv, stB_p hxv]; exact hw1⟩) (fun t ht => by rw [ht]; exact (by rw [stV_p hxv, stN_p hxv, e1.2, ← hi9]; exact hP))
        · have hho := hI.ho (k := i) (by omega)
          have hmm := mir_lt hho
          refine lv_aload_n hx hb dX7_mirror_32 rfl (lv_at hl 2 rfl) ?_
          refine lv_bipush (v := nI 17) hx hb dX7_mirror_33 (by decide) ?_
          refine lv_iload_n hx hb dX7_mirror_35 rfl (lv_at hl 0 rfl) ?_
          refine xn_add hx hb (r := (17 + i)) rfl dX7_mirror_36 ?_
          refine lv_aload_n hx hb dX7_mirror_37 rfl (lv_at hl 2 rfl) ?_
          refine va_get (D := D) (ci := 7) (v := .ref s0) (C := RX7) (T := TX7) (N := 14) hx hb hts hin_X7 hown hK.1 hP 0 rfl rfl 0 (by decide) f_7 (fun _ h9 => h9) rfl dX7_mirror_38 ?_
          refine lv_bipush (v := nI 17) hx hb dX7_mirror_41 (by decide) ?_
          refine lv_iload_n hx hb dX7_mirror_43 rfl (lv_at hl 0 rfl) ?_
          refine xn_add hx hb (r := (17 + i)) rfl dX7_mirror_44 ?_
          refine xn_iald hx hb hK hP 1 rfl (by omega) (by first | decide | omega) (v := nI ((flA V i) (17 + i))) (rfl) dX7_mirror_45 ?_
          refine xv (congrArg nI (flA_fix i (by omega))) ?_
          refine xc_S (As := [.int (nI (V (17 + i)))]) (rest := [.int (nI (17 + i)), .ref g]) ⟨hx, hb, hml, hown, hts⟩ (c_X7_mirrored l (V (17 + i)) (by omega)) (va_cwS 1 hts gX7_mirror_X7_mirrored rfl rfl rfl hd_X7_mirrored.2 ⟨Nat.le_of_ble_eq_true rfl, Nat.le_of_ble_eq_true rfl⟩) xps_0 rfl hl.1 rfl (Nat.le_of_ble_eq_true rfl) dX7_mirror_46 ⟨Nat.zero_le _, Nat.zero_le _⟩ (fun r2 hr2 => ?_)
          subst hr2
          have hFc := xD_in (W0 := [(g, .inr (7, [.ref s0, .ref a0, .ref b0, .int (nI (kpN kn)), .ref x0, .int (nI L), .int (nI ta), .int (nI wr), .int (nI le), .int o1, .int o2, .int (nI po), .int (nI rs), .int ca])), (s0, .inl (y 1, 72, .inl (fun j9 => nI ((flA V i) j9))))]) hD [0, 1] rfl
          refine va_calli (va_runV (As := [.int (nI (17 + i)), .int (nI (mir (V (17 + i))))]) (rest := []) ⟨hx, hb, hml, hown, hts⟩ (c_X7_puts l D y g s0 a0 b0 x0 (kpN kn) L ta wr le o1 o2 po rs ca (flA V i) (17 + i) (mir (V (17 + i))) (by omega)) (cwV 2 hts gX7_mirror_X7_puts rfl rfl rfl hd_X7_puts ⟨Nat.le_of_ble_eq_true rfl, Nat.le_of_ble_eq_true rfl⟩) (xpv_w hK hP hD [0, 1] 0 rfl rfl rfl rfl rfl) rfl rfl hl.1 rfl (lv_room (Nat.le_of_ble_eq_true rfl)) dX7_mirror_49 ⟨Nat.zero_le _, Nat.zero_le _⟩) hS (fun q _ h => hFc q h) hFc (fun r3 u3 t H locs ht hvm hw3 hB hz1 hk1 hS1 => ?_)
          have hB : va_P D vwCl [(g, .inr (7, [.ref s0, .ref a0, .ref b0, .int (nI (kpN kn)), .ref x0, .int (nI L), .int (nI ta), .int (nI wr), .int (nI le), .int o1, .int o2, .int (nI po), .int (nI rs), .int ca])), (s0, .inl (y 1, 72, .inl (fun j9 => nI ((uN (flA V i) (17 + i) (mir (V (17 + i)))) j9))))] t.heap := hB
          rw [ht] at hB
          have hw3 : r3 = nI ((flA V i) (17 + i)) := hw3
          have hJ := xj_join (ws2 := [(g, .inr (7, [.ref s0, .ref a0, .ref b0, .int (nI (kpN kn)), .ref x0, .int (nI L), .int (nI ta), .int (nI wr), .int (nI le), .int o1, .int o2, .int (nI po), .int (nI rs), .int ca])), (s0, .inl (y 1, 72, .inl (fun j9 => nI ((uN (flA V i) (17 + i) (mir (V (17 + i)))) j9)))), (b0, .inl (y 1, 288, .inl (fun j9 => nI (u1 j9))))]) hP hD [0, 1] [2] rfl rfl rfl rfl rfl rfl hk1 hB
          clear hP hD hS hB hk1 hz1 hFc hvm ht
          obtain ⟨hP, hD⟩ := hJ
          have hS := hS1
          clear hS1
          subst hw3
          refine xv (congrArg nI (flA_fix i (by omega))) ?_
          refine lv_istore_n (lv' := [(3, .int (nI (V (17 + i)))), (2, .int (nI i)), (1, .int (nI (sN (fun k => if mir (V (17 + k)) = V (17 + k) then 0 else 1) i))), (0, .ref g)]) hx hb dX7_mirror_52 rfl hl (by decide) rfl (fun ls hl => ?_)
          refine lv_iload_n hx hb dX7_mirror_53 rfl (lv_at hl 2 rfl) ?_
          refine lv_iload_n hx hb dX7_mirror_54 rfl (lv_at hl 0 rfl) ?_
          refine lv_aload_n hx hb dX7_mirror_55 rfl (lv_at hl 3 rfl) ?_
          refine va_get (D := D) (ci := 7) (v := .ref s0) (C := RX7) (T := TX7) (N := 14) hx hb hts hin_X7 hown hK.1 hP 0 rfl rfl 0 (by decide) f_7 (fun _ h9 => h9) rfl dX7_mirror_56 ?_
          refine lv_bipush (v := nI 17) hx hb dX7_mirror_59 (by decide) ?_
          refine lv_iload_n hx hb dX7_mirror_61 rfl (lv_at hl 1 rfl) ?_
          refine xn_add hx hb (r := (17 + i)) rfl dX7_mirror_62 ?_
          refine xn_iald hx hb hK hP 1 rfl (by omega) (by first | decide | omega) (v := nI ((uN (flA V i) (17 + i) (mir (V (17 + i)))) (17 + i))) (rfl) dX7_mirror_63 ?_
          refine xv (congrArg nI uN_s) ?_
          refine xn_icmp_ne hx hb (by omega) (by omega) (tgt := 71) dX7_mirror_64 (by decide) (fun kc64 => ?_) (fun kc64 => ?_)
          · refine lv_iconst (v := nI 1) hx hb dX7_mirror_71 (by decide) ?_
            refine xn_add hx hb (r := ((sN (fun k => if mir (V (17 + k)) = V (17 + k) then 0 else 1) i) + 1)) rfl dX7_mirror_72 ?_
            refine lv_istore_n (lv' := [(1, .int (nI ((sN (fun k => if mir (V (17 + k)) = V (17 + k) then 0 else 1) i) + 1))), (3, .int (nI (V (17 + i)))), (2, .int (nI i)), (0, .ref g)]) hx hb dX7_mirror_73 rfl hl (by decide) rfl (fun ls hl => ?_)
            refine lv_iinc (v := nI (i + 1)) (lv' := [(2, .int (nI (i + 1))), (1, .int (nI ((sN (fun k => if mir (V (17 + k)) = V (17 + k) then 0 else 1) i) + 1))), (3, .int (nI (V (17 + i)))), (0, .ref g)]) hx hb dX7_mirror_74 hl (k := 2) rfl (nI_add i 1) (by decide) rfl (fun ls hl => ?_)
            refine lv_goto (tgt := 21) hx hb dX7_mirror_77 (by decide) ?_
            have e4 : ((sN (fun k => if mir (V (17 + k)) = V (17 + k) then 0 else 1) i) + 1) = (sN (fun k => if mir (V (17 + k)) = V (17 + k) then 0 else 1) (i + 1)) := by rw [sN_s]; first | (rw [if_pos kc64.symm]; done) | (rw [if_neg (fun q => kc64 q.symm)]; done)
            have hW5 : ([(g, .inr (7, [.ref s0, .ref a0, .ref b0, .int (nI (kpN kn)), .ref x0, .int (nI L), .int (nI ta), .int (nI wr), .int (nI le), .int o1, .int o2, .int (nI po), .int (nI rs), .int ca])), (s0, .inl (y 1, 72, .inl (fun j9 => nI ((uN (flA V i) (17 + i) (mir (V (17 + i)))) j9)))), (b0, .inl (y 1, 288, .inl (fun j9 => nI (u1 j9))))] : va_W) = [(g, .inr (7, [.ref s0, .ref a0, .ref b0, .int (nI (kpN kn)), .ref x0, .int (nI L), .int (nI ta), .int (nI wr), .int (nI le), .int o1, .int o2, .int (nI po), .int (nI rs), .int ca])), (s0, .inl (y 1, 72, .inl (fun j9 => nI ((flA V (i + 1)) j9)))), (b0, .inl (y 1, 288, .inl (fun j9 => nI (u1 j9))))] := rfl
            exact ih21 (i + 1) (by omega) (by omega) _ _ (xP_eq hP hW5) (xD_eq hD hW5) hS ls (xl_eq (b := [(2, .int (nI (i + 1))), (1, .int (nI (sN (fun k => if mir (V (17 + k)) = V (17 + k) then 0 else 1) (i + 1)))), (0, .ref g)]) (lv_sub (l' := [(2, .int (nI (i + 1))), (1, .int (nI ((sN (fun k => if mir (V (17 + k)) = V (17 + k) then 0 else 1) i) + 1))), (0, .ref g)]) hl [0, 1, 3] rfl) (xk rfl (xk (congrArg (fun z : Nat => Value.int (nI z)) e4) (xk rfl (rfl : ([] : List (Nat × Value)) = [])))))
          · refine lv_iconst (v := nI 0) hx hb dX7_mirror_67 (by decide) ?_
            refine lv_goto (tgt := 72) hx hb dX7_mirror_68 (by decide) ?_
            refine xn_add hx hb (r := ((sN (fun k => if mir (V (17 + k)) = V (17 + k) then 0 else 1) i) + 0)) rfl dX7_mirror_72 ?_
            refine lv_istore_n (lv' := [(1, .int (nI ((sN (fun k => if mir (V (17 + k)) = V (17 + k) then 0 else 1) i) + 0))), (3, .int (nI (V (17 + i)))), (2, .int (nI i)), (0, .ref g)]) hx hb dX7_mirror_73 rfl hl (by decide) rfl (fun ls hl => ?_)
            refine lv_iinc (v := nI (i + 1)) (lv' := [(2, .int (nI (i + 1))), (1, .int (nI ((sN (fun k => if mir (V (17 + k)) = V (17 + k) then 0 else 1) i) + 0))), (3, .int (nI (V (17 + i)))), (0, .ref g)]) hx hb dX7_mirror_74 hl (k := 2) rfl (nI_add i 1) (by decide) rfl (fun ls hl => ?_)
            refine lv_goto (tgt := 21) hx hb dX7_mirror_77 (by decide) ?_
            have e6 : ((sN (fun k => if mir (V (17 + k)) = V (17 + k) then 0 else 1) i) + 0) = (sN (fun k => if mir (V (17 + k)) = V (17 + k) then 0 else 1) (i + 1)) := by rw [sN_s]; first | (rw [if_pos kc64.symm]; done) | (rw [if_neg (fun q => kc64 q.symm)]; done)
            have hW7 : ([(g, .inr (7, [.ref s0, .ref a0, .ref b0, .int (nI (kpN kn)), .ref x0, .int (nI L), .int (nI ta), .int (nI wr), .int (nI le), .int o1, .int o2, .int (nI po), .int (nI rs), .int ca])), (s0, .inl (y 1, 72, .inl (fun j9 => nI ((uN (flA V i) (17 + i) (mir (V (17 + i)))) j9)))), (b0, .inl (y 1, 288, .inl (fun j9 => nI (u1 j9))))] : va_W) = [(g, .inr (7, [.ref s0, .ref a0, .ref b0, .int (nI (kpN kn)), .ref x0, .int (nI L), .int (nI ta), .int (nI wr), .int (nI le), .int o1, .int o2, .int (nI po), .int (nI rs), .int ca])), (s0, .inl (y 1, 72, .inl (fun j9 => nI ((flA V (i + 1)) j9)))), (b0, .inl (y 1, 288, .inl (fun j9 => nI (u1 j9))))] := rfl
            exact ih21 (i + 1) (by omega) (by omega) _ _ (xP_eq hP hW7) (xD_eq hD hW7) hS ls (xl_eq (b := [(2, .int (nI (i + 1))), (1, .int (nI (sN (fun k => if mir (V (17 + k)) = V (17 + k) then 0 else 1) (i + 1)))), (0, .ref g)]) (lv_sub (l' := [(2, .int (nI (i + 1))), (1, .int (nI ((sN (fun k => if mir (V (17 + k)) = V (17 + k) then 0 else 1) i) + 0))), (0, .ref g)]) hl [0, 1, 3] rfl) (xk rfl (xk (congrArg (fun z : Nat => Value.int (nI z)) e6) (xk rfl (rfl : ([] : List (Nat × Value)) = [])))))
    have e8 : 0 = (sN (fun k => if mir (V (17 + k)) = V (17 + k) then 0 else 1) 0) := rfl
    have hW9 : ([(g, .inr (7, [.ref s0, .ref a0, .ref b0, .int (nI (kpN kn)), .ref x0, .int (nI L), .int (nI ta), .int (nI wr), .int (nI le), .int o1, .int o2, .int (nI po), .int (nI rs), .int ca])), (s0, .inl (y 1, 72, .inl (fun j9 => nI (V j9)))), (b0, .inl (y 1, 288, .inl (fun j9 => nI (u1 j9))))] : va_W) = [(g, .inr (7, [.ref s0, .ref a0, .ref b0, .int (nI (kpN kn)), .ref x0, .int (nI L), .int (nI ta), .int (nI wr), .int (nI le), .int o1, .int o2, .int (nI po), .int (nI rs), .int ca])), (s0, .inl (y 1, 72, .inl (fun j9 => nI ((flA V 0) j9)))), (b0, .inl (y 1, 288, .inl (fun j9 => nI (u1 j9))))] := rfl
    exact lp21 ((V 16 - 0) + 1) 0 (Nat.lt_succ_self _) (by omega) _ _ (xP_eq hP hW9) (xD_eq hD hW9) hS ls (xl_eq (b := [(2, .int (nI 0)), (1, .int (nI (sN (fun k => if mir (V (17 + k)) = V (17 + k) then 0 else 1) 0))), (0, .ref g)]) (lv_sub (l' := [(2, .int (nI 0)), (1, .int (nI 0)), (0, .ref g)]) hl [0, 1, 2] rfl) (xk rfl (xk (congrArg (fun z : Nat => Value.int (nI z)) e8) (xk rfl (rfl : ([] : List (Nat × Value)) = [])))))
  · refine lv_ldc hx hb hown f_76 dX7_mirror_10 ?_
    have ef := fl_f (V := V) kc7
    have hxv : flI V < 0 := by rw [ef.1]; decide
    subst hQe
    exact xw_i hx hb hr hlocks Bf hS dX7_mirror_12 (⟨ef.1.symm, by rw [stN_n hxv, stB_n hxv]; exact hB0⟩) (fun t ht => by rw [ht]; exact (by rw [stV_n hxv, stN_n hxv]; exact hP))
set_option maxHeartbeats 8000000 in
set_option maxRecDepth 100000 in
theorem c_X7_bring (l : Launch) (D : va_G) (y : Nat → ClassId) (g s0 a0 b0 x0 kn L ta wr le : Nat) (o1 o2 : Int32) (po rs : Nat) (ca : Int32) (V : Nat → Nat) (hI : Inv V) (Bf : Nat → Nat) (Bk : Nat → Nat → Nat) (hB0 : RepB kn Bk Bf) (hk4 : kn ≤ 4) (x : Int32) : Met l yX7_bring wsX7_bring ({ frames := 5, cells := 0, slots := 0, locals := 114 }) (va_Pc [.ref g, .int x] (xPw D y [(g, .inr (7, [.ref s0, .ref a0, .ref b0, .int (nI kn), .ref x0, .int (nI L), .int (nI ta), .int (nI wr), .int (nI le), .int o1, .int o2, .int (nI po), .int (nI rs), .int ca])), (s0, .inl (y 1, 72, .inl (fun j9 => nI (V j9)))), (b0, .inl (y 1, 288, .inl (fun j9 => nI (Bf j9))))])) (va_Qi (fun r (u : Nat → Nat) => r = ansI V x ∧ RepB (stN (ansI V x) kn) (stB (ansI V x) kn Bk V) u) (fun (u : Nat → Nat) t => va_P D vwCl [(g, .inr (7, [.ref s0, .ref a0, .ref b0, .int (nI (stN (ansI V x) kn)), .ref x0, .int (nI L), .int (nI ta), .int (nI wr), .int (nI le), .int o1, .int o2, .int (nI po), .int (nI rs), .int ca])), (s0, .inl (y 1, 72, .inl (fun j9 => nI ((stV (ansI V x) V (ofV V x)) j9)))), (b0, .inl (y 1, 288, .inl (fun j9 => nI (u j9))))] t.heap) (xIn [(g, .inr (7, [.ref s0, .ref a0, .ref b0, .int (nI kn), .ref x0, .int (nI L), .int (nI ta), .int (nI wr), .int (nI le), .int o1, .int o2, .int (nI po), .int (nI rs), .int ca])), (s0, .inl (y 1, 72, .inl (fun j9 => nI (V j9)))), (b0, .inl (y 1, 288, .inl (fun j9 => nI (Bf j9))))])) 0 0 (xIn [(g, .inr (7, [.ref s0, .ref a0, .ref b0, .int (nI kn), .ref x0, .int (nI L), .int (nI ta), .int (nI wr), .int (nI le), .int o1, .int o2, .int (nI po), .int (nI rs), .int ca])), (s0, .inl (y 1, 72, .inl (fun j9 => nI (V j9)))), (b0, .inl (y 1, 288, .inl (fun j9 => nI (Bf j9))))]) := by
  refine Met.ofW (cc := cX7_bring) (maxL := 3) (ret := (some .int)) (by decide) rfl ?_
  intro p e s m args below meth c s₁ B hml hv
  obtain ⟨rfl, hP, hK, hD0⟩ := hv
  have hx := B.exec
  have hb := B.bytes
  have hr := B.returns
  have hts := atoms_spec (ws := wsX7_bring) B.pre
  have hown : s.vm.findClass RX7 = some m.cls := findClass_of_methodNamed B.named
  have hlocks := B.notSynchronized
  have hD := xD_self hD0
  generalize hAe : xIn [(g, .inr (7, [.ref s0, .ref a0, .ref b0, .int (nI kn), .ref x0, .int (nI L), .int (nI ta), .int (nI wr), .int (nI le), .int o1, .int o2, .int (nI po), .int (nI rs), .int ca])), (s0, .inl (y 1, 72, .inl (fun j9 => nI (V j9)))), (b0, .inl (y 1, 288, .inl (fun j9 => nI (Bf j9))))] = A at hD ⊢
  have hS : va_S A s.heap s.heap [] := va_S.rf
  have hP : va_P D vwCl [(g, .inr (7, [.ref s0, .ref a0, .ref b0, .int (nI kn), .ref x0, .int (nI L), .int (nI ta), .int (nI wr), .int (nI le), .int o1, .int o2, .int (nI po), .int (nI rs), .int ca])), (s0, .inl (y 1, 72, .inl (fun j9 => nI (V j9)))), (b0, .inl (y 1, 288, .inl (fun j9 => nI (Bf j9))))] s.heap := hP
  have hl := lv_entry ([.ref g, .int x]) (n := 3) (Nat.le_of_ble_eq_true rfl)
  rw [lg_entry_eq]
  generalize (lg_sl ([.ref g, .int x]) ++ List.replicate (3 - (lg_sl ([.ref g, .int x])).length) Slot.unset).toArray = ls at hl ⊢
  have hl : lv_has ls 3 [(0, .ref g), (1, .int x)] := hl
  generalize hQe : (MQ below (va_Qi (fun r (u : Nat → Nat) => r = ansI V x ∧ RepB (stN (ansI V x) kn) (stB (ansI V x) kn Bk V) u) (fun (u : Nat → Nat) t => va_P D vwCl [(g, .inr (7, [.ref s0, .ref a0, .ref b0, .int (nI (stN (ansI V x) kn)), .ref x0, .int (nI L), .int (nI ta), .int (nI wr), .int (nI le), .int o1, .int o2, .int (nI po), .int (nI rs), .int ca])), (s0, .inl (y 1, 72, .inl (fun j9 => nI ((stV (ansI V x) V (ofV V x)) j9)))), (b0, .inl (y 1, 288, .inl (fun j9 => nI (u j9))))] t.heap) A) ([.ref g, .int x] : List Value).toArray s 0 0 A) = Q
  have hsz := hI.sz
  refine lv_aload_n hx hb dX7_bring_0 rfl (lv_at hl 0 rfl) ?_
  refine lv_iload_n hx hb dX7_bring_1 rfl (lv_at hl 1 rfl) ?_
  refine xc_V (As := [.int x]) (rest := []) ⟨hx, hb, hml, hown, hts⟩ (c_X7_bringFault l D y g s0 a0 b0 x0 kn L ta wr le o1 o2 po rs ca V hI x) (cwV 1 hts gX7_bring_X7_bringFault rfl rfl rfl hd_X7_bringFault ⟨Nat.le_of_ble_eq_true rfl, Nat.le_of_ble_eq_true rfl⟩) (xpv_r hK hP [0, 1] 0 rfl rfl rfl) rfl hl.1 rfl (Nat.le_of_ble_eq_true rfl) dX7_bring_2 ⟨Nat.zero_le _, Nat.zero_le _⟩ (fun r1 hr1 => ?_)
  subst hr1
  refine lv_istore_n (lv' := [(2, .int (bfI V x)), (0, .ref g), (1, .int x)]) hx hb dX7_bring_5 rfl hl (by decide) rfl (fun ls hl => ?_)
  refine lv_iload_n hx hb dX7_bring_6 rfl (lv_at hl 0 rfl) ?_
  refine lv_if_ge (tgt := 12) hx hb dX7_bring_7 (by decide) (fun kc7 => ?_) (fun kc7 => ?_)
  · obtain ⟨k, hk, hx9, hz9⟩ := bf_ok hsz kc7
    subst hx9
    refine lv_aload_n hx hb dX7_bring_12 rfl (lv_at hl 1 rfl) ?_
    have hFc := xD_in (W0 := [(g, .inr (7, [.ref s0, .ref a0, .ref b0, .int (nI kn), .ref x0, .int (nI L), .int (nI ta), .int (nI wr), .int (nI le), .int o1, .int o2, .int (nI po), .int (nI rs), .int ca])), (s0, .inl (y 1, 72, .inl (fun j9 => nI (V j9)))), (b0, .inl (y 1, 288, .inl (fun j9 => nI (Bf j9))))]) hD [0, 1, 2] rfl
    refine va_callv (va_runV (As := []) (rest := []) ⟨hx, hb, hml, hown, hts⟩ (c_X7_know l D y g s0 a0 b0 x0 kn L ta wr le o1 o2 po rs ca V Bf Bk hB0 hk4) (cwV 0 hts gX7_bring_X7_know rfl rfl rfl hd_X7_know ⟨Nat.le_of_ble_eq_true rfl, Nat.le_of_ble_eq_true rfl⟩) (xpv_w hK hP hD [0, 1, 2] 0 rfl rfl rfl rfl rfl) rfl rfl hl.1 rfl (lv_room (Nat.le_of_ble_eq_true rfl)) dX7_bring_13 ⟨Nat.zero_le _, Nat.zero_le _⟩) hS (fun q _ h => hFc q h) hFc (fun u2 t H locs ht hvm hw2 hB hz1 hk1 hS1 => ?_)
    have hB : va_P D vwCl [(g, .inr (7, [.ref s0, .ref a0, .ref b0, .int (nI (kpN kn)), .ref x0, .int (nI L), .int (nI ta), .int (nI wr), .int (nI le), .int o1, .int o2, .int (nI po), .int (nI rs), .int ca])), (s0, .inl (y 1, 72, .inl (fun j9 => nI (V j9)))), (b0, .inl (y 1, 288, .inl (fun j9 => nI (u2 j9))))] t.heap := hB
    rw [ht] at hB
    have hw2 : RepB (kpN kn) (knB kn Bk V) u2 := hw2
    have hJ := xj_join (ws2 := [(g, .inr (7, [.ref s0, .ref a0, .ref b0, .int (nI (kpN kn)), .ref x0, .int (nI L), .int (nI ta), .int (nI wr), .int (nI le), .int o1, .int o2, .int (nI po), .int (nI rs), .int ca])), (s0, .inl (y 1, 72, .inl (fun j9 => nI (V j9)))), (b0, .inl (y 1, 288, .inl (fun j9 => nI (u2 j9))))]) hP hD [0, 1, 2] [] rfl rfl rfl rfl rfl rfl hk1 hB
    clear hP hD hS hB hk1 hz1 hFc hvm ht
    obtain ⟨hP, hD⟩ := hJ
    have hS := hS1
    clear hS1
    refine lv_aload_n hx hb dX7_bring_16 rfl (lv_at hl 1 rfl) ?_
    refine lv_iload_n hx hb dX7_bring_17 rfl (lv_at hl 2 rfl) ?_
    have hFc := xD_in (W0 := [(g, .inr (7, [.ref s0, .ref a0, .ref b0, .int (nI (kpN kn)), .ref x0, .int (nI L), .int (nI ta), .int (nI wr), .int (nI le), .int o1, .int o2, .int (nI po), .int (nI rs), .int ca])), (s0, .inl (y 1, 72, .inl (fun j9 => nI (V j9))))]) hD [0, 1] rfl
    refine va_calli (va_runV (As := [.int (nI k)]) (rest := []) ⟨hx, hb, hml, hown, hts⟩ (c_X7_brings l D y g s0 a0 b0 x0 (kpN kn) L ta wr le o1 o2 po rs ca V hI k (by omega) (by omega)) (cwV 1 hts gX7_bring_X7_brings rfl rfl rfl hd_X7_brings ⟨Nat.le_of_ble_eq_true rfl, Nat.le_of_ble_eq_true rfl⟩) (xpv_w hK hP hD [0, 1] 0 rfl rfl rfl rfl rfl) rfl rfl hl.1 rfl (lv_room (Nat.le_of_ble_eq_true rfl)) dX7_bring_18 ⟨Nat.zero_le _, Nat.zero_le _⟩) hS (fun q _ h => hFc q h) hFc (fun r3 u3 t H locs ht hvm hw3 hB hz1 hk1 hS1 => ?_)
    have hB : va_P D vwCl [(g, .inr (7, [.ref s0, .ref a0, .ref b0, .int (nI (kpN kn)), .ref x0, .int (nI L), .int (nI ta), .int (nI wr), .int (nI le), .int o1, .int o2, .int (nI po), .int (nI rs), .int ca])), (s0, .inl (y 1, 72, .inl (fun j9 => nI ((brV V k) j9))))] t.heap := hB
    rw [ht] at hB
    have hw3 : r3 = nI (ans V k) := hw3
    have hJ := xj_join (ws2 := [(g, .inr (7, [.ref s0, .ref a0, .ref b0, .int (nI (kpN kn)), .ref x0, .int (nI L), .int (nI ta), .int (nI wr), .int (nI le), .int o1, .int o2, .int (nI po), .int (nI rs), .int ca])), (s0, .inl (y 1, 72, .inl (fun j9 => nI ((brV V k) j9)))), (b0, .inl (y 1, 288, .inl (fun j9 => nI (u2 j9))))]) hP hD [0, 1] [2] rfl rfl rfl rfl rfl rfl hk1 hB
    clear hP hD hS hB hk1 hz1 hFc hvm ht
    obtain ⟨hP, hD⟩ := hJ
    have hS := hS1
    clear hS1
    subst hw3
    have hxv : ¬ ansI V (nI k) < 0 := by rw [ansI_n hk (by omega)]; exact nI_pos (by have := ans_le (V := V) (h := k); omega)
    have e1 : ansI V (nI k) = nI (ans V k) ∧ ofV V (nI k) = brV V k := ⟨ansI_n hk (by omega), of_br hk hz9⟩
    subst hQe
    exact xw_i hx hb hr hlocks u2 hS dX7_bring_21 (⟨e1.1.symm, by rw [stN_p hxv, stB_p hxv]; exact hw2⟩) (fun t ht => by rw [ht]; exact (by rw [stV_p hxv, stN_p hxv, e1.2]; exact hP))
  · refine lv_iload_n hx hb dX7_bring_10 rfl (lv_at hl 0 rfl) ?_
    have hx9 := Int32.not_le.mp kc7
    have hb9 := bf_neg hsz hx9
    have hv9 := of_no hsz hx9
    have hxv : ansI V x < 0 := by rw [← hb9]; exact hx9
    subst hQe
    exact xw_i hx hb hr hlocks Bf hS dX7_bring_11 (⟨hb9, by rw [stN_n hxv, stB_n hxv]; exact hB0⟩) (fun t ht => by rw [ht]; exact (by rw [stV_n hxv, stN_n hxv]; exact hP))
set_option maxHeartbeats 8000000 in
set_option maxRecDepth 100000 in
theorem c_X7_set (l : Launch) (D : va_G) (y : Nat → ClassId) (g s0 a0 b0 x0 kn L ta wr le : Nat) (o1 o2 : Int32) (po rs : Nat) (ca : Int32) (V : Nat → Nat) (hI : Inv V) (Bf : Nat → Nat) (Bk : Nat → Nat → Nat) (hB0 : RepB kn Bk Bf) (hk4 : kn ≤ 4) (x : Int32) (w : Int32) : Met l yX7_set wsX7_set ({ frames := 1, cells := 0, slots := 0, locals := 23 }) (va_Pc [.ref g, .int x, .int w] (xPw D y [(g, .inr (7, [.ref s0, .ref a0, .ref b0, .int (nI kn), .ref x0, .int (nI L), .int (nI ta), .int (nI wr), .int (nI le), .int o1, .int o2, .int (nI po), .int (nI rs), .int ca])), (s0, .inl (y 1, 72, .inl (fun j9 => nI (V j9)))), (b0, .inl (y 1, 288, .inl (fun j9 => nI (Bf j9))))])) (va_Qi (fun r (u : Nat → Nat) => r = adI V x w ∧ RepB (stN (adI V x w) kn) (stB (adI V x w) kn Bk V) u) (fun (u : Nat → Nat) t => va_P D vwCl [(g, .inr (7, [.ref s0, .ref a0, .ref b0, .int (nI (stN (adI V x w) kn)), .ref x0, .int (nI L), .int (nI ta), .int (nI wr), .int (nI le), .int o1, .int o2, .int (nI po), .int (nI rs), .int ca])), (s0, .inl (y 1, 72, .inl (fun j9 => nI ((stV (adI V x w) V (adV V x w)) j9)))), (b0, .inl (y 1, 288, .inl (fun j9 => nI (u j9))))] t.heap) (xIn [(g, .inr (7, [.ref s0, .ref a0, .ref b0, .int (nI kn), .ref x0, .int (nI L), .int (nI ta), .int (nI wr), .int (nI le), .int o1, .int o2, .int (nI po), .int (nI rs), .int ca])), (s0, .inl (y 1, 72, .inl (fun j9 => nI (V j9)))), (b0, .inl (y 1, 288, .inl (fun j9 => nI (Bf j9))))])) 0 0 (xIn [(g, .inr (7, [.ref s0, .ref a0, .ref b0, .int (nI kn), .ref x0, .int (nI L), .int (nI ta), .int (nI wr), .int (nI le), .int o1, .int o2, .int (nI po), .int (nI rs), .int ca])), (s0, .inl (y 1, 72, .inl (fun j9 => nI (V j9)))), (b0, .inl (y 1, 288, .inl (fun j9 => nI (Bf j9))))]) := by
  refine Met.ofW (cc := cX7_set) (maxL := 5) (ret := (some .int)) (by decide) rfl ?_
  intro p e s m args below meth c s₁ B hml hv
  obtain ⟨rfl, hP, hK, hD0⟩ := hv
  have hx := B.exec
  have hb := B.bytes
  have hr := B.returns
  have hts := atoms_spec (ws := wsX7_set) B.pre
  have hown : s.vm.findClass RX7 = some m.cls := findClass_of_methodNamed B.named
  have hlocks := B.notSynchronized
  have f_51 := hts (.constant RX7 51 (-1000001)) (by decide +kernel)
  have hD := xD_self hD0
  generalize hAe : xIn [(g, .inr (7, [.ref s0, .ref a0, .ref b0, .int (nI kn), .ref x0, .int (nI L), .int (nI ta), .int (nI wr), .int (nI le), .int o1, .int o2, .int (nI po), .int (nI rs), .int ca])), (s0, .inl (y 1, 72, .inl (fun j9 => nI (V j9)))), (b0, .inl (y 1, 288, .inl (fun j9 => nI (Bf j9))))] = A at hD ⊢
  have hS : va_S A s.heap s.heap [] := va_S.rf
  have hP : va_P D vwCl [(g, .inr (7, [.ref s0, .ref a0, .ref b0, .int (nI kn), .ref x0, .int (nI L), .int (nI ta), .int (nI wr), .int (nI le), .int o1, .int o2, .int (nI po), .int (nI rs), .int ca])), (s0, .inl (y 1, 72, .inl (fun j9 => nI (V j9)))), (b0, .inl (y 1, 288, .inl (fun j9 => nI (Bf j9))))] s.heap := hP
  have hl := lv_entry ([.ref g, .int x, .int w]) (n := 5) (Nat.le_of_ble_eq_true rfl)
  rw [lg_entry_eq]
  generalize (lg_sl ([.ref g, .int x, .int w]) ++ List.replicate (5 - (lg_sl ([.ref g, .int x, .int w])).length) Slot.unset).toArray = ls at hl ⊢
  have hl : lv_has ls 5 [(0, .ref g), (1, .int x), (2, .int w)] := hl
  generalize hQe : (MQ below (va_Qi (fun r (u : Nat → Nat) => r = adI V x w ∧ RepB (stN (adI V x w) kn) (stB (adI V x w) kn Bk V) u) (fun (u : Nat → Nat) t => va_P D vwCl [(g, .inr (7, [.ref s0, .ref a0, .ref b0, .int (nI (stN (adI V x w) kn)), .ref x0, .int (nI L), .int (nI ta), .int (nI wr), .int (nI le), .int o1, .int o2, .int (nI po), .int (nI rs), .int ca])), (s0, .inl (y 1, 72, .inl (fun j9 => nI ((stV (adI V x w) V (adV V x w)) j9)))), (b0, .inl (y 1, 288, .inl (fun j9 => nI (u j9))))] t.heap) A) ([.ref g, .int x, .int w] : List Value).toArray s 0 0 A) = Q
  have hsz := hI.sz
  by_cases hx4 : inR x 4
  · obtain ⟨k, hk, rfl⟩ := inR_k (by decide) hx4
    rcases (show k = 0 ∨ k = 1 ∨ k = 2 ∨ k = 3 by omega) with rfl | rfl | rfl | rfl
    · refine lv_iload_n hx hb dX7_set_0 rfl (lv_at hl 1 rfl) ?_
      refine lv_if_ne (tgt := 8) hx hb dX7_set_1 (by decide) (fun h => absurd h (by decide)) (fun _ => ?_)
      refine lv_iconst (v := nI 2) hx hb dX7_set_4 (by decide) ?_
      refine lv_goto (tgt := 18) hx hb dX7_set_5 (by decide) ?_
      refine lv_istore_n (lv' := [(3, .int (nI 2)), (0, .ref g), (1, .int (nI 0)), (2, .int w)]) hx hb dX7_set_18 rfl hl (by decide) rfl (fun ls hl => ?_)
      refine lv_iload_n hx hb dX7_set_19 rfl (lv_at hl 2 rfl) ?_
      refine lv_iconst (v := nI 2) hx hb dX7_set_20 (by decide) ?_
      refine lv_icmp_ne (tgt := 29) hx hb dX7_set_21 (by decide) (fun _ => ?_) (fun h => absurd h (by decide))
      refine lv_iload_n hx hb dX7_set_29 rfl (lv_at hl 2 rfl) ?_
      refine lv_iconst (v := nI 3) hx hb dX7_set_30 (by decide) ?_
      refine lv_icmp_ne (tgt := 39) hx hb dX7_set_31 (by decide) (fun _ => ?_) (fun h => absurd h (by decide))
      refine lv_bipush (v := nI 8) hx hb dX7_set_39 (by decide) ?_
      refine lv_istore (lv' := [(4, .int (nI 8)), (3, .int (nI 2)), (0, .ref g), (1, .int (nI 0)), (2, .int w)]) hx hb dX7_set_41 hl (by decide) rfl (fun ls hl => ?_)
      refine lv_iload_n hx hb dX7_set_43 rfl (lv_at hl 3 rfl) ?_
      refine lv_iconst (v := nI 0) hx hb dX7_set_44 (by decide) ?_
      refine lv_iconst (v := nI 3) hx hb dX7_set_45 (by decide) ?_
      refine xc_S (As := [.int (nI 0), .int (nI 0), .int (nI 3)]) (rest := []) ⟨hx, hb, hml, hown, hts⟩ (c_X7_in l (nI 0) (nI 0) (nI 3)) (va_cwS 3 hts gX7_set_X7_in rfl rfl rfl hd_X7_in.2 ⟨Nat.le_of_ble_eq_true rfl, Nat.le_of_ble_eq_true rfl⟩) xps_0 rfl hl.1 rfl (Nat.le_of_ble_eq_true rfl) dX7_set_46 ⟨Nat.zero_le _, Nat.zero_le _⟩ (fun r1 hr1 => ?_)
      subst hr1
      refine xn_if_eq hx hb (Nat.lt_trans bN_lt (by decide)) (tgt := 62) dX7_set_49 (by decide) (fun h => absurd h (by decide)) (fun kc49 => ?_)
      refine lv_iload_n hx hb dX7_set_52 rfl (lv_at hl 4 rfl) ?_
      refine lv_iload_n hx hb dX7_set_53 rfl (lv_at hl 1 rfl) ?_
      refine lv_iload hx hb dX7_set_54 (lv_at hl 0 rfl) ?_
      refine xc_S (As := [.int w, .int (nI 2), .int (nI 8)]) (rest := []) ⟨hx, hb, hml, hown, hts⟩ (c_X7_in l w (nI 2) (nI 8)) (va_cwS 3 hts gX7_set_X7_in rfl rfl rfl hd_X7_in.2 ⟨Nat.le_of_ble_eq_true rfl, Nat.le_of_ble_eq_true rfl⟩) xps_0 rfl hl.1 rfl (Nat.le_of_ble_eq_true rfl) dX7_set_56 ⟨Nat.zero_le _, Nat.zero_le _⟩ (fun r2 hr2 => ?_)
      subst hr2
      refine xn_if_ne hx hb (Nat.lt_trans bN_lt (by decide)) (tgt := 65) dX7_set_59 (by decide) (fun kc59 => ?_) (fun kc59 => ?_)
      · obtain ⟨j, hj1, hj2, rfl⟩ := ink (bN_n0.mp kc59) (by decide)
        refine lv_aload_n hx hb dX7_set_65 rfl (lv_at hl 2 rfl) ?_
        have hFc := xD_in (W0 := [(g, .inr (7, [.ref s0, .ref a0, .ref b0, .int (nI kn), .ref x0, .int (nI L), .int (nI ta), .int (nI wr), .int (nI le), .int o1, .int o2, .int (nI po), .int (nI rs), .int ca])), (s0, .inl (y 1, 72, .inl (fun j9 => nI (V j9)))), (b0, .inl (y 1, 288, .inl (fun j9 => nI (Bf j9))))]) hD [0, 1, 2] rfl
        refine va_callv (va_runV (As := []) (rest := []) ⟨hx, hb, hml, hown, hts⟩ (c_X7_know l D y g s0 a0 b0 x0 kn L ta wr le o1 o2 po rs ca V Bf Bk hB0 hk4) (cwV 0 hts gX7_set_X7_know rfl rfl rfl hd_X7_know ⟨Nat.le_of_ble_eq_true rfl, Nat.le_of_ble_eq_true rfl⟩) (xpv_w hK hP hD [0, 1, 2] 0 rfl rfl rfl rfl rfl) rfl rfl hl.1 rfl (lv_room (Nat.le_of_ble_eq_true rfl)) dX7_set_66 ⟨Nat.zero_le _, Nat.zero_le _⟩) hS (fun q _ h => hFc q h) hFc (fun u3 t H locs ht hvm hw3 hB hz1 hk1 hS1 => ?_)
        have hB : va_P D vwCl [(g, .inr (7, [.ref s0, .ref a0, .ref b0, .int (nI (kpN kn)), .ref x0, .int (nI L), .int (nI ta), .int (nI wr), .int (nI le), .int o1, .int o2, .int (nI po), .int (nI rs), .int ca])), (s0, .inl (y 1, 72, .inl (fun j9 => nI (V j9)))), (b0, .inl (y 1, 288, .inl (fun j9 => nI (u3 j9))))] t.heap := hB
        rw [ht] at hB
        have hw3 : RepB (kpN kn) (knB kn Bk V) u3 := hw3
        have hJ := xj_join (ws2 := [(g, .inr (7, [.ref s0, .ref a0, .ref b0, .int (nI (kpN kn)), .ref x0, .int (nI L), .int (nI ta), .int (nI wr), .int (nI le), .int o1, .int o2, .int (nI po), .int (nI rs), .int ca])), (s0, .inl (y 1, 72, .inl (fun j9 => nI (V j9)))), (b0, .inl (y 1, 288, .inl (fun j9 => nI (u3 j9))))]) hP hD [0, 1, 2] [] rfl rfl rfl rfl rfl rfl hk1 hB
        clear hP hD hS hB hk1 hz1 hFc hvm ht
        obtain ⟨hP, hD⟩ := hJ
        have hS := hS1
        clear hS1
        refine lv_aload_n hx hb dX7_set_69 rfl (lv_at hl 2 rfl) ?_
        refine lv_bipush (v := nI 68) hx hb dX7_set_70 (by decide) ?_
        refine lv_iload_n hx hb dX7_set_72 rfl (lv_at hl 3 rfl) ?_
        refine xn_add hx hb (r := 68) rfl dX7_set_73 ?_
        refine lv_iload_n hx hb dX7_set_74 rfl (lv_at hl 4 rfl) ?_
        have hFc := xD_in (W0 := [(g, .inr (7, [.ref s0, .ref a0, .ref b0, .int (nI (kpN kn)), .ref x0, .int (nI L), .int (nI ta), .int (nI wr), .int (nI le), .int o1, .int o2, .int (nI po), .int (nI rs), .int ca])), (s0, .inl (y 1, 72, .inl (fun j9 => nI (V j9))))]) hD [0, 1] rfl
        refine va_calli (va_runV (As := [.int (nI 68), .int (nI j)]) (rest := []) ⟨hx, hb, hml, hown, hts⟩ (c_X7_puts l D y g s0 a0 b0 x0 (kpN kn) L ta wr le o1 o2 po rs ca V 68 j (by omega)) (cwV 2 hts gX7_set_X7_puts rfl rfl rfl hd_X7_puts ⟨Nat.le_of_ble_eq_true rfl, Nat.le_of_ble_eq_true rfl⟩) (xpv_w hK hP hD [0, 1] 0 rfl rfl rfl rfl rfl) rfl rfl hl.1 rfl (lv_room (Nat.le_of_ble_eq_true rfl)) dX7_set_75 ⟨Nat.zero_le _, Nat.zero_le _⟩) hS (fun q _ h => hFc q h) hFc (fun r4 u4 t H locs ht hvm hw4 hB hz1 hk1 hS1 => ?_)
        have hB : va_P D vwCl [(g, .inr (7, [.ref s0, .ref a0, .ref b0, .int (nI (kpN kn)), .ref x0, .int (nI L), .int (nI ta), .int (nI wr), .int (nI le), .int o1, .int o2, .int (nI po), .int (nI rs), .int ca])), (s0, .inl (y 1, 72, .inl (fun j9 => nI ((uN V 68 j) j9))))] t.heap := hB
        rw [ht] at hB
        have hw4 : r4 = nI (V 68) := hw4
        have hJ := xj_join (ws2 := [(g, .inr (7, [.ref s0, .ref a0, .ref b0, .int (nI (kpN kn)), .ref x0, .int (nI L), .int (nI ta), .int (nI wr), .int (nI le), .int o1, .int o2, .int (nI po), .int (nI rs), .int ca])), (s0, .inl (y 1, 72, .inl (fun j9 => nI ((uN V 68 j) j9)))), (b0, .inl (y 1, 288, .inl (fun j9 => nI (u3 j9))))]) hP hD [0, 1] [2] rfl rfl rfl rfl rfl rfl hk1 hB
        clear hP hD hS hB hk1 hz1 hFc hvm ht
        obtain ⟨hP, hD⟩ := hJ
        have hS := hS1
        clear hS1
        subst hw4
        have e1 := ad_t (V := V) (k := 0) (j := j) (by decide) hj1 hj2
        have hxv : ¬ adI V (nI 0) (nI j) < 0 := by rw [e1.1]; exact nI_pos (by have a0 := hI.s0; have a1 := hI.s1; have a2 := hI.s2; have a3 := hI.s3; show V 68 < 2 ^ 31; omega)
        subst hQe
        exact xw_i hx hb hr hlocks u3 hS dX7_set_78 (⟨e1.1.symm, by rw [stN_p hxv, stB_p hxv]; exact hw3⟩) (fun t ht => by rw [ht]; exact (by rw [stV_p hxv, stN_p hxv, e1.2]; exact hP))
      · refine lv_ldc hx hb hown f_51 dX7_set_62 ?_
        have ef := ad_f (V := V) (x := nI 0) (z := w) (ad_no (by decide) (bN_0.mp kc59))
        have hxv : adI V (nI 0) w < 0 := by rw [ef.1]; decide
        subst hQe
        exact xw_i hx hb hr hlocks Bf hS dX7_set_64 (⟨ef.1.symm, by rw [stN_n hxv, stB_n hxv]; exact hB0⟩) (fun t ht => by rw [ht]; exact (by rw [stV_n hxv, stN_n hxv]; exact hP))
    · refine lv_iload_n hx hb dX7_set_0 rfl (lv_at hl 1 rfl) ?_
      refine lv_if_ne (tgt := 8) hx hb dX7_set_1 (by decide) (fun _ => ?_) (fun h => absurd h (by decide))
      refine lv_iload_n hx hb dX7_set_8 rfl (lv_at hl 1 rfl) ?_
      refine lv_iconst (v := nI 2) hx hb dX7_set_9 (by decide) ?_
      refine lv_icmp_ne (tgt := 17) hx hb dX7_set_10 (by decide) (fun _ => ?_) (fun h => absurd h (by decide))
      refine lv_iconst (v := nI 1) hx hb dX7_set_17 (by decide) ?_
      refine lv_istore_n (lv' := [(3, .int (nI 1)), (0, .ref g), (1, .int (nI 1)), (2, .int w)]) hx hb dX7_set_18 rfl hl (by decide) rfl (fun ls hl => ?_)
      refine lv_iload_n hx hb dX7_set_19 rfl (lv_at hl 2 rfl) ?_
      refine lv_iconst (v := nI 2) hx hb dX7_set_20 (by decide) ?_
      refine lv_icmp_ne (tgt := 29) hx hb dX7_set_21 (by decide) (fun _ => ?_) (fun h => absurd h (by decide))
      refine lv_iload_n hx hb dX7_set_29 rfl (lv_at hl 2 rfl) ?_
      refine lv_iconst (v := nI 3) hx hb dX7_set_30 (by decide) ?_
      refine lv_icmp_ne (tgt := 39) hx hb dX7_set_31 (by decide) (fun _ => ?_) (fun h => absurd h (by decide))
      refine lv_bipush (v := nI 8) hx hb dX7_set_39 (by decide) ?_
      refine lv_istore (lv' := [(4, .int (nI 8)), (3, .int (nI 1)), (0, .ref g), (1, .int (nI 1)), (2, .int w)]) hx hb dX7_set_41 hl (by decide) rfl (fun ls hl => ?_)
      refine lv_iload_n hx hb dX7_set_43 rfl (lv_at hl 3 rfl) ?_
      refine lv_iconst (v := nI 0) hx hb dX7_set_44 (by decide) ?_
      refine lv_iconst (v := nI 3) hx hb dX7_set_45 (by decide) ?_
      refine xc_S (As := [.int (nI 1), .int (nI 0), .int (nI 3)]) (rest := []) ⟨hx, hb, hml, hown, hts⟩ (c_X7_in l (nI 1) (nI 0) (nI 3)) (va_cwS 3 hts gX7_set_X7_in rfl rfl rfl hd_X7_in.2 ⟨Nat.le_of_ble_eq_true rfl, Nat.le_of_ble_eq_true rfl⟩) xps_0 rfl hl.1 rfl (Nat.le_of_ble_eq_true rfl) dX7_set_46 ⟨Nat.zero_le _, Nat.zero_le _⟩ (fun r5 hr5 => ?_)
      subst hr5
      refine xn_if_eq hx hb (Nat.lt_trans bN_lt (by decide)) (tgt := 62) dX7_set_49 (by decide) (fun h => absurd h (by decide)) (fun kc49 => ?_)
      refine lv_iload_n hx hb dX7_set_52 rfl (lv_at hl 4 rfl) ?_
      refine lv_iload_n hx hb dX7_set_53 rfl (lv_at hl 1 rfl) ?_
      refine lv_iload hx hb dX7_set_54 (lv_at hl 0 rfl) ?_
      refine xc_S (As := [.int w, .int (nI 1), .int (nI 8)]) (rest := []) ⟨hx, hb, hml, hown, hts⟩ (c_X7_in l w (nI 1) (nI 8)) (va_cwS 3 hts gX7_set_X7_in rfl rfl rfl hd_X7_in.2 ⟨Nat.le_of_ble_eq_true rfl, Nat.le_of_ble_eq_true rfl⟩) xps_0 rfl hl.1 rfl (Nat.le_of_ble_eq_true rfl) dX7_set_56 ⟨Nat.zero_le _, Nat.zero_le _⟩ (fun r6 hr6 => ?_)
      subst hr6
      refine xn_if_ne hx hb (Nat.lt_trans bN_lt (by decide)) (tgt := 65) dX7_set_59 (by decide) (fun kc59 => ?_) (fun kc59 => ?_)
      · obtain ⟨j, hj1, hj2, rfl⟩ := ink (bN_n0.mp kc59) (by decide)
        refine lv_aload_n hx hb dX7_set_65 rfl (lv_at hl 2 rfl) ?_
        have hFc := xD_in (W0 := [(g, .inr (7, [.ref s0, .ref a0, .ref b0, .int (nI kn), .ref x0, .int (nI L), .int (nI ta), .int (nI wr), .int (nI le), .int o1, .int o2, .int (nI po), .int (nI rs), .int ca])), (s0, .inl (y 1, 72, .inl (fun j9 => nI (V j9)))), (b0, .inl (y 1, 288, .inl (fun j9 => nI (Bf j9))))]) hD [0, 1, 2] rfl
        refine va_callv (va_runV (As := []) (rest := []) ⟨hx, hb, hml, hown, hts⟩ (c_X7_know l D y g s0 a0 b0 x0 kn L ta wr le o1 o2 po rs ca V Bf Bk hB0 hk4) (cwV 0 hts gX7_set_X7_know rfl rfl rfl hd_X7_know ⟨Nat.le_of_ble_eq_true rfl, Nat.le_of_ble_eq_true rfl⟩) (xpv_w hK hP hD [0, 1, 2] 0 rfl rfl rfl rfl rfl) rfl rfl hl.1 rfl (lv_room (Nat.le_of_ble_eq_true rfl)) dX7_set_66 ⟨Nat.zero_le _, Nat.zero_le _⟩) hS (fun q _ h => hFc q h) hFc (fun u7 t H locs ht hvm hw7 hB hz1 hk1 hS1 => ?_)
        have hB : va_P D vwCl [(g, .inr (7, [.ref s0, .ref a0, .ref b0, .int (nI (kpN kn)), .ref x0, .int (nI L), .int (nI ta), .int (nI wr), .int (nI le), .int o1, .int o2, .int (nI po), .int (nI rs), .int ca])), (s0, .inl (y 1, 72, .inl (fun j9 => nI (V j9)))), (b0, .inl (y 1, 288, .inl (fun j9 => nI (u7 j9))))] t.heap := hB
        rw [ht] at hB
        have hw7 : RepB (kpN kn) (knB kn Bk V) u7 := hw7
        have hJ := xj_join (ws2 := [(g, .inr (7, [.ref s0, .ref a0, .ref b0, .int (nI (kpN kn)), .ref x0, .int (nI L), .int (nI ta), .int (nI wr), .int (nI le), .int o1, .int o2, .int (nI po), .int (nI rs), .int ca])), (s0, .inl (y 1, 72, .inl (fun j9 => nI (V j9)))), (b0, .inl (y 1, 288, .inl (fun j9 => nI (u7 j9))))]) hP hD [0, 1, 2] [] rfl rfl rfl rfl rfl rfl hk1 hB
        clear hP hD hS hB hk1 hz1 hFc hvm ht
        obtain ⟨hP, hD⟩ := hJ
        have hS := hS1
        clear hS1
        refine lv_aload_n hx hb dX7_set_69 rfl (lv_at hl 2 rfl) ?_
        refine lv_bipush (v := nI 68) hx hb dX7_set_70 (by decide) ?_
        refine lv_iload_n hx hb dX7_set_72 rfl (lv_at hl 3 rfl) ?_
        refine xn_add hx hb (r := 69) rfl dX7_set_73 ?_
        refine lv_iload_n hx hb dX7_set_74 rfl (lv_at hl 4 rfl) ?_
        have hFc := xD_in (W0 := [(g, .inr (7, [.ref s0, .ref a0, .ref b0, .int (nI (kpN kn)), .ref x0, .int (nI L), .int (nI ta), .int (nI wr), .int (nI le), .int o1, .int o2, .int (nI po), .int (nI rs), .int ca])), (s0, .inl (y 1, 72, .inl (fun j9 => nI (V j9))))]) hD [0, 1] rfl
        refine va_calli (va_runV (As := [.int (nI 69), .int (nI j)]) (rest := []) ⟨hx, hb, hml, hown, hts⟩ (c_X7_puts l D y g s0 a0 b0 x0 (kpN kn) L ta wr le o1 o2 po rs ca V 69 j (by omega)) (cwV 2 hts gX7_set_X7_puts rfl rfl rfl hd_X7_puts ⟨Nat.le_of_ble_eq_true rfl, Nat.le_of_ble_eq_true rfl⟩) (xpv_w hK hP hD [0, 1] 0 rfl rfl rfl rfl rfl) rfl rfl hl.1 rfl (lv_room (Nat.le_of_ble_eq_true rfl)) dX7_set_75 ⟨Nat.zero_le _, Nat.zero_le _⟩) hS (fun q _ h => hFc q h) hFc (fun r8 u8 t H locs ht hvm hw8 hB hz1 hk1 hS1 => ?_)
        have hB : va_P D vwCl [(g, .inr (7, [.ref s0, .ref a0, .ref b0, .int (nI (kpN kn)), .ref x0, .int (nI L), .int (nI ta), .int (nI wr), .int (nI le), .int o1, .int o2, .int (nI po), .int (nI rs), .int ca])), (s0, .inl (y 1, 72, .inl (fun j9 => nI ((uN V 69 j) j9))))] t.heap := hB
        rw [ht] at hB
        have hw8 : r8 = nI (V 69) := hw8
        have hJ := xj_join (ws2 := [(g, .inr (7, [.ref s0, .ref a0, .ref b0, .int (nI (kpN kn)), .ref x0, .int (nI L), .int (nI ta), .int (nI wr), .int (nI le), .int o1, .int o2, .int (nI po), .int (nI rs), .int ca])), (s0, .inl (y 1, 72, .inl (fun j9 => nI ((uN V 69 j) j9)))), (b0, .inl (y 1, 288, .inl (fun j9 => nI (u7 j9))))]) hP hD [0, 1] [2] rfl rfl rfl rfl rfl rfl hk1 hB
        clear hP hD hS hB hk1 hz1 hFc hvm ht
        obtain ⟨hP, hD⟩ := hJ
        have hS := hS1
        clear hS1
        subst hw8
        have e1 := ad_t (V := V) (k := 1) (j := j) (by decide) hj1 hj2
        have hxv : ¬ adI V (nI 1) (nI j) < 0 := by rw [e1.1]; exact nI_pos (by have a0 := hI.s0; have a1 := hI.s1; have a2 := hI.s2; have a3 := hI.s3; show V 69 < 2 ^ 31; omega)
        subst hQe
        exact xw_i hx hb hr hlocks u7 hS dX7_set_78 (⟨e1.1.symm, by rw [stN_p hxv, stB_p hxv]; exact hw7⟩) (fun t ht => by rw [ht]; exact (by rw [stV_p hxv, stN_p hxv, e1.2]; exact hP))
      · refine lv_ldc hx hb hown f_51 dX7_set_62 ?_
        have ef := ad_f (V := V) (x := nI 1) (z := w) (ad_no (by decide) (bN_0.mp kc59))
        have hxv : adI V (nI 1) w < 0 := by rw [ef.1]; decide
        subst hQe
        exact xw_i hx hb hr hlocks Bf hS dX7_set_64 (⟨ef.1.symm, by rw [stN_n hxv, stB_n hxv]; exact hB0⟩) (fun t ht => by rw [ht]; exact (by rw [stV_n hxv, stN_n hxv]; exact hP))
    · refine lv_iload_n hx hb dX7_set_0 rfl (lv_at hl 1 rfl) ?_
      refine lv_if_ne (tgt := 8) hx hb dX7_set_1 (by decide) (fun _ => ?_) (fun h => absurd h (by decide))
      refine lv_iload_n hx hb dX7_set_8 rfl (lv_at hl 1 rfl) ?_
      refine lv_iconst (v := nI 2) hx hb dX7_set_9 (by decide) ?_
      refine lv_icmp_ne (tgt := 17) hx hb dX7_set_10 (by decide) (fun h => absurd h (by decide)) (fun _ => ?_)
      refine lv_iconst (v := nI 0) hx hb dX7_set_13 (by decide) ?_
      refine lv_goto (tgt := 18) hx hb dX7_set_14 (by decide) ?_
      refine lv_istore_n (lv' := [(3, .int (nI 0)), (0, .ref g), (1, .int (nI 2)), (2, .int w)]) hx hb dX7_set_18 rfl hl (by decide) rfl (fun ls hl => ?_)
      refine lv_iload_n hx hb dX7_set_19 rfl (lv_at hl 2 rfl) ?_
      refine lv_iconst (v := nI 2) hx hb dX7_set_20 (by decide) ?_
      refine lv_icmp_ne (tgt := 29) hx hb dX7_set_21 (by decide) (fun h => absurd h (by decide)) (fun _ => ?_)
      refine lv_bipush (v := nI 28) hx hb dX7_set_24 (by decide) ?_
      refine lv_goto (tgt := 41) hx hb dX7_set_26 (by decide) ?_
      refine lv_istore (lv' := [(4, .int (nI 28)), (3, .int (nI 0)), (0, .ref g), (1, .int (nI 2)), (2, .int w)]) hx hb dX7_set_41 hl (by decide) rfl (fun ls hl => ?_)
      refine lv_iload_n hx hb dX7_set_43 rfl (lv_at hl 3 rfl) ?_
      refine lv_iconst (v := nI 0) hx hb dX7_set_44 (by decide) ?_
      refine lv_iconst (v := nI 3) hx hb dX7_set_45 (by decide) ?_
      refine xc_S (As := [.int (nI 2), .int (nI 0), .int (nI 3)]) (rest := []) ⟨hx, hb, hml, hown, hts⟩ (c_X7_in l (nI 2) (nI 0) (nI 3)) (va_cwS 3 hts gX7_set_X7_in rfl rfl rfl hd_X7_in.2 ⟨Nat.le_of_ble_eq_true rfl, Nat.le_of_ble_eq_true rfl⟩) xps_0 rfl hl.1 rfl (Nat.le_of_ble_eq_true rfl) dX7_set_46 ⟨Nat.zero_le _, Nat.zero_le _⟩ (fun r9 hr9 => ?_)
      subst hr9
      refine xn_if_eq hx hb (Nat.lt_trans bN_lt (by decide)) (tgt := 62) dX7_set_49 (by decide) (fun h => absurd h (by decide)) (fun kc49 => ?_)
      refine lv_iload_n hx hb dX7_set_52 rfl (lv_at hl 4 rfl) ?_
      refine lv_iload_n hx hb dX7_set_53 rfl (lv_at hl 1 rfl) ?_
      refine lv_iload hx hb dX7_set_54 (lv_at hl 0 rfl) ?_
      refine xc_S (As := [.int w, .int (nI 0), .int (nI 28)]) (rest := []) ⟨hx, hb, hml, hown, hts⟩ (c_X7_in l w (nI 0) (nI 28)) (va_cwS 3 hts gX7_set_X7_in rfl rfl rfl hd_X7_in.2 ⟨Nat.le_of_ble_eq_true rfl, Nat.le_of_ble_eq_true rfl⟩) xps_0 rfl hl.1 rfl (Nat.le_of_ble_eq_true rfl) dX7_set_56 ⟨Nat.zero_le _, Nat.zero_le _⟩ (fun r10 hr10 => ?_)
      subst hr10
      refine xn_if_ne hx hb (Nat.lt_trans bN_lt (by decide)) (tgt := 65) dX7_set_59 (by decide) (fun kc59 => ?_) (fun kc59 => ?_)
      · obtain ⟨j, hj1, hj2, rfl⟩ := ink (bN_n0.mp kc59) (by decide)
        refine lv_aload_n hx hb dX7_set_65 rfl (lv_at hl 2 rfl) ?_
        have hFc := xD_in (W0 := [(g, .inr (7, [.ref s0, .ref a0, .ref b0, .int (nI kn), .ref x0, .int (nI L), .int (nI ta), .int (nI wr), .int (nI le), .int o1, .int o2, .int (nI po), .int (nI rs), .int ca])), (s0, .inl (y 1, 72, .inl (fun j9 => nI (V j9)))), (b0, .inl (y 1, 288, .inl (fun j9 => nI (Bf j9))))]) hD [0, 1, 2] rfl
        refine va_callv (va_runV (As := []) (rest := []) ⟨hx, hb, hml, hown, hts⟩ (c_X7_know l D y g s0 a0 b0 x0 kn L ta wr le o1 o2 po rs ca V Bf Bk hB0 hk4) (cwV 0 hts gX7_set_X7_know rfl rfl rfl hd_X7_know ⟨Nat.le_of_ble_eq_true rfl, Nat.le_of_ble_eq_true rfl⟩) (xpv_w hK hP hD [0, 1, 2] 0 rfl rfl rfl rfl rfl) rfl rfl hl.1 rfl (lv_room (Nat.le_of_ble_eq_true rfl)) dX7_set_66 ⟨Nat.zero_le _, Nat.zero_le _⟩) hS (fun q _ h => hFc q h) hFc (fun u11 t H locs ht hvm hw11 hB hz1 hk1 hS1 => ?_)
        have hB : va_P D vwCl [(g, .inr (7, [.ref s0, .ref a0, .ref b0, .int (nI (kpN kn)), .ref x0, .int (nI L), .int (nI ta), .int (nI wr), .int (nI le), .int o1, .int o2, .int (nI po), .int (nI rs), .int ca])), (s0, .inl (y 1, 72, .inl (fun j9 => nI (V j9)))), (b0, .inl (y 1, 288, .inl (fun j9 => nI (u11 j9))))] t.heap := hB
        rw [ht] at hB
        have hw11 : RepB (kpN kn) (knB kn Bk V) u11 := hw11
        have hJ := xj_join (ws2 := [(g, .inr (7, [.ref s0, .ref a0, .ref b0, .int (nI (kpN kn)), .ref x0, .int (nI L), .int (nI ta), .int (nI wr), .int (nI le), .int o1, .int o2, .int (nI po), .int (nI rs), .int ca])), (s0, .inl (y 1, 72, .inl (fun j9 => nI (V j9)))), (b0, .inl (y 1, 288, .inl (fun j9 => nI (u11 j9))))]) hP hD [0, 1, 2] [] rfl rfl rfl rfl rfl rfl hk1 hB
        clear hP hD hS hB hk1 hz1 hFc hvm ht
        obtain ⟨hP, hD⟩ := hJ
        have hS := hS1
        clear hS1
        refine lv_aload_n hx hb dX7_set_69 rfl (lv_at hl 2 rfl) ?_
        refine lv_bipush (v := nI 68) hx hb dX7_set_70 (by decide) ?_
        refine lv_iload_n hx hb dX7_set_72 rfl (lv_at hl 3 rfl) ?_
        refine xn_add hx hb (r := 70) rfl dX7_set_73 ?_
        refine lv_iload_n hx hb dX7_set_74 rfl (lv_at hl 4 rfl) ?_
        have hFc := xD_in (W0 := [(g, .inr (7, [.ref s0, .ref a0, .ref b0, .int (nI (kpN kn)), .ref x0, .int (nI L), .int (nI ta), .int (nI wr), .int (nI le), .int o1, .int o2, .int (nI po), .int (nI rs), .int ca])), (s0, .inl (y 1, 72, .inl (fun j9 => nI (V j9))))]) hD [0, 1] rfl
        refine va_calli (va_runV (As := [.int (nI 70), .int (nI j)]) (rest := []) ⟨hx, hb, hml, hown, hts⟩ (c_X7_puts l D y g s0 a0 b0 x0 (kpN kn) L ta wr le o1 o2 po rs ca V 70 j (by omega)) (cwV 2 hts gX7_set_X7_puts rfl rfl rfl hd_X7_puts ⟨Nat.le_of_ble_eq_true rfl, Nat.le_of_ble_eq_true rfl⟩) (xpv_w hK hP hD [0, 1] 0 rfl rfl rfl rfl rfl) rfl rfl hl.1 rfl (lv_room (Nat.le_of_ble_eq_true rfl)) dX7_set_75 ⟨Nat.zero_le _, Nat.zero_le _⟩) hS (fun q _ h => hFc q h) hFc (fun r12 u12 t H locs ht hvm hw12 hB hz1 hk1 hS1 => ?_)
        have hB : va_P D vwCl [(g, .inr (7, [.ref s0, .ref a0, .ref b0, .int (nI (kpN kn)), .ref x0, .int (nI L), .int (nI ta), .int (nI wr), .int (nI le), .int o1, .int o2, .int (nI po), .int (nI rs), .int ca])), (s0, .inl (y 1, 72, .inl (fun j9 => nI ((uN V 70 j) j9))))] t.heap := hB
        rw [ht] at hB
        have hw12 : r12 = nI (V 70) := hw12
        have hJ := xj_join (ws2 := [(g, .inr (7, [.ref s0, .ref a0, .ref b0, .int (nI (kpN kn)), .ref x0, .int (nI L), .int (nI ta), .int (nI wr), .int (nI le), .int o1, .int o2, .int (nI po), .int (nI rs), .int ca])), (s0, .inl (y 1, 72, .inl (fun j9 => nI ((uN V 70 j) j9)))), (b0, .inl (y 1, 288, .inl (fun j9 => nI (u11 j9))))]) hP hD [0, 1] [2] rfl rfl rfl rfl rfl rfl hk1 hB
        clear hP hD hS hB hk1 hz1 hFc hvm ht
        obtain ⟨hP, hD⟩ := hJ
        have hS := hS1
        clear hS1
        subst hw12
        have e1 := ad_t (V := V) (k := 2) (j := j) (by decide) hj1 hj2
        have hxv : ¬ adI V (nI 2) (nI j) < 0 := by rw [e1.1]; exact nI_pos (by have a0 := hI.s0; have a1 := hI.s1; have a2 := hI.s2; have a3 := hI.s3; show V 70 < 2 ^ 31; omega)
        subst hQe
        exact xw_i hx hb hr hlocks u11 hS dX7_set_78 (⟨e1.1.symm, by rw [stN_p hxv, stB_p hxv]; exact hw11⟩) (fun t ht => by rw [ht]; exact (by rw [stV_p hxv, stN_p hxv, e1.2]; exact hP))
      · refine lv_ldc hx hb hown f_51 dX7_set_62 ?_
        have ef := ad_f (V := V) (x := nI 2) (z := w) (ad_no (by decide) (bN_0.mp kc59))
        have hxv : adI V (nI 2) w < 0 := by rw [ef.1]; decide
        subst hQe
        exact xw_i hx hb hr hlocks Bf hS dX7_set_64 (⟨ef.1.symm, by rw [stN_n hxv, stB_n hxv]; exact hB0⟩) (fun t ht => by rw [ht]; exact (by rw [stV_n hxv, stN_n hxv]; exact hP))
    · refine lv_iload_n hx hb dX7_set_0 rfl (lv_at hl 1 rfl) ?_
      refine lv_if_ne (tgt := 8) hx hb dX7_set_1 (by decide) (fun _ => ?_) (fun h => absurd h (by decide))
      refine lv_iload_n hx hb dX7_set_8 rfl (lv_at hl 1 rfl) ?_
      refine lv_iconst (v := nI 2) hx hb dX7_set_9 (by decide) ?_
      refine lv_icmp_ne (tgt := 17) hx hb dX7_set_10 (by decide) (fun _ => ?_) (fun h => absurd h (by decide))
      refine lv_iconst (v := nI 1) hx hb dX7_set_17 (by decide) ?_
      refine lv_istore_n (lv' := [(3, .int (nI 1)), (0, .ref g), (1, .int (nI 3)), (2, .int w)]) hx hb dX7_set_18 rfl hl (by decide) rfl (fun ls hl => ?_)
      refine lv_iload_n hx hb dX7_set_19 rfl (lv_at hl 2 rfl) ?_
      refine lv_iconst (v := nI 2) hx hb dX7_set_20 (by decide) ?_
      refine lv_icmp_ne (tgt := 29) hx hb dX7_set_21 (by decide) (fun _ => ?_) (fun h => absurd h (by decide))
      refine lv_iload_n hx hb dX7_set_29 rfl (lv_at hl 2 rfl) ?_
      refine lv_iconst (v := nI 3) hx hb dX7_set_30 (by decide) ?_
      refine lv_icmp_ne (tgt := 39) hx hb dX7_set_31 (by decide) (fun h => absurd h (by decide)) (fun _ => ?_)
      refine lv_bipush (v := nI 24) hx hb dX7_set_34 (by decide) ?_
      refine lv_goto (tgt := 41) hx hb dX7_set_36 (by decide) ?_
      refine lv_istore (lv' := [(4, .int (nI 24)), (3, .int (nI 1)), (0, .ref g), (1, .int (nI 3)), (2, .int w)]) hx hb dX7_set_41 hl (by decide) rfl (fun ls hl => ?_)
      refine lv_iload_n hx hb dX7_set_43 rfl (lv_at hl 3 rfl) ?_
      refine lv_iconst (v := nI 0) hx hb dX7_set_44 (by decide) ?_
      refine lv_iconst (v := nI 3) hx hb dX7_set_45 (by decide) ?_
      refine xc_S (As := [.int (nI 3), .int (nI 0), .int (nI 3)]) (rest := []) ⟨hx, hb, hml, hown, hts⟩ (c_X7_in l (nI 3) (nI 0) (nI 3)) (va_cwS 3 hts gX7_set_X7_in rfl rfl rfl hd_X7_in.2 ⟨Nat.le_of_ble_eq_true rfl, Nat.le_of_ble_eq_true rfl⟩) xps_0 rfl hl.1 rfl (Nat.le_of_ble_eq_true rfl) dX7_set_46 ⟨Nat.zero_le _, Nat.zero_le _⟩ (fun r13 hr13 => ?_)
      subst hr13
      refine xn_if_eq hx hb (Nat.lt_trans bN_lt (by decide)) (tgt := 62) dX7_set_49 (by decide) (fun h => absurd h (by decide)) (fun kc49 => ?_)
      refine lv_iload_n hx hb dX7_set_52 rfl (lv_at hl 4 rfl) ?_
      refine lv_iload_n hx hb dX7_set_53 rfl (lv_at hl 1 rfl) ?_
      refine lv_iload hx hb dX7_set_54 (lv_at hl 0 rfl) ?_
      refine xc_S (As := [.int w, .int (nI 1), .int (nI 24)]) (rest := []) ⟨hx, hb, hml, hown, hts⟩ (c_X7_in l w (nI 1) (nI 24)) (va_cwS 3 hts gX7_set_X7_in rfl rfl rfl hd_X7_in.2 ⟨Nat.le_of_ble_eq_true rfl, Nat.le_of_ble_eq_true rfl⟩) xps_0 rfl hl.1 rfl (Nat.le_of_ble_eq_true rfl) dX7_set_56 ⟨Nat.zero_le _, Nat.zero_le _⟩ (fun r14 hr14 => ?_)
      subst hr14
      refine xn_if_ne hx hb (Nat.lt_trans bN_lt (by decide)) (tgt := 65) dX7_set_59 (by decide) (fun kc59 => ?_) (fun kc59 => ?_)
      · obtain ⟨j, hj1, hj2, rfl⟩ := ink (bN_n0.mp kc59) (by decide)
        refine lv_aload_n hx hb dX7_set_65 rfl (lv_at hl 2 rfl) ?_
        have hFc := xD_in (W0 := [(g, .inr (7, [.ref s0, .ref a0, .ref b0, .int (nI kn), .ref x0, .int (nI L), .int (nI ta), .int (nI wr), .int (nI le), .int o1, .int o2, .int (nI po), .int (nI rs), .int ca])), (s0, .inl (y 1, 72, .inl (fun j9 => nI (V j9)))), (b0, .inl (y 1, 288, .inl (fun j9 => nI (Bf j9))))]) hD [0, 1, 2] rfl
        refine va_callv (va_runV (As := []) (rest := []) ⟨hx, hb, hml, hown, hts⟩ (c_X7_know l D y g s0 a0 b0 x0 kn L ta wr le o1 o2 po rs ca V Bf Bk hB0 hk4) (cwV 0 hts gX7_set_X7_know rfl rfl rfl hd_X7_know ⟨Nat.le_of_ble_eq_true rfl, Nat.le_of_ble_eq_true rfl⟩) (xpv_w hK hP hD [0, 1, 2] 0 rfl rfl rfl rfl rfl) rfl rfl hl.1 rfl (lv_room (Nat.le_of_ble_eq_true rfl)) dX7_set_66 ⟨Nat.zero_le _, Nat.zero_le _⟩) hS (fun q _ h => hFc q h) hFc (fun u15 t H locs ht hvm hw15 hB hz1 hk1 hS1 => ?_)
        have hB : va_P D vwCl [(g, .inr (7, [.ref s0, .ref a0, .ref b0, .int (nI (kpN kn)), .ref x0, .int (nI L), .int (nI ta), .int (nI wr), .int (nI le), .int o1, .int o2, .int (nI po), .int (nI rs), .int ca])), (s0, .inl (y 1, 72, .inl (fun j9 => nI (V j9)))), (b0, .inl (y 1, 288, .inl (fun j9 => nI (u15 j9))))] t.heap := hB
        rw [ht] at hB
        have hw15 : RepB (kpN kn) (knB kn Bk V) u15 := hw15
        have hJ := xj_join (ws2 := [(g, .inr (7, [.ref s0, .ref a0, .ref b0, .int (nI (kpN kn)), .ref x0, .int (nI L), .int (nI ta), .int (nI wr), .int (nI le), .int o1, .int o2, .int (nI po), .int (nI rs), .int ca])), (s0, .inl (y 1, 72, .inl (fun j9 => nI (V j9)))), (b0, .inl (y 1, 288, .inl (fun j9 => nI (u15 j9))))]) hP hD [0, 1, 2] [] rfl rfl rfl rfl rfl rfl hk1 hB
        clear hP hD hS hB hk1 hz1 hFc hvm ht
        obtain ⟨hP, hD⟩ := hJ
        have hS := hS1
        clear hS1
        refine lv_aload_n hx hb dX7_set_69 rfl (lv_at hl 2 rfl) ?_
        refine lv_bipush (v := nI 68) hx hb dX7_set_70 (by decide) ?_
        refine lv_iload_n hx hb dX7_set_72 rfl (lv_at hl 3 rfl) ?_
        refine xn_add hx hb (r := 71) rfl dX7_set_73 ?_
        refine lv_iload_n hx hb dX7_set_74 rfl (lv_at hl 4 rfl) ?_
        have hFc := xD_in (W0 := [(g, .inr (7, [.ref s0, .ref a0, .ref b0, .int (nI (kpN kn)), .ref x0, .int (nI L), .int (nI ta), .int (nI wr), .int (nI le), .int o1, .int o2, .int (nI po), .int (nI rs), .int ca])), (s0, .inl (y 1, 72, .inl (fun j9 => nI (V j9))))]) hD [0, 1] rfl
        refine va_calli (va_runV (As := [.int (nI 71), .int (nI j)]) (rest := []) ⟨hx, hb, hml, hown, hts⟩ (c_X7_puts l D y g s0 a0 b0 x0 (kpN kn) L ta wr le o1 o2 po rs ca V 71 j (by omega)) (cwV 2 hts gX7_set_X7_puts rfl rfl rfl hd_X7_puts ⟨Nat.le_of_ble_eq_true rfl, Nat.le_of_ble_eq_true rfl⟩) (xpv_w hK hP hD [0, 1] 0 rfl rfl rfl rfl rfl) rfl rfl hl.1 rfl (lv_room (Nat.le_of_ble_eq_true rfl)) dX7_set_75 ⟨Nat.zero_le _, Nat.zero_le _⟩) hS (fun q _ h => hFc q h) hFc (fun r16 u16 t H locs ht hvm hw16 hB hz1 hk1 hS1 => ?_)
        have hB : va_P D vwCl [(g, .inr (7, [.ref s0, .ref a0, .ref b0, .int (nI (kpN kn)), .ref x0, .int (nI L), .int (nI ta), .int (nI wr), .int (nI le), .int o1, .int o2, .int (nI po), .int (nI rs), .int ca])), (s0, .inl (y 1, 72, .inl (fun j9 => nI ((uN V 71 j) j9))))] t.heap := hB
        rw [ht] at hB
        have hw16 : r16 = nI (V 71) := hw16
        have hJ := xj_join (ws2 := [(g, .inr (7, [.ref s0, .ref a0, .ref b0, .int (nI (kpN kn)), .ref x0, .int (nI L), .int (nI ta), .int (nI wr), .int (nI le), .int o1, .int o2, .int (nI po), .int (nI rs), .int ca])), (s0, .inl (y 1, 72, .inl (fun j9 => nI ((uN V 71 j) j9)))), (b0, .inl (y 1, 288, .inl (fun j9 => nI (u15 j9))))]) hP hD [0, 1] [2] rfl rfl rfl rfl rfl rfl hk1 hB
        clear hP hD hS hB hk1 hz1 hFc hvm ht
        obtain ⟨hP, hD⟩ := hJ
        have hS := hS1
        clear hS1
        subst hw16
        have e1 := ad_t (V := V) (k := 3) (j := j) (by decide) hj1 hj2
        have hxv : ¬ adI V (nI 3) (nI j) < 0 := by rw [e1.1]; exact nI_pos (by have a0 := hI.s0; have a1 := hI.s1; have a2 := hI.s2; have a3 := hI.s3; show V 71 < 2 ^ 31; omega)
        subst hQe
        exact xw_i hx hb hr hlocks u15 hS dX7_set_78 (⟨e1.1.symm, by rw [stN_p hxv, stB_p hxv]; exact hw15⟩) (fun t ht => by rw [ht]; exact (by rw [stV_p hxv, stN_p hxv, e1.2]; exact hP))
      · refine lv_ldc hx hb hown f_51 dX7_set_62 ?_
        have ef := ad_f (V := V) (x := nI 3) (z := w) (ad_no (by decide) (bN_0.mp kc59))
        have hxv : adI V (nI 3) w < 0 := by rw [ef.1]; decide
        subst hQe
        exact xw_i hx hb hr hlocks Bf hS dX7_set_64 (⟨ef.1.symm, by rw [stN_n hxv, stB_n hxv]; exact hB0⟩) (fun t ht => by rw [ht]; exact (by rw [stV_n hxv, stN_n hxv]; exact hP))
  · have hbx : bN (¬ x < nI 0 ∧ ¬ nI 3 < x) = 0 := bN_f (fun q => hx4 ((inx rfl (by decide)).mp q))
    refine lv_iload_n hx hb dX7_set_0 rfl (lv_at hl 1 rfl) ?_
    have jn18 : ∀ (zl : Int32) (ls : Array Slot), lv_has ls 5 [(0, .ref g), (1, .int x), (2, .int w)] → W p l e (headSpec wsX7_set ({ frames := 1, cells := 0, slots := 0, locals := 23 })).room s m ([.ref g, .int x, .int w] : List Value).toArray below meth c s.heap [] 0 0 Q (F0 m 18 ls [.int zl]) := by
      intro zl ls hl 
      refine lv_istore_n (lv' := [(3, .int zl), (0, .ref g), (1, .int x), (2, .int w)]) hx hb dX7_set_18 rfl hl (by decide) rfl (fun ls hl => ?_)
      refine lv_iload_n hx hb dX7_set_19 rfl (lv_at hl 2 rfl) ?_
      refine lv_iconst (v := nI 2) hx hb dX7_set_20 (by decide) ?_
      have jn41 : ∀ (zm : Int32) (ls : Array Slot), lv_has ls 5 [(3, .int zl), (0, .ref g), (1, .int x), (2, .int w)] → W p l e (headSpec wsX7_set ({ frames := 1, cells := 0, slots := 0, locals := 23 })).room s m ([.ref g, .int x, .int w] : List Value).toArray below meth c s.heap [] 0 0 Q (F0 m 41 ls [.int zm]) := by
        intro zm ls hl 
        refine lv_istore (lv' := [(4, .int zm), (3, .int zl), (0, .ref g), (1, .int x), (2, .int w)]) hx hb dX7_set_41 hl (by decide) rfl (fun ls hl => ?_)
        refine lv_iload_n hx hb dX7_set_43 rfl (lv_at hl 3 rfl) ?_
        refine lv_iconst (v := nI 0) hx hb dX7_set_44 (by decide) ?_
        refine lv_iconst (v := nI 3) hx hb dX7_set_45 (by decide) ?_
        refine xc_S (As := [.int x, .int (nI 0), .int (nI 3)]) (rest := []) ⟨hx, hb, hml, hown, hts⟩ (c_X7_in l x (nI 0) (nI 3)) (va_cwS 3 hts gX7_set_X7_in rfl rfl rfl hd_X7_in.2 ⟨Nat.le_of_ble_eq_true rfl, Nat.le_of_ble_eq_true rfl⟩) xps_0 rfl hl.1 rfl (Nat.le_of_ble_eq_true rfl) dX7_set_46 ⟨Nat.zero_le _, Nat.zero_le _⟩ (fun r17 hr17 => ?_)
        subst hr17
        refine xn_if_eq hx hb (Nat.lt_trans bN_lt (by decide)) (tgt := 62) dX7_set_49 (by decide) (fun kc49 => ?_) (fun h => absurd (hbx) h)
        refine lv_ldc hx hb hown f_51 dX7_set_62 ?_
        have ef := ad_f (V := V) (x := x) (z := w) (fun q => hx4 q.1)
        have hxv : adI V x w < 0 := by rw [ef.1]; decide
        subst hQe
        exact xw_i hx hb hr hlocks Bf hS dX7_set_64 (⟨ef.1.symm, by rw [stN_n hxv, stB_n hxv]; exact hB0⟩) (fun t ht => by rw [ht]; exact (by rw [stV_n hxv, stN_n hxv]; exact hP))
      refine lv_icmp_ne (tgt := 29) hx hb dX7_set_21 (by decide) (fun kc21 => ?_) (fun kc21 => ?_)
      · refine lv_iload_n hx hb dX7_set_29 rfl (lv_at hl 2 rfl) ?_
        refine lv_iconst (v := nI 3) hx hb dX7_set_30 (by decide) ?_
        refine lv_icmp_ne (tgt := 39) hx hb dX7_set_31 (by decide) (fun kc31 => ?_) (fun kc31 => ?_)
        · refine lv_bipush (v := nI 8) hx hb dX7_set_39 (by decide) ?_
          exact jn41 (nI 8) ls (lv_sub hl [0, 1, 2, 3] rfl) 
        · refine lv_bipush (v := nI 24) hx hb dX7_set_34 (by decide) ?_
          refine lv_goto (tgt := 41) hx hb dX7_set_36 (by decide) ?_
          exact jn41 (nI 24) ls (lv_sub hl [0, 1, 2, 3] rfl) 
      · refine lv_bipush (v := nI 28) hx hb dX7_set_24 (by decide) ?_
        refine lv_goto (tgt := 41) hx hb dX7_set_26 (by decide) ?_
        exact jn41 (nI 28) ls (lv_sub hl [0, 1, 2, 3] rfl) 
    refine lv_if_ne (tgt := 8) hx hb dX7_set_1 (by decide) (fun kc1 => ?_) (fun kc1 => ?_)
    · refine lv_iload_n hx hb dX7_set_8 rfl (lv_at hl 1 rfl) ?_
      refine lv_iconst (v := nI 2) hx hb dX7_set_9 (by decide) ?_
      refine lv_icmp_ne (tgt := 17) hx hb dX7_set_10 (by decide) (fun kc10 => ?_) (fun kc10 => ?_)
      · refine lv_iconst (v := nI 1) hx hb dX7_set_17 (by decide) ?_
        exact jn18 (nI 1) ls (lv_sub hl [0, 1, 2] rfl) 
      · refine lv_iconst (v := nI 0) hx hb dX7_set_13 (by decide) ?_
        refine lv_goto (tgt := 18) hx hb dX7_set_14 (by decide) ?_
        exact jn18 (nI 0) ls (lv_sub hl [0, 1, 2] rfl) 
    · refine lv_iconst (v := nI 2) hx hb dX7_set_4 (by decide) ?_
      refine lv_goto (tgt := 18) hx hb dX7_set_5 (by decide) ?_
      exact jn18 (nI 2) ls (lv_sub hl [0, 1, 2] rfl) 
set_option maxHeartbeats 8000000 in
set_option maxRecDepth 100000 in
theorem c_X7_undo (l : Launch) (D : va_G) (y : Nat → ClassId) (g s0 a0 b0 x0 kn L ta wr le : Nat) (o1 o2 : Int32) (po rs : Nat) (ca : Int32) (V : Nat → Nat) (hI : Inv V) (Bf : Nat → Nat) (Bk : Nat → Nat → Nat) (hB0 : RepB kn Bk Bf) (hk4 : kn ≤ 4) : Met l yX7_undo wsX7_undo ({ frames := 0, cells := 0, slots := 0, locals := 0 }) (va_Pc [.ref g] (xPw D y [(g, .inr (7, [.ref s0, .ref a0, .ref b0, .int (nI kn), .ref x0, .int (nI L), .int (nI ta), .int (nI wr), .int (nI le), .int o1, .int o2, .int (nI po), .int (nI rs), .int ca])), (s0, .inl (y 1, 72, .inl (fun j9 => nI (V j9)))), (b0, .inl (y 1, 288, .inl (fun j9 => nI (Bf j9))))])) (va_Qi (fun r (u : Unit) => r = unI kn) (fun (u : Unit) t => va_P D vwCl [(g, .inr (7, [.ref s0, .ref a0, .ref b0, .int (nI (kn - 1)), .ref x0, .int (nI L), .int (nI ta), .int (nI wr), .int (nI le), .int o1, .int o2, .int (nI po), .int (nI rs), .int ca])), (s0, .inl (y 1, 72, .inl (fun j9 => nI ((unV kn Bk V) j9)))), (b0, .inl (y 1, 288, .inl (fun j9 => nI (Bf j9))))] t.heap) (xIn [(g, .inr (7, [.ref s0, .ref a0, .ref b0, .int (nI kn), .ref x0, .int (nI L), .int (nI ta), .int (nI wr), .int (nI le), .int o1, .int o2, .int (nI po), .int (nI rs), .int ca])), (s0, .inl (y 1, 72, .inl (fun j9 => nI (V j9)))), (b0, .inl (y 1, 288, .inl (fun j9 => nI (Bf j9))))])) 0 0 (xIn [(g, .inr (7, [.ref s0, .ref a0, .ref b0, .int (nI kn), .ref x0, .int (nI L), .int (nI ta), .int (nI wr), .int (nI le), .int o1, .int o2, .int (nI po), .int (nI rs), .int ca])), (s0, .inl (y 1, 72, .inl (fun j9 => nI (V j9)))), (b0, .inl (y 1, 288, .inl (fun j9 => nI (Bf j9))))]) := by
  refine Met.ofW (cc := cX7_undo) (maxL := 2) (ret := (some .int)) (by decide) rfl ?_
  intro p e s m args below meth c s₁ B hml hv
  obtain ⟨rfl, hP, hK, hD0⟩ := hv
  have hx := B.exec
  have hb := B.bytes
  have hr := B.returns
  have hts := atoms_spec (ws := wsX7_undo) B.pre
  have hown : s.vm.findClass RX7 = some m.cls := findClass_of_methodNamed B.named
  have hlocks := B.notSynchronized
  have f_16 := hts (.fieldLink RX7 16 "LoomTunesModel" "before" "[I") (by decide +kernel)
  have f_26 := hts (.fieldLink RX7 26 "LoomTunesModel" "known" "I") (by decide +kernel)
  have f_7 := hts (.fieldLink RX7 7 "LoomTunesModel" "s" "[I") (by decide +kernel)
  have f_76 := hts (.constant RX7 76 (-1000002)) (by decide +kernel)
  have hin_X7 : ∀ w ∈ wsX70, w ∈ wsX7_undo := by decide +kernel
  have hD := xD_self hD0
  generalize hAe : xIn [(g, .inr (7, [.ref s0, .ref a0, .ref b0, .int (nI kn), .ref x0, .int (nI L), .int (nI ta), .int (nI wr), .int (nI le), .int o1, .int o2, .int (nI po), .int (nI rs), .int ca])), (s0, .inl (y 1, 72, .inl (fun j9 => nI (V j9)))), (b0, .inl (y 1, 288, .inl (fun j9 => nI (Bf j9))))] = A at hD ⊢
  have hS : va_S A s.heap s.heap [] := va_S.rf
  have hP : va_P D vwCl [(g, .inr (7, [.ref s0, .ref a0, .ref b0, .int (nI kn), .ref x0, .int (nI L), .int (nI ta), .int (nI wr), .int (nI le), .int o1, .int o2, .int (nI po), .int (nI rs), .int ca])), (s0, .inl (y 1, 72, .inl (fun j9 => nI (V j9)))), (b0, .inl (y 1, 288, .inl (fun j9 => nI (Bf j9))))] s.heap := hP
  have hl := lv_entry ([.ref g]) (n := 2) (Nat.le_of_ble_eq_true rfl)
  rw [lg_entry_eq]
  generalize (lg_sl ([.ref g]) ++ List.replicate (2 - (lg_sl ([.ref g])).length) Slot.unset).toArray = ls at hl ⊢
  have hl : lv_has ls 2 [(0, .ref g)] := hl
  generalize hQe : (MQ below (va_Qi (fun r (u : Unit) => r = unI kn) (fun (u : Unit) t => va_P D vwCl [(g, .inr (7, [.ref s0, .ref a0, .ref b0, .int (nI (kn - 1)), .ref x0, .int (nI L), .int (nI ta), .int (nI wr), .int (nI le), .int o1, .int o2, .int (nI po), .int (nI rs), .int ca])), (s0, .inl (y 1, 72, .inl (fun j9 => nI ((unV kn Bk V) j9)))), (b0, .inl (y 1, 288, .inl (fun j9 => nI (Bf j9))))] t.heap) A) ([.ref g] : List Value).toArray s 0 0 A) = Q
  refine lv_aload_n hx hb dX7_undo_0 rfl (lv_at hl 0 rfl) ?_
  refine va_get (D := D) (ci := 7) (v := .int (nI kn)) (C := RX7) (T := TX7) (N := 14) hx hb hts hin_X7 hown hK.1 hP 0 rfl rfl 3 (by decide) f_26 (fun _ h9 => h9) rfl dX7_undo_1 ?_
  refine xn_if_ne hx hb (by omega) (tgt := 10) dX7_undo_4 (by decide) (fun kc4 => ?_) (fun kc4 => ?_)
  · refine lv_aload_n hx hb dX7_undo_10 rfl (lv_at hl 0 rfl) ?_
    refine lv_dup hx hb dX7_undo_11 rfl ?_
    refine va_get (D := D) (ci := 7) (v := .int (nI kn)) (C := RX7) (T := TX7) (N := 14) hx hb hts hin_X7 hown hK.1 hP 0 rfl rfl 3 (by decide) f_26 (fun _ h9 => h9) rfl dX7_undo_12 ?_
    refine lv_iconst (v := nI 1) hx hb dX7_undo_15 (by decide) ?_
    refine xn_sub hx hb (r := (kn - 1)) (by omega) rfl dX7_undo_16 ?_
    refine va_put (D := D) (ci := 7) (v := .int (nI (kn - 1))) (ty := .int) (C := RX7) (T := TX7) (N := 14) hx hb hts hin_X7 tyX7 tyX7_ok nmX7 hown hK.1 hP hD hS 0 rfl rfl 3 (by decide) f_26 (fun _ h9 => h9) rfl (by decide +kernel) rfl rfl (Nat.le_of_ble_eq_true rfl) dX7_undo_17 (fun H locs hP1 hD1 hS1 => ?_)
    clear hP hD hS
    have hP : va_P D vwCl [(g, .inr (7, [.ref s0, .ref a0, .ref b0, .int (nI (kn - 1)), .ref x0, .int (nI L), .int (nI ta), .int (nI wr), .int (nI le), .int o1, .int o2, .int (nI po), .int (nI rs), .int ca])), (s0, .inl (y 1, 72, .inl (fun j9 => nI (V j9)))), (b0, .inl (y 1, 288, .inl (fun j9 => nI (Bf j9))))] H := hP1
    have hD : va_D A [(g, .inr (7, [.ref s0, .ref a0, .ref b0, .int (nI (kn - 1)), .ref x0, .int (nI L), .int (nI ta), .int (nI wr), .int (nI le), .int o1, .int o2, .int (nI po), .int (nI rs), .int ca])), (s0, .inl (y 1, 72, .inl (fun j9 => nI (V j9)))), (b0, .inl (y 1, 288, .inl (fun j9 => nI (Bf j9))))] := hD1
    have hS := hS1
    clear hP1 hD1 hS1
    refine lv_iconst (v := nI 0) hx hb dX7_undo_20 (by decide) ?_
    refine lv_istore_n (lv' := [(1, .int (nI 0)), (0, .ref g)]) hx hb dX7_undo_21 rfl hl (by decide) rfl (fun ls hl => ?_)
    have lp22 : ∀ (n : Nat) (i : Nat), 72 - i < n → (i ≤ 72) → ∀ (H : Heap) (locs : List Loc), va_P D vwCl [(g, .inr (7, [.ref s0, .ref a0, .ref b0, .int (nI (kn - 1)), .ref x0, .int (nI L), .int (nI ta), .int (nI wr), .int (nI le), .int o1, .int o2, .int (nI po), .int (nI rs), .int ca])), (s0, .inl (y 1, 72, .inl (fun j9 => nI ((mixN (Bk (kn - 1)) V i) j9)))), (b0, .inl (y 1, 288, .inl (fun j9 => nI (Bf j9))))] H → va_D A [(g, .inr (7, [.ref s0, .ref a0, .ref b0, .int (nI (kn - 1)), .ref x0, .int (nI L), .int (nI ta), .int (nI wr), .int (nI le), .int o1, .int o2, .int (nI po), .int (nI rs), .int ca])), (s0, .inl (y 1, 72, .inl (fun j9 => nI ((mixN (Bk (kn - 1)) V i) j9)))), (b0, .inl (y 1, 288, .inl (fun j9 => nI (Bf j9))))] → va_S A s.heap H locs → ∀ ls : Array Slot, lv_has ls 2 [(1, .int (nI i)), (0, .ref g)] → W p l e (headSpec wsX7_undo ({ frames := 0, cells := 0, slots := 0, locals := 0 })).room s m ([.ref g] : List Value).toArray below meth c H locs 0 0 Q (F0 m 22 ls []) := by
      intro n
      induction n with
      | zero => intro i hm; exact absurd hm (Nat.not_lt_zero _)
      | succ n ih22 =>
        intro i hm hi H locs hP hD hS ls hl
        refine lv_iload_n hx hb dX7_undo_22 rfl (lv_at hl 0 rfl) ?_
        refine lv_bipush (v := nI 72) hx hb dX7_undo_23 (by decide) ?_
        refine xn_icmp_ge hx hb (by omega) (by omega) (tgt := 54) dX7_undo_25 (by decide) (fun kc25 => ?_) (fun kc25 => ?_)
        · refine lv_aload_n hx hb dX7_undo_54 rfl (lv_at hl 1 rfl) ?_
          refine va_get (D := D) (ci := 7) (v := .int (nI (kn - 1))) (C := RX7) (T := TX7) (N := 14) hx hb hts hin_X7 hown hK.1 hP 0 rfl rfl 3 (by decide) f_26 (fun _ h9 => h9) rfl dX7_undo_55 ?_
          have ef := un_1 (B := Bk) (V := V) kc4
          subst hQe
          exact xw_i hx hb hr hlocks () hS dX7_undo_58 (ef.1.symm) (fun t ht => by rw [ht]; exact (by rw [ef.2]; exact xP_arr hP 1 (fun j9 => nI (Bk (kn - 1) j9)) rfl (fun j hj => congrArg nI (mix_lt (by omega)))))
        · refine lv_aload_n hx hb dX7_undo_28 rfl (lv_at hl 1 rfl) ?_
          refine va_get (D := D) (ci := 7) (v := .ref s0) (C := RX7) (T := TX7) (N := 14) hx hb hts hin_X7 hown hK.1 hP 0 rfl rfl 0 (by decide) f_7 (fun _ h9 => h9) rfl dX7_undo_29 ?_
          refine lv_iload_n hx hb dX7_undo_32 rfl (lv_at hl 0 rfl) ?_
          refine lv_aload_n hx hb dX7_undo_33 rfl (lv_at hl 1 rfl) ?_
          refine va_get (D := D) (ci := 7) (v := .ref b0) (C := RX7) (T := TX7) (N := 14) hx hb hts hin_X7 hown hK.1 hP 0 rfl rfl 2 (by decide) f_16 (fun _ h9 => h9) rfl dX7_undo_34 ?_
          refine lv_bipush (v := nI 72) hx hb dX7_undo_37 (by decide) ?_
          refine lv_aload_n hx hb dX7_undo_39 rfl (lv_at hl 1 rfl) ?_
          refine va_get (D := D) (ci := 7) (v := .int (nI (kn - 1))) (C := RX7) (T := TX7) (N := 14) hx hb hts hin_X7 hown hK.1 hP 0 rfl rfl 3 (by decide) f_26 (fun _ h9 => h9) rfl dX7_undo_40 ?_
          refine xn_mul hx hb (r := (72 * (kn - 1))) rfl dX7_undo_43 ?_
          refine lv_iload_n hx hb dX7_undo_44 rfl (lv_at hl 0 rfl) ?_
          refine xn_add hx hb (r := ((72 * (kn - 1)) + i)) rfl dX7_undo_45 ?_
          refine xn_iald hx hb hK hP 2 rfl (by omega) (by first | decide | omega) (v := nI (Bf ((72 * (kn - 1)) + i))) (rfl) dX7_undo_46 ?_
          refine xv (congrArg nI (hB0 (kn - 1) (by omega) i (by omega))) ?_
          refine xn_iast hx hb hK hP hD hS 1 (g := fun j9 => nI ((uN (mixN (Bk (kn - 1)) V i) i (Bk (kn - 1) i)) j9)) rfl (by omega) (by first | decide | omega) (uN_I) dX7_undo_47 (fun H locs hP1 hD1 hS1 => ?_)
          clear hP hD hS
          have hP : va_P D vwCl [(g, .inr (7, [.ref s0, .ref a0, .ref b0, .int (nI (kn - 1)), .ref x0, .int (nI L), .int (nI ta), .int (nI wr), .int (nI le), .int o1, .int o2, .int (nI po), .int (nI rs), .int ca])), (s0, .inl (y 1, 72, .inl (fun j9 => nI ((uN (mixN (Bk (kn - 1)) V i) i (Bk (kn - 1) i)) j9)))), (b0, .inl (y 1, 288, .inl (fun j9 => nI (Bf j9))))] H := hP1
          have hD : va_D A [(g, .inr (7, [.ref s0, .ref a0, .ref b0, .int (nI (kn - 1)), .ref x0, .int (nI L), .int (nI ta), .int (nI wr), .int (nI le), .int o1, .int o2, .int (nI po), .int (nI rs), .int ca])), (s0, .inl (y 1, 72, .inl (fun j9 => nI ((uN (mixN (Bk (kn - 1)) V i) i (Bk (kn - 1) i)) j9)))), (b0, .inl (y 1, 288, .inl (fun j9 => nI (Bf j9))))] := hD1
          have hS := hS1
          clear hP1 hD1 hS1
          refine lv_iinc (v := nI (i + 1)) (lv' := [(1, .int (nI (i + 1))), (0, .ref g)]) hx hb dX7_undo_48 hl (k := 0) rfl (nI_add i 1) (by decide) rfl (fun ls hl => ?_)
          refine lv_goto (tgt := 22) hx hb dX7_undo_51 (by decide) ?_
          have hW1 : ([(g, .inr (7, [.ref s0, .ref a0, .ref b0, .int (nI (kn - 1)), .ref x0, .int (nI L), .int (nI ta), .int (nI wr), .int (nI le), .int o1, .int o2, .int (nI po), .int (nI rs), .int ca])), (s0, .inl (y 1, 72, .inl (fun j9 => nI ((uN (mixN (Bk (kn - 1)) V i) i (Bk (kn - 1) i)) j9)))), (b0, .inl (y 1, 288, .inl (fun j9 => nI (Bf j9))))] : va_W) = [(g, .inr (7, [.ref s0, .ref a0, .ref b0, .int (nI (kn - 1)), .ref x0, .int (nI L), .int (nI ta), .int (nI wr), .int (nI le), .int o1, .int o2, .int (nI po), .int (nI rs), .int ca])), (s0, .inl (y 1, 72, .inl (fun j9 => nI ((mixN (Bk (kn - 1)) V (i + 1)) j9)))), (b0, .inl (y 1, 288, .inl (fun j9 => nI (Bf j9))))] := by rw [← mix_s]
          exact ih22 (i + 1) (by omega) (by omega) _ _ (xP_eq hP hW1) (xD_eq hD hW1) hS ls (lv_sub hl [0, 1] rfl)
    have hW2 : ([(g, .inr (7, [.ref s0, .ref a0, .ref b0, .int (nI (kn - 1)), .ref x0, .int (nI L), .int (nI ta), .int (nI wr), .int (nI le), .int o1, .int o2, .int (nI po), .int (nI rs), .int ca])), (s0, .inl (y 1, 72, .inl (fun j9 => nI (V j9)))), (b0, .inl (y 1, 288, .inl (fun j9 => nI (Bf j9))))] : va_W) = [(g, .inr (7, [.ref s0, .ref a0, .ref b0, .int (nI (kn - 1)), .ref x0, .int (nI L), .int (nI ta), .int (nI wr), .int (nI le), .int o1, .int o2, .int (nI po), .int (nI rs), .int ca])), (s0, .inl (y 1, 72, .inl (fun j9 => nI ((mixN (Bk (kn - 1)) V 0) j9)))), (b0, .inl (y 1, 288, .inl (fun j9 => nI (Bf j9))))] := by rw [mix_0]
    exact lp22 ((72 - 0) + 1) 0 (Nat.lt_succ_self _) (by omega) _ _ (xP_eq hP hW2) (xD_eq hD hW2) hS ls (lv_sub hl [0, 1] rfl)
  · refine lv_ldc hx hb hown f_76 dX7_undo_7 ?_
    have ef := un_0 (B := Bk) (V := V) kc4
    subst hQe
    exact xw_i hx hb hr hlocks () hS dX7_undo_9 (ef.1.symm) (fun t ht => by rw [ht]; exact (by rw [ef.2, show kn - 1 = kn by omega]; exact hP))
set_option maxHeartbeats 8000000 in
set_option maxRecDepth 100000 in
theorem c_X7_type (l : Launch) (D : va_G) (y : Nat → ClassId) (g s0 a0 b0 x0 kn L ta wr le : Nat) (o1 o2 : Int32) (po rs : Nat) (ca : Int32) (tx : Nat → Int32) (T : Nat → Nat) (hT : RepT T L tx) (x : Int32) : Met l yX7_type wsX7_type ({ frames := 1, cells := 0, slots := 0, locals := 22 }) (va_Pc [.ref g, .int x] (xPw D y [(g, .inr (7, [.ref s0, .ref a0, .ref b0, .int (nI kn), .ref x0, .int (nI L), .int (nI ta), .int (nI wr), .int (nI le), .int o1, .int o2, .int (nI po), .int (nI rs), .int ca])), (x0, .inl (y 1, 60, .inl tx))])) (va_Qi (fun r (u : Nat → Int32) => r = tyI L x ∧ RepT (tyT T L x) (tyL L x) u) (fun (u : Nat → Int32) t => va_P D vwCl [(g, .inr (7, [.ref s0, .ref a0, .ref b0, .int (nI kn), .ref x0, .int (nI (tyL L x)), .int (nI ta), .int (nI wr), .int (nI le), .int o1, .int o2, .int (nI po), .int (nI rs), .int ca])), (x0, .inl (y 1, 60, .inl u))] t.heap) (xIn [(g, .inr (7, [.ref s0, .ref a0, .ref b0, .int (nI kn), .ref x0, .int (nI L), .int (nI ta), .int (nI wr), .int (nI le), .int o1, .int o2, .int (nI po), .int (nI rs), .int ca])), (x0, .inl (y 1, 60, .inl tx))])) 0 0 (xIn [(g, .inr (7, [.ref s0, .ref a0, .ref b0, .int (nI kn), .ref x0, .int (nI L), .int (nI ta), .int (nI wr), .int (nI le), .int o1, .int o2, .int (nI po), .int (nI rs), .int ca])), (x0, .inl (y 1, 60, .inl tx))]) := by
  refine Met.ofW (cc := cX7_type) (maxL := 2) (ret := (some .int)) (by decide) rfl ?_
  intro p e s m args below meth c s₁ B hml hv
  obtain ⟨rfl, hP, hK, hD0⟩ := hv
  have hx := B.exec
  have hb := B.bytes
  have hr := B.returns
  have hts := atoms_spec (ws := wsX7_type) B.pre
  have hown : s.vm.findClass RX7 = some m.cls := findClass_of_methodNamed B.named
  have hlocks := B.notSynchronized
  have f_138 := hts (.fieldLink RX7 138 "LoomTunesModel" "length" "I") (by decide +kernel)
  have f_19 := hts (.fieldLink RX7 19 "LoomTunesModel" "text" "[I") (by decide +kernel)
  have f_51 := hts (.constant RX7 51 (-1000001)) (by decide +kernel)
  have f_52 := hts (.constant RX7 52 (-1000003)) (by decide +kernel)
  have hin_X7 : ∀ w ∈ wsX70, w ∈ wsX7_type := by decide +kernel
  have hD := xD_self hD0
  generalize hAe : xIn [(g, .inr (7, [.ref s0, .ref a0, .ref b0, .int (nI kn), .ref x0, .int (nI L), .int (nI ta), .int (nI wr), .int (nI le), .int o1, .int o2, .int (nI po), .int (nI rs), .int ca])), (x0, .inl (y 1, 60, .inl tx))] = A at hD ⊢
  have hS : va_S A s.heap s.heap [] := va_S.rf
  have hP : va_P D vwCl [(g, .inr (7, [.ref s0, .ref a0, .ref b0, .int (nI kn), .ref x0, .int (nI L), .int (nI ta), .int (nI wr), .int (nI le), .int o1, .int o2, .int (nI po), .int (nI rs), .int ca])), (x0, .inl (y 1, 60, .inl tx))] s.heap := hP
  have hl := lv_entry ([.ref g, .int x]) (n := 2) (Nat.le_of_ble_eq_true rfl)
  rw [lg_entry_eq]
  generalize (lg_sl ([.ref g, .int x]) ++ List.replicate (2 - (lg_sl ([.ref g, .int x])).length) Slot.unset).toArray = ls at hl ⊢
  have hl : lv_has ls 2 [(0, .ref g), (1, .int x)] := hl
  generalize hQe : (MQ below (va_Qi (fun r (u : Nat → Int32) => r = tyI L x ∧ RepT (tyT T L x) (tyL L x) u) (fun (u : Nat → Int32) t => va_P D vwCl [(g, .inr (7, [.ref s0, .ref a0, .ref b0, .int (nI kn), .ref x0, .int (nI (tyL L x)), .int (nI ta), .int (nI wr), .int (nI le), .int o1, .int o2, .int (nI po), .int (nI rs), .int ca])), (x0, .inl (y 1, 60, .inl u))] t.heap) A) ([.ref g, .int x] : List Value).toArray s 0 0 A) = Q
  have hL := hT.1
  have hbl := bN_lt (c := ¬ x < nI 32 ∧ ¬ nI 126 < x)
  refine lv_iload_n hx hb dX7_type_0 rfl (lv_at hl 1 rfl) ?_
  refine lv_bipush (v := nI 32) hx hb dX7_type_1 (by decide) ?_
  refine lv_bipush (v := nI 126) hx hb dX7_type_3 (by decide) ?_
  refine xc_S (As := [.int x, .int (nI 32), .int (nI 126)]) (rest := []) ⟨hx, hb, hml, hown, hts⟩ (c_X7_in l x (nI 32) (nI 126)) (va_cwS 3 hts gX7_type_X7_in rfl rfl rfl hd_X7_in.2 ⟨Nat.le_of_ble_eq_true rfl, Nat.le_of_ble_eq_true rfl⟩) xps_0 rfl hl.1 rfl (Nat.le_of_ble_eq_true rfl) dX7_type_5 ⟨Nat.zero_le _, Nat.zero_le _⟩ (fun r1 hr1 => ?_)
  subst hr1
  refine xn_if_ne hx hb (by omega) (tgt := 14) dX7_type_8 (by decide) (fun kc8 => ?_) (fun kc8 => ?_)
  · refine lv_aload_n hx hb dX7_type_14 rfl (lv_at hl 0 rfl) ?_
    refine va_get (D := D) (ci := 7) (v := .int (nI L)) (C := RX7) (T := TX7) (N := 14) hx hb hts hin_X7 hown hK.1 hP 0 rfl rfl 5 (by decide) f_138 (fun _ h9 => h9) rfl dX7_type_15 ?_
    refine lv_bipush (v := nI 60) hx hb dX7_type_18 (by decide) ?_
    refine xn_icmp_ne hx hb (by omega) (by omega) (tgt := 26) dX7_type_20 (by decide) (fun kc20 => ?_) (fun kc20 => ?_)
    · have hty : tyO x := ⟨(bN_n0.mp kc8).1, Int32.not_lt.mp (bN_n0.mp kc8).2⟩
      obtain ⟨k, hk, hk2, rfl⟩ := ty_k hty
      have e3 := ty_3 (T := T) hty hk2 (show L < 60 by omega)
      refine lv_aload_n hx hb dX7_type_26 rfl (lv_at hl 0 rfl) ?_
      refine va_get (D := D) (ci := 7) (v := .ref x0) (C := RX7) (T := TX7) (N := 14) hx hb hts hin_X7 hown hK.1 hP 0 rfl rfl 4 (by decide) f_19 (fun _ h9 => h9) rfl dX7_type_27 ?_
      refine lv_aload_n hx hb dX7_type_30 rfl (lv_at hl 0 rfl) ?_
      refine va_get (D := D) (ci := 7) (v := .int (nI L)) (C := RX7) (T := TX7) (N := 14) hx hb hts hin_X7 hown hK.1 hP 0 rfl rfl 5 (by decide) f_138 (fun _ h9 => h9) rfl dX7_type_31 ?_
      refine lv_iload_n hx hb dX7_type_34 rfl (lv_at hl 1 rfl) ?_
      refine xn_iast hx hb hK hP hD hS 1 (g := upd tx L (nI k)) rfl (by omega) (by first | decide | omega) (rfl) dX7_type_35 (fun H locs hP1 hD1 hS1 => ?_)
      clear hP hD hS
      have hP : va_P D vwCl [(g, .inr (7, [.ref s0, .ref a0, .ref b0, .int (nI kn), .ref x0, .int (nI L), .int (nI ta), .int (nI wr), .int (nI le), .int o1, .int o2, .int (nI po), .int (nI rs), .int ca])), (x0, .inl (y 1, 60, .inl (upd tx L (nI k))))] H := hP1
      have hD : va_D A [(g, .inr (7, [.ref s0, .ref a0, .ref b0, .int (nI kn), .ref x0, .int (nI L), .int (nI ta), .int (nI wr), .int (nI le), .int o1, .int o2, .int (nI po), .int (nI rs), .int ca])), (x0, .inl (y 1, 60, .inl (upd tx L (nI k))))] := hD1
      have hS := hS1
      clear hP1 hD1 hS1
      refine lv_aload_n hx hb dX7_type_36 rfl (lv_at hl 0 rfl) ?_
      refine lv_dup hx hb dX7_type_37 rfl ?_
      refine va_get (D := D) (ci := 7) (v := .int (nI L)) (C := RX7) (T := TX7) (N := 14) hx hb hts hin_X7 hown hK.1 hP 0 rfl rfl 5 (by decide) f_138 (fun _ h9 => h9) rfl dX7_type_38 ?_
      refine lv_iconst (v := nI 1) hx hb dX7_type_41 (by decide) ?_
      refine xn_add hx hb (r := (L + 1)) rfl dX7_type_42 ?_
      refine va_put (D := D) (ci := 7) (v := .int (nI (L + 1))) (ty := .int) (C := RX7) (T := TX7) (N := 14) hx hb hts hin_X7 tyX7 tyX7_ok nmX7 hown hK.1 hP hD hS 0 rfl rfl 5 (by decide) f_138 (fun _ h9 => h9) rfl (by decide +kernel) rfl rfl (Nat.le_of_ble_eq_true rfl) dX7_type_43 (fun H locs hP1 hD1 hS1 => ?_)
      clear hP hD hS
      have hP : va_P D vwCl [(g, .inr (7, [.ref s0, .ref a0, .ref b0, .int (nI kn), .ref x0, .int (nI (L + 1)), .int (nI ta), .int (nI wr), .int (nI le), .int o1, .int o2, .int (nI po), .int (nI rs), .int ca])), (x0, .inl (y 1, 60, .inl (upd tx L (nI k))))] H := hP1
      have hD : va_D A [(g, .inr (7, [.ref s0, .ref a0, .ref b0, .int (nI kn), .ref x0, .int (nI (L + 1)), .int (nI ta), .int (nI wr), .int (nI le), .int o1, .int o2, .int (nI po), .int (nI rs), .int ca])), (x0, .inl (y 1, 60, .inl (upd tx L (nI k))))] := hD1
      have hS := hS1
      clear hP1 hD1 hS1
      refine lv_aload_n hx hb dX7_type_46 rfl (lv_at hl 0 rfl) ?_
      refine va_get (D := D) (ci := 7) (v := .int (nI (L + 1))) (C := RX7) (T := TX7) (N := 14) hx hb hts hin_X7 hown hK.1 hP 0 rfl rfl 5 (by decide) f_138 (fun _ h9 => h9) rfl dX7_type_47 ?_
      subst hQe
      exact xw_i hx hb hr hlocks (upd tx L (nI k)) hS dX7_type_50 (⟨e3.1.symm, by rw [e3.2.1, e3.2.2]; exact ty_rep hT hk hk2 (by omega)⟩) (fun t ht => by rw [ht]; exact (by rw [e3.2.1]; exact hP))
    · refine lv_ldc hx hb hown f_52 dX7_type_23 ?_
      have hty : tyO x := ⟨(bN_n0.mp kc8).1, Int32.not_lt.mp (bN_n0.mp kc8).2⟩
      have ef := ty_2 (T := T) (L := L) (x := x) hty (by omega)
      subst hQe
      exact xw_i hx hb hr hlocks tx hS dX7_type_25 (⟨ef.1.symm, by rw [ef.2.1, ef.2.2]; exact hT⟩) (fun t ht => by rw [ht]; exact (by rw [ef.2.1]; exact hP))
  · refine lv_ldc hx hb hown f_51 dX7_type_11 ?_
    have ef := ty_1 (T := T) (L := L) (x := x) (fun hq => (bN_0.mp kc8) ⟨hq.1, Int32.not_lt.mpr hq.2⟩)
    subst hQe
    exact xw_i hx hb hr hlocks tx hS dX7_type_13 (⟨ef.1.symm, by rw [ef.2.1, ef.2.2]; exact hT⟩) (fun t ht => by rw [ht]; exact (by rw [ef.2.1]; exact hP))
set_option maxHeartbeats 8000000 in
set_option maxRecDepth 100000 in
theorem c_X7_clearText (l : Launch) (D : va_G) (y : Nat → ClassId) (g s0 a0 b0 x0 kn L ta wr le : Nat) (o1 o2 : Int32) (po rs : Nat) (ca : Int32) : Met l yX7_clearText wsX7_clearText ({ frames := 0, cells := 0, slots := 0, locals := 0 }) (va_Pc [.ref g] (xPw D y [(g, .inr (7, [.ref s0, .ref a0, .ref b0, .int (nI kn), .ref x0, .int (nI L), .int (nI ta), .int (nI wr), .int (nI le), .int o1, .int o2, .int (nI po), .int (nI rs), .int ca]))])) (va_Qi (fun r (u : Unit) => r = nI L) (fun (u : Unit) t => va_P D vwCl [(g, .inr (7, [.ref s0, .ref a0, .ref b0, .int (nI kn), .ref x0, .int (nI 0), .int (nI ta), .int (nI wr), .int (nI le), .int o1, .int o2, .int (nI po), .int (nI rs), .int ca]))] t.heap) (xIn [(g, .inr (7, [.ref s0, .ref a0, .ref b0, .int (nI kn), .ref x0, .int (nI L), .int (nI ta), .int (nI wr), .int (nI le), .int o1, .int o2, .int (nI po), .int (nI rs), .int ca]))])) 0 0 (xIn [(g, .inr (7, [.ref s0, .ref a0, .ref b0, .int (nI kn), .ref x0, .int (nI L), .int (nI ta), .int (nI wr), .int (nI le), .int o1, .int o2, .int (nI po), .int (nI rs), .int ca]))]) := by
  refine Met.ofW (cc := cX7_clearText) (maxL := 2) (ret := (some .int)) (by decide) rfl ?_
  intro p e s m args below meth c s₁ B hml hv
  obtain ⟨rfl, hP, hK, hD0⟩ := hv
  have hx := B.exec
  have hb := B.bytes
  have hr := B.returns
  have hts := atoms_spec (ws := wsX7_clearText) B.pre
  have hown : s.vm.findClass RX7 = some m.cls := findClass_of_methodNamed B.named
  have hlocks := B.notSynchronized
  have f_138 := hts (.fieldLink RX7 138 "LoomTunesModel" "length" "I") (by decide +kernel)
  have hin_X7 : ∀ w ∈ wsX70, w ∈ wsX7_clearText := by decide +kernel
  have hD := xD_self hD0
  generalize hAe : xIn [(g, .inr (7, [.ref s0, .ref a0, .ref b0, .int (nI kn), .ref x0, .int (nI L), .int (nI ta), .int (nI wr), .int (nI le), .int o1, .int o2, .int (nI po), .int (nI rs), .int ca]))] = A at hD ⊢
  have hS : va_S A s.heap s.heap [] := va_S.rf
  have hP : va_P D vwCl [(g, .inr (7, [.ref s0, .ref a0, .ref b0, .int (nI kn), .ref x0, .int (nI L), .int (nI ta), .int (nI wr), .int (nI le), .int o1, .int o2, .int (nI po), .int (nI rs), .int ca]))] s.heap := hP
  have hl := lv_entry ([.ref g]) (n := 2) (Nat.le_of_ble_eq_true rfl)
  rw [lg_entry_eq]
  generalize (lg_sl ([.ref g]) ++ List.replicate (2 - (lg_sl ([.ref g])).length) Slot.unset).toArray = ls at hl ⊢
  have hl : lv_has ls 2 [(0, .ref g)] := hl
  generalize hQe : (MQ below (va_Qi (fun r (u : Unit) => r = nI L) (fun (u : Unit) t => va_P D vwCl [(g, .inr (7, [.ref s0, .ref a0, .ref b0, .int (nI kn), .ref x0, .int (nI 0), .int (nI ta), .int (nI wr), .int (nI le), .int o1, .int o2, .int (nI po), .int (nI rs), .int ca]))] t.heap) A) ([.ref g] : List Value).toArray s 0 0 A) = Q
  refine lv_aload_n hx hb dX7_clearText_0 rfl (lv_at hl 0 rfl) ?_
  refine va_get (D := D) (ci := 7) (v := .int (nI L)) (C := RX7) (T := TX7) (N := 14) hx hb hts hin_X7 hown hK.1 hP 0 rfl rfl 5 (by decide) f_138 (fun _ h9 => h9) rfl dX7_clearText_1 ?_
  refine lv_istore_n (lv' := [(1, .int (nI L)), (0, .ref g)]) hx hb dX7_clearText_4 rfl hl (by decide) rfl (fun ls hl => ?_)
  refine lv_aload_n hx hb dX7_clearText_5 rfl (lv_at hl 1 rfl) ?_
  refine lv_iconst (v := nI 0) hx hb dX7_clearText_6 (by decide) ?_
  refine va_put (D := D) (ci := 7) (v := .int (nI 0)) (ty := .int) (C := RX7) (T := TX7) (N := 14) hx hb hts hin_X7 tyX7 tyX7_ok nmX7 hown hK.1 hP hD hS 0 rfl rfl 5 (by decide) f_138 (fun _ h9 => h9) rfl (by decide +kernel) rfl rfl (Nat.le_of_ble_eq_true rfl) dX7_clearText_7 (fun H locs hP1 hD1 hS1 => ?_)
  clear hP hD hS
  have hP : va_P D vwCl [(g, .inr (7, [.ref s0, .ref a0, .ref b0, .int (nI kn), .ref x0, .int (nI 0), .int (nI ta), .int (nI wr), .int (nI le), .int o1, .int o2, .int (nI po), .int (nI rs), .int ca]))] H := hP1
  have hD : va_D A [(g, .inr (7, [.ref s0, .ref a0, .ref b0, .int (nI kn), .ref x0, .int (nI 0), .int (nI ta), .int (nI wr), .int (nI le), .int o1, .int o2, .int (nI po), .int (nI rs), .int ca]))] := hD1
  have hS := hS1
  clear hP1 hD1 hS1
  refine lv_iload_n hx hb dX7_clearText_10 rfl (lv_at hl 0 rfl) ?_
  subst hQe
  exact xw_i hx hb hr hlocks () hS dX7_clearText_11 (rfl) (fun t ht => by rw [ht]; exact (hP))
