set_option maxHeartbeats 8000000 in
set_option maxRecDepth 100000 in
theorem c_X7_sign_0 (l : Launch) (D : va_G) (y : Nat → ClassId) (g s0 a0 b0 x0 kn L ta le : Nat) (o1 o2 : Int32) (po rs : Nat) (ca : Int32) (tx : Nat → Int32) (T : Nat → Nat) (hT : RepT T L tx) (lo hi : Nat) (hta : ta < 2 ^ 30) (hlo : lo < 2 ^ 30) (hhi : hi < 2 ^ 30) : Met l yX7_sign wsX7_sign ({ frames := 1, cells := 0, slots := 0, locals := 22 }) (va_Pc [.ref g, .int (nI lo), .int (nI hi)] (xPw D y [(g, .inr (7, [.ref s0, .ref a0, .ref b0, .int (nI kn), .ref x0, .int (nI L), .int (nI ta), .int (nI 0), .int (nI le), .int o1, .int o2, .int (nI po), .int (nI rs), .int ca])), (x0, .inl (y 1, 60, .inl tx))])) (va_Qi (fun r (u : Unit) => r = nI (sgn T L ta)) (fun (u : Unit) t => va_P D vwCl [(g, .inr (7, [.ref s0, .ref a0, .ref b0, .int (nI kn), .ref x0, .int (nI L), .int (nI (ta + bN (inC T L ta lo hi))), .int (nI (1 - bN (inC T L ta lo hi))), .int (nI le), .int o1, .int o2, .int (nI po), .int (nI rs), .int ca])), (x0, .inl (y 1, 60, .inl tx))] t.heap) (xIn [(g, .inr (7, [.ref s0, .ref a0, .ref b0, .int (nI kn), .ref x0, .int (nI L), .int (nI ta), .int (nI 0), .int (nI le), .int o1, .int o2, .int (nI po), .int (nI rs), .int ca])), (x0, .inl (y 1, 60, .inl tx))])) 0 0 (xIn [(g, .inr (7, [.ref s0, .ref a0, .ref b0, .int (nI kn), .ref x0, .int (nI L), .int (nI ta), .int (nI 0), .int (nI le), .int o1, .int o2, .int (nI po), .int (nI rs), .int ca])), (x0, .inl (y 1, 60, .inl tx))]) := by
  refine Met.ofW (cc := cX7_sign) (maxL := 4) (ret := (some .int)) (by decide) rfl ?_
  intro p e s m args below meth c s₁ B hml hv
  obtain ⟨rfl, hP, hK, hD0⟩ := hv
  have hx := B.exec
  have hb := B.bytes
  have hr := B.returns
  have hts := atoms_spec (ws := wsX7_sign) B.pre
  have hown : s.vm.findClass RX7 = some m.cls := findClass_of_methodNamed B.named
  have hlocks := B.notSynchronized
  have f_138 := hts (.fieldLink RX7 138 "LoomTunesModel" "length" "I") (by decide +kernel)
  have f_141 := hts (.fieldLink RX7 141 "LoomTunesModel" "at" "I") (by decide +kernel)
  have f_144 := hts (.fieldLink RX7 144 "LoomTunesModel" "isWrong" "Z") (by decide +kernel)
  have f_19 := hts (.fieldLink RX7 19 "LoomTunesModel" "text" "[I") (by decide +kernel)
  have hin_X7 : ∀ w ∈ wsX70, w ∈ wsX7_sign := by decide +kernel
  have hD := xD_self hD0
  generalize hAe : xIn [(g, .inr (7, [.ref s0, .ref a0, .ref b0, .int (nI kn), .ref x0, .int (nI L), .int (nI ta), .int (nI 0), .int (nI le), .int o1, .int o2, .int (nI po), .int (nI rs), .int ca])), (x0, .inl (y 1, 60, .inl tx))] = A at hD ⊢
  have hS : va_S A s.heap s.heap [] := va_S.rf
  have hP : va_P D vwCl [(g, .inr (7, [.ref s0, .ref a0, .ref b0, .int (nI kn), .ref x0, .int (nI L), .int (nI ta), .int (nI 0), .int (nI le), .int o1, .int o2, .int (nI po), .int (nI rs), .int ca])), (x0, .inl (y 1, 60, .inl tx))] s.heap := hP
  have hl := lv_entry ([.ref g, .int (nI lo), .int (nI hi)]) (n := 4) (Nat.le_of_ble_eq_true rfl)
  rw [lg_entry_eq]
  generalize (lg_sl ([.ref g, .int (nI lo), .int (nI hi)]) ++ List.replicate (4 - (lg_sl ([.ref g, .int (nI lo), .int (nI hi)])).length) Slot.unset).toArray = ls at hl ⊢
  have hl : lv_has ls 4 [(0, .ref g), (1, .int (nI lo)), (2, .int (nI hi))] := hl
  generalize hQe : (MQ below (va_Qi (fun r (u : Unit) => r = nI (sgn T L ta)) (fun (u : Unit) t => va_P D vwCl [(g, .inr (7, [.ref s0, .ref a0, .ref b0, .int (nI kn), .ref x0, .int (nI L), .int (nI (ta + bN (inC T L ta lo hi))), .int (nI (1 - bN (inC T L ta lo hi))), .int (nI le), .int o1, .int o2, .int (nI po), .int (nI rs), .int ca])), (x0, .inl (y 1, 60, .inl tx))] t.heap) A) ([.ref g, .int (nI lo), .int (nI hi)] : List Value).toArray s 0 0 A) = Q
  have hL := hT.1
  have hs9 := sgn_lt hT (p := ta)
  have hbl := bN_lt (c := ¬ nI (sgn T L ta) < nI lo ∧ ¬ nI hi < nI (sgn T L ta))
  refine lv_aload_n hx hb dX7_sign_0 rfl (lv_at hl 0 rfl) ?_
  refine va_get (D := D) (ci := 7) (v := .int (nI ta)) (C := RX7) (T := TX7) (N := 14) hx hb hts hin_X7 hown hK.1 hP 0 rfl rfl 6 (by decide) f_141 (fun _ h9 => h9) rfl dX7_sign_1 ?_
  refine lv_aload_n hx hb dX7_sign_4 rfl (lv_at hl 0 rfl) ?_
  refine va_get (D := D) (ci := 7) (v := .int (nI L)) (C := RX7) (T := TX7) (N := 14) hx hb hts hin_X7 hown hK.1 hP 0 rfl rfl 5 (by decide) f_138 (fun _ h9 => h9) rfl dX7_sign_5 ?_
  have jn24 : ∀ (ls : Array Slot), lv_has ls 4 [(0, .ref g), (1, .int (nI lo)), (2, .int (nI hi))] → W p l e (headSpec wsX7_sign ({ frames := 1, cells := 0, slots := 0, locals := 22 })).room s m ([.ref g, .int (nI lo), .int (nI hi)] : List Value).toArray below meth c s.heap [] 0 0 Q (F0 m 24 ls [.int (nI (sgn T L ta))]) := by
    intro  ls hl 
    refine lv_istore_n (lv' := [(3, .int (nI (sgn T L ta))), (0, .ref g), (1, .int (nI lo)), (2, .int (nI hi))]) hx hb dX7_sign_24 rfl hl (by decide) rfl (fun ls hl => ?_)
    refine lv_aload_n hx hb dX7_sign_25 rfl (lv_at hl 1 rfl) ?_
    refine lv_aload_n hx hb dX7_sign_26 rfl (lv_at hl 1 rfl) ?_
    refine va_get (D := D) (ci := 7) (v := .int (nI 0)) (C := RX7) (T := TX7) (N := 14) hx hb hts hin_X7 hown hK.1 hP 0 rfl rfl 7 (by decide) f_144 (fun _ h9 => h9) rfl dX7_sign_27 ?_
    refine lv_if_ne (tgt := 42) hx hb dX7_sign_30 (by decide) (fun h => absurd h (by decide)) (fun _ => ?_)
    refine lv_iload_n hx hb dX7_sign_33 rfl (lv_at hl 0 rfl) ?_
    refine lv_iload_n hx hb dX7_sign_34 rfl (lv_at hl 2 rfl) ?_
    refine lv_iload_n hx hb dX7_sign_35 rfl (lv_at hl 3 rfl) ?_
    refine xc_S (As := [.int (nI (sgn T L ta)), .int (nI lo), .int (nI hi)]) (rest := [.ref g]) ⟨hx, hb, hml, hown, hts⟩ (c_X7_in l (nI (sgn T L ta)) (nI lo) (nI hi)) (va_cwS 3 hts gX7_sign_X7_in rfl rfl rfl hd_X7_in.2 ⟨Nat.le_of_ble_eq_true rfl, Nat.le_of_ble_eq_true rfl⟩) xps_0 rfl hl.1 rfl (Nat.le_of_ble_eq_true rfl) dX7_sign_36 ⟨Nat.zero_le _, Nat.zero_le _⟩ (fun r1 hr1 => ?_)
    subst hr1
    refine xn_if_ne hx hb (by omega) (tgt := 46) dX7_sign_39 (by decide) (fun kc39 => ?_) (fun kc39 => ?_)
    · refine lv_iconst (v := nI 0) hx hb dX7_sign_46 (by decide) ?_
      refine va_put (D := D) (ci := 7) (v := .int (nI 0)) (ty := .boolean) (C := RX7) (T := TX7) (N := 14) hx hb hts hin_X7 tyX7 tyX7_ok nmX7 hown hK.1 hP hD hS 0 rfl rfl 7 (by decide) f_144 (fun _ h9 => h9) rfl (by decide +kernel) (xb_nar (by omega)) (xb_fit (by omega)) (Nat.le_of_ble_eq_true rfl) dX7_sign_47 (fun H locs hP1 hD1 hS1 => ?_)
      clear hP hD hS
      have hP : va_P D vwCl [(g, .inr (7, [.ref s0, .ref a0, .ref b0, .int (nI kn), .ref x0, .int (nI L), .int (nI ta), .int (nI 0), .int (nI le), .int o1, .int o2, .int (nI po), .int (nI rs), .int ca])), (x0, .inl (y 1, 60, .inl tx))] H := hP1
      have hD : va_D A [(g, .inr (7, [.ref s0, .ref a0, .ref b0, .int (nI kn), .ref x0, .int (nI L), .int (nI ta), .int (nI 0), .int (nI le), .int o1, .int o2, .int (nI po), .int (nI rs), .int ca])), (x0, .inl (y 1, 60, .inl tx))] := hD1
      have hS := hS1
      clear hP1 hD1 hS1
      refine lv_aload_n hx hb dX7_sign_50 rfl (lv_at hl 1 rfl) ?_
      refine lv_dup hx hb dX7_sign_51 rfl ?_
      refine va_get (D := D) (ci := 7) (v := .int (nI ta)) (C := RX7) (T := TX7) (N := 14) hx hb hts hin_X7 hown hK.1 hP 0 rfl rfl 6 (by decide) f_141 (fun _ h9 => h9) rfl dX7_sign_52 ?_
      refine lv_aload_n hx hb dX7_sign_55 rfl (lv_at hl 1 rfl) ?_
      refine va_get (D := D) (ci := 7) (v := .int (nI 0)) (C := RX7) (T := TX7) (N := 14) hx hb hts hin_X7 hown hK.1 hP 0 rfl rfl 7 (by decide) f_144 (fun _ h9 => h9) rfl dX7_sign_56 ?_
      refine lv_if_eq (tgt := 66) hx hb dX7_sign_59 (by decide) (fun _ => ?_) (fun h => absurd h (by decide))
      refine lv_iconst (v := nI 1) hx hb dX7_sign_66 (by decide) ?_
      refine xn_add hx hb (r := (ta + 1)) rfl dX7_sign_67 ?_
      refine va_put (D := D) (ci := 7) (v := .int (nI (ta + 1))) (ty := .int) (C := RX7) (T := TX7) (N := 14) hx hb hts hin_X7 tyX7 tyX7_ok nmX7 hown hK.1 hP hD hS 0 rfl rfl 6 (by decide) f_141 (fun _ h9 => h9) rfl (by decide +kernel) rfl rfl (Nat.le_of_ble_eq_true rfl) dX7_sign_68 (fun H locs hP1 hD1 hS1 => ?_)
      clear hP hD hS
      have hP : va_P D vwCl [(g, .inr (7, [.ref s0, .ref a0, .ref b0, .int (nI kn), .ref x0, .int (nI L), .int (nI (ta + 1)), .int (nI 0), .int (nI le), .int o1, .int o2, .int (nI po), .int (nI rs), .int ca])), (x0, .inl (y 1, 60, .inl tx))] H := hP1
      have hD : va_D A [(g, .inr (7, [.ref s0, .ref a0, .ref b0, .int (nI kn), .ref x0, .int (nI L), .int (nI (ta + 1)), .int (nI 0), .int (nI le), .int o1, .int o2, .int (nI po), .int (nI rs), .int ca])), (x0, .inl (y 1, 60, .inl tx))] := hD1
      have hS := hS1
      clear hP1 hD1 hS1
      refine lv_iload_n hx hb dX7_sign_71 rfl (lv_at hl 0 rfl) ?_
      have hin : inC T L ta lo hi := (inq (by omega) (by omega) (by omega)).mp (bN_n0.mp kc39)
      subst hQe
      exact xw_i hx hb hr hlocks () hS dX7_sign_72 (rfl) (fun t ht => by rw [ht]; exact (by rw [bN_t (c := inC T L ta lo hi) hin]; exact hP))
    · refine lv_iconst (v := nI 1) hx hb dX7_sign_42 (by decide) ?_
      refine lv_goto (tgt := 47) hx hb dX7_sign_43 (by decide) ?_
      refine va_put (D := D) (ci := 7) (v := .int (nI 1)) (ty := .boolean) (C := RX7) (T := TX7) (N := 14) hx hb hts hin_X7 tyX7 tyX7_ok nmX7 hown hK.1 hP hD hS 0 rfl rfl 7 (by decide) f_144 (fun _ h9 => h9) rfl (by decide +kernel) (xb_nar (by omega)) (xb_fit (by omega)) (Nat.le_of_ble_eq_true rfl) dX7_sign_47 (fun H locs hP1 hD1 hS1 => ?_)
      clear hP hD hS
      have hP : va_P D vwCl [(g, .inr (7, [.ref s0, .ref a0, .ref b0, .int (nI kn), .ref x0, .int (nI L), .int (nI ta), .int (nI 1), .int (nI le), .int o1, .int o2, .int (nI po), .int (nI rs), .int ca])), (x0, .inl (y 1, 60, .inl tx))] H := hP1
      have hD : va_D A [(g, .inr (7, [.ref s0, .ref a0, .ref b0, .int (nI kn), .ref x0, .int (nI L), .int (nI ta), .int (nI 1), .int (nI le), .int o1, .int o2, .int (nI po), .int (nI rs), .int ca])), (x0, .inl (y 1, 60, .inl tx))] := hD1
      have hS := hS1
      clear hP1 hD1 hS1
      refine lv_aload_n hx hb dX7_sign_50 rfl (lv_at hl 1 rfl) ?_
      refine lv_dup hx hb dX7_sign_51 rfl ?_
      refine va_get (D := D) (ci := 7) (v := .int (nI ta)) (C := RX7) (T := TX7) (N := 14) hx hb hts hin_X7 hown hK.1 hP 0 rfl rfl 6 (by decide) f_141 (fun _ h9 => h9) rfl dX7_sign_52 ?_
      refine lv_aload_n hx hb dX7_sign_55 rfl (lv_at hl 1 rfl) ?_
      refine va_get (D := D) (ci := 7) (v := .int (nI 1)) (C := RX7) (T := TX7) (N := 14) hx hb hts hin_X7 hown hK.1 hP 0 rfl rfl 7 (by decide) f_144 (fun _ h9 => h9) rfl dX7_sign_56 ?_
      refine lv_if_eq (tgt := 66) hx hb dX7_sign_59 (by decide) (fun h => absurd h (by decide)) (fun _ => ?_)
      refine lv_iconst (v := nI 0) hx hb dX7_sign_62 (by decide) ?_
      refine lv_goto (tgt := 67) hx hb dX7_sign_63 (by decide) ?_
      refine xn_add hx hb (r := (ta + 0)) rfl dX7_sign_67 ?_
      refine va_put (D := D) (ci := 7) (v := .int (nI (ta + 0))) (ty := .int) (C := RX7) (T := TX7) (N := 14) hx hb hts hin_X7 tyX7 tyX7_ok nmX7 hown hK.1 hP hD hS 0 rfl rfl 6 (by decide) f_141 (fun _ h9 => h9) rfl (by decide +kernel) rfl rfl (Nat.le_of_ble_eq_true rfl) dX7_sign_68 (fun H locs hP1 hD1 hS1 => ?_)
      clear hP hD hS
      have hP : va_P D vwCl [(g, .inr (7, [.ref s0, .ref a0, .ref b0, .int (nI kn), .ref x0, .int (nI L), .int (nI (ta + 0)), .int (nI 1), .int (nI le), .int o1, .int o2, .int (nI po), .int (nI rs), .int ca])), (x0, .inl (y 1, 60, .inl tx))] H := hP1
      have hD : va_D A [(g, .inr (7, [.ref s0, .ref a0, .ref b0, .int (nI kn), .ref x0, .int (nI L), .int (nI (ta + 0)), .int (nI 1), .int (nI le), .int o1, .int o2, .int (nI po), .int (nI rs), .int ca])), (x0, .inl (y 1, 60, .inl tx))] := hD1
      have hS := hS1
      clear hP1 hD1 hS1
      refine lv_iload_n hx hb dX7_sign_71 rfl (lv_at hl 0 rfl) ?_
      have hin : ¬ inC T L ta lo hi := fun q => (bN_0.mp kc39) ((inq (by omega) (by omega) (by omega)).mpr q)
      subst hQe
      exact xw_i hx hb hr hlocks () hS dX7_sign_72 (rfl) (fun t ht => by rw [ht]; exact (by rw [bN_f (c := inC T L ta lo hi) hin]; exact hP))
  refine xn_icmp_ge hx hb (by omega) (by omega) (tgt := 23) dX7_sign_8 (by decide) (fun kc8 => ?_) (fun kc8 => ?_)
  · refine lv_iconst (v := nI 0) hx hb dX7_sign_23 (by decide) ?_
    refine xv (v := nI (sgn T L ta)) (congrArg nI (by unfold sgn; first | (rw [if_pos kc8]; done) | (rw [if_neg (by omega)]; done))) ?_
    exact jn24  ls (lv_sub hl [0, 1, 2] rfl) 
  · refine lv_aload_n hx hb dX7_sign_11 rfl (lv_at hl 0 rfl) ?_
    refine va_get (D := D) (ci := 7) (v := .ref x0) (C := RX7) (T := TX7) (N := 14) hx hb hts hin_X7 hown hK.1 hP 0 rfl rfl 4 (by decide) f_19 (fun _ h9 => h9) rfl dX7_sign_12 ?_
    refine lv_aload_n hx hb dX7_sign_15 rfl (lv_at hl 0 rfl) ?_
    refine va_get (D := D) (ci := 7) (v := .int (nI ta)) (C := RX7) (T := TX7) (N := 14) hx hb hts hin_X7 hown hK.1 hP 0 rfl rfl 6 (by decide) f_141 (fun _ h9 => h9) rfl dX7_sign_16 ?_
    refine xn_iald hx hb hK hP 1 rfl (by omega) (by first | decide | omega) (v := nI (T ta)) ((hT.2 ta kc8).1) dX7_sign_19 ?_
    refine lv_goto (tgt := 24) hx hb dX7_sign_20 (by decide) ?_
    refine xv (v := nI (sgn T L ta)) (congrArg nI (by unfold sgn; first | (rw [if_pos kc8]; done) | (rw [if_neg (by omega)]; done))) ?_
    exact jn24  ls (lv_sub hl [0, 1, 2] rfl) 
set_option maxHeartbeats 8000000 in
set_option maxRecDepth 100000 in
theorem c_X7_sign_1 (l : Launch) (D : va_G) (y : Nat → ClassId) (g s0 a0 b0 x0 kn L ta le : Nat) (o1 o2 : Int32) (po rs : Nat) (ca : Int32) (tx : Nat → Int32) (T : Nat → Nat) (hT : RepT T L tx) (lo hi : Nat) (hta : ta < 2 ^ 30) (hlo : lo < 2 ^ 30) (hhi : hi < 2 ^ 30) : Met l yX7_sign wsX7_sign ({ frames := 1, cells := 0, slots := 0, locals := 22 }) (va_Pc [.ref g, .int (nI lo), .int (nI hi)] (xPw D y [(g, .inr (7, [.ref s0, .ref a0, .ref b0, .int (nI kn), .ref x0, .int (nI L), .int (nI ta), .int (nI 1), .int (nI le), .int o1, .int o2, .int (nI po), .int (nI rs), .int ca])), (x0, .inl (y 1, 60, .inl tx))])) (va_Qi (fun r (u : Unit) => r = nI (sgn T L ta)) (fun (u : Unit) t => va_P D vwCl [(g, .inr (7, [.ref s0, .ref a0, .ref b0, .int (nI kn), .ref x0, .int (nI L), .int (nI ta), .int (nI 1), .int (nI le), .int o1, .int o2, .int (nI po), .int (nI rs), .int ca])), (x0, .inl (y 1, 60, .inl tx))] t.heap) (xIn [(g, .inr (7, [.ref s0, .ref a0, .ref b0, .int (nI kn), .ref x0, .int (nI L), .int (nI ta), .int (nI 1), .int (nI le), .int o1, .int o2, .int (nI po), .int (nI rs), .int ca])), (x0, .inl (y 1, 60, .inl tx))])) 0 0 (xIn [(g, .inr (7, [.ref s0, .ref a0, .ref b0, .int (nI kn), .ref x0, .int (nI L), .int (nI ta), .int (nI 1), .int (nI le), .int o1, .int o2, .int (nI po), .int (nI rs), .int ca])), (x0, .inl (y 1, 60, .inl tx))]) := by
  refine Met.ofW (cc := cX7_sign) (maxL := 4) (ret := (some .int)) (by decide) rfl ?_
  intro p e s m args below meth c s₁ B hml hv
  obtain ⟨rfl, hP, hK, hD0⟩ := hv
  have hx := B.exec
  have hb := B.bytes
  have hr := B.returns
  have hts := atoms_spec (ws := wsX7_sign) B.pre
  have hown : s.vm.findClass RX7 = some m.cls := findClass_of_methodNamed B.named
  have hlocks := B.notSynchronized
  have f_138 := hts (.fieldLink RX7 138 "LoomTunesModel" "length" "I") (by decide +kernel)
  have f_141 := hts (.fieldLink RX7 141 "LoomTunesModel" "at" "I") (by decide +kernel)
  have f_144 := hts (.fieldLink RX7 144 "LoomTunesModel" "isWrong" "Z") (by decide +kernel)
  have f_19 := hts (.fieldLink RX7 19 "LoomTunesModel" "text" "[I") (by decide +kernel)
  have hin_X7 : ∀ w ∈ wsX70, w ∈ wsX7_sign := by decide +kernel
  have hD := xD_self hD0
  generalize hAe : xIn [(g, .inr (7, [.ref s0, .ref a0, .ref b0, .int (nI kn), .ref x0, .int (nI L), .int (nI ta), .int (nI 1), .int (nI le), .int o1, .int o2, .int (nI po), .int (nI rs), .int ca])), (x0, .inl (y 1, 60, .inl tx))] = A at hD ⊢
  have hS : va_S A s.heap s.heap [] := va_S.rf
  have hP : va_P D vwCl [(g, .inr (7, [.ref s0, .ref a0, .ref b0, .int (nI kn), .ref x0, .int (nI L), .int (nI ta), .int (nI 1), .int (nI le), .int o1, .int o2, .int (nI po), .int (nI rs), .int ca])), (x0, .inl (y 1, 60, .inl tx))] s.heap := hP
  have hl := lv_entry ([.ref g, .int (nI lo), .int (nI hi)]) (n := 4) (Nat.le_of_ble_eq_true rfl)
  rw [lg_entry_eq]
  generalize (lg_sl ([.ref g, .int (nI lo), .int (nI hi)]) ++ List.replicate (4 - (lg_sl ([.ref g, .int (nI lo), .int (nI hi)])).length) Slot.unset).toArray = ls at hl ⊢
  have hl : lv_has ls 4 [(0, .ref g), (1, .int (nI lo)), (2, .int (nI hi))] := hl
  generalize hQe : (MQ below (va_Qi (fun r (u : Unit) => r = nI (sgn T L ta)) (fun (u : Unit) t => va_P D vwCl [(g, .inr (7, [.ref s0, .ref a0, .ref b0, .int (nI kn), .ref x0, .int (nI L), .int (nI ta), .int (nI 1), .int (nI le), .int o1, .int o2, .int (nI po), .int (nI rs), .int ca])), (x0, .inl (y 1, 60, .inl tx))] t.heap) A) ([.ref g, .int (nI lo), .int (nI hi)] : List Value).toArray s 0 0 A) = Q
  have hL := hT.1
  have hs9 := sgn_lt hT (p := ta)
  have hbl := bN_lt (c := ¬ nI (sgn T L ta) < nI lo ∧ ¬ nI hi < nI (sgn T L ta))
  refine lv_aload_n hx hb dX7_sign_0 rfl (lv_at hl 0 rfl) ?_
  refine va_get (D := D) (ci := 7) (v := .int (nI ta)) (C := RX7) (T := TX7) (N := 14) hx hb hts hin_X7 hown hK.1 hP 0 rfl rfl 6 (by decide) f_141 (fun _ h9 => h9) rfl dX7_sign_1 ?_
  refine lv_aload_n hx hb dX7_sign_4 rfl (lv_at hl 0 rfl) ?_
  refine va_get (D := D) (ci := 7) (v := .int (nI L)) (C := RX7) (T := TX7) (N := 14) hx hb hts hin_X7 hown hK.1 hP 0 rfl rfl 5 (by decide) f_138 (fun _ h9 => h9) rfl dX7_sign_5 ?_
  have jn24 : ∀ (ls : Array Slot), lv_has ls 4 [(0, .ref g), (1, .int (nI lo)), (2, .int (nI hi))] → W p l e (headSpec wsX7_sign ({ frames := 1, cells := 0, slots := 0, locals := 22 })).room s m ([.ref g, .int (nI lo), .int (nI hi)] : List Value).toArray below meth c s.heap [] 0 0 Q (F0 m 24 ls [.int (nI (sgn T L ta))]) := by
    intro  ls hl 
    refine lv_istore_n (lv' := [(3, .int (nI (sgn T L ta))), (0, .ref g), (1, .int (nI lo)), (2, .int (nI hi))]) hx hb dX7_sign_24 rfl hl (by decide) rfl (fun ls hl => ?_)
    refine lv_aload_n hx hb dX7_sign_25 rfl (lv_at hl 1 rfl) ?_
    refine lv_aload_n hx hb dX7_sign_26 rfl (lv_at hl 1 rfl) ?_
    refine va_get (D := D) (ci := 7) (v := .int (nI 1)) (C := RX7) (T := TX7) (N := 14) hx hb hts hin_X7 hown hK.1 hP 0 rfl rfl 7 (by decide) f_144 (fun _ h9 => h9) rfl dX7_sign_27 ?_
    refine lv_if_ne (tgt := 42) hx hb dX7_sign_30 (by decide) (fun _ => ?_) (fun h => absurd h (by decide))
    refine lv_iconst (v := nI 1) hx hb dX7_sign_42 (by decide) ?_
    refine lv_goto (tgt := 47) hx hb dX7_sign_43 (by decide) ?_
    refine va_put (D := D) (ci := 7) (v := .int (nI 1)) (ty := .boolean) (C := RX7) (T := TX7) (N := 14) hx hb hts hin_X7 tyX7 tyX7_ok nmX7 hown hK.1 hP hD hS 0 rfl rfl 7 (by decide) f_144 (fun _ h9 => h9) rfl (by decide +kernel) (xb_nar (by omega)) (xb_fit (by omega)) (Nat.le_of_ble_eq_true rfl) dX7_sign_47 (fun H locs hP1 hD1 hS1 => ?_)
    clear hP hD hS
    have hP : va_P D vwCl [(g, .inr (7, [.ref s0, .ref a0, .ref b0, .int (nI kn), .ref x0, .int (nI L), .int (nI ta), .int (nI 1), .int (nI le), .int o1, .int o2, .int (nI po), .int (nI rs), .int ca])), (x0, .inl (y 1, 60, .inl tx))] H := hP1
    have hD : va_D A [(g, .inr (7, [.ref s0, .ref a0, .ref b0, .int (nI kn), .ref x0, .int (nI L), .int (nI ta), .int (nI 1), .int (nI le), .int o1, .int o2, .int (nI po), .int (nI rs), .int ca])), (x0, .inl (y 1, 60, .inl tx))] := hD1
    have hS := hS1
    clear hP1 hD1 hS1
    refine lv_aload_n hx hb dX7_sign_50 rfl (lv_at hl 1 rfl) ?_
    refine lv_dup hx hb dX7_sign_51 rfl ?_
    refine va_get (D := D) (ci := 7) (v := .int (nI ta)) (C := RX7) (T := TX7) (N := 14) hx hb hts hin_X7 hown hK.1 hP 0 rfl rfl 6 (by decide) f_141 (fun _ h9 => h9) rfl dX7_sign_52 ?_
    refine lv_aload_n hx hb dX7_sign_55 rfl (lv_at hl 1 rfl) ?_
    refine va_get (D := D) (ci := 7) (v := .int (nI 1)) (C := RX7) (T := TX7) (N := 14) hx hb hts hin_X7 hown hK.1 hP 0 rfl rfl 7 (by decide) f_144 (fun _ h9 => h9) rfl dX7_sign_56 ?_
    refine lv_if_eq (tgt := 66) hx hb dX7_sign_59 (by decide) (fun h => absurd h (by decide)) (fun _ => ?_)
    refine lv_iconst (v := nI 0) hx hb dX7_sign_62 (by decide) ?_
    refine lv_goto (tgt := 67) hx hb dX7_sign_63 (by decide) ?_
    refine xn_add hx hb (r := (ta + 0)) rfl dX7_sign_67 ?_
    refine va_put (D := D) (ci := 7) (v := .int (nI (ta + 0))) (ty := .int) (C := RX7) (T := TX7) (N := 14) hx hb hts hin_X7 tyX7 tyX7_ok nmX7 hown hK.1 hP hD hS 0 rfl rfl 6 (by decide) f_141 (fun _ h9 => h9) rfl (by decide +kernel) rfl rfl (Nat.le_of_ble_eq_true rfl) dX7_sign_68 (fun H locs hP1 hD1 hS1 => ?_)
    clear hP hD hS
    have hP : va_P D vwCl [(g, .inr (7, [.ref s0, .ref a0, .ref b0, .int (nI kn), .ref x0, .int (nI L), .int (nI (ta + 0)), .int (nI 1), .int (nI le), .int o1, .int o2, .int (nI po), .int (nI rs), .int ca])), (x0, .inl (y 1, 60, .inl tx))] H := hP1
    have hD : va_D A [(g, .inr (7, [.ref s0, .ref a0, .ref b0, .int (nI kn), .ref x0, .int (nI L), .int (nI (ta + 0)), .int (nI 1), .int (nI le), .int o1, .int o2, .int (nI po), .int (nI rs), .int ca])), (x0, .inl (y 1, 60, .inl tx))] := hD1
    have hS := hS1
    clear hP1 hD1 hS1
    refine lv_iload_n hx hb dX7_sign_71 rfl (lv_at hl 0 rfl) ?_
    subst hQe
    exact xw_i hx hb hr hlocks () hS dX7_sign_72 (rfl) (fun t ht => by rw [ht]; exact (hP))
  refine xn_icmp_ge hx hb (by omega) (by omega) (tgt := 23) dX7_sign_8 (by decide) (fun kc8 => ?_) (fun kc8 => ?_)
  · refine lv_iconst (v := nI 0) hx hb dX7_sign_23 (by decide) ?_
    refine xv (v := nI (sgn T L ta)) (congrArg nI (by unfold sgn; first | (rw [if_pos kc8]; done) | (rw [if_neg (by omega)]; done))) ?_
    exact jn24  ls (lv_sub hl [0, 1, 2] rfl) 
  · refine lv_aload_n hx hb dX7_sign_11 rfl (lv_at hl 0 rfl) ?_
    refine va_get (D := D) (ci := 7) (v := .ref x0) (C := RX7) (T := TX7) (N := 14) hx hb hts hin_X7 hown hK.1 hP 0 rfl rfl 4 (by decide) f_19 (fun _ h9 => h9) rfl dX7_sign_12 ?_
    refine lv_aload_n hx hb dX7_sign_15 rfl (lv_at hl 0 rfl) ?_
    refine va_get (D := D) (ci := 7) (v := .int (nI ta)) (C := RX7) (T := TX7) (N := 14) hx hb hts hin_X7 hown hK.1 hP 0 rfl rfl 6 (by decide) f_141 (fun _ h9 => h9) rfl dX7_sign_16 ?_
    refine xn_iald hx hb hK hP 1 rfl (by omega) (by first | decide | omega) (v := nI (T ta)) ((hT.2 ta kc8).1) dX7_sign_19 ?_
    refine lv_goto (tgt := 24) hx hb dX7_sign_20 (by decide) ?_
    refine xv (v := nI (sgn T L ta)) (congrArg nI (by unfold sgn; first | (rw [if_pos kc8]; done) | (rw [if_neg (by omega)]; done))) ?_
    exact jn24  ls (lv_sub hl [0, 1, 2] rfl) 
set_option maxHeartbeats 8000000 in
set_option maxRecDepth 100000 in
theorem c_X7_isNext_0 (l : Launch) (D : va_G) (y : Nat → ClassId) (g s0 a0 b0 x0 kn L ta le : Nat) (o1 o2 : Int32) (po rs : Nat) (ca : Int32) (tx : Nat → Int32) (T : Nat → Nat) (hT : RepT T L tx) (lo hi : Nat) (hta : ta < 2 ^ 30) (hlo : lo < 2 ^ 30) (hhi : hi < 2 ^ 30) (hl1 : 1 ≤ lo) : Met l yX7_isNext wsX7_isNext ({ frames := 1, cells := 0, slots := 0, locals := 22 }) (va_Pc [.ref g, .int (nI lo), .int (nI hi)] (xPr D y [(g, .inr (7, [.ref s0, .ref a0, .ref b0, .int (nI kn), .ref x0, .int (nI L), .int (nI ta), .int (nI 0), .int (nI le), .int o1, .int o2, .int (nI po), .int (nI rs), .int ca])), (x0, .inl (y 1, 60, .inl tx))])) (vp_Si (fun rz => rz = nI (bN (inC T L ta lo hi)))) 0 0 (fun _ => False) := by
  refine Met.ofW (cc := cX7_isNext) (maxL := 3) (ret := (some .boolean)) (by decide) rfl ?_
  intro p e s m args below meth c s₁ B hml hv
  obtain ⟨rfl, hP, hK⟩ := hv
  have hx := B.exec
  have hb := B.bytes
  have hr := B.returns
  have hts := atoms_spec (ws := wsX7_isNext) B.pre
  have hown : s.vm.findClass RX7 = some m.cls := findClass_of_methodNamed B.named
  have hlocks := B.notSynchronized
  have f_138 := hts (.fieldLink RX7 138 "LoomTunesModel" "length" "I") (by decide +kernel)
  have f_141 := hts (.fieldLink RX7 141 "LoomTunesModel" "at" "I") (by decide +kernel)
  have f_144 := hts (.fieldLink RX7 144 "LoomTunesModel" "isWrong" "Z") (by decide +kernel)
  have f_19 := hts (.fieldLink RX7 19 "LoomTunesModel" "text" "[I") (by decide +kernel)
  have hin_X7 : ∀ w ∈ wsX70, w ∈ wsX7_isNext := by decide +kernel
  have hP : va_P D vwCl [(g, .inr (7, [.ref s0, .ref a0, .ref b0, .int (nI kn), .ref x0, .int (nI L), .int (nI ta), .int (nI 0), .int (nI le), .int o1, .int o2, .int (nI po), .int (nI rs), .int ca])), (x0, .inl (y 1, 60, .inl tx))] s.heap := hP
  have hl := lv_entry ([.ref g, .int (nI lo), .int (nI hi)]) (n := 3) (Nat.le_of_ble_eq_true rfl)
  rw [lg_entry_eq]
  generalize (lg_sl ([.ref g, .int (nI lo), .int (nI hi)]) ++ List.replicate (3 - (lg_sl ([.ref g, .int (nI lo), .int (nI hi)])).length) Slot.unset).toArray = ls at hl ⊢
  have hl : lv_has ls 3 [(0, .ref g), (1, .int (nI lo)), (2, .int (nI hi))] := hl
  have hL := hT.1
  have hbl := bN_lt (c := ¬ nI (T ta) < nI lo ∧ ¬ nI hi < nI (T ta))
  refine lv_aload_n hx hb dX7_isNext_0 rfl (lv_at hl 0 rfl) ?_
  refine va_get (D := D) (ci := 7) (v := .int (nI 0)) (C := RX7) (T := TX7) (N := 14) hx hb hts hin_X7 hown hK.1 hP 0 rfl rfl 7 (by decide) f_144 (fun _ h9 => h9) rfl dX7_isNext_1 ?_
  refine lv_if_ne (tgt := 39) hx hb dX7_isNext_4 (by decide) (fun h => absurd h (by decide)) (fun _ => ?_)
  refine lv_aload_n hx hb dX7_isNext_7 rfl (lv_at hl 0 rfl) ?_
  refine va_get (D := D) (ci := 7) (v := .int (nI ta)) (C := RX7) (T := TX7) (N := 14) hx hb hts hin_X7 hown hK.1 hP 0 rfl rfl 6 (by decide) f_141 (fun _ h9 => h9) rfl dX7_isNext_8 ?_
  refine lv_aload_n hx hb dX7_isNext_11 rfl (lv_at hl 0 rfl) ?_
  refine va_get (D := D) (ci := 7) (v := .int (nI L)) (C := RX7) (T := TX7) (N := 14) hx hb hts hin_X7 hown hK.1 hP 0 rfl rfl 5 (by decide) f_138 (fun _ h9 => h9) rfl dX7_isNext_12 ?_
  refine xn_icmp_ge hx hb (by omega) (by omega) (tgt := 39) dX7_isNext_15 (by decide) (fun kc15 => ?_) (fun kc15 => ?_)
  · have hsg : sgn T L ta = 0 := if_neg (by omega)
    refine lv_iconst (v := nI 0) hx hb dX7_isNext_39 (by decide) ?_
    exact xr_z hx hb hr hlocks dX7_isNext_40 (by omega) (congrArg nI (bN_f (c := inC T L ta lo hi) (by show ¬ (lo ≤ sgn T L ta ∧ sgn T L ta ≤ hi); rw [hsg]; first | omega | exact fun q => (bN_0.mp kc32) ((inq (by omega) (by omega) (by omega)).mpr q))).symm)
  · have hsg : sgn T L ta = T ta := if_pos kc15
    have hs8 := hT.2 ta kc15
    refine lv_aload_n hx hb dX7_isNext_18 rfl (lv_at hl 0 rfl) ?_
    refine va_get (D := D) (ci := 7) (v := .ref x0) (C := RX7) (T := TX7) (N := 14) hx hb hts hin_X7 hown hK.1 hP 0 rfl rfl 4 (by decide) f_19 (fun _ h9 => h9) rfl dX7_isNext_19 ?_
    refine lv_aload_n hx hb dX7_isNext_22 rfl (lv_at hl 0 rfl) ?_
    refine va_get (D := D) (ci := 7) (v := .int (nI ta)) (C := RX7) (T := TX7) (N := 14) hx hb hts hin_X7 hown hK.1 hP 0 rfl rfl 6 (by decide) f_141 (fun _ h9 => h9) rfl dX7_isNext_23 ?_
    refine xn_iald hx hb hK hP 1 rfl (by omega) (by first | decide | omega) (v := nI (T ta)) ((hT.2 ta kc15).1) dX7_isNext_26 ?_
    refine lv_iload_n hx hb dX7_isNext_27 rfl (lv_at hl 1 rfl) ?_
    refine lv_iload_n hx hb dX7_isNext_28 rfl (lv_at hl 2 rfl) ?_
    refine xc_S (As := [.int (nI (T ta)), .int (nI lo), .int (nI hi)]) (rest := []) ⟨hx, hb, hml, hown, hts⟩ (c_X7_in l (nI (T ta)) (nI lo) (nI hi)) (va_cwS 3 hts gX7_isNext_X7_in rfl rfl rfl hd_X7_in.2 ⟨Nat.le_of_ble_eq_true rfl, Nat.le_of_ble_eq_true rfl⟩) xps_0 rfl hl.1 rfl (Nat.le_of_ble_eq_true rfl) dX7_isNext_29 ⟨Nat.zero_le _, Nat.zero_le _⟩ (fun r1 hr1 => ?_)
    subst hr1
    refine xn_if_eq hx hb (by omega) (tgt := 39) dX7_isNext_32 (by decide) (fun kc32 => ?_) (fun kc32 => ?_)
    · refine lv_iconst (v := nI 0) hx hb dX7_isNext_39 (by decide) ?_
      exact xr_z hx hb hr hlocks dX7_isNext_40 (by omega) (congrArg nI (bN_f (c := inC T L ta lo hi) (by show ¬ (lo ≤ sgn T L ta ∧ sgn T L ta ≤ hi); rw [hsg]; first | omega | exact fun q => (bN_0.mp kc32) ((inq (by omega) (by omega) (by omega)).mpr q))).symm)
    · refine lv_iconst (v := nI 1) hx hb dX7_isNext_35 (by decide) ?_
      refine lv_goto (tgt := 40) hx hb dX7_isNext_36 (by decide) ?_
      exact xr_z hx hb hr hlocks dX7_isNext_40 (by omega) (congrArg nI (bN_t (c := inC T L ta lo hi) (by show lo ≤ sgn T L ta ∧ sgn T L ta ≤ hi; rw [hsg]; exact (inq (by omega) (by omega) (by omega)).mp (bN_n0.mp kc32))).symm)
set_option maxHeartbeats 8000000 in
set_option maxRecDepth 100000 in
theorem c_X7_isNext_1 (l : Launch) (D : va_G) (y : Nat → ClassId) (g s0 a0 b0 x0 kn L ta le : Nat) (o1 o2 : Int32) (po rs : Nat) (ca : Int32) (tx : Nat → Int32) (T : Nat → Nat) (hT : RepT T L tx) (lo hi : Nat) : Met l yX7_isNext wsX7_isNext ({ frames := 1, cells := 0, slots := 0, locals := 22 }) (va_Pc [.ref g, .int (nI lo), .int (nI hi)] (xPr D y [(g, .inr (7, [.ref s0, .ref a0, .ref b0, .int (nI kn), .ref x0, .int (nI L), .int (nI ta), .int (nI 1), .int (nI le), .int o1, .int o2, .int (nI po), .int (nI rs), .int ca])), (x0, .inl (y 1, 60, .inl tx))])) (vp_Si (fun rz => rz = nI 0)) 0 0 (fun _ => False) := by
  refine Met.ofW (cc := cX7_isNext) (maxL := 3) (ret := (some .boolean)) (by decide) rfl ?_
  intro p e s m args below meth c s₁ B hml hv
  obtain ⟨rfl, hP, hK⟩ := hv
  have hx := B.exec
  have hb := B.bytes
  have hr := B.returns
  have hts := atoms_spec (ws := wsX7_isNext) B.pre
  have hown : s.vm.findClass RX7 = some m.cls := findClass_of_methodNamed B.named
  have hlocks := B.notSynchronized
  have f_144 := hts (.fieldLink RX7 144 "LoomTunesModel" "isWrong" "Z") (by decide +kernel)
  have hin_X7 : ∀ w ∈ wsX70, w ∈ wsX7_isNext := by decide +kernel
  have hP : va_P D vwCl [(g, .inr (7, [.ref s0, .ref a0, .ref b0, .int (nI kn), .ref x0, .int (nI L), .int (nI ta), .int (nI 1), .int (nI le), .int o1, .int o2, .int (nI po), .int (nI rs), .int ca])), (x0, .inl (y 1, 60, .inl tx))] s.heap := hP
  have hl := lv_entry ([.ref g, .int (nI lo), .int (nI hi)]) (n := 3) (Nat.le_of_ble_eq_true rfl)
  rw [lg_entry_eq]
  generalize (lg_sl ([.ref g, .int (nI lo), .int (nI hi)]) ++ List.replicate (3 - (lg_sl ([.ref g, .int (nI lo), .int (nI hi)])).length) Slot.unset).toArray = ls at hl ⊢
  have hl : lv_has ls 3 [(0, .ref g), (1, .int (nI lo)), (2, .int (nI hi))] := hl
  refine lv_aload_n hx hb dX7_isNext_0 rfl (lv_at hl 0 rfl) ?_
  refine va_get (D := D) (ci := 7) (v := .int (nI 1)) (C := RX7) (T := TX7) (N := 14) hx hb hts hin_X7 hown hK.1 hP 0 rfl rfl 7 (by decide) f_144 (fun _ h9 => h9) rfl dX7_isNext_1 ?_
  refine lv_if_ne (tgt := 39) hx hb dX7_isNext_4 (by decide) (fun _ => ?_) (fun h => absurd h (by decide))
  refine lv_iconst (v := nI 0) hx hb dX7_isNext_39 (by decide) ?_
  exact xr_z hx hb hr hlocks dX7_isNext_40 (by omega) (rfl)
set_option maxHeartbeats 8000000 in
set_option maxRecDepth 100000 in
theorem c_X7_number_0 (l : Launch) (D : va_G) (y : Nat → ClassId) (g s0 a0 b0 x0 kn L ta le : Nat) (o1 o2 : Int32) (po rs : Nat) (ca : Int32) (tx : Nat → Int32) (T : Nat → Nat) (hT : RepT T L tx) (hta : ta < 2 ^ 29) : Met l yX7_number wsX7_number ({ frames := 2, cells := 0, slots := 0, locals := 45 }) (va_Pc [.ref g] (xPw D y [(g, .inr (7, [.ref s0, .ref a0, .ref b0, .int (nI kn), .ref x0, .int (nI L), .int (nI ta), .int (nI 0), .int (nI le), .int o1, .int o2, .int (nI po), .int (nI rs), .int ca])), (x0, .inl (y 1, 60, .inl tx))])) (va_Qi (fun r (u : Unit) => dgt T L ta → r = nI (nuV T L ta)) (fun (u : Unit) t => va_P D vwCl [(g, .inr (7, [.ref s0, .ref a0, .ref b0, .int (nI kn), .ref x0, .int (nI L), .int (nI (nuP T L ta)), .int (nI (1 - bN (dgt T L ta))), .int (nI le), .int o1, .int o2, .int (nI po), .int (nI rs), .int ca])), (x0, .inl (y 1, 60, .inl tx))] t.heap) (xIn [(g, .inr (7, [.ref s0, .ref a0, .ref b0, .int (nI kn), .ref x0, .int (nI L), .int (nI ta), .int (nI 0), .int (nI le), .int o1, .int o2, .int (nI po), .int (nI rs), .int ca])), (x0, .inl (y 1, 60, .inl tx))])) 0 0 (xIn [(g, .inr (7, [.ref s0, .ref a0, .ref b0, .int (nI kn), .ref x0, .int (nI L), .int (nI ta), .int (nI 0), .int (nI le), .int o1, .int o2, .int (nI po), .int (nI rs), .int ca])), (x0, .inl (y 1, 60, .inl tx))]) := by
  refine Met.ofW (cc := cX7_number) (maxL := 2) (ret := (some .int)) (by decide) rfl ?_
  intro p e s m args below meth c s₁ B hml hv
  obtain ⟨rfl, hP, hK, hD0⟩ := hv
  have hx := B.exec
  have hb := B.bytes
  have hr := B.returns
  have hts := atoms_spec (ws := wsX7_number) B.pre
  have hown : s.vm.findClass RX7 = some m.cls := findClass_of_methodNamed B.named
  have hlocks := B.notSynchronized
  have hD := xD_self hD0
  generalize hAe : xIn [(g, .inr (7, [.ref s0, .ref a0, .ref b0, .int (nI kn), .ref x0, .int (nI L), .int (nI ta), .int (nI 0), .int (nI le), .int o1, .int o2, .int (nI po), .int (nI rs), .int ca])), (x0, .inl (y 1, 60, .inl tx))] = A at hD ⊢
  have hS : va_S A s.heap s.heap [] := va_S.rf
  have hP : va_P D vwCl [(g, .inr (7, [.ref s0, .ref a0, .ref b0, .int (nI kn), .ref x0, .int (nI L), .int (nI ta), .int (nI 0), .int (nI le), .int o1, .int o2, .int (nI po), .int (nI rs), .int ca])), (x0, .inl (y 1, 60, .inl tx))] s.heap := hP
  have hl := lv_entry ([.ref g]) (n := 2) (Nat.le_of_ble_eq_true rfl)
  rw [lg_entry_eq]
  generalize (lg_sl ([.ref g]) ++ List.replicate (2 - (lg_sl ([.ref g])).length) Slot.unset).toArray = ls at hl ⊢
  have hl : lv_has ls 2 [(0, .ref g)] := hl
  generalize hQe : (MQ below (va_Qi (fun r (u : Unit) => dgt T L ta → r = nI (nuV T L ta)) (fun (u : Unit) t => va_P D vwCl [(g, .inr (7, [.ref s0, .ref a0, .ref b0, .int (nI kn), .ref x0, .int (nI L), .int (nI (nuP T L ta)), .int (nI (1 - bN (dgt T L ta))), .int (nI le), .int o1, .int o2, .int (nI po), .int (nI rs), .int ca])), (x0, .inl (y 1, 60, .inl tx))] t.heap) A) ([.ref g] : List Value).toArray s 0 0 A) = Q
  have hs9 := sgn_lt hT (p := ta)
  have hs8 := sgn_lt hT (p := ta + 1)
  have hb20 := bN_lt (c := inC T L (ta + 1) 48 57)
  refine lv_aload_n hx hb dX7_number_0 rfl (lv_at hl 0 rfl) ?_
  refine lv_bipush (v := nI 48) hx hb dX7_number_1 (by decide) ?_
  refine lv_bipush (v := nI 57) hx hb dX7_number_3 (by decide) ?_
  have hFc := xD_in (W0 := [(g, .inr (7, [.ref s0, .ref a0, .ref b0, .int (nI kn), .ref x0, .int (nI L), .int (nI ta), .int (nI 0), .int (nI le), .int o1, .int o2, .int (nI po), .int (nI rs), .int ca])), (x0, .inl (y 1, 60, .inl tx))]) hD [0, 1] rfl
  refine va_calli (va_runV (As := [.int (nI 48), .int (nI 57)]) (rest := []) ⟨hx, hb, hml, hown, hts⟩ (c_X7_sign_0 l D y g s0 a0 b0 x0 kn L ta le o1 o2 po rs ca tx T hT 48 57 (by omega) (by omega) (by omega)) (cwV 2 hts gX7_number_X7_sign rfl rfl rfl hd_X7_sign ⟨Nat.le_of_ble_eq_true rfl, Nat.le_of_ble_eq_true rfl⟩) (xpv_w hK hP hD [0, 1] 0 rfl rfl rfl rfl rfl) rfl rfl hl.1 rfl (lv_room (Nat.le_of_ble_eq_true rfl)) dX7_number_5 ⟨Nat.zero_le _, Nat.zero_le _⟩) hS (fun q _ h => hFc q h) hFc (fun r1 u1 t H locs ht hvm hw1 hB hz1 hk1 hS1 => ?_)
  have hB : va_P D vwCl [(g, .inr (7, [.ref s0, .ref a0, .ref b0, .int (nI kn), .ref x0, .int (nI L), .int (nI (ta + bN (inC T L ta 48 57))), .int (nI (1 - bN (inC T L ta 48 57))), .int (nI le), .int o1, .int o2, .int (nI po), .int (nI rs), .int ca])), (x0, .inl (y 1, 60, .inl tx))] t.heap := hB
  rw [ht] at hB
  have hw1 : r1 = nI (sgn T L ta) := hw1
  have hJ := xj_join (ws2 := [(g, .inr (7, [.ref s0, .ref a0, .ref b0, .int (nI kn), .ref x0, .int (nI L), .int (nI (ta + bN (inC T L ta 48 57))), .int (nI (1 - bN (inC T L ta 48 57))), .int (nI le), .int o1, .int o2, .int (nI po), .int (nI rs), .int ca])), (x0, .inl (y 1, 60, .inl tx))]) hP hD [0, 1] [] rfl rfl rfl rfl rfl rfl hk1 hB
  clear hP hD hS hB hk1 hz1 hFc hvm ht
  obtain ⟨hP, hD⟩ := hJ
  have hS := hS1
  clear hS1
  subst hw1
  by_cases hd : inC T L ta 48 57
  · rw [bN_t (c := inC T L ta 48 57) hd] at hP hD
    replace hP : va_P D vwCl [(g, .inr (7, [.ref s0, .ref a0, .ref b0, .int (nI kn), .ref x0, .int (nI L), .int (nI (ta + 1)), .int (nI 0), .int (nI le), .int o1, .int o2, .int (nI po), .int (nI rs), .int ca])), (x0, .inl (y 1, 60, .inl tx))] H := hP
    replace hD : va_D A [(g, .inr (7, [.ref s0, .ref a0, .ref b0, .int (nI kn), .ref x0, .int (nI L), .int (nI (ta + 1)), .int (nI 0), .int (nI le), .int o1, .int o2, .int (nI po), .int (nI rs), .int ca])), (x0, .inl (y 1, 60, .inl tx))] := hD
    refine lv_bipush (v := nI 48) hx hb dX7_number_8 (by decide) ?_
    refine xn_sub hx hb (r := ((sgn T L ta) - 48)) (by omega) rfl dX7_number_10 ?_
    refine lv_istore_n (lv' := [(1, .int (nI ((sgn T L ta) - 48))), (0, .ref g)]) hx hb dX7_number_11 rfl hl (by decide) rfl (fun ls hl => ?_)
    refine lv_aload_n hx hb dX7_number_12 rfl (lv_at hl 1 rfl) ?_
    refine lv_bipush (v := nI 48) hx hb dX7_number_13 (by decide) ?_
    refine lv_bipush (v := nI 57) hx hb dX7_number_15 (by decide) ?_
    refine xc_V (As := [.int (nI 48), .int (nI 57)]) (rest := []) ⟨hx, hb, hml, hown, hts⟩ (c_X7_isNext_0 l D y g s0 a0 b0 x0 kn L (ta + 1) le o1 o2 po rs ca tx T hT 48 57 (by omega) (by omega) (by omega) (by omega)) (cwV 2 hts gX7_number_X7_isNext rfl rfl rfl hd_X7_isNext ⟨Nat.le_of_ble_eq_true rfl, Nat.le_of_ble_eq_true rfl⟩) (xpv_r hK hP [0, 1] 0 rfl rfl rfl) rfl hl.1 rfl (Nat.le_of_ble_eq_true rfl) dX7_number_17 ⟨Nat.zero_le _, Nat.zero_le _⟩ (fun r2 hr2 => ?_)
    subst hr2
    refine xn_if_eq hx hb (by omega) (tgt := 42) dX7_number_20 (by decide) (fun kc20 => ?_) (fun kc20 => ?_)
    · refine lv_iload_n hx hb dX7_number_42 rfl (lv_at hl 0 rfl) ?_
      subst hQe
      exact xw_i hx hb hr hlocks () hS dX7_number_43 (fun _ => congrArg nI (nuV_1 (bN_0.mp kc20)).symm) (fun t ht => by rw [ht]; exact (by rw [bN_t (c := dgt T L ta) hd, nuP_1 hd (bN_0.mp kc20)]; exact hP))
    · have hd2 := bN_n0.mp kc20
      refine lv_bipush (v := nI 10) hx hb dX7_number_23 (by decide) ?_
      refine lv_iload_n hx hb dX7_number_25 rfl (lv_at hl 0 rfl) ?_
      refine xn_mul hx hb (r := (10 * ((sgn T L ta) - 48))) rfl dX7_number_26 ?_
      refine lv_aload_n hx hb dX7_number_27 rfl (lv_at hl 1 rfl) ?_
      refine lv_bipush (v := nI 48) hx hb dX7_number_28 (by decide) ?_
      refine lv_bipush (v := nI 57) hx hb dX7_number_30 (by decide) ?_
      have hFc := xD_in (W0 := [(g, .inr (7, [.ref s0, .ref a0, .ref b0, .int (nI kn), .ref x0, .int (nI L), .int (nI (ta + 1)), .int (nI 0), .int (nI le), .int o1, .int o2, .int (nI po), .int (nI rs), .int ca])), (x0, .inl (y 1, 60, .inl tx))]) hD [0, 1] rfl
      refine va_calli (va_runV (As := [.int (nI 48), .int (nI 57)]) (rest := [.int (nI (10 * ((sgn T L ta) - 48)))]) ⟨hx, hb, hml, hown, hts⟩ (c_X7_sign_0 l D y g s0 a0 b0 x0 kn L (ta + 1) le o1 o2 po rs ca tx T hT 48 57 (by omega) (by omega) (by omega)) (cwV 2 hts gX7_number_X7_sign rfl rfl rfl hd_X7_sign ⟨Nat.le_of_ble_eq_true rfl, Nat.le_of_ble_eq_true rfl⟩) (xpv_w hK hP hD [0, 1] 0 rfl rfl rfl rfl rfl) rfl rfl hl.1 rfl (lv_room (Nat.le_of_ble_eq_true rfl)) dX7_number_32 ⟨Nat.zero_le _, Nat.zero_le _⟩) hS (fun q _ h => hFc q h) hFc (fun r3 u3 t H locs ht hvm hw3 hB hz1 hk1 hS1 => ?_)
      have hB : va_P D vwCl [(g, .inr (7, [.ref s0, .ref a0, .ref b0, .int (nI kn), .ref x0, .int (nI L), .int (nI ((ta + 1) + bN (inC T L (ta + 1) 48 57))), .int (nI (1 - bN (inC T L (ta + 1) 48 57))), .int (nI le), .int o1, .int o2, .int (nI po), .int (nI rs), .int ca])), (x0, .inl (y 1, 60, .inl tx))] t.heap := hB
      rw [ht] at hB
      have hw3 : r3 = nI (sgn T L (ta + 1)) := hw3
      have hJ := xj_join (ws2 := [(g, .inr (7, [.ref s0, .ref a0, .ref b0, .int (nI kn), .ref x0, .int (nI L), .int (nI ((ta + 1) + bN (inC T L (ta + 1) 48 57))), .int (nI (1 - bN (inC T L (ta + 1) 48 57))), .int (nI le), .int o1, .int o2, .int (nI po), .int (nI rs), .int ca])), (x0, .inl (y 1, 60, .inl tx))]) hP hD [0, 1] [] rfl rfl rfl rfl rfl rfl hk1 hB
      clear hP hD hS hB hk1 hz1 hFc hvm ht
      obtain ⟨hP, hD⟩ := hJ
      have hS := hS1
      clear hS1
      subst hw3
      rw [bN_t (c := inC T L (ta + 1) 48 57) hd2] at hP hD
      replace hP : va_P D vwCl [(g, .inr (7, [.ref s0, .ref a0, .ref b0, .int (nI kn), .ref x0, .int (nI L), .int (nI (ta + 1 + 1)), .int (nI 0), .int (nI le), .int o1, .int o2, .int (nI po), .int (nI rs), .int ca])), (x0, .inl (y 1, 60, .inl tx))] H := hP
      replace hD : va_D A [(g, .inr (7, [.ref s0, .ref a0, .ref b0, .int (nI kn), .ref x0, .int (nI L), .int (nI (ta + 1 + 1)), .int (nI 0), .int (nI le), .int o1, .int o2, .int (nI po), .int (nI rs), .int ca])), (x0, .inl (y 1, 60, .inl tx))] := hD
      refine xn_add hx hb (r := ((10 * ((sgn T L ta) - 48)) + (sgn T L (ta + 1)))) rfl dX7_number_35 ?_
      refine lv_bipush (v := nI 48) hx hb dX7_number_36 (by decide) ?_
      refine xn_sub hx hb (r := (((10 * ((sgn T L ta) - 48)) + (sgn T L (ta + 1))) - 48)) (by omega) rfl dX7_number_38 ?_
      refine lv_goto (tgt := 43) hx hb dX7_number_39 (by decide) ?_
      subst hQe
      exact xw_i hx hb hr hlocks () hS dX7_number_43 (fun _ => congrArg nI (nuV_2 (bN_n0.mp kc20)).symm) (fun t ht => by rw [ht]; exact (by rw [bN_t (c := dgt T L ta) hd, nuP_2 hd (bN_n0.mp kc20)]; exact hP))
  · rw [bN_f (c := inC T L ta 48 57) hd] at hP hD
    replace hP : va_P D vwCl [(g, .inr (7, [.ref s0, .ref a0, .ref b0, .int (nI kn), .ref x0, .int (nI L), .int (nI ta), .int (nI 1), .int (nI le), .int o1, .int o2, .int (nI po), .int (nI rs), .int ca])), (x0, .inl (y 1, 60, .inl tx))] H := hP
    replace hD : va_D A [(g, .inr (7, [.ref s0, .ref a0, .ref b0, .int (nI kn), .ref x0, .int (nI L), .int (nI ta), .int (nI 1), .int (nI le), .int o1, .int o2, .int (nI po), .int (nI rs), .int ca])), (x0, .inl (y 1, 60, .inl tx))] := hD
    refine lv_bipush (v := nI 48) hx hb dX7_number_8 (by decide) ?_
    refine lv_isub hx hb dX7_number_10 ?_
    refine lv_istore_n (lv' := [(1, .int ((nI (sgn T L ta)) - (nI 48))), (0, .ref g)]) hx hb dX7_number_11 rfl hl (by decide) rfl (fun ls hl => ?_)
    refine lv_aload_n hx hb dX7_number_12 rfl (lv_at hl 1 rfl) ?_
    refine lv_bipush (v := nI 48) hx hb dX7_number_13 (by decide) ?_
    refine lv_bipush (v := nI 57) hx hb dX7_number_15 (by decide) ?_
    refine xc_V (As := [.int (nI 48), .int (nI 57)]) (rest := []) ⟨hx, hb, hml, hown, hts⟩ (c_X7_isNext_1 l D y g s0 a0 b0 x0 kn L ta le o1 o2 po rs ca tx T hT 48 57) (cwV 2 hts gX7_number_X7_isNext rfl rfl rfl hd_X7_isNext ⟨Nat.le_of_ble_eq_true rfl, Nat.le_of_ble_eq_true rfl⟩) (xpv_r hK hP [0, 1] 0 rfl rfl rfl) rfl hl.1 rfl (Nat.le_of_ble_eq_true rfl) dX7_number_17 ⟨Nat.zero_le _, Nat.zero_le _⟩ (fun r4 hr4 => ?_)
    subst hr4
    refine lv_if_eq (tgt := 42) hx hb dX7_number_20 (by decide) (fun _ => ?_) (fun h => absurd h (by decide))
    refine lv_iload_n hx hb dX7_number_42 rfl (lv_at hl 0 rfl) ?_
    subst hQe
    exact xw_i hx hb hr hlocks () hS dX7_number_43 (fun hq => absurd hq hd) (fun t ht => by rw [ht]; exact (by rw [bN_f (c := dgt T L ta) hd, nuP_n hd]; exact hP))
set_option maxHeartbeats 8000000 in
set_option maxRecDepth 100000 in
theorem c_X7_readHoles_0 (l : Launch) (D : va_G) (y : Nat → ClassId) (g s0 a0 b0 x0 kn L ta le : Nat) (o1 o2 : Int32) (po rs : Nat) (ca : Int32) (tx : Nat → Int32) (T : Nat → Nat) (hT : RepT T L tx) (hta : ta < 2 ^ 29) : Met l yX7_readHoles wsX7_readHoles ({ frames := 2, cells := 0, slots := 0, locals := 45 }) (va_Pc [.ref g] (xPw D y [(g, .inr (7, [.ref s0, .ref a0, .ref b0, .int (nI kn), .ref x0, .int (nI L), .int (nI ta), .int (nI 0), .int (nI le), .int o1, .int o2, .int (nI po), .int (nI rs), .int ca])), (x0, .inl (y 1, 60, .inl tx))])) (va_Qv (fun (u : Unit) => True) (fun (u : Unit) t => va_P D vwCl [(g, .inr (7, [.ref s0, .ref a0, .ref b0, .int (nI kn), .ref x0, .int (nI L), .int (nI (hoP T L ta 8)), .int (nI (bN (hoF T L ta 8 = 0))), .int (nI le), .int (nI (hoF T L ta 8)), .int o2, .int (nI po), .int (nI rs), .int ca])), (x0, .inl (y 1, 60, .inl tx))] t.heap) (xIn [(g, .inr (7, [.ref s0, .ref a0, .ref b0, .int (nI kn), .ref x0, .int (nI L), .int (nI ta), .int (nI 0), .int (nI le), .int o1, .int o2, .int (nI po), .int (nI rs), .int ca])), (x0, .inl (y 1, 60, .inl tx))])) 0 0 (xIn [(g, .inr (7, [.ref s0, .ref a0, .ref b0, .int (nI kn), .ref x0, .int (nI L), .int (nI ta), .int (nI 0), .int (nI le), .int o1, .int o2, .int (nI po), .int (nI rs), .int ca])), (x0, .inl (y 1, 60, .inl tx))]) := by
  refine Met.ofW (cc := cX7_readHoles) (maxL := 2) (ret := none) (by decide) rfl ?_
  intro p e s m args below meth c s₁ B hml hv
  obtain ⟨rfl, hP, hK, hD0⟩ := hv
  have hx := B.exec
  have hb := B.bytes
  have hr := B.returns
  have hts := atoms_spec (ws := wsX7_readHoles) B.pre
  have hown : s.vm.findClass RX7 = some m.cls := findClass_of_methodNamed B.named
  have hlocks := B.notSynchronized
  have f_144 := hts (.fieldLink RX7 144 "LoomTunesModel" "isWrong" "Z") (by decide +kernel)
  have f_154 := hts (.fieldLink RX7 154 "LoomTunesModel" "one" "I") (by decide +kernel)
  have hin_X7 : ∀ w ∈ wsX70, w ∈ wsX7_readHoles := by decide +kernel
  have hD := xD_self hD0
  generalize hAe : xIn [(g, .inr (7, [.ref s0, .ref a0, .ref b0, .int (nI kn), .ref x0, .int (nI L), .int (nI ta), .int (nI 0), .int (nI le), .int o1, .int o2, .int (nI po), .int (nI rs), .int ca])), (x0, .inl (y 1, 60, .inl tx))] = A at hD ⊢
  have hS : va_S A s.heap s.heap [] := va_S.rf
  have hP : va_P D vwCl [(g, .inr (7, [.ref s0, .ref a0, .ref b0, .int (nI kn), .ref x0, .int (nI L), .int (nI ta), .int (nI 0), .int (nI le), .int o1, .int o2, .int (nI po), .int (nI rs), .int ca])), (x0, .inl (y 1, 60, .inl tx))] s.heap := hP
  have hl := lv_entry ([.ref g]) (n := 2) (Nat.le_of_ble_eq_true rfl)
  rw [lg_entry_eq]
  generalize (lg_sl ([.ref g]) ++ List.replicate (2 - (lg_sl ([.ref g])).length) Slot.unset).toArray = ls at hl ⊢
  have hl : lv_has ls 2 [(0, .ref g)] := hl
  generalize hQe : (MQ below (va_Qv (fun (u : Unit) => True) (fun (u : Unit) t => va_P D vwCl [(g, .inr (7, [.ref s0, .ref a0, .ref b0, .int (nI kn), .ref x0, .int (nI L), .int (nI (hoP T L ta 8)), .int (nI (bN (hoF T L ta 8 = 0))), .int (nI le), .int (nI (hoF T L ta 8)), .int o2, .int (nI po), .int (nI rs), .int ca])), (x0, .inl (y 1, 60, .inl tx))] t.heap) A) ([.ref g] : List Value).toArray s 0 0 A) = Q
  have hs9 := sgn_lt hT (p := ta)
  refine lv_aload_n hx hb dX7_readHoles_0 rfl (lv_at hl 0 rfl) ?_
  refine lv_bipush (v := nI 48) hx hb dX7_readHoles_1 (by decide) ?_
  refine lv_bipush (v := nI 55) hx hb dX7_readHoles_3 (by decide) ?_
  have hFc := xD_in (W0 := [(g, .inr (7, [.ref s0, .ref a0, .ref b0, .int (nI kn), .ref x0, .int (nI L), .int (nI ta), .int (nI 0), .int (nI le), .int o1, .int o2, .int (nI po), .int (nI rs), .int ca])), (x0, .inl (y 1, 60, .inl tx))]) hD [0, 1] rfl
  refine va_calli (va_runV (As := [.int (nI 48), .int (nI 55)]) (rest := []) ⟨hx, hb, hml, hown, hts⟩ (c_X7_sign_0 l D y g s0 a0 b0 x0 kn L ta le o1 o2 po rs ca tx T hT 48 55 (by omega) (by omega) (by omega)) (cwV 2 hts gX7_readHoles_X7_sign rfl rfl rfl hd_X7_sign ⟨Nat.le_of_ble_eq_true rfl, Nat.le_of_ble_eq_true rfl⟩) (xpv_w hK hP hD [0, 1] 0 rfl rfl rfl rfl rfl) rfl rfl hl.1 rfl (lv_room (Nat.le_of_ble_eq_true rfl)) dX7_readHoles_5 ⟨Nat.zero_le _, Nat.zero_le _⟩) hS (fun q _ h => hFc q h) hFc (fun r1 u1 t H locs ht hvm hw1 hB hz1 hk1 hS1 => ?_)
  have hB : va_P D vwCl [(g, .inr (7, [.ref s0, .ref a0, .ref b0, .int (nI kn), .ref x0, .int (nI L), .int (nI (ta + bN (inC T L ta 48 55))), .int (nI (1 - bN (inC T L ta 48 55))), .int (nI le), .int o1, .int o2, .int (nI po), .int (nI rs), .int ca])), (x0, .inl (y 1, 60, .inl tx))] t.heap := hB
  rw [ht] at hB
  have hw1 : r1 = nI (sgn T L ta) := hw1
  have hJ := xj_join (ws2 := [(g, .inr (7, [.ref s0, .ref a0, .ref b0, .int (nI kn), .ref x0, .int (nI L), .int (nI (ta + bN (inC T L ta 48 55))), .int (nI (1 - bN (inC T L ta 48 55))), .int (nI le), .int o1, .int o2, .int (nI po), .int (nI rs), .int ca])), (x0, .inl (y 1, 60, .inl tx))]) hP hD [0, 1] [] rfl rfl rfl rfl rfl rfl hk1 hB
  clear hP hD hS hB hk1 hz1 hFc hvm ht
  obtain ⟨hP, hD⟩ := hJ
  have hS := hS1
  clear hS1
  subst hw1
  by_cases hin : inC T L ta 48 55
  · rw [bN_t (c := inC T L ta 48 55) hin] at hP hD
    replace hP : va_P D vwCl [(g, .inr (7, [.ref s0, .ref a0, .ref b0, .int (nI kn), .ref x0, .int (nI L), .int (nI (ta + 1)), .int (nI 0), .int (nI le), .int o1, .int o2, .int (nI po), .int (nI rs), .int ca])), (x0, .inl (y 1, 60, .inl tx))] H := hP
    replace hD : va_D A [(g, .inr (7, [.ref s0, .ref a0, .ref b0, .int (nI kn), .ref x0, .int (nI L), .int (nI (ta + 1)), .int (nI 0), .int (nI le), .int o1, .int o2, .int (nI po), .int (nI rs), .int ca])), (x0, .inl (y 1, 60, .inl tx))] := hD
    obtain ⟨d0, hd0, hd7⟩ : ∃ d, sgn T L ta = 48 + d ∧ d ≤ 7 := ⟨sgn T L ta - 48, by omega, by omega⟩
    refine lv_istore_n (lv' := [(1, .int (nI (sgn T L ta))), (0, .ref g)]) hx hb dX7_readHoles_8 rfl hl (by decide) rfl (fun ls hl => ?_)
    refine lv_aload_n hx hb dX7_readHoles_9 rfl (lv_at hl 1 rfl) ?_
    refine lv_aload_n hx hb dX7_readHoles_10 rfl (lv_at hl 1 rfl) ?_
    refine va_get (D := D) (ci := 7) (v := .int (nI 0)) (C := RX7) (T := TX7) (N := 14) hx hb hts hin_X7 hown hK.1 hP 0 rfl rfl 7 (by decide) f_144 (fun _ h9 => h9) rfl dX7_readHoles_11 ?_
    refine lv_if_eq (tgt := 21) hx hb dX7_readHoles_14 (by decide) (fun _ => ?_) (fun h => absurd h (by decide))
    refine lv_iconst (v := nI 1) hx hb dX7_readHoles_21 (by decide) ?_
    refine lv_iload_n hx hb dX7_readHoles_22 rfl (lv_at hl 0 rfl) ?_
    refine lv_bipush (v := nI 48) hx hb dX7_readHoles_23 (by decide) ?_
    refine xn_sub hx hb (r := ((sgn T L ta) - 48)) (by omega) rfl dX7_readHoles_25 ?_
    refine xn_shl hx hb (r := (1 * 2 ^ ((sgn T L ta) - 48))) (by omega) (by have : 2 ^ (sgn T L ta - 48) ≤ 2 ^ 7 := Nat.pow_le_pow_right (by decide) (by omega); omega) rfl dX7_readHoles_26 ?_
    refine va_put (D := D) (ci := 7) (v := .int (nI (1 * 2 ^ ((sgn T L ta) - 48)))) (ty := .int) (C := RX7) (T := TX7) (N := 14) hx hb hts hin_X7 tyX7 tyX7_ok nmX7 hown hK.1 hP hD hS 0 rfl rfl 9 (by decide) f_154 (fun _ h9 => h9) rfl (by decide +kernel) rfl rfl (Nat.le_of_ble_eq_true rfl) dX7_readHoles_27 (fun H locs hP1 hD1 hS1 => ?_)
    clear hP hD hS
    have hP : va_P D vwCl [(g, .inr (7, [.ref s0, .ref a0, .ref b0, .int (nI kn), .ref x0, .int (nI L), .int (nI (ta + 1)), .int (nI 0), .int (nI le), .int (nI (1 * 2 ^ ((sgn T L ta) - 48))), .int o2, .int (nI po), .int (nI rs), .int ca])), (x0, .inl (y 1, 60, .inl tx))] H := hP1
    have hD : va_D A [(g, .inr (7, [.ref s0, .ref a0, .ref b0, .int (nI kn), .ref x0, .int (nI L), .int (nI (ta + 1)), .int (nI 0), .int (nI le), .int (nI (1 * 2 ^ ((sgn T L ta) - 48))), .int o2, .int (nI po), .int (nI rs), .int ca])), (x0, .inl (y 1, 60, .inl tx))] := hD1
    have hS := hS1
    clear hP1 hD1 hS1
    have lp30 : ∀ (n : Nat) (d : Nat) (q : Nat), 8 - d < n → (d ≤ 7) → (hoP T L ta (d + 1) = q) → (ta < q) → (q ≤ ta + 8) → ∀ (H : Heap) (locs : List Loc), va_P D vwCl [(g, .inr (7, [.ref s0, .ref a0, .ref b0, .int (nI kn), .ref x0, .int (nI L), .int (nI q), .int (nI 0), .int (nI le), .int (nI (hoF T L ta (d + 1))), .int o2, .int (nI po), .int (nI rs), .int ca])), (x0, .inl (y 1, 60, .inl tx))] H → va_D A [(g, .inr (7, [.ref s0, .ref a0, .ref b0, .int (nI kn), .ref x0, .int (nI L), .int (nI q), .int (nI 0), .int (nI le), .int (nI (hoF T L ta (d + 1))), .int o2, .int (nI po), .int (nI rs), .int ca])), (x0, .inl (y 1, 60, .inl tx))] → va_S A s.heap H locs → ∀ ls : Array Slot, lv_has ls 2 [(1, .int (nI (48 + d))), (0, .ref g)] → W p l e (headSpec wsX7_readHoles ({ frames := 2, cells := 0, slots := 0, locals := 45 })).room s m ([.ref g] : List Value).toArray below meth c H locs 0 0 Q (F0 m 30 ls []) := by
      intro n
      induction n with
      | zero => intro d q hm; exact absurd hm (Nat.not_lt_zero _)
      | succ n ih30 =>
        intro d q hm hd hq hpq hq8 H locs hP hD hS ls hl
        have hs7 := sgn_lt hT (p := q)
        have hb45 := bN_lt (c := inC T L q (48 + d + 1) 55)
        refine lv_iload_n hx hb dX7_readHoles_30 rfl (lv_at hl 0 rfl) ?_
        refine lv_bipush (v := nI 55) hx hb dX7_readHoles_31 (by decide) ?_
        refine xn_icmp_ge hx hb (by omega) (by omega) (tgt := 75) dX7_readHoles_33 (by decide) (fun kc33 => ?_) (fun kc33 => ?_)
        · have ho : hoP T L ta 8 = q ∧ hoF T L ta 8 = hoF T L ta (d + 1) := by first | exact ho_end (by omega) hq (bN_0.mp kc45) | (have h7 : d = 7 := (by omega); subst h7; exact ⟨hq, rfl⟩)
          have hnz := ho_nz (by omega) hq hpq
          subst hQe
          exact xw_v hx hb hr hlocks () hS dX7_readHoles_75 (trivial) (fun t ht => by rw [ht]; exact (by rw [ho.1, ho.2, bN_f hnz]; exact hP))
        · refine lv_aload_n hx hb dX7_readHoles_36 rfl (lv_at hl 1 rfl) ?_
          refine lv_iload_n hx hb dX7_readHoles_37 rfl (lv_at hl 0 rfl) ?_
          refine lv_iconst (v := nI 1) hx hb dX7_readHoles_38 (by decide) ?_
          refine xn_add hx hb (r := ((48 + d) + 1)) rfl dX7_readHoles_39 ?_
          refine lv_bipush (v := nI 55) hx hb dX7_readHoles_40 (by decide) ?_
          refine xc_V (As := [.int (nI ((48 + d) + 1)), .int (nI 55)]) (rest := []) ⟨hx, hb, hml, hown, hts⟩ (c_X7_isNext_0 l D y g s0 a0 b0 x0 kn L q le (nI (hoF T L ta (d + 1))) o2 po rs ca tx T hT ((48 + d) + 1) 55 (by omega) (by omega) (by omega) (by omega)) (cwV 2 hts gX7_readHoles_X7_isNext rfl rfl rfl hd_X7_isNext ⟨Nat.le_of_ble_eq_true rfl, Nat.le_of_ble_eq_true rfl⟩) (xpv_r hK hP [0, 1] 0 rfl rfl rfl) rfl hl.1 rfl (Nat.le_of_ble_eq_true rfl) dX7_readHoles_42 ⟨Nat.zero_le _, Nat.zero_le _⟩ (fun r2 hr2 => ?_)
          subst hr2
          refine xn_if_eq hx hb (by omega) (tgt := 75) dX7_readHoles_45 (by decide) (fun kc45 => ?_) (fun kc45 => ?_)
          · have ho : hoP T L ta 8 = q ∧ hoF T L ta 8 = hoF T L ta (d + 1) := by first | exact ho_end (by omega) hq (bN_0.mp kc45) | (have h7 : d = 7 := (by omega); subst h7; exact ⟨hq, rfl⟩)
            have hnz := ho_nz (by omega) hq hpq
            subst hQe
            exact xw_v hx hb hr hlocks () hS dX7_readHoles_75 (trivial) (fun t ht => by rw [ht]; exact (by rw [ho.1, ho.2, bN_f hnz]; exact hP))
          · refine lv_aload_n hx hb dX7_readHoles_48 rfl (lv_at hl 1 rfl) ?_
            refine lv_bipush (v := nI 48) hx hb dX7_readHoles_49 (by decide) ?_
            refine lv_bipush (v := nI 55) hx hb dX7_readHoles_51 (by decide) ?_
            have hFc := xD_in (W0 := [(g, .inr (7, [.ref s0, .ref a0, .ref b0, .int (nI kn), .ref x0, .int (nI L), .int (nI q), .int (nI 0), .int (nI le), .int (nI (hoF T L ta (d + 1))), .int o2, .int (nI po), .int (nI rs), .int ca])), (x0, .inl (y 1, 60, .inl tx))]) hD [0, 1] rfl
            refine va_calli (va_runV (As := [.int (nI 48), .int (nI 55)]) (rest := []) ⟨hx, hb, hml, hown, hts⟩ (c_X7_sign_0 l D y g s0 a0 b0 x0 kn L q le (nI (hoF T L ta (d + 1))) o2 po rs ca tx T hT 48 55 (by omega) (by omega) (by omega)) (cwV 2 hts gX7_readHoles_X7_sign rfl rfl rfl hd_X7_sign ⟨Nat.le_of_ble_eq_true rfl, Nat.le_of_ble_eq_true rfl⟩) (xpv_w hK hP hD [0, 1] 0 rfl rfl rfl rfl rfl) rfl rfl hl.1 rfl (lv_room (Nat.le_of_ble_eq_true rfl)) dX7_readHoles_53 ⟨Nat.zero_le _, Nat.zero_le _⟩) hS (fun q _ h => hFc q h) hFc (fun r3 u3 t H locs ht hvm hw3 hB hz1 hk1 hS1 => ?_)
            have hB : va_P D vwCl [(g, .inr (7, [.ref s0, .ref a0, .ref b0, .int (nI kn), .ref x0, .int (nI L), .int (nI (q + bN (inC T L q 48 55))), .int (nI (1 - bN (inC T L q 48 55))), .int (nI le), .int (nI (hoF T L ta (d + 1))), .int o2, .int (nI po), .int (nI rs), .int ca])), (x0, .inl (y 1, 60, .inl tx))] t.heap := hB
            rw [ht] at hB
            have hw3 : r3 = nI (sgn T L q) := hw3
            have hJ := xj_join (ws2 := [(g, .inr (7, [.ref s0, .ref a0, .ref b0, .int (nI kn), .ref x0, .int (nI L), .int (nI (q + bN (inC T L q 48 55))), .int (nI (1 - bN (inC T L q 48 55))), .int (nI le), .int (nI (hoF T L ta (d + 1))), .int o2, .int (nI po), .int (nI rs), .int ca])), (x0, .inl (y 1, 60, .inl tx))]) hP hD [0, 1] [] rfl rfl rfl rfl rfl rfl hk1 hB
            clear hP hD hS hB hk1 hz1 hFc hvm ht
            obtain ⟨hP, hD⟩ := hJ
            have hS := hS1
            clear hS1
            subst hw3
            have hq9 := bN_n0.mp kc45
            rw [bN_t (c := inC T L q 48 55) (⟨by omega, by omega⟩ : inC T L q 48 55)] at hP hD
            replace hP : va_P D vwCl [(g, .inr (7, [.ref s0, .ref a0, .ref b0, .int (nI kn), .ref x0, .int (nI L), .int (nI (q + 1)), .int (nI 0), .int (nI le), .int (nI (hoF T L ta (d + 1))), .int o2, .int (nI po), .int (nI rs), .int ca])), (x0, .inl (y 1, 60, .inl tx))] H := hP
            replace hD : va_D A [(g, .inr (7, [.ref s0, .ref a0, .ref b0, .int (nI kn), .ref x0, .int (nI L), .int (nI (q + 1)), .int (nI 0), .int (nI le), .int (nI (hoF T L ta (d + 1))), .int o2, .int (nI po), .int (nI rs), .int ca])), (x0, .inl (y 1, 60, .inl tx))] := hD
            obtain ⟨c, hc, hc7⟩ : ∃ c, sgn T L q = 48 + c ∧ c ≤ 7 := ⟨sgn T L q - 48, by omega, by omega⟩
            have hnx := ho_next hq hc (by omega)
            refine lv_istore_n (lv' := [(1, .int (nI (sgn T L q))), (0, .ref g)]) hx hb dX7_readHoles_56 rfl hl (by decide) rfl (fun ls hl => ?_)
            refine lv_aload_n hx hb dX7_readHoles_57 rfl (lv_at hl 1 rfl) ?_
            refine lv_dup hx hb dX7_readHoles_58 rfl ?_
            refine va_get (D := D) (ci := 7) (v := .int (nI (hoF T L ta (d + 1)))) (C := RX7) (T := TX7) (N := 14) hx hb hts hin_X7 hown hK.1 hP 0 rfl rfl 9 (by decide) f_154 (fun _ h9 => h9) rfl dX7_readHoles_59 ?_
            refine lv_iconst (v := nI 1) hx hb dX7_readHoles_62 (by decide) ?_
            refine lv_iload_n hx hb dX7_readHoles_63 rfl (lv_at hl 0 rfl) ?_
            refine lv_bipush (v := nI 48) hx hb dX7_readHoles_64 (by decide) ?_
            refine xn_sub hx hb (r := ((sgn T L q) - 48)) (by omega) rfl dX7_readHoles_66 ?_
            refine xn_shl hx hb (r := (1 * 2 ^ ((sgn T L q) - 48))) (by omega) (by have : 2 ^ (sgn T L q - 48) ≤ 2 ^ 7 := Nat.pow_le_pow_right (by decide) (by omega); omega) rfl dX7_readHoles_67 ?_
            refine xn_or hx hb (r := ((hoF T L ta (d + 1)) ||| (1 * 2 ^ ((sgn T L q) - 48)))) rfl dX7_readHoles_68 ?_
            refine va_put (D := D) (ci := 7) (v := .int (nI ((hoF T L ta (d + 1)) ||| (1 * 2 ^ ((sgn T L q) - 48))))) (ty := .int) (C := RX7) (T := TX7) (N := 14) hx hb hts hin_X7 tyX7 tyX7_ok nmX7 hown hK.1 hP hD hS 0 rfl rfl 9 (by decide) f_154 (fun _ h9 => h9) rfl (by decide +kernel) rfl rfl (Nat.le_of_ble_eq_true rfl) dX7_readHoles_69 (fun H locs hP1 hD1 hS1 => ?_)
            clear hP hD hS
            have hP : va_P D vwCl [(g, .inr (7, [.ref s0, .ref a0, .ref b0, .int (nI kn), .ref x0, .int (nI L), .int (nI (q + 1)), .int (nI 0), .int (nI le), .int (nI ((hoF T L ta (d + 1)) ||| (1 * 2 ^ ((sgn T L q) - 48)))), .int o2, .int (nI po), .int (nI rs), .int ca])), (x0, .inl (y 1, 60, .inl tx))] H := hP1
            have hD : va_D A [(g, .inr (7, [.ref s0, .ref a0, .ref b0, .int (nI kn), .ref x0, .int (nI L), .int (nI (q + 1)), .int (nI 0), .int (nI le), .int (nI ((hoF T L ta (d + 1)) ||| (1 * 2 ^ ((sgn T L q) - 48)))), .int o2, .int (nI po), .int (nI rs), .int ca])), (x0, .inl (y 1, 60, .inl tx))] := hD1
            have hS := hS1
            clear hP1 hD1 hS1
            refine lv_goto (tgt := 30) hx hb dX7_readHoles_72 (by decide) ?_
            have e4 : (sgn T L q) = (48 + c) := hc
            have hW5 : ([(g, .inr (7, [.ref s0, .ref a0, .ref b0, .int (nI kn), .ref x0, .int (nI L), .int (nI (q + 1)), .int (nI 0), .int (nI le), .int (nI ((hoF T L ta (d + 1)) ||| (1 * 2 ^ ((sgn T L q) - 48)))), .int o2, .int (nI po), .int (nI rs), .int ca])), (x0, .inl (y 1, 60, .inl tx))] : va_W) = [(g, .inr (7, [.ref s0, .ref a0, .ref b0, .int (nI kn), .ref x0, .int (nI L), .int (nI (q + 1)), .int (nI 0), .int (nI le), .int (nI (hoF T L ta (c + 1))), .int o2, .int (nI po), .int (nI rs), .int ca])), (x0, .inl (y 1, 60, .inl tx))] := by rw [hnx.2, show sgn T L q - 48 = c by omega]
            exact ih30 c (q + 1) (by omega) (by omega) (hnx.1) (by omega) (by have q9 := (hoP_le (T := T) (L := L) (p := ta) (c + 1)).1; rw [hnx.1] at q9; omega) _ _ (xP_eq hP hW5) (xD_eq hD hW5) hS ls (xl_eq (b := [(1, .int (nI (48 + c))), (0, .ref g)]) (lv_sub (l' := [(1, .int (nI (sgn T L q))), (0, .ref g)]) hl [0, 1] rfl) (xk (congrArg (fun z : Nat => Value.int (nI z)) e4) (xk rfl (rfl : ([] : List (Nat × Value)) = []))))
    have e6 : (sgn T L ta) = (48 + d0) := hd0
    have hW7 : ([(g, .inr (7, [.ref s0, .ref a0, .ref b0, .int (nI kn), .ref x0, .int (nI L), .int (nI (ta + 1)), .int (nI 0), .int (nI le), .int (nI (1 * 2 ^ ((sgn T L ta) - 48))), .int o2, .int (nI po), .int (nI rs), .int ca])), (x0, .inl (y 1, 60, .inl tx))] : va_W) = [(g, .inr (7, [.ref s0, .ref a0, .ref b0, .int (nI kn), .ref x0, .int (nI L), .int (nI (ta + 1)), .int (nI 0), .int (nI le), .int (nI (hoF T L ta (d0 + 1))), .int o2, .int (nI po), .int (nI rs), .int ca])), (x0, .inl (y 1, 60, .inl tx))] := by rw [(ho_first hd0).2, show sgn T L ta - 48 = d0 by omega]
    exact lp30 ((8 - d0) + 1) d0 (ta + 1) (Nat.lt_succ_self _) (by omega) ((ho_first hd0).1) (by omega) (by omega) _ _ (xP_eq hP hW7) (xD_eq hD hW7) hS ls (xl_eq (b := [(1, .int (nI (48 + d0))), (0, .ref g)]) (lv_sub (l' := [(1, .int (nI (sgn T L ta))), (0, .ref g)]) hl [0, 1] rfl) (xk (congrArg (fun z : Nat => Value.int (nI z)) e6) (xk rfl (rfl : ([] : List (Nat × Value)) = []))))
  · rw [bN_f (c := inC T L ta 48 55) hin] at hP hD
    replace hP : va_P D vwCl [(g, .inr (7, [.ref s0, .ref a0, .ref b0, .int (nI kn), .ref x0, .int (nI L), .int (nI ta), .int (nI 1), .int (nI le), .int o1, .int o2, .int (nI po), .int (nI rs), .int ca])), (x0, .inl (y 1, 60, .inl tx))] H := hP
    replace hD : va_D A [(g, .inr (7, [.ref s0, .ref a0, .ref b0, .int (nI kn), .ref x0, .int (nI L), .int (nI ta), .int (nI 1), .int (nI le), .int o1, .int o2, .int (nI po), .int (nI rs), .int ca])), (x0, .inl (y 1, 60, .inl tx))] := hD
    refine lv_istore_n (lv' := [(1, .int (nI (sgn T L ta))), (0, .ref g)]) hx hb dX7_readHoles_8 rfl hl (by decide) rfl (fun ls hl => ?_)
    refine lv_aload_n hx hb dX7_readHoles_9 rfl (lv_at hl 1 rfl) ?_
    refine lv_aload_n hx hb dX7_readHoles_10 rfl (lv_at hl 1 rfl) ?_
    refine va_get (D := D) (ci := 7) (v := .int (nI 1)) (C := RX7) (T := TX7) (N := 14) hx hb hts hin_X7 hown hK.1 hP 0 rfl rfl 7 (by decide) f_144 (fun _ h9 => h9) rfl dX7_readHoles_11 ?_
    refine lv_if_eq (tgt := 21) hx hb dX7_readHoles_14 (by decide) (fun h => absurd h (by decide)) (fun _ => ?_)
    refine lv_iconst (v := nI 0) hx hb dX7_readHoles_17 (by decide) ?_
    refine lv_goto (tgt := 27) hx hb dX7_readHoles_18 (by decide) ?_
    refine va_put (D := D) (ci := 7) (v := .int (nI 0)) (ty := .int) (C := RX7) (T := TX7) (N := 14) hx hb hts hin_X7 tyX7 tyX7_ok nmX7 hown hK.1 hP hD hS 0 rfl rfl 9 (by decide) f_154 (fun _ h9 => h9) rfl (by decide +kernel) rfl rfl (Nat.le_of_ble_eq_true rfl) dX7_readHoles_27 (fun H locs hP1 hD1 hS1 => ?_)
    clear hP hD hS
    have hP : va_P D vwCl [(g, .inr (7, [.ref s0, .ref a0, .ref b0, .int (nI kn), .ref x0, .int (nI L), .int (nI ta), .int (nI 1), .int (nI le), .int (nI 0), .int o2, .int (nI po), .int (nI rs), .int ca])), (x0, .inl (y 1, 60, .inl tx))] H := hP1
    have hD : va_D A [(g, .inr (7, [.ref s0, .ref a0, .ref b0, .int (nI kn), .ref x0, .int (nI L), .int (nI ta), .int (nI 1), .int (nI le), .int (nI 0), .int o2, .int (nI po), .int (nI rs), .int ca])), (x0, .inl (y 1, 60, .inl tx))] := hD1
    have hS := hS1
    clear hP1 hD1 hS1
    refine lv_iload_n hx hb dX7_readHoles_30 rfl (lv_at hl 0 rfl) ?_
    refine lv_bipush (v := nI 55) hx hb dX7_readHoles_31 (by decide) ?_
    refine xn_icmp_ge hx hb (by omega) (by omega) (tgt := 75) dX7_readHoles_33 (by decide) (fun kc33 => ?_) (fun kc33 => ?_)
    · have ho := ho_none hin
      subst hQe
      exact xw_v hx hb hr hlocks () hS dX7_readHoles_75 (trivial) (fun t ht => by rw [ht]; exact (by rw [ho.1, ho.2, bN_t (c := (0 : Nat) = 0) rfl]; exact hP))
    · refine lv_aload_n hx hb dX7_readHoles_36 rfl (lv_at hl 1 rfl) ?_
      refine lv_iload_n hx hb dX7_readHoles_37 rfl (lv_at hl 0 rfl) ?_
      refine lv_iconst (v := nI 1) hx hb dX7_readHoles_38 (by decide) ?_
      refine xn_add hx hb (r := ((sgn T L ta) + 1)) rfl dX7_readHoles_39 ?_
      refine lv_bipush (v := nI 55) hx hb dX7_readHoles_40 (by decide) ?_
      refine xc_V (As := [.int (nI ((sgn T L ta) + 1)), .int (nI 55)]) (rest := []) ⟨hx, hb, hml, hown, hts⟩ (c_X7_isNext_1 l D y g s0 a0 b0 x0 kn L ta le (nI 0) o2 po rs ca tx T hT ((sgn T L ta) + 1) 55) (cwV 2 hts gX7_readHoles_X7_isNext rfl rfl rfl hd_X7_isNext ⟨Nat.le_of_ble_eq_true rfl, Nat.le_of_ble_eq_true rfl⟩) (xpv_r hK hP [0, 1] 0 rfl rfl rfl) rfl hl.1 rfl (Nat.le_of_ble_eq_true rfl) dX7_readHoles_42 ⟨Nat.zero_le _, Nat.zero_le _⟩ (fun r8 hr8 => ?_)
      subst hr8
      refine lv_if_eq (tgt := 75) hx hb dX7_readHoles_45 (by decide) (fun _ => ?_) (fun h => absurd h (by decide))
      have ho := ho_none hin
      subst hQe
      exact xw_v hx hb hr hlocks () hS dX7_readHoles_75 (trivial) (fun t ht => by rw [ht]; exact (by rw [ho.1, ho.2, bN_t (c := (0 : Nat) = 0) rfl]; exact hP))
set_option maxHeartbeats 8000000 in
set_option maxRecDepth 100000 in
theorem c_X7_read (l : Launch) (D : va_G) (y : Nat → ClassId) (g s0 a0 b0 x0 kn L ta wr le : Nat) (o1 o2 : Int32) (po rs : Nat) (ca : Int32) (tx : Nat → Int32) (T : Nat → Nat) (hT : RepT T L tx) (hta : ta < 2 ^ 28) : Met l yX7_read wsX7_read ({ frames := 3, cells := 0, slots := 0, locals := 66 }) (va_Pc [.ref g] (xPw D y [(g, .inr (7, [.ref s0, .ref a0, .ref b0, .int (nI kn), .ref x0, .int (nI L), .int (nI ta), .int (nI wr), .int (nI le), .int o1, .int o2, .int (nI po), .int (nI rs), .int ca])), (x0, .inl (y 1, 60, .inl tx))])) (va_Qv (fun (u : Int32 × Int32) => orK T L ta → ∃ x9 z9 : Nat, u.1 = nI x9 ∧ u.2 = nI z9 ∧ x9 < 1000 ∧ z9 < 1000 ∧ (¬ sgn T L ta = 116 → x9 = orX T L ta) ∧ (sgn T L ta = 107 ∨ sgn T L ta = 110 → z9 = orY T L ta)) (fun (u : Int32 × Int32) t => va_P D vwCl [(g, .inr (7, [.ref s0, .ref a0, .ref b0, .int (nI kn), .ref x0, .int (nI L), .int (nI (orP T L ta)), .int (nI (1 - bN (orK T L ta))), .int (nI (sgn T L ta)), .int u.1, .int u.2, .int (nI po), .int (nI rs), .int ca])), (x0, .inl (y 1, 60, .inl tx))] t.heap) (xIn [(g, .inr (7, [.ref s0, .ref a0, .ref b0, .int (nI kn), .ref x0, .int (nI L), .int (nI ta), .int (nI wr), .int (nI le), .int o1, .int o2, .int (nI po), .int (nI rs), .int ca])), (x0, .inl (y 1, 60, .inl tx))])) 0 0 (xIn [(g, .inr (7, [.ref s0, .ref a0, .ref b0, .int (nI kn), .ref x0, .int (nI L), .int (nI ta), .int (nI wr), .int (nI le), .int o1, .int o2, .int (nI po), .int (nI rs), .int ca])), (x0, .inl (y 1, 60, .inl tx))]) := by
  refine Met.ofW (cc := cX7_read) (maxL := 3) (ret := none) (by decide) rfl ?_
  intro p e s m args below meth c s₁ B hml hv
  obtain ⟨rfl, hP, hK, hD0⟩ := hv
  have hx := B.exec
  have hb := B.bytes
  have hr := B.returns
  have hts := atoms_spec (ws := wsX7_read) B.pre
  have hown : s.vm.findClass RX7 = some m.cls := findClass_of_methodNamed B.named
  have hlocks := B.notSynchronized
  have f_138 := hts (.fieldLink RX7 138 "LoomTunesModel" "length" "I") (by decide +kernel)
  have f_141 := hts (.fieldLink RX7 141 "LoomTunesModel" "at" "I") (by decide +kernel)
  have f_144 := hts (.fieldLink RX7 144 "LoomTunesModel" "isWrong" "Z") (by decide +kernel)
  have f_154 := hts (.fieldLink RX7 154 "LoomTunesModel" "one" "I") (by decide +kernel)
  have f_157 := hts (.fieldLink RX7 157 "LoomTunesModel" "letter" "I") (by decide +kernel)
  have f_160 := hts (.fieldLink RX7 160 "LoomTunesModel" "two" "I") (by decide +kernel)
  have f_19 := hts (.fieldLink RX7 19 "LoomTunesModel" "text" "[I") (by decide +kernel)
  have hin_X7 : ∀ w ∈ wsX70, w ∈ wsX7_read := by decide +kernel
  have hD := xD_self hD0
  generalize hAe : xIn [(g, .inr (7, [.ref s0, .ref a0, .ref b0, .int (nI kn), .ref x0, .int (nI L), .int (nI ta), .int (nI wr), .int (nI le), .int o1, .int o2, .int (nI po), .int (nI rs), .int ca])), (x0, .inl (y 1, 60, .inl tx))] = A at hD ⊢
  have hS : va_S A s.heap s.heap [] := va_S.rf
  have hP : va_P D vwCl [(g, .inr (7, [.ref s0, .ref a0, .ref b0, .int (nI kn), .ref x0, .int (nI L), .int (nI ta), .int (nI wr), .int (nI le), .int o1, .int o2, .int (nI po), .int (nI rs), .int ca])), (x0, .inl (y 1, 60, .inl tx))] s.heap := hP
  have hl := lv_entry ([.ref g]) (n := 3) (Nat.le_of_ble_eq_true rfl)
  rw [lg_entry_eq]
  generalize (lg_sl ([.ref g]) ++ List.replicate (3 - (lg_sl ([.ref g])).length) Slot.unset).toArray = ls at hl ⊢
  have hl : lv_has ls 3 [(0, .ref g)] := hl
  generalize hQe : (MQ below (va_Qv (fun (u : Int32 × Int32) => orK T L ta → ∃ x9 z9 : Nat, u.1 = nI x9 ∧ u.2 = nI z9 ∧ x9 < 1000 ∧ z9 < 1000 ∧ (¬ sgn T L ta = 116 → x9 = orX T L ta) ∧ (sgn T L ta = 107 ∨ sgn T L ta = 110 → z9 = orY T L ta)) (fun (u : Int32 × Int32) t => va_P D vwCl [(g, .inr (7, [.ref s0, .ref a0, .ref b0, .int (nI kn), .ref x0, .int (nI L), .int (nI (orP T L ta)), .int (nI (1 - bN (orK T L ta))), .int (nI (sgn T L ta)), .int u.1, .int u.2, .int (nI po), .int (nI rs), .int ca])), (x0, .inl (y 1, 60, .inl tx))] t.heap) A) ([.ref g] : List Value).toArray s 0 0 A) = Q
  have hL := hT.1
  have hs9 := sgn_lt hT (p := ta)
  have hol8 := hoP_le (T := T) (L := L) (p := ta + 1) 8
  have hnl := nuP_le (T := T) (L := L) (p := ta + 1)
  have hnl2 := nuP_le (T := T) (L := L) (p := nuP T L (ta + 1) + 1)
  have eq59 : ∀ {q9 : Nat}, sgn T L q9 = 59 ↔ inC T L q9 59 59 := fun {q9} => ⟨fun h9 => ⟨by omega, by omega⟩, fun h9 => by have := h9.1; have := h9.2; omega⟩
  have eq44 : ∀ {q9 : Nat}, sgn T L q9 = 44 ↔ inC T L q9 44 44 := fun {q9} => ⟨fun h9 => ⟨by omega, by omega⟩, fun h9 => by have := h9.1; have := h9.2; omega⟩
  refine lv_aload_n hx hb dX7_read_0 rfl (lv_at hl 0 rfl) ?_
  refine va_get (D := D) (ci := 7) (v := .int (nI ta)) (C := RX7) (T := TX7) (N := 14) hx hb hts hin_X7 hown hK.1 hP 0 rfl rfl 6 (by decide) f_141 (fun _ h9 => h9) rfl dX7_read_1 ?_
  refine lv_aload_n hx hb dX7_read_4 rfl (lv_at hl 0 rfl) ?_
  refine va_get (D := D) (ci := 7) (v := .int (nI L)) (C := RX7) (T := TX7) (N := 14) hx hb hts hin_X7 hown hK.1 hP 0 rfl rfl 5 (by decide) f_138 (fun _ h9 => h9) rfl dX7_read_5 ?_
  have jn24 : ∀ (ls : Array Slot), lv_has ls 3 [(0, .ref g)] → W p l e (headSpec wsX7_read ({ frames := 3, cells := 0, slots := 0, locals := 66 })).room s m ([.ref g] : List Value).toArray below meth c s.heap [] 0 0 Q (F0 m 24 ls [.int (nI (sgn T L ta))]) := by
    intro  ls hl 
    refine lv_istore_n (lv' := [(1, .int (nI (sgn T L ta))), (0, .ref g)]) hx hb dX7_read_24 rfl hl (by decide) rfl (fun ls hl => ?_)
    refine lv_aload_n hx hb dX7_read_25 rfl (lv_at hl 1 rfl) ?_
    refine lv_iload_n hx hb dX7_read_26 rfl (lv_at hl 0 rfl) ?_
    refine lv_bipush (v := nI 99) hx hb dX7_read_27 (by decide) ?_
    refine xn_icmp_eq hx hb (by omega) (by omega) (tgt := 60) dX7_read_29 (by decide) (fun kc29 => ?_) (fun kc29 => ?_)
    · have hc : sgn T L ta = 99 := kc29
      refine lv_iconst (v := nI 0) hx hb dX7_read_60 (by decide) ?_
      refine va_put (D := D) (ci := 7) (v := .int (nI 0)) (ty := .boolean) (C := RX7) (T := TX7) (N := 14) hx hb hts hin_X7 tyX7 tyX7_ok nmX7 hown hK.1 hP hD hS 0 rfl rfl 7 (by decide) f_144 (fun _ h9 => h9) rfl (by decide +kernel) (xb_nar (by omega)) (xb_fit (by omega)) (Nat.le_of_ble_eq_true rfl) dX7_read_61 (fun H locs hP1 hD1 hS1 => ?_)
      clear hP hD hS
      have hP : va_P D vwCl [(g, .inr (7, [.ref s0, .ref a0, .ref b0, .int (nI kn), .ref x0, .int (nI L), .int (nI ta), .int (nI 0), .int (nI le), .int o1, .int o2, .int (nI po), .int (nI rs), .int ca])), (x0, .inl (y 1, 60, .inl tx))] H := hP1
      have hD : va_D A [(g, .inr (7, [.ref s0, .ref a0, .ref b0, .int (nI kn), .ref x0, .int (nI L), .int (nI ta), .int (nI 0), .int (nI le), .int o1, .int o2, .int (nI po), .int (nI rs), .int ca])), (x0, .inl (y 1, 60, .inl tx))] := hD1
      have hS := hS1
      clear hP1 hD1 hS1
      refine lv_aload_n hx hb dX7_read_64 rfl (lv_at hl 1 rfl) ?_
      refine lv_dup hx hb dX7_read_65 rfl ?_
      refine va_get (D := D) (ci := 7) (v := .int (nI ta)) (C := RX7) (T := TX7) (N := 14) hx hb hts hin_X7 hown hK.1 hP 0 rfl rfl 6 (by decide) f_141 (fun _ h9 => h9) rfl dX7_read_66 ?_
      refine lv_aload_n hx hb dX7_read_69 rfl (lv_at hl 1 rfl) ?_
      refine va_get (D := D) (ci := 7) (v := .int (nI 0)) (C := RX7) (T := TX7) (N := 14) hx hb hts hin_X7 hown hK.1 hP 0 rfl rfl 7 (by decide) f_144 (fun _ h9 => h9) rfl dX7_read_70 ?_
      refine lv_if_eq (tgt := 80) hx hb dX7_read_73 (by decide) (fun _ => ?_) (fun h => absurd h (by decide))
      refine lv_iconst (v := nI 1) hx hb dX7_read_80 (by decide) ?_
      refine xn_add hx hb (r := (ta + 1)) rfl dX7_read_81 ?_
      refine va_put (D := D) (ci := 7) (v := .int (nI (ta + 1))) (ty := .int) (C := RX7) (T := TX7) (N := 14) hx hb hts hin_X7 tyX7 tyX7_ok nmX7 hown hK.1 hP hD hS 0 rfl rfl 6 (by decide) f_141 (fun _ h9 => h9) rfl (by decide +kernel) rfl rfl (Nat.le_of_ble_eq_true rfl) dX7_read_82 (fun H locs hP1 hD1 hS1 => ?_)
      clear hP hD hS
      have hP : va_P D vwCl [(g, .inr (7, [.ref s0, .ref a0, .ref b0, .int (nI kn), .ref x0, .int (nI L), .int (nI (ta + 1)), .int (nI 0), .int (nI le), .int o1, .int o2, .int (nI po), .int (nI rs), .int ca])), (x0, .inl (y 1, 60, .inl tx))] H := hP1
      have hD : va_D A [(g, .inr (7, [.ref s0, .ref a0, .ref b0, .int (nI kn), .ref x0, .int (nI L), .int (nI (ta + 1)), .int (nI 0), .int (nI le), .int o1, .int o2, .int (nI po), .int (nI rs), .int ca])), (x0, .inl (y 1, 60, .inl tx))] := hD1
      have hS := hS1
      clear hP1 hD1 hS1
      refine lv_aload_n hx hb dX7_read_85 rfl (lv_at hl 1 rfl) ?_
      refine lv_iload_n hx hb dX7_read_86 rfl (lv_at hl 0 rfl) ?_
      refine va_put (D := D) (ci := 7) (v := .int (nI (sgn T L ta))) (ty := .int) (C := RX7) (T := TX7) (N := 14) hx hb hts hin_X7 tyX7 tyX7_ok nmX7 hown hK.1 hP hD hS 0 rfl rfl 8 (by decide) f_157 (fun _ h9 => h9) rfl (by decide +kernel) rfl rfl (Nat.le_of_ble_eq_true rfl) dX7_read_87 (fun H locs hP1 hD1 hS1 => ?_)
      clear hP hD hS
      have hP : va_P D vwCl [(g, .inr (7, [.ref s0, .ref a0, .ref b0, .int (nI kn), .ref x0, .int (nI L), .int (nI (ta + 1)), .int (nI 0), .int (nI (sgn T L ta)), .int o1, .int o2, .int (nI po), .int (nI rs), .int ca])), (x0, .inl (y 1, 60, .inl tx))] H := hP1
      have hD : va_D A [(g, .inr (7, [.ref s0, .ref a0, .ref b0, .int (nI kn), .ref x0, .int (nI L), .int (nI (ta + 1)), .int (nI 0), .int (nI (sgn T L ta)), .int o1, .int o2, .int (nI po), .int (nI rs), .int ca])), (x0, .inl (y 1, 60, .inl tx))] := hD1
      have hS := hS1
      clear hP1 hD1 hS1
      refine lv_aload_n hx hb dX7_read_90 rfl (lv_at hl 1 rfl) ?_
      refine lv_iconst (v := nI 0) hx hb dX7_read_91 (by decide) ?_
      refine va_put (D := D) (ci := 7) (v := .int (nI 0)) (ty := .int) (C := RX7) (T := TX7) (N := 14) hx hb hts hin_X7 tyX7 tyX7_ok nmX7 hown hK.1 hP hD hS 0 rfl rfl 9 (by decide) f_154 (fun _ h9 => h9) rfl (by decide +kernel) rfl rfl (Nat.le_of_ble_eq_true rfl) dX7_read_92 (fun H locs hP1 hD1 hS1 => ?_)
      clear hP hD hS
      have hP : va_P D vwCl [(g, .inr (7, [.ref s0, .ref a0, .ref b0, .int (nI kn), .ref x0, .int (nI L), .int (nI (ta + 1)), .int (nI 0), .int (nI (sgn T L ta)), .int (nI 0), .int o2, .int (nI po), .int (nI rs), .int ca])), (x0, .inl (y 1, 60, .inl tx))] H := hP1
      have hD : va_D A [(g, .inr (7, [.ref s0, .ref a0, .ref b0, .int (nI kn), .ref x0, .int (nI L), .int (nI (ta + 1)), .int (nI 0), .int (nI (sgn T L ta)), .int (nI 0), .int o2, .int (nI po), .int (nI rs), .int ca])), (x0, .inl (y 1, 60, .inl tx))] := hD1
      have hS := hS1
      clear hP1 hD1 hS1
      refine lv_aload_n hx hb dX7_read_95 rfl (lv_at hl 1 rfl) ?_
      refine lv_iconst (v := nI 0) hx hb dX7_read_96 (by decide) ?_
      refine va_put (D := D) (ci := 7) (v := .int (nI 0)) (ty := .int) (C := RX7) (T := TX7) (N := 14) hx hb hts hin_X7 tyX7 tyX7_ok nmX7 hown hK.1 hP hD hS 0 rfl rfl 10 (by decide) f_160 (fun _ h9 => h9) rfl (by decide +kernel) rfl rfl (Nat.le_of_ble_eq_true rfl) dX7_read_97 (fun H locs hP1 hD1 hS1 => ?_)
      clear hP hD hS
      have hP : va_P D vwCl [(g, .inr (7, [.ref s0, .ref a0, .ref b0, .int (nI kn), .ref x0, .int (nI L), .int (nI (ta + 1)), .int (nI 0), .int (nI (sgn T L ta)), .int (nI 0), .int (nI 0), .int (nI po), .int (nI rs), .int ca])), (x0, .inl (y 1, 60, .inl tx))] H := hP1
      have hD : va_D A [(g, .inr (7, [.ref s0, .ref a0, .ref b0, .int (nI kn), .ref x0, .int (nI L), .int (nI (ta + 1)), .int (nI 0), .int (nI (sgn T L ta)), .int (nI 0), .int (nI 0), .int (nI po), .int (nI rs), .int ca])), (x0, .inl (y 1, 60, .inl tx))] := hD1
      have hS := hS1
      clear hP1 hD1 hS1
      refine lv_iload_n hx hb dX7_read_100 rfl (lv_at hl 0 rfl) ?_
      refine lv_bipush (v := nI 99) hx hb dX7_read_101 (by decide) ?_
      refine xn_icmp_ne hx hb (by omega) (by omega) (tgt := 113) dX7_read_103 (by decide) (fun h => absurd h (by omega)) (fun kc103 => ?_)
      refine lv_aload_n hx hb dX7_read_106 rfl (lv_at hl 1 rfl) ?_
      have hFc := xD_in (W0 := [(g, .inr (7, [.ref s0, .ref a0, .ref b0, .int (nI kn), .ref x0, .int (nI L), .int (nI (ta + 1)), .int (nI 0), .int (nI (sgn T L ta)), .int (nI 0), .int (nI 0), .int (nI po), .int (nI rs), .int ca])), (x0, .inl (y 1, 60, .inl tx))]) hD [0, 1] rfl
      refine va_callv (va_runV (As := []) (rest := []) ⟨hx, hb, hml, hown, hts⟩ (c_X7_readHoles_0 l D y g s0 a0 b0 x0 kn L (ta + 1) (sgn T L ta) (nI 0) (nI 0) po rs ca tx T hT (by omega)) (cwV 0 hts gX7_read_X7_readHoles rfl rfl rfl hd_X7_readHoles ⟨Nat.le_of_ble_eq_true rfl, Nat.le_of_ble_eq_true rfl⟩) (xpv_w hK hP hD [0, 1] 0 rfl rfl rfl rfl rfl) rfl rfl hl.1 rfl (lv_room (Nat.le_of_ble_eq_true rfl)) dX7_read_107 ⟨Nat.zero_le _, Nat.zero_le _⟩) hS (fun q _ h => hFc q h) hFc (fun u1 t H locs ht hvm hw1 hB hz1 hk1 hS1 => ?_)
      have hB : va_P D vwCl [(g, .inr (7, [.ref s0, .ref a0, .ref b0, .int (nI kn), .ref x0, .int (nI L), .int (nI (hoP T L (ta + 1) 8)), .int (nI (bN (hoF T L (ta + 1) 8 = 0))), .int (nI (sgn T L ta)), .int (nI (hoF T L (ta + 1) 8)), .int (nI 0), .int (nI po), .int (nI rs), .int ca])), (x0, .inl (y 1, 60, .inl tx))] t.heap := hB
      rw [ht] at hB
      have hw1 : True := hw1
      have hJ := xj_join (ws2 := [(g, .inr (7, [.ref s0, .ref a0, .ref b0, .int (nI kn), .ref x0, .int (nI L), .int (nI (hoP T L (ta + 1) 8)), .int (nI (bN (hoF T L (ta + 1) 8 = 0))), .int (nI (sgn T L ta)), .int (nI (hoF T L (ta + 1) 8)), .int (nI 0), .int (nI po), .int (nI rs), .int ca])), (x0, .inl (y 1, 60, .inl tx))]) hP hD [0, 1] [] rfl rfl rfl rfl rfl rfl hk1 hB
      clear hP hD hS hB hk1 hz1 hFc hvm ht
      obtain ⟨hP, hD⟩ := hJ
      have hS := hS1
      clear hS1
      by_cases hz : hoF T L (ta + 1) 8 = 0
      · rw [bN_t (c := hoF T L (ta + 1) 8 = 0) hz] at hP hD
        replace hP : va_P D vwCl [(g, .inr (7, [.ref s0, .ref a0, .ref b0, .int (nI kn), .ref x0, .int (nI L), .int (nI (hoP T L (ta + 1) 8)), .int (nI 1), .int (nI (sgn T L ta)), .int (nI (hoF T L (ta + 1) 8)), .int (nI 0), .int (nI po), .int (nI rs), .int ca])), (x0, .inl (y 1, 60, .inl tx))] H := hP
        replace hD : va_D A [(g, .inr (7, [.ref s0, .ref a0, .ref b0, .int (nI kn), .ref x0, .int (nI L), .int (nI (hoP T L (ta + 1) 8)), .int (nI 1), .int (nI (sgn T L ta)), .int (nI (hoF T L (ta + 1) 8)), .int (nI 0), .int (nI po), .int (nI rs), .int ca])), (x0, .inl (y 1, 60, .inl tx))] := hD
        refine lv_goto (tgt := 178) hx hb dX7_read_110 (by decide) ?_
        refine lv_aload_n hx hb dX7_read_178 rfl (lv_at hl 1 rfl) ?_
        refine lv_bipush (v := nI 59) hx hb dX7_read_179 (by decide) ?_
        refine lv_bipush (v := nI 59) hx hb dX7_read_181 (by decide) ?_
        have hFc := xD_in (W0 := [(g, .inr (7, [.ref s0, .ref a0, .ref b0, .int (nI kn), .ref x0, .int (nI L), .int (nI (hoP T L (ta + 1) 8)), .int (nI 1), .int (nI (sgn T L ta)), .int (nI (hoF T L (ta + 1) 8)), .int (nI 0), .int (nI po), .int (nI rs), .int ca])), (x0, .inl (y 1, 60, .inl tx))]) hD [0, 1] rfl
        refine va_calli (va_runV (As := [.int (nI 59), .int (nI 59)]) (rest := []) ⟨hx, hb, hml, hown, hts⟩ (c_X7_sign_1 l D y g s0 a0 b0 x0 kn L (hoP T L (ta + 1) 8) (sgn T L ta) (nI (hoF T L (ta + 1) 8)) (nI 0) po rs ca tx T hT 59 59 (by omega) (by omega) (by omega)) (cwV 2 hts gX7_read_X7_sign rfl rfl rfl hd_X7_sign ⟨Nat.le_of_ble_eq_true rfl, Nat.le_of_ble_eq_true rfl⟩) (xpv_w hK hP hD [0, 1] 0 rfl rfl rfl rfl rfl) rfl rfl hl.1 rfl (lv_room (Nat.le_of_ble_eq_true rfl)) dX7_read_183 ⟨Nat.zero_le _, Nat.zero_le _⟩) hS (fun q _ h => hFc q h) hFc (fun r2 u2 t H locs ht hvm hw2 hB hz1 hk1 hS1 => ?_)
        have hB : va_P D vwCl [(g, .inr (7, [.ref s0, .ref a0, .ref b0, .int (nI kn), .ref x0, .int (nI L), .int (nI (hoP T L (ta + 1) 8)), .int (nI 1), .int (nI (sgn T L ta)), .int (nI (hoF T L (ta + 1) 8)), .int (nI 0), .int (nI po), .int (nI rs), .int ca])), (x0, .inl (y 1, 60, .inl tx))] t.heap := hB
        rw [ht] at hB
        have hw2 : r2 = nI (sgn T L (hoP T L (ta + 1) 8)) := hw2
        have hJ := xj_join (ws2 := [(g, .inr (7, [.ref s0, .ref a0, .ref b0, .int (nI kn), .ref x0, .int (nI L), .int (nI (hoP T L (ta + 1) 8)), .int (nI 1), .int (nI (sgn T L ta)), .int (nI (hoF T L (ta + 1) 8)), .int (nI 0), .int (nI po), .int (nI rs), .int ca])), (x0, .inl (y 1, 60, .inl tx))]) hP hD [0, 1] [] rfl rfl rfl rfl rfl rfl hk1 hB
        clear hP hD hS hB hk1 hz1 hFc hvm ht
        obtain ⟨hP, hD⟩ := hJ
        have hS := hS1
        clear hS1
        subst hw2
        refine lv_istore_n (lv' := [(2, .int (nI (sgn T L (hoP T L (ta + 1) 8)))), (1, .int (nI (sgn T L ta))), (0, .ref g)]) hx hb dX7_read_186 rfl hl (by decide) rfl (fun ls hl => ?_)
        have hk : ¬ orK T L ta := fun k9 => ((orK_99 hc).mp k9).1 hz
        have hp : orP T L ta = h8P T L ta := (orP_99 hc).trans (if_pos hz)
        have hks : bN (orK T L ta) = 0 := bN_f hk
        subst hQe
        exact xw_v hx hb hr hlocks (nI (hoF T L (ta + 1) 8), nI 0) hS dX7_read_187 (fun k9 => absurd k9 hk) (fun t ht => by rw [ht]; exact (by rw [hp, hks]; exact hP))
      · rw [bN_f (c := hoF T L (ta + 1) 8 = 0) hz] at hP hD
        replace hP : va_P D vwCl [(g, .inr (7, [.ref s0, .ref a0, .ref b0, .int (nI kn), .ref x0, .int (nI L), .int (nI (hoP T L (ta + 1) 8)), .int (nI 0), .int (nI (sgn T L ta)), .int (nI (hoF T L (ta + 1) 8)), .int (nI 0), .int (nI po), .int (nI rs), .int ca])), (x0, .inl (y 1, 60, .inl tx))] H := hP
        replace hD : va_D A [(g, .inr (7, [.ref s0, .ref a0, .ref b0, .int (nI kn), .ref x0, .int (nI L), .int (nI (hoP T L (ta + 1) 8)), .int (nI 0), .int (nI (sgn T L ta)), .int (nI (hoF T L (ta + 1) 8)), .int (nI 0), .int (nI po), .int (nI rs), .int ca])), (x0, .inl (y 1, 60, .inl tx))] := hD
        refine lv_goto (tgt := 178) hx hb dX7_read_110 (by decide) ?_
        refine lv_aload_n hx hb dX7_read_178 rfl (lv_at hl 1 rfl) ?_
        refine lv_bipush (v := nI 59) hx hb dX7_read_179 (by decide) ?_
        refine lv_bipush (v := nI 59) hx hb dX7_read_181 (by decide) ?_
        have hFc := xD_in (W0 := [(g, .inr (7, [.ref s0, .ref a0, .ref b0, .int (nI kn), .ref x0, .int (nI L), .int (nI (hoP T L (ta + 1) 8)), .int (nI 0), .int (nI (sgn T L ta)), .int (nI (hoF T L (ta + 1) 8)), .int (nI 0), .int (nI po), .int (nI rs), .int ca])), (x0, .inl (y 1, 60, .inl tx))]) hD [0, 1] rfl
        refine va_calli (va_runV (As := [.int (nI 59), .int (nI 59)]) (rest := []) ⟨hx, hb, hml, hown, hts⟩ (c_X7_sign_0 l D y g s0 a0 b0 x0 kn L (hoP T L (ta + 1) 8) (sgn T L ta) (nI (hoF T L (ta + 1) 8)) (nI 0) po rs ca tx T hT 59 59 (by omega) (by omega) (by omega)) (cwV 2 hts gX7_read_X7_sign rfl rfl rfl hd_X7_sign ⟨Nat.le_of_ble_eq_true rfl, Nat.le_of_ble_eq_true rfl⟩) (xpv_w hK hP hD [0, 1] 0 rfl rfl rfl rfl rfl) rfl rfl hl.1 rfl (lv_room (Nat.le_of_ble_eq_true rfl)) dX7_read_183 ⟨Nat.zero_le _, Nat.zero_le _⟩) hS (fun q _ h => hFc q h) hFc (fun r3 u3 t H locs ht hvm hw3 hB hz1 hk1 hS1 => ?_)
        have hB : va_P D vwCl [(g, .inr (7, [.ref s0, .ref a0, .ref b0, .int (nI kn), .ref x0, .int (nI L), .int (nI ((hoP T L (ta + 1) 8) + bN (inC T L (hoP T L (ta + 1) 8) 59 59))), .int (nI (1 - bN (inC T L (hoP T L (ta + 1) 8) 59 59))), .int (nI (sgn T L ta)), .int (nI (hoF T L (ta + 1) 8)), .int (nI 0), .int (nI po), .int (nI rs), .int ca])), (x0, .inl (y 1, 60, .inl tx))] t.heap := hB
        rw [ht] at hB
        have hw3 : r3 = nI (sgn T L (hoP T L (ta + 1) 8)) := hw3
        have hJ := xj_join (ws2 := [(g, .inr (7, [.ref s0, .ref a0, .ref b0, .int (nI kn), .ref x0, .int (nI L), .int (nI ((hoP T L (ta + 1) 8) + bN (inC T L (hoP T L (ta + 1) 8) 59 59))), .int (nI (1 - bN (inC T L (hoP T L (ta + 1) 8) 59 59))), .int (nI (sgn T L ta)), .int (nI (hoF T L (ta + 1) 8)), .int (nI 0), .int (nI po), .int (nI rs), .int ca])), (x0, .inl (y 1, 60, .inl tx))]) hP hD [0, 1] [] rfl rfl rfl rfl rfl rfl hk1 hB
        clear hP hD hS hB hk1 hz1 hFc hvm ht
        obtain ⟨hP, hD⟩ := hJ
        have hS := hS1
        clear hS1
        subst hw3
        refine lv_istore_n (lv' := [(2, .int (nI (sgn T L (hoP T L (ta + 1) 8)))), (1, .int (nI (sgn T L ta))), (0, .ref g)]) hx hb dX7_read_186 rfl hl (by decide) rfl (fun ls hl => ?_)
        have hks : bN (orK T L ta) = bN (inC T L (h8P T L ta) 59 59) := bN_c ((orK_99 hc).trans ⟨fun k9 => ⟨by omega, by omega⟩, fun k9 => ⟨hz, by omega⟩⟩)
        have hp : orP T L ta = h8P T L ta + bN (inC T L (h8P T L ta) 59 59) := ((orP_99 hc).trans (if_neg hz)).trans (congrArg (h8P T L ta + ·) (bN_c eq59))
        subst hQe
        exact xw_v hx hb hr hlocks (nI (hoF T L (ta + 1) 8), nI 0) hS dX7_read_187 (fun _ => ⟨orX T L ta, 0, by unfold orX; rw [if_pos hc], rfl, orX_lt hT, by decide, fun _ => rfl, fun q9 => absurd q9 (by omega)⟩) (fun t ht => by rw [ht]; exact (by rw [hp, hks]; exact hP))
    · refine lv_iload_n hx hb dX7_read_32 rfl (lv_at hl 0 rfl) ?_
      refine lv_bipush (v := nI 110) hx hb dX7_read_33 (by decide) ?_
      refine xn_icmp_eq hx hb (by omega) (by omega) (tgt := 60) dX7_read_35 (by decide) (fun kc35 => ?_) (fun kc35 => ?_)
      · have hc : sgn T L ta = 110 := kc35
        refine lv_iconst (v := nI 0) hx hb dX7_read_60 (by decide) ?_
        refine va_put (D := D) (ci := 7) (v := .int (nI 0)) (ty := .boolean) (C := RX7) (T := TX7) (N := 14) hx hb hts hin_X7 tyX7 tyX7_ok nmX7 hown hK.1 hP hD hS 0 rfl rfl 7 (by decide) f_144 (fun _ h9 => h9) rfl (by decide +kernel) (xb_nar (by omega)) (xb_fit (by omega)) (Nat.le_of_ble_eq_true rfl) dX7_read_61 (fun H locs hP1 hD1 hS1 => ?_)
        clear hP hD hS
        have hP : va_P D vwCl [(g, .inr (7, [.ref s0, .ref a0, .ref b0, .int (nI kn), .ref x0, .int (nI L), .int (nI ta), .int (nI 0), .int (nI le), .int o1, .int o2, .int (nI po), .int (nI rs), .int ca])), (x0, .inl (y 1, 60, .inl tx))] H := hP1
        have hD : va_D A [(g, .inr (7, [.ref s0, .ref a0, .ref b0, .int (nI kn), .ref x0, .int (nI L), .int (nI ta), .int (nI 0), .int (nI le), .int o1, .int o2, .int (nI po), .int (nI rs), .int ca])), (x0, .inl (y 1, 60, .inl tx))] := hD1
        have hS := hS1
        clear hP1 hD1 hS1
        refine lv_aload_n hx hb dX7_read_64 rfl (lv_at hl 1 rfl) ?_
        refine lv_dup hx hb dX7_read_65 rfl ?_
        refine va_get (D := D) (ci := 7) (v := .int (nI ta)) (C := RX7) (T := TX7) (N := 14) hx hb hts hin_X7 hown hK.1 hP 0 rfl rfl 6 (by decide) f_141 (fun _ h9 => h9) rfl dX7_read_66 ?_
        refine lv_aload_n hx hb dX7_read_69 rfl (lv_at hl 1 rfl) ?_
        refine va_get (D := D) (ci := 7) (v := .int (nI 0)) (C := RX7) (T := TX7) (N := 14) hx hb hts hin_X7 hown hK.1 hP 0 rfl rfl 7 (by decide) f_144 (fun _ h9 => h9) rfl dX7_read_70 ?_
        refine lv_if_eq (tgt := 80) hx hb dX7_read_73 (by decide) (fun _ => ?_) (fun h => absurd h (by decide))
        refine lv_iconst (v := nI 1) hx hb dX7_read_80 (by decide) ?_
        refine xn_add hx hb (r := (ta + 1)) rfl dX7_read_81 ?_
        refine va_put (D := D) (ci := 7) (v := .int (nI (ta + 1))) (ty := .int) (C := RX7) (T := TX7) (N := 14) hx hb hts hin_X7 tyX7 tyX7_ok nmX7 hown hK.1 hP hD hS 0 rfl rfl 6 (by decide) f_141 (fun _ h9 => h9) rfl (by decide +kernel) rfl rfl (Nat.le_of_ble_eq_true rfl) dX7_read_82 (fun H locs hP1 hD1 hS1 => ?_)
        clear hP hD hS
        have hP : va_P D vwCl [(g, .inr (7, [.ref s0, .ref a0, .ref b0, .int (nI kn), .ref x0, .int (nI L), .int (nI (ta + 1)), .int (nI 0), .int (nI le), .int o1, .int o2, .int (nI po), .int (nI rs), .int ca])), (x0, .inl (y 1, 60, .inl tx))] H := hP1
        have hD : va_D A [(g, .inr (7, [.ref s0, .ref a0, .ref b0, .int (nI kn), .ref x0, .int (nI L), .int (nI (ta + 1)), .int (nI 0), .int (nI le), .int o1, .int o2, .int (nI po), .int (nI rs), .int ca])), (x0, .inl (y 1, 60, .inl tx))] := hD1
        have hS := hS1
        clear hP1 hD1 hS1
        refine lv_aload_n hx hb dX7_read_85 rfl (lv_at hl 1 rfl) ?_
        refine lv_iload_n hx hb dX7_read_86 rfl (lv_at hl 0 rfl) ?_
        refine va_put (D := D) (ci := 7) (v := .int (nI (sgn T L ta))) (ty := .int) (C := RX7) (T := TX7) (N := 14) hx hb hts hin_X7 tyX7 tyX7_ok nmX7 hown hK.1 hP hD hS 0 rfl rfl 8 (by decide) f_157 (fun _ h9 => h9) rfl (by decide +kernel) rfl rfl (Nat.le_of_ble_eq_true rfl) dX7_read_87 (fun H locs hP1 hD1 hS1 => ?_)
        clear hP hD hS
        have hP : va_P D vwCl [(g, .inr (7, [.ref s0, .ref a0, .ref b0, .int (nI kn), .ref x0, .int (nI L), .int (nI (ta + 1)), .int (nI 0), .int (nI (sgn T L ta)), .int o1, .int o2, .int (nI po), .int (nI rs), .int ca])), (x0, .inl (y 1, 60, .inl tx))] H := hP1
        have hD : va_D A [(g, .inr (7, [.ref s0, .ref a0, .ref b0, .int (nI kn), .ref x0, .int (nI L), .int (nI (ta + 1)), .int (nI 0), .int (nI (sgn T L ta)), .int o1, .int o2, .int (nI po), .int (nI rs), .int ca])), (x0, .inl (y 1, 60, .inl tx))] := hD1
        have hS := hS1
        clear hP1 hD1 hS1
        refine lv_aload_n hx hb dX7_read_90 rfl (lv_at hl 1 rfl) ?_
        refine lv_iconst (v := nI 0) hx hb dX7_read_91 (by decide) ?_
        refine va_put (D := D) (ci := 7) (v := .int (nI 0)) (ty := .int) (C := RX7) (T := TX7) (N := 14) hx hb hts hin_X7 tyX7 tyX7_ok nmX7 hown hK.1 hP hD hS 0 rfl rfl 9 (by decide) f_154 (fun _ h9 => h9) rfl (by decide +kernel) rfl rfl (Nat.le_of_ble_eq_true rfl) dX7_read_92 (fun H locs hP1 hD1 hS1 => ?_)
        clear hP hD hS
        have hP : va_P D vwCl [(g, .inr (7, [.ref s0, .ref a0, .ref b0, .int (nI kn), .ref x0, .int (nI L), .int (nI (ta + 1)), .int (nI 0), .int (nI (sgn T L ta)), .int (nI 0), .int o2, .int (nI po), .int (nI rs), .int ca])), (x0, .inl (y 1, 60, .inl tx))] H := hP1
        have hD : va_D A [(g, .inr (7, [.ref s0, .ref a0, .ref b0, .int (nI kn), .ref x0, .int (nI L), .int (nI (ta + 1)), .int (nI 0), .int (nI (sgn T L ta)), .int (nI 0), .int o2, .int (nI po), .int (nI rs), .int ca])), (x0, .inl (y 1, 60, .inl tx))] := hD1
        have hS := hS1
        clear hP1 hD1 hS1
        refine lv_aload_n hx hb dX7_read_95 rfl (lv_at hl 1 rfl) ?_
        refine lv_iconst (v := nI 0) hx hb dX7_read_96 (by decide) ?_
        refine va_put (D := D) (ci := 7) (v := .int (nI 0)) (ty := .int) (C := RX7) (T := TX7) (N := 14) hx hb hts hin_X7 tyX7 tyX7_ok nmX7 hown hK.1 hP hD hS 0 rfl rfl 10 (by decide) f_160 (fun _ h9 => h9) rfl (by decide +kernel) rfl rfl (Nat.le_of_ble_eq_true rfl) dX7_read_97 (fun H locs hP1 hD1 hS1 => ?_)
        clear hP hD hS
        have hP : va_P D vwCl [(g, .inr (7, [.ref s0, .ref a0, .ref b0, .int (nI kn), .ref x0, .int (nI L), .int (nI (ta + 1)), .int (nI 0), .int (nI (sgn T L ta)), .int (nI 0), .int (nI 0), .int (nI po), .int (nI rs), .int ca])), (x0, .inl (y 1, 60, .inl tx))] H := hP1
        have hD : va_D A [(g, .inr (7, [.ref s0, .ref a0, .ref b0, .int (nI kn), .ref x0, .int (nI L), .int (nI (ta + 1)), .int (nI 0), .int (nI (sgn T L ta)), .int (nI 0), .int (nI 0), .int (nI po), .int (nI rs), .int ca])), (x0, .inl (y 1, 60, .inl tx))] := hD1
        have hS := hS1
        clear hP1 hD1 hS1
        refine lv_iload_n hx hb dX7_read_100 rfl (lv_at hl 0 rfl) ?_
        refine lv_bipush (v := nI 99) hx hb dX7_read_101 (by decide) ?_
        refine xn_icmp_ne hx hb (by omega) (by omega) (tgt := 113) dX7_read_103 (by decide) (fun kc103 => ?_) (fun h => absurd h (by omega))
        refine lv_aload_n hx hb dX7_read_113 rfl (lv_at hl 1 rfl) ?_
        refine va_get (D := D) (ci := 7) (v := .int (nI 0)) (C := RX7) (T := TX7) (N := 14) hx hb hts hin_X7 hown hK.1 hP 0 rfl rfl 7 (by decide) f_144 (fun _ h9 => h9) rfl dX7_read_114 ?_
        refine lv_if_ne (tgt := 178) hx hb dX7_read_117 (by decide) (fun h => absurd h (by decide)) (fun _ => ?_)
        refine lv_iload_n hx hb dX7_read_120 rfl (lv_at hl 0 rfl) ?_
        refine lv_bipush (v := nI 116) hx hb dX7_read_121 (by decide) ?_
        refine xn_icmp_eq hx hb (by omega) (by omega) (tgt := 178) dX7_read_123 (by decide) (fun h => absurd h (by omega)) (fun kc123 => ?_)
        refine lv_aload_n hx hb dX7_read_126 rfl (lv_at hl 1 rfl) ?_
        refine lv_aload_n hx hb dX7_read_127 rfl (lv_at hl 1 rfl) ?_
        have hFc := xD_in (W0 := [(g, .inr (7, [.ref s0, .ref a0, .ref b0, .int (nI kn), .ref x0, .int (nI L), .int (nI (ta + 1)), .int (nI 0), .int (nI (sgn T L ta)), .int (nI 0), .int (nI 0), .int (nI po), .int (nI rs), .int ca])), (x0, .inl (y 1, 60, .inl tx))]) hD [0, 1] rfl
        refine va_calli (va_runV (As := []) (rest := [.ref g]) ⟨hx, hb, hml, hown, hts⟩ (c_X7_number_0 l D y g s0 a0 b0 x0 kn L (ta + 1) (sgn T L ta) (nI 0) (nI 0) po rs ca tx T hT (by omega)) (cwV 0 hts gX7_read_X7_number rfl rfl rfl hd_X7_number ⟨Nat.le_of_ble_eq_true rfl, Nat.le_of_ble_eq_true rfl⟩) (xpv_w hK hP hD [0, 1] 0 rfl rfl rfl rfl rfl) rfl rfl hl.1 rfl (lv_room (Nat.le_of_ble_eq_true rfl)) dX7_read_128 ⟨Nat.zero_le _, Nat.zero_le _⟩) hS (fun q _ h => hFc q h) hFc (fun r4 u4 t H locs ht hvm hw4 hB hz1 hk1 hS1 => ?_)
        have hB : va_P D vwCl [(g, .inr (7, [.ref s0, .ref a0, .ref b0, .int (nI kn), .ref x0, .int (nI L), .int (nI (nuP T L (ta + 1))), .int (nI (1 - bN (dgt T L (ta + 1)))), .int (nI (sgn T L ta)), .int (nI 0), .int (nI 0), .int (nI po), .int (nI rs), .int ca])), (x0, .inl (y 1, 60, .inl tx))] t.heap := hB
        rw [ht] at hB
        have hw4 : dgt T L (ta + 1) → r4 = nI (nuV T L (ta + 1)) := hw4
        have hJ := xj_join (ws2 := [(g, .inr (7, [.ref s0, .ref a0, .ref b0, .int (nI kn), .ref x0, .int (nI L), .int (nI (nuP T L (ta + 1))), .int (nI (1 - bN (dgt T L (ta + 1)))), .int (nI (sgn T L ta)), .int (nI 0), .int (nI 0), .int (nI po), .int (nI rs), .int ca])), (x0, .inl (y 1, 60, .inl tx))]) hP hD [0, 1] [] rfl rfl rfl rfl rfl rfl hk1 hB
        clear hP hD hS hB hk1 hz1 hFc hvm ht
        obtain ⟨hP, hD⟩ := hJ
        have hS := hS1
        clear hS1
        by_cases hd1 : dgt T L (ta + 1)
        · rw [bN_t (c := dgt T L (ta + 1)) hd1] at hP hD
          replace hP : va_P D vwCl [(g, .inr (7, [.ref s0, .ref a0, .ref b0, .int (nI kn), .ref x0, .int (nI L), .int (nI (nuP T L (ta + 1))), .int (nI 0), .int (nI (sgn T L ta)), .int (nI 0), .int (nI 0), .int (nI po), .int (nI rs), .int ca])), (x0, .inl (y 1, 60, .inl tx))] H := hP
          replace hD : va_D A [(g, .inr (7, [.ref s0, .ref a0, .ref b0, .int (nI kn), .ref x0, .int (nI L), .int (nI (nuP T L (ta + 1))), .int (nI 0), .int (nI (sgn T L ta)), .int (nI 0), .int (nI 0), .int (nI po), .int (nI rs), .int ca])), (x0, .inl (y 1, 60, .inl tx))] := hD
          refine va_put (D := D) (ci := 7) (v := .int r4) (ty := .int) (C := RX7) (T := TX7) (N := 14) hx hb hts hin_X7 tyX7 tyX7_ok nmX7 hown hK.1 hP hD hS 0 rfl rfl 9 (by decide) f_154 (fun _ h9 => h9) rfl (by decide +kernel) rfl rfl (Nat.le_of_ble_eq_true rfl) dX7_read_131 (fun H locs hP1 hD1 hS1 => ?_)
          clear hP hD hS
          have hP : va_P D vwCl [(g, .inr (7, [.ref s0, .ref a0, .ref b0, .int (nI kn), .ref x0, .int (nI L), .int (nI (nuP T L (ta + 1))), .int (nI 0), .int (nI (sgn T L ta)), .int r4, .int (nI 0), .int (nI po), .int (nI rs), .int ca])), (x0, .inl (y 1, 60, .inl tx))] H := hP1
          have hD : va_D A [(g, .inr (7, [.ref s0, .ref a0, .ref b0, .int (nI kn), .ref x0, .int (nI L), .int (nI (nuP T L (ta + 1))), .int (nI 0), .int (nI (sgn T L ta)), .int r4, .int (nI 0), .int (nI po), .int (nI rs), .int ca])), (x0, .inl (y 1, 60, .inl tx))] := hD1
          have hS := hS1
          clear hP1 hD1 hS1
          refine lv_iload_n hx hb dX7_read_134 rfl (lv_at hl 0 rfl) ?_
          refine lv_bipush (v := nI 120) hx hb dX7_read_135 (by decide) ?_
          refine xn_icmp_ne hx hb (by omega) (by omega) (tgt := 144) dX7_read_137 (by decide) (fun kc137 => ?_) (fun h => absurd h (by omega))
          refine lv_aload_n hx hb dX7_read_144 rfl (lv_at hl 1 rfl) ?_
          refine lv_bipush (v := nI 44) hx hb dX7_read_145 (by decide) ?_
          refine lv_bipush (v := nI 44) hx hb dX7_read_147 (by decide) ?_
          have hFc := xD_in (W0 := [(g, .inr (7, [.ref s0, .ref a0, .ref b0, .int (nI kn), .ref x0, .int (nI L), .int (nI (nuP T L (ta + 1))), .int (nI 0), .int (nI (sgn T L ta)), .int r4, .int (nI 0), .int (nI po), .int (nI rs), .int ca])), (x0, .inl (y 1, 60, .inl tx))]) hD [0, 1] rfl
          refine va_calli (va_runV (As := [.int (nI 44), .int (nI 44)]) (rest := []) ⟨hx, hb, hml, hown, hts⟩ (c_X7_sign_0 l D y g s0 a0 b0 x0 kn L (nuP T L (ta + 1)) (sgn T L ta) r4 (nI 0) po rs ca tx T hT 44 44 (by omega) (by omega) (by omega)) (cwV 2 hts gX7_read_X7_sign rfl rfl rfl hd_X7_sign ⟨Nat.le_of_ble_eq_true rfl, Nat.le_of_ble_eq_true rfl⟩) (xpv_w hK hP hD [0, 1] 0 rfl rfl rfl rfl rfl) rfl rfl hl.1 rfl (lv_room (Nat.le_of_ble_eq_true rfl)) dX7_read_149 ⟨Nat.zero_le _, Nat.zero_le _⟩) hS (fun q _ h => hFc q h) hFc (fun r5 u5 t H locs ht hvm hw5 hB hz1 hk1 hS1 => ?_)
          have hB : va_P D vwCl [(g, .inr (7, [.ref s0, .ref a0, .ref b0, .int (nI kn), .ref x0, .int (nI L), .int (nI ((nuP T L (ta + 1)) + bN (inC T L (nuP T L (ta + 1)) 44 44))), .int (nI (1 - bN (inC T L (nuP T L (ta + 1)) 44 44))), .int (nI (sgn T L ta)), .int r4, .int (nI 0), .int (nI po), .int (nI rs), .int ca])), (x0, .inl (y 1, 60, .inl tx))] t.heap := hB
          rw [ht] at hB
          have hw5 : r5 = nI (sgn T L (nuP T L (ta + 1))) := hw5
          have hJ := xj_join (ws2 := [(g, .inr (7, [.ref s0, .ref a0, .ref b0, .int (nI kn), .ref x0, .int (nI L), .int (nI ((nuP T L (ta + 1)) + bN (inC T L (nuP T L (ta + 1)) 44 44))), .int (nI (1 - bN (inC T L (nuP T L (ta + 1)) 44 44))), .int (nI (sgn T L ta)), .int r4, .int (nI 0), .int (nI po), .int (nI rs), .int ca])), (x0, .inl (y 1, 60, .inl tx))]) hP hD [0, 1] [] rfl rfl rfl rfl rfl rfl hk1 hB
          clear hP hD hS hB hk1 hz1 hFc hvm ht
          obtain ⟨hP, hD⟩ := hJ
          have hS := hS1
          clear hS1
          subst hw5
          by_cases hcm : inC T L (nuP T L (ta + 1)) 44 44
          · rw [bN_t (c := inC T L (nuP T L (ta + 1)) 44 44) hcm] at hP hD
            replace hP : va_P D vwCl [(g, .inr (7, [.ref s0, .ref a0, .ref b0, .int (nI kn), .ref x0, .int (nI L), .int (nI (nuP T L (ta + 1) + 1)), .int (nI 0), .int (nI (sgn T L ta)), .int r4, .int (nI 0), .int (nI po), .int (nI rs), .int ca])), (x0, .inl (y 1, 60, .inl tx))] H := hP
            replace hD : va_D A [(g, .inr (7, [.ref s0, .ref a0, .ref b0, .int (nI kn), .ref x0, .int (nI L), .int (nI (nuP T L (ta + 1) + 1)), .int (nI 0), .int (nI (sgn T L ta)), .int r4, .int (nI 0), .int (nI po), .int (nI rs), .int ca])), (x0, .inl (y 1, 60, .inl tx))] := hD
            refine lv_istore_n (lv' := [(2, .int (nI (sgn T L (nuP T L (ta + 1))))), (1, .int (nI (sgn T L ta))), (0, .ref g)]) hx hb dX7_read_152 rfl hl (by decide) rfl (fun ls hl => ?_)
            refine lv_aload_n hx hb dX7_read_153 rfl (lv_at hl 2 rfl) ?_
            refine lv_iload_n hx hb dX7_read_154 rfl (lv_at hl 1 rfl) ?_
            refine lv_bipush (v := nI 120) hx hb dX7_read_155 (by decide) ?_
            refine xn_icmp_eq hx hb (by omega) (by omega) (tgt := 167) dX7_read_157 (by decide) (fun h => absurd h (by omega)) (fun kc157 => ?_)
            refine lv_aload_n hx hb dX7_read_160 rfl (lv_at hl 2 rfl) ?_
            refine va_get (D := D) (ci := 7) (v := .int (nI 0)) (C := RX7) (T := TX7) (N := 14) hx hb hts hin_X7 hown hK.1 hP 0 rfl rfl 7 (by decide) f_144 (fun _ h9 => h9) rfl dX7_read_161 ?_
            refine lv_if_eq (tgt := 171) hx hb dX7_read_164 (by decide) (fun _ => ?_) (fun h => absurd h (by decide))
            refine lv_aload_n hx hb dX7_read_171 rfl (lv_at hl 2 rfl) ?_
            have hFc := xD_in (W0 := [(g, .inr (7, [.ref s0, .ref a0, .ref b0, .int (nI kn), .ref x0, .int (nI L), .int (nI (nuP T L (ta + 1) + 1)), .int (nI 0), .int (nI (sgn T L ta)), .int r4, .int (nI 0), .int (nI po), .int (nI rs), .int ca])), (x0, .inl (y 1, 60, .inl tx))]) hD [0, 1] rfl
            refine va_calli (va_runV (As := []) (rest := [.ref g]) ⟨hx, hb, hml, hown, hts⟩ (c_X7_number_0 l D y g s0 a0 b0 x0 kn L (nuP T L (ta + 1) + 1) (sgn T L ta) r4 (nI 0) po rs ca tx T hT (by omega)) (cwV 0 hts gX7_read_X7_number rfl rfl rfl hd_X7_number ⟨Nat.le_of_ble_eq_true rfl, Nat.le_of_ble_eq_true rfl⟩) (xpv_w hK hP hD [0, 1] 0 rfl rfl rfl rfl rfl) rfl rfl hl.1 rfl (lv_room (Nat.le_of_ble_eq_true rfl)) dX7_read_172 ⟨Nat.zero_le _, Nat.zero_le _⟩) hS (fun q _ h => hFc q h) hFc (fun r6 u6 t H locs ht hvm hw6 hB hz1 hk1 hS1 => ?_)
            have hB : va_P D vwCl [(g, .inr (7, [.ref s0, .ref a0, .ref b0, .int (nI kn), .ref x0, .int (nI L), .int (nI (nuP T L (nuP T L (ta + 1) + 1))), .int (nI (1 - bN (dgt T L (nuP T L (ta + 1) + 1)))), .int (nI (sgn T L ta)), .int r4, .int (nI 0), .int (nI po), .int (nI rs), .int ca])), (x0, .inl (y 1, 60, .inl tx))] t.heap := hB
            rw [ht] at hB
            have hw6 : dgt T L (nuP T L (ta + 1) + 1) → r6 = nI (nuV T L (nuP T L (ta + 1) + 1)) := hw6
            have hJ := xj_join (ws2 := [(g, .inr (7, [.ref s0, .ref a0, .ref b0, .int (nI kn), .ref x0, .int (nI L), .int (nI (nuP T L (nuP T L (ta + 1) + 1))), .int (nI (1 - bN (dgt T L (nuP T L (ta + 1) + 1)))), .int (nI (sgn T L ta)), .int r4, .int (nI 0), .int (nI po), .int (nI rs), .int ca])), (x0, .inl (y 1, 60, .inl tx))]) hP hD [0, 1] [] rfl rfl rfl rfl rfl rfl hk1 hB
            clear hP hD hS hB hk1 hz1 hFc hvm ht
            obtain ⟨hP, hD⟩ := hJ
            have hS := hS1
            clear hS1
            by_cases hd3 : dgt T L (nuP T L (ta + 1) + 1)
            · rw [bN_t (c := dgt T L (nuP T L (ta + 1) + 1)) hd3] at hP hD
              replace hP : va_P D vwCl [(g, .inr (7, [.ref s0, .ref a0, .ref b0, .int (nI kn), .ref x0, .int (nI L), .int (nI (nuP T L (nuP T L (ta + 1) + 1))), .int (nI 0), .int (nI (sgn T L ta)), .int r4, .int (nI 0), .int (nI po), .int (nI rs), .int ca])), (x0, .inl (y 1, 60, .inl tx))] H := hP
              replace hD : va_D A [(g, .inr (7, [.ref s0, .ref a0, .ref b0, .int (nI kn), .ref x0, .int (nI L), .int (nI (nuP T L (nuP T L (ta + 1) + 1))), .int (nI 0), .int (nI (sgn T L ta)), .int r4, .int (nI 0), .int (nI po), .int (nI rs), .int ca])), (x0, .inl (y 1, 60, .inl tx))] := hD
              refine va_put (D := D) (ci := 7) (v := .int r6) (ty := .int) (C := RX7) (T := TX7) (N := 14) hx hb hts hin_X7 tyX7 tyX7_ok nmX7 hown hK.1 hP hD hS 0 rfl rfl 10 (by decide) f_160 (fun _ h9 => h9) rfl (by decide +kernel) rfl rfl (Nat.le_of_ble_eq_true rfl) dX7_read_175 (fun H locs hP1 hD1 hS1 => ?_)
              clear hP hD hS
              have hP : va_P D vwCl [(g, .inr (7, [.ref s0, .ref a0, .ref b0, .int (nI kn), .ref x0, .int (nI L), .int (nI (nuP T L (nuP T L (ta + 1) + 1))), .int (nI 0), .int (nI (sgn T L ta)), .int r4, .int r6, .int (nI po), .int (nI rs), .int ca])), (x0, .inl (y 1, 60, .inl tx))] H := hP1
              have hD : va_D A [(g, .inr (7, [.ref s0, .ref a0, .ref b0, .int (nI kn), .ref x0, .int (nI L), .int (nI (nuP T L (nuP T L (ta + 1) + 1))), .int (nI 0), .int (nI (sgn T L ta)), .int r4, .int r6, .int (nI po), .int (nI rs), .int ca])), (x0, .inl (y 1, 60, .inl tx))] := hD1
              have hS := hS1
              clear hP1 hD1 hS1
              refine lv_aload_n hx hb dX7_read_178 rfl (lv_at hl 2 rfl) ?_
              refine lv_bipush (v := nI 59) hx hb dX7_read_179 (by decide) ?_
              refine lv_bipush (v := nI 59) hx hb dX7_read_181 (by decide) ?_
              have hFc := xD_in (W0 := [(g, .inr (7, [.ref s0, .ref a0, .ref b0, .int (nI kn), .ref x0, .int (nI L), .int (nI (nuP T L (nuP T L (ta + 1) + 1))), .int (nI 0), .int (nI (sgn T L ta)), .int r4, .int r6, .int (nI po), .int (nI rs), .int ca])), (x0, .inl (y 1, 60, .inl tx))]) hD [0, 1] rfl
              refine va_calli (va_runV (As := [.int (nI 59), .int (nI 59)]) (rest := []) ⟨hx, hb, hml, hown, hts⟩ (c_X7_sign_0 l D y g s0 a0 b0 x0 kn L (nuP T L (nuP T L (ta + 1) + 1)) (sgn T L ta) r4 r6 po rs ca tx T hT 59 59 (by omega) (by omega) (by omega)) (cwV 2 hts gX7_read_X7_sign rfl rfl rfl hd_X7_sign ⟨Nat.le_of_ble_eq_true rfl, Nat.le_of_ble_eq_true rfl⟩) (xpv_w hK hP hD [0, 1] 0 rfl rfl rfl rfl rfl) rfl rfl hl.1 rfl (lv_room (Nat.le_of_ble_eq_true rfl)) dX7_read_183 ⟨Nat.zero_le _, Nat.zero_le _⟩) hS (fun q _ h => hFc q h) hFc (fun r7 u7 t H locs ht hvm hw7 hB hz1 hk1 hS1 => ?_)
              have hB : va_P D vwCl [(g, .inr (7, [.ref s0, .ref a0, .ref b0, .int (nI kn), .ref x0, .int (nI L), .int (nI ((nuP T L (nuP T L (ta + 1) + 1)) + bN (inC T L (nuP T L (nuP T L (ta + 1) + 1)) 59 59))), .int (nI (1 - bN (inC T L (nuP T L (nuP T L (ta + 1) + 1)) 59 59))), .int (nI (sgn T L ta)), .int r4, .int r6, .int (nI po), .int (nI rs), .int ca])), (x0, .inl (y 1, 60, .inl tx))] t.heap := hB
              rw [ht] at hB
              have hw7 : r7 = nI (sgn T L (nuP T L (nuP T L (ta + 1) + 1))) := hw7
              have hJ := xj_join (ws2 := [(g, .inr (7, [.ref s0, .ref a0, .ref b0, .int (nI kn), .ref x0, .int (nI L), .int (nI ((nuP T L (nuP T L (ta + 1) + 1)) + bN (inC T L (nuP T L (nuP T L (ta + 1) + 1)) 59 59))), .int (nI (1 - bN (inC T L (nuP T L (nuP T L (ta + 1) + 1)) 59 59))), .int (nI (sgn T L ta)), .int r4, .int r6, .int (nI po), .int (nI rs), .int ca])), (x0, .inl (y 1, 60, .inl tx))]) hP hD [0, 1] [] rfl rfl rfl rfl rfl rfl hk1 hB
              clear hP hD hS hB hk1 hz1 hFc hvm ht
              obtain ⟨hP, hD⟩ := hJ
              have hS := hS1
              clear hS1
              subst hw7
              refine lv_istore_n (lv' := [(2, .int (nI (sgn T L (nuP T L (nuP T L (ta + 1) + 1))))), (1, .int (nI (sgn T L ta))), (0, .ref g)]) hx hb dX7_read_186 rfl hl (by decide) rfl (fun ls hl => ?_)
              have hc2 : sgn T L ta = 107 ∨ sgn T L ta = 110 := Or.inr hc
              have hp0 : orP T L ta = n1P T L (nuP T L (ta + 1) + 1) := (orP_2 hc2).trans (n2P_t hd1 (eq44.mpr hcm))
              have hks : bN (orK T L ta) = bN (inC T L (nuP T L (nuP T L (ta + 1) + 1)) 59 59) := bN_c ((orK_2 hc2).trans ⟨fun k9 => eq59.mp k9.2.2.2, fun k9 => ⟨hd1, eq44.mpr hcm, hd3, eq59.mpr k9⟩⟩)
              have hp : orP T L ta = nuP T L (nuP T L (ta + 1) + 1) + bN (inC T L (nuP T L (nuP T L (ta + 1) + 1)) 59 59) := (hp0.trans (n1P_t hd3)).trans (congrArg (nuP T L (nuP T L (ta + 1) + 1) + ·) (bN_c eq59))
              subst hQe
              exact xw_v hx hb hr hlocks (r4, r6) hS dX7_read_187 (fun _ => ⟨orX T L ta, orY T L ta, by unfold orX; rw [if_neg (by omega)]; exact hw4 hd1, hw6 hd3, orX_lt hT, nuV_lt hT, fun _ => rfl, fun _ => rfl⟩) (fun t ht => by rw [ht]; exact (by rw [hp, hks]; exact hP))
            · rw [bN_f (c := dgt T L (nuP T L (ta + 1) + 1)) hd3, nuP_n hd3] at hP hD
              replace hP : va_P D vwCl [(g, .inr (7, [.ref s0, .ref a0, .ref b0, .int (nI kn), .ref x0, .int (nI L), .int (nI (nuP T L (ta + 1) + 1)), .int (nI 1), .int (nI (sgn T L ta)), .int r4, .int (nI 0), .int (nI po), .int (nI rs), .int ca])), (x0, .inl (y 1, 60, .inl tx))] H := hP
              replace hD : va_D A [(g, .inr (7, [.ref s0, .ref a0, .ref b0, .int (nI kn), .ref x0, .int (nI L), .int (nI (nuP T L (ta + 1) + 1)), .int (nI 1), .int (nI (sgn T L ta)), .int r4, .int (nI 0), .int (nI po), .int (nI rs), .int ca])), (x0, .inl (y 1, 60, .inl tx))] := hD
              refine va_put (D := D) (ci := 7) (v := .int r6) (ty := .int) (C := RX7) (T := TX7) (N := 14) hx hb hts hin_X7 tyX7 tyX7_ok nmX7 hown hK.1 hP hD hS 0 rfl rfl 10 (by decide) f_160 (fun _ h9 => h9) rfl (by decide +kernel) rfl rfl (Nat.le_of_ble_eq_true rfl) dX7_read_175 (fun H locs hP1 hD1 hS1 => ?_)
              clear hP hD hS
              have hP : va_P D vwCl [(g, .inr (7, [.ref s0, .ref a0, .ref b0, .int (nI kn), .ref x0, .int (nI L), .int (nI (nuP T L (ta + 1) + 1)), .int (nI 1), .int (nI (sgn T L ta)), .int r4, .int r6, .int (nI po), .int (nI rs), .int ca])), (x0, .inl (y 1, 60, .inl tx))] H := hP1
              have hD : va_D A [(g, .inr (7, [.ref s0, .ref a0, .ref b0, .int (nI kn), .ref x0, .int (nI L), .int (nI (nuP T L (ta + 1) + 1)), .int (nI 1), .int (nI (sgn T L ta)), .int r4, .int r6, .int (nI po), .int (nI rs), .int ca])), (x0, .inl (y 1, 60, .inl tx))] := hD1
              have hS := hS1
              clear hP1 hD1 hS1
              refine lv_aload_n hx hb dX7_read_178 rfl (lv_at hl 2 rfl) ?_
              refine lv_bipush (v := nI 59) hx hb dX7_read_179 (by decide) ?_
              refine lv_bipush (v := nI 59) hx hb dX7_read_181 (by decide) ?_
              have hFc := xD_in (W0 := [(g, .inr (7, [.ref s0, .ref a0, .ref b0, .int (nI kn), .ref x0, .int (nI L), .int (nI (nuP T L (ta + 1) + 1)), .int (nI 1), .int (nI (sgn T L ta)), .int r4, .int r6, .int (nI po), .int (nI rs), .int ca])), (x0, .inl (y 1, 60, .inl tx))]) hD [0, 1] rfl
              refine va_calli (va_runV (As := [.int (nI 59), .int (nI 59)]) (rest := []) ⟨hx, hb, hml, hown, hts⟩ (c_X7_sign_1 l D y g s0 a0 b0 x0 kn L (nuP T L (ta + 1) + 1) (sgn T L ta) r4 r6 po rs ca tx T hT 59 59 (by omega) (by omega) (by omega)) (cwV 2 hts gX7_read_X7_sign rfl rfl rfl hd_X7_sign ⟨Nat.le_of_ble_eq_true rfl, Nat.le_of_ble_eq_true rfl⟩) (xpv_w hK hP hD [0, 1] 0 rfl rfl rfl rfl rfl) rfl rfl hl.1 rfl (lv_room (Nat.le_of_ble_eq_true rfl)) dX7_read_183 ⟨Nat.zero_le _, Nat.zero_le _⟩) hS (fun q _ h => hFc q h) hFc (fun r8 u8 t H locs ht hvm hw8 hB hz1 hk1 hS1 => ?_)
              have hB : va_P D vwCl [(g, .inr (7, [.ref s0, .ref a0, .ref b0, .int (nI kn), .ref x0, .int (nI L), .int (nI (nuP T L (ta + 1) + 1)), .int (nI 1), .int (nI (sgn T L ta)), .int r4, .int r6, .int (nI po), .int (nI rs), .int ca])), (x0, .inl (y 1, 60, .inl tx))] t.heap := hB
              rw [ht] at hB
              have hw8 : r8 = nI (sgn T L (nuP T L (ta + 1) + 1)) := hw8
              have hJ := xj_join (ws2 := [(g, .inr (7, [.ref s0, .ref a0, .ref b0, .int (nI kn), .ref x0, .int (nI L), .int (nI (nuP T L (ta + 1) + 1)), .int (nI 1), .int (nI (sgn T L ta)), .int r4, .int r6, .int (nI po), .int (nI rs), .int ca])), (x0, .inl (y 1, 60, .inl tx))]) hP hD [0, 1] [] rfl rfl rfl rfl rfl rfl hk1 hB
              clear hP hD hS hB hk1 hz1 hFc hvm ht
              obtain ⟨hP, hD⟩ := hJ
              have hS := hS1
              clear hS1
              subst hw8
              refine lv_istore_n (lv' := [(2, .int (nI (sgn T L (nuP T L (ta + 1) + 1)))), (1, .int (nI (sgn T L ta))), (0, .ref g)]) hx hb dX7_read_186 rfl hl (by decide) rfl (fun ls hl => ?_)
              have hc2 : sgn T L ta = 107 ∨ sgn T L ta = 110 := Or.inr hc
              have hp0 : orP T L ta = n1P T L (nuP T L (ta + 1) + 1) := (orP_2 hc2).trans (n2P_t hd1 (eq44.mpr hcm))
              have hk : ¬ orK T L ta := fun k9 => hd3 ((orK_2 hc2).mp k9).2.2.1
              have hp : orP T L ta = nuP T L (ta + 1) + 1 := hp0.trans (n1P_f hd3)
              have hks : bN (orK T L ta) = 0 := bN_f hk
              subst hQe
              exact xw_v hx hb hr hlocks (r4, r6) hS dX7_read_187 (fun k9 => absurd k9 hk) (fun t ht => by rw [ht]; exact (by rw [hp, hks]; exact hP))
          · rw [bN_f (c := inC T L (nuP T L (ta + 1)) 44 44) hcm] at hP hD
            replace hP : va_P D vwCl [(g, .inr (7, [.ref s0, .ref a0, .ref b0, .int (nI kn), .ref x0, .int (nI L), .int (nI (nuP T L (ta + 1))), .int (nI 1), .int (nI (sgn T L ta)), .int r4, .int (nI 0), .int (nI po), .int (nI rs), .int ca])), (x0, .inl (y 1, 60, .inl tx))] H := hP
            replace hD : va_D A [(g, .inr (7, [.ref s0, .ref a0, .ref b0, .int (nI kn), .ref x0, .int (nI L), .int (nI (nuP T L (ta + 1))), .int (nI 1), .int (nI (sgn T L ta)), .int r4, .int (nI 0), .int (nI po), .int (nI rs), .int ca])), (x0, .inl (y 1, 60, .inl tx))] := hD
            refine lv_istore_n (lv' := [(2, .int (nI (sgn T L (nuP T L (ta + 1))))), (1, .int (nI (sgn T L ta))), (0, .ref g)]) hx hb dX7_read_152 rfl hl (by decide) rfl (fun ls hl => ?_)
            refine lv_aload_n hx hb dX7_read_153 rfl (lv_at hl 2 rfl) ?_
            refine lv_iload_n hx hb dX7_read_154 rfl (lv_at hl 1 rfl) ?_
            refine lv_bipush (v := nI 120) hx hb dX7_read_155 (by decide) ?_
            refine xn_icmp_eq hx hb (by omega) (by omega) (tgt := 167) dX7_read_157 (by decide) (fun h => absurd h (by omega)) (fun kc157 => ?_)
            refine lv_aload_n hx hb dX7_read_160 rfl (lv_at hl 2 rfl) ?_
            refine va_get (D := D) (ci := 7) (v := .int (nI 1)) (C := RX7) (T := TX7) (N := 14) hx hb hts hin_X7 hown hK.1 hP 0 rfl rfl 7 (by decide) f_144 (fun _ h9 => h9) rfl dX7_read_161 ?_
            refine lv_if_eq (tgt := 171) hx hb dX7_read_164 (by decide) (fun h => absurd h (by decide)) (fun _ => ?_)
            refine lv_iconst (v := nI 0) hx hb dX7_read_167 (by decide) ?_
            refine lv_goto (tgt := 175) hx hb dX7_read_168 (by decide) ?_
            refine va_put (D := D) (ci := 7) (v := .int (nI 0)) (ty := .int) (C := RX7) (T := TX7) (N := 14) hx hb hts hin_X7 tyX7 tyX7_ok nmX7 hown hK.1 hP hD hS 0 rfl rfl 10 (by decide) f_160 (fun _ h9 => h9) rfl (by decide +kernel) rfl rfl (Nat.le_of_ble_eq_true rfl) dX7_read_175 (fun H locs hP1 hD1 hS1 => ?_)
            clear hP hD hS
            have hP : va_P D vwCl [(g, .inr (7, [.ref s0, .ref a0, .ref b0, .int (nI kn), .ref x0, .int (nI L), .int (nI (nuP T L (ta + 1))), .int (nI 1), .int (nI (sgn T L ta)), .int r4, .int (nI 0), .int (nI po), .int (nI rs), .int ca])), (x0, .inl (y 1, 60, .inl tx))] H := hP1
            have hD : va_D A [(g, .inr (7, [.ref s0, .ref a0, .ref b0, .int (nI kn), .ref x0, .int (nI L), .int (nI (nuP T L (ta + 1))), .int (nI 1), .int (nI (sgn T L ta)), .int r4, .int (nI 0), .int (nI po), .int (nI rs), .int ca])), (x0, .inl (y 1, 60, .inl tx))] := hD1
            have hS := hS1
            clear hP1 hD1 hS1
            refine lv_aload_n hx hb dX7_read_178 rfl (lv_at hl 2 rfl) ?_
            refine lv_bipush (v := nI 59) hx hb dX7_read_179 (by decide) ?_
            refine lv_bipush (v := nI 59) hx hb dX7_read_181 (by decide) ?_
            have hFc := xD_in (W0 := [(g, .inr (7, [.ref s0, .ref a0, .ref b0, .int (nI kn), .ref x0, .int (nI L), .int (nI (nuP T L (ta + 1))), .int (nI 1), .int (nI (sgn T L ta)), .int r4, .int (nI 0), .int (nI po), .int (nI rs), .int ca])), (x0, .inl (y 1, 60, .inl tx))]) hD [0, 1] rfl
            refine va_calli (va_runV (As := [.int (nI 59), .int (nI 59)]) (rest := []) ⟨hx, hb, hml, hown, hts⟩ (c_X7_sign_1 l D y g s0 a0 b0 x0 kn L (nuP T L (ta + 1)) (sgn T L ta) r4 (nI 0) po rs ca tx T hT 59 59 (by omega) (by omega) (by omega)) (cwV 2 hts gX7_read_X7_sign rfl rfl rfl hd_X7_sign ⟨Nat.le_of_ble_eq_true rfl, Nat.le_of_ble_eq_true rfl⟩) (xpv_w hK hP hD [0, 1] 0 rfl rfl rfl rfl rfl) rfl rfl hl.1 rfl (lv_room (Nat.le_of_ble_eq_true rfl)) dX7_read_183 ⟨Nat.zero_le _, Nat.zero_le _⟩) hS (fun q _ h => hFc q h) hFc (fun r9 u9 t H locs ht hvm hw9 hB hz1 hk1 hS1 => ?_)
            have hB : va_P D vwCl [(g, .inr (7, [.ref s0, .ref a0, .ref b0, .int (nI kn), .ref x0, .int (nI L), .int (nI (nuP T L (ta + 1))), .int (nI 1), .int (nI (sgn T L ta)), .int r4, .int (nI 0), .int (nI po), .int (nI rs), .int ca])), (x0, .inl (y 1, 60, .inl tx))] t.heap := hB
            rw [ht] at hB
            have hw9 : r9 = nI (sgn T L (nuP T L (ta + 1))) := hw9
            have hJ := xj_join (ws2 := [(g, .inr (7, [.ref s0, .ref a0, .ref b0, .int (nI kn), .ref x0, .int (nI L), .int (nI (nuP T L (ta + 1))), .int (nI 1), .int (nI (sgn T L ta)), .int r4, .int (nI 0), .int (nI po), .int (nI rs), .int ca])), (x0, .inl (y 1, 60, .inl tx))]) hP hD [0, 1] [] rfl rfl rfl rfl rfl rfl hk1 hB
            clear hP hD hS hB hk1 hz1 hFc hvm ht
            obtain ⟨hP, hD⟩ := hJ
            have hS := hS1
            clear hS1
            subst hw9
            refine lv_istore_n (lv' := [(2, .int (nI (sgn T L (nuP T L (ta + 1))))), (1, .int (nI (sgn T L ta))), (0, .ref g)]) hx hb dX7_read_186 rfl hl (by decide) rfl (fun ls hl => ?_)
            have hc2 : sgn T L ta = 107 ∨ sgn T L ta = 110 := Or.inr hc
            have hk : ¬ orK T L ta := fun k9 => hcm (eq44.mp ((orK_2 hc2).mp k9).2.1)
            have hp : orP T L ta = nuP T L (ta + 1) := (orP_2 hc2).trans (n2P_c hd1 (fun k9 => hcm (eq44.mp k9)))
            have hks : bN (orK T L ta) = 0 := bN_f hk
            subst hQe
            exact xw_v hx hb hr hlocks (r4, nI 0) hS dX7_read_187 (fun k9 => absurd k9 hk) (fun t ht => by rw [ht]; exact (by rw [hp, hks]; exact hP))
        · rw [bN_f (c := dgt T L (ta + 1)) hd1, nuP_n hd1] at hP hD
          replace hP : va_P D vwCl [(g, .inr (7, [.ref s0, .ref a0, .ref b0, .int (nI kn), .ref x0, .int (nI L), .int (nI (ta + 1)), .int (nI 1), .int (nI (sgn T L ta)), .int (nI 0), .int (nI 0), .int (nI po), .int (nI rs), .int ca])), (x0, .inl (y 1, 60, .inl tx))] H := hP
          replace hD : va_D A [(g, .inr (7, [.ref s0, .ref a0, .ref b0, .int (nI kn), .ref x0, .int (nI L), .int (nI (ta + 1)), .int (nI 1), .int (nI (sgn T L ta)), .int (nI 0), .int (nI 0), .int (nI po), .int (nI rs), .int ca])), (x0, .inl (y 1, 60, .inl tx))] := hD
          refine va_put (D := D) (ci := 7) (v := .int r4) (ty := .int) (C := RX7) (T := TX7) (N := 14) hx hb hts hin_X7 tyX7 tyX7_ok nmX7 hown hK.1 hP hD hS 0 rfl rfl 9 (by decide) f_154 (fun _ h9 => h9) rfl (by decide +kernel) rfl rfl (Nat.le_of_ble_eq_true rfl) dX7_read_131 (fun H locs hP1 hD1 hS1 => ?_)
          clear hP hD hS
          have hP : va_P D vwCl [(g, .inr (7, [.ref s0, .ref a0, .ref b0, .int (nI kn), .ref x0, .int (nI L), .int (nI (ta + 1)), .int (nI 1), .int (nI (sgn T L ta)), .int r4, .int (nI 0), .int (nI po), .int (nI rs), .int ca])), (x0, .inl (y 1, 60, .inl tx))] H := hP1
          have hD : va_D A [(g, .inr (7, [.ref s0, .ref a0, .ref b0, .int (nI kn), .ref x0, .int (nI L), .int (nI (ta + 1)), .int (nI 1), .int (nI (sgn T L ta)), .int r4, .int (nI 0), .int (nI po), .int (nI rs), .int ca])), (x0, .inl (y 1, 60, .inl tx))] := hD1
          have hS := hS1
          clear hP1 hD1 hS1
          refine lv_iload_n hx hb dX7_read_134 rfl (lv_at hl 0 rfl) ?_
          refine lv_bipush (v := nI 120) hx hb dX7_read_135 (by decide) ?_
          refine xn_icmp_ne hx hb (by omega) (by omega) (tgt := 144) dX7_read_137 (by decide) (fun kc137 => ?_) (fun h => absurd h (by omega))
          refine lv_aload_n hx hb dX7_read_144 rfl (lv_at hl 1 rfl) ?_
          refine lv_bipush (v := nI 44) hx hb dX7_read_145 (by decide) ?_
          refine lv_bipush (v := nI 44) hx hb dX7_read_147 (by decide) ?_
          have hFc := xD_in (W0 := [(g, .inr (7, [.ref s0, .ref a0, .ref b0, .int (nI kn), .ref x0, .int (nI L), .int (nI (ta + 1)), .int (nI 1), .int (nI (sgn T L ta)), .int r4, .int (nI 0), .int (nI po), .int (nI rs), .int ca])), (x0, .inl (y 1, 60, .inl tx))]) hD [0, 1] rfl
          refine va_calli (va_runV (As := [.int (nI 44), .int (nI 44)]) (rest := []) ⟨hx, hb, hml, hown, hts⟩ (c_X7_sign_1 l D y g s0 a0 b0 x0 kn L (ta + 1) (sgn T L ta) r4 (nI 0) po rs ca tx T hT 44 44 (by omega) (by omega) (by omega)) (cwV 2 hts gX7_read_X7_sign rfl rfl rfl hd_X7_sign ⟨Nat.le_of_ble_eq_true rfl, Nat.le_of_ble_eq_true rfl⟩) (xpv_w hK hP hD [0, 1] 0 rfl rfl rfl rfl rfl) rfl rfl hl.1 rfl (lv_room (Nat.le_of_ble_eq_true rfl)) dX7_read_149 ⟨Nat.zero_le _, Nat.zero_le _⟩) hS (fun q _ h => hFc q h) hFc (fun r10 u10 t H locs ht hvm hw10 hB hz1 hk1 hS1 => ?_)
          have hB : va_P D vwCl [(g, .inr (7, [.ref s0, .ref a0, .ref b0, .int (nI kn), .ref x0, .int (nI L), .int (nI (ta + 1)), .int (nI 1), .int (nI (sgn T L ta)), .int r4, .int (nI 0), .int (nI po), .int (nI rs), .int ca])), (x0, .inl (y 1, 60, .inl tx))] t.heap := hB
          rw [ht] at hB
          have hw10 : r10 = nI (sgn T L (ta + 1)) := hw10
          have hJ := xj_join (ws2 := [(g, .inr (7, [.ref s0, .ref a0, .ref b0, .int (nI kn), .ref x0, .int (nI L), .int (nI (ta + 1)), .int (nI 1), .int (nI (sgn T L ta)), .int r4, .int (nI 0), .int (nI po), .int (nI rs), .int ca])), (x0, .inl (y 1, 60, .inl tx))]) hP hD [0, 1] [] rfl rfl rfl rfl rfl rfl hk1 hB
          clear hP hD hS hB hk1 hz1 hFc hvm ht
          obtain ⟨hP, hD⟩ := hJ
          have hS := hS1
          clear hS1
          subst hw10
          refine lv_istore_n (lv' := [(2, .int (nI (sgn T L (ta + 1)))), (1, .int (nI (sgn T L ta))), (0, .ref g)]) hx hb dX7_read_152 rfl hl (by decide) rfl (fun ls hl => ?_)
          refine lv_aload_n hx hb dX7_read_153 rfl (lv_at hl 2 rfl) ?_
          refine lv_iload_n hx hb dX7_read_154 rfl (lv_at hl 1 rfl) ?_
          refine lv_bipush (v := nI 120) hx hb dX7_read_155 (by decide) ?_
          refine xn_icmp_eq hx hb (by omega) (by omega) (tgt := 167) dX7_read_157 (by decide) (fun h => absurd h (by omega)) (fun kc157 => ?_)
          refine lv_aload_n hx hb dX7_read_160 rfl (lv_at hl 2 rfl) ?_
          refine va_get (D := D) (ci := 7) (v := .int (nI 1)) (C := RX7) (T := TX7) (N := 14) hx hb hts hin_X7 hown hK.1 hP 0 rfl rfl 7 (by decide) f_144 (fun _ h9 => h9) rfl dX7_read_161 ?_
          refine lv_if_eq (tgt := 171) hx hb dX7_read_164 (by decide) (fun h => absurd h (by decide)) (fun _ => ?_)
          refine lv_iconst (v := nI 0) hx hb dX7_read_167 (by decide) ?_
          refine lv_goto (tgt := 175) hx hb dX7_read_168 (by decide) ?_
          refine va_put (D := D) (ci := 7) (v := .int (nI 0)) (ty := .int) (C := RX7) (T := TX7) (N := 14) hx hb hts hin_X7 tyX7 tyX7_ok nmX7 hown hK.1 hP hD hS 0 rfl rfl 10 (by decide) f_160 (fun _ h9 => h9) rfl (by decide +kernel) rfl rfl (Nat.le_of_ble_eq_true rfl) dX7_read_175 (fun H locs hP1 hD1 hS1 => ?_)
          clear hP hD hS
          have hP : va_P D vwCl [(g, .inr (7, [.ref s0, .ref a0, .ref b0, .int (nI kn), .ref x0, .int (nI L), .int (nI (ta + 1)), .int (nI 1), .int (nI (sgn T L ta)), .int r4, .int (nI 0), .int (nI po), .int (nI rs), .int ca])), (x0, .inl (y 1, 60, .inl tx))] H := hP1
          have hD : va_D A [(g, .inr (7, [.ref s0, .ref a0, .ref b0, .int (nI kn), .ref x0, .int (nI L), .int (nI (ta + 1)), .int (nI 1), .int (nI (sgn T L ta)), .int r4, .int (nI 0), .int (nI po), .int (nI rs), .int ca])), (x0, .inl (y 1, 60, .inl tx))] := hD1
          have hS := hS1
          clear hP1 hD1 hS1
          refine lv_aload_n hx hb dX7_read_178 rfl (lv_at hl 2 rfl) ?_
          refine lv_bipush (v := nI 59) hx hb dX7_read_179 (by decide) ?_
          refine lv_bipush (v := nI 59) hx hb dX7_read_181 (by decide) ?_
          have hFc := xD_in (W0 := [(g, .inr (7, [.ref s0, .ref a0, .ref b0, .int (nI kn), .ref x0, .int (nI L), .int (nI (ta + 1)), .int (nI 1), .int (nI (sgn T L ta)), .int r4, .int (nI 0), .int (nI po), .int (nI rs), .int ca])), (x0, .inl (y 1, 60, .inl tx))]) hD [0, 1] rfl
          refine va_calli (va_runV (As := [.int (nI 59), .int (nI 59)]) (rest := []) ⟨hx, hb, hml, hown, hts⟩ (c_X7_sign_1 l D y g s0 a0 b0 x0 kn L (ta + 1) (sgn T L ta) r4 (nI 0) po rs ca tx T hT 59 59 (by omega) (by omega) (by omega)) (cwV 2 hts gX7_read_X7_sign rfl rfl rfl hd_X7_sign ⟨Nat.le_of_ble_eq_true rfl, Nat.le_of_ble_eq_true rfl⟩) (xpv_w hK hP hD [0, 1] 0 rfl rfl rfl rfl rfl) rfl rfl hl.1 rfl (lv_room (Nat.le_of_ble_eq_true rfl)) dX7_read_183 ⟨Nat.zero_le _, Nat.zero_le _⟩) hS (fun q _ h => hFc q h) hFc (fun r11 u11 t H locs ht hvm hw11 hB hz1 hk1 hS1 => ?_)
          have hB : va_P D vwCl [(g, .inr (7, [.ref s0, .ref a0, .ref b0, .int (nI kn), .ref x0, .int (nI L), .int (nI (ta + 1)), .int (nI 1), .int (nI (sgn T L ta)), .int r4, .int (nI 0), .int (nI po), .int (nI rs), .int ca])), (x0, .inl (y 1, 60, .inl tx))] t.heap := hB
          rw [ht] at hB
          have hw11 : r11 = nI (sgn T L (ta + 1)) := hw11
          have hJ := xj_join (ws2 := [(g, .inr (7, [.ref s0, .ref a0, .ref b0, .int (nI kn), .ref x0, .int (nI L), .int (nI (ta + 1)), .int (nI 1), .int (nI (sgn T L ta)), .int r4, .int (nI 0), .int (nI po), .int (nI rs), .int ca])), (x0, .inl (y 1, 60, .inl tx))]) hP hD [0, 1] [] rfl rfl rfl rfl rfl rfl hk1 hB
          clear hP hD hS hB hk1 hz1 hFc hvm ht
          obtain ⟨hP, hD⟩ := hJ
          have hS := hS1
          clear hS1
          subst hw11
          refine lv_istore_n (lv' := [(2, .int (nI (sgn T L (ta + 1)))), (1, .int (nI (sgn T L ta))), (0, .ref g)]) hx hb dX7_read_186 rfl hl (by decide) rfl (fun ls hl => ?_)
          have hc2 : sgn T L ta = 107 ∨ sgn T L ta = 110 := Or.inr hc
          have hk : ¬ orK T L ta := fun k9 => hd1 ((orK_2 hc2).mp k9).1
          have hp : orP T L ta = ta + 1 := (orP_2 hc2).trans (n2P_f hd1)
          have hks : bN (orK T L ta) = 0 := bN_f hk
          subst hQe
          exact xw_v hx hb hr hlocks (r4, nI 0) hS dX7_read_187 (fun k9 => absurd k9 hk) (fun t ht => by rw [ht]; exact (by rw [hp, hks]; exact hP))
      · refine lv_iload_n hx hb dX7_read_38 rfl (lv_at hl 0 rfl) ?_
        refine lv_bipush (v := nI 107) hx hb dX7_read_39 (by decide) ?_
        refine xn_icmp_eq hx hb (by omega) (by omega) (tgt := 60) dX7_read_41 (by decide) (fun kc41 => ?_) (fun kc41 => ?_)
        · have hc : sgn T L ta = 107 := kc41
          refine lv_iconst (v := nI 0) hx hb dX7_read_60 (by decide) ?_
          refine va_put (D := D) (ci := 7) (v := .int (nI 0)) (ty := .boolean) (C := RX7) (T := TX7) (N := 14) hx hb hts hin_X7 tyX7 tyX7_ok nmX7 hown hK.1 hP hD hS 0 rfl rfl 7 (by decide) f_144 (fun _ h9 => h9) rfl (by decide +kernel) (xb_nar (by omega)) (xb_fit (by omega)) (Nat.le_of_ble_eq_true rfl) dX7_read_61 (fun H locs hP1 hD1 hS1 => ?_)
          clear hP hD hS
          have hP : va_P D vwCl [(g, .inr (7, [.ref s0, .ref a0, .ref b0, .int (nI kn), .ref x0, .int (nI L), .int (nI ta), .int (nI 0), .int (nI le), .int o1, .int o2, .int (nI po), .int (nI rs), .int ca])), (x0, .inl (y 1, 60, .inl tx))] H := hP1
          have hD : va_D A [(g, .inr (7, [.ref s0, .ref a0, .ref b0, .int (nI kn), .ref x0, .int (nI L), .int (nI ta), .int (nI 0), .int (nI le), .int o1, .int o2, .int (nI po), .int (nI rs), .int ca])), (x0, .inl (y 1, 60, .inl tx))] := hD1
          have hS := hS1
          clear hP1 hD1 hS1
          refine lv_aload_n hx hb dX7_read_64 rfl (lv_at hl 1 rfl) ?_
          refine lv_dup hx hb dX7_read_65 rfl ?_
          refine va_get (D := D) (ci := 7) (v := .int (nI ta)) (C := RX7) (T := TX7) (N := 14) hx hb hts hin_X7 hown hK.1 hP 0 rfl rfl 6 (by decide) f_141 (fun _ h9 => h9) rfl dX7_read_66 ?_
          refine lv_aload_n hx hb dX7_read_69 rfl (lv_at hl 1 rfl) ?_
          refine va_get (D := D) (ci := 7) (v := .int (nI 0)) (C := RX7) (T := TX7) (N := 14) hx hb hts hin_X7 hown hK.1 hP 0 rfl rfl 7 (by decide) f_144 (fun _ h9 => h9) rfl dX7_read_70 ?_
          refine lv_if_eq (tgt := 80) hx hb dX7_read_73 (by decide) (fun _ => ?_) (fun h => absurd h (by decide))
          refine lv_iconst (v := nI 1) hx hb dX7_read_80 (by decide) ?_
          refine xn_add hx hb (r := (ta + 1)) rfl dX7_read_81 ?_
          refine va_put (D := D) (ci := 7) (v := .int (nI (ta + 1))) (ty := .int) (C := RX7) (T := TX7) (N := 14) hx hb hts hin_X7 tyX7 tyX7_ok nmX7 hown hK.1 hP hD hS 0 rfl rfl 6 (by decide) f_141 (fun _ h9 => h9) rfl (by decide +kernel) rfl rfl (Nat.le_of_ble_eq_true rfl) dX7_read_82 (fun H locs hP1 hD1 hS1 => ?_)
          clear hP hD hS
          have hP : va_P D vwCl [(g, .inr (7, [.ref s0, .ref a0, .ref b0, .int (nI kn), .ref x0, .int (nI L), .int (nI (ta + 1)), .int (nI 0), .int (nI le), .int o1, .int o2, .int (nI po), .int (nI rs), .int ca])), (x0, .inl (y 1, 60, .inl tx))] H := hP1
          have hD : va_D A [(g, .inr (7, [.ref s0, .ref a0, .ref b0, .int (nI kn), .ref x0, .int (nI L), .int (nI (ta + 1)), .int (nI 0), .int (nI le), .int o1, .int o2, .int (nI po), .int (nI rs), .int ca])), (x0, .inl (y 1, 60, .inl tx))] := hD1
          have hS := hS1
          clear hP1 hD1 hS1
          refine lv_aload_n hx hb dX7_read_85 rfl (lv_at hl 1 rfl) ?_
          refine lv_iload_n hx hb dX7_read_86 rfl (lv_at hl 0 rfl) ?_
          refine va_put (D := D) (ci := 7) (v := .int (nI (sgn T L ta))) (ty := .int) (C := RX7) (T := TX7) (N := 14) hx hb hts hin_X7 tyX7 tyX7_ok nmX7 hown hK.1 hP hD hS 0 rfl rfl 8 (by decide) f_157 (fun _ h9 => h9) rfl (by decide +kernel) rfl rfl (Nat.le_of_ble_eq_true rfl) dX7_read_87 (fun H locs hP1 hD1 hS1 => ?_)
          clear hP hD hS
          have hP : va_P D vwCl [(g, .inr (7, [.ref s0, .ref a0, .ref b0, .int (nI kn), .ref x0, .int (nI L), .int (nI (ta + 1)), .int (nI 0), .int (nI (sgn T L ta)), .int o1, .int o2, .int (nI po), .int (nI rs), .int ca])), (x0, .inl (y 1, 60, .inl tx))] H := hP1
          have hD : va_D A [(g, .inr (7, [.ref s0, .ref a0, .ref b0, .int (nI kn), .ref x0, .int (nI L), .int (nI (ta + 1)), .int (nI 0), .int (nI (sgn T L ta)), .int o1, .int o2, .int (nI po), .int (nI rs), .int ca])), (x0, .inl (y 1, 60, .inl tx))] := hD1
          have hS := hS1
          clear hP1 hD1 hS1
          refine lv_aload_n hx hb dX7_read_90 rfl (lv_at hl 1 rfl) ?_
          refine lv_iconst (v := nI 0) hx hb dX7_read_91 (by decide) ?_
          refine va_put (D := D) (ci := 7) (v := .int (nI 0)) (ty := .int) (C := RX7) (T := TX7) (N := 14) hx hb hts hin_X7 tyX7 tyX7_ok nmX7 hown hK.1 hP hD hS 0 rfl rfl 9 (by decide) f_154 (fun _ h9 => h9) rfl (by decide +kernel) rfl rfl (Nat.le_of_ble_eq_true rfl) dX7_read_92 (fun H locs hP1 hD1 hS1 => ?_)
          clear hP hD hS
          have hP : va_P D vwCl [(g, .inr (7, [.ref s0, .ref a0, .ref b0, .int (nI kn), .ref x0, .int (nI L), .int (nI (ta + 1)), .int (nI 0), .int (nI (sgn T L ta)), .int (nI 0), .int o2, .int (nI po), .int (nI rs), .int ca])), (x0, .inl (y 1, 60, .inl tx))] H := hP1
          have hD : va_D A [(g, .inr (7, [.ref s0, .ref a0, .ref b0, .int (nI kn), .ref x0, .int (nI L), .int (nI (ta + 1)), .int (nI 0), .int (nI (sgn T L ta)), .int (nI 0), .int o2, .int (nI po), .int (nI rs), .int ca])), (x0, .inl (y 1, 60, .inl tx))] := hD1
          have hS := hS1
          clear hP1 hD1 hS1
          refine lv_aload_n hx hb dX7_read_95 rfl (lv_at hl 1 rfl) ?_
          refine lv_iconst (v := nI 0) hx hb dX7_read_96 (by decide) ?_
          refine va_put (D := D) (ci := 7) (v := .int (nI 0)) (ty := .int) (C := RX7) (T := TX7) (N := 14) hx hb hts hin_X7 tyX7 tyX7_ok nmX7 hown hK.1 hP hD hS 0 rfl rfl 10 (by decide) f_160 (fun _ h9 => h9) rfl (by decide +kernel) rfl rfl (Nat.le_of_ble_eq_true rfl) dX7_read_97 (fun H locs hP1 hD1 hS1 => ?_)
          clear hP hD hS
          have hP : va_P D vwCl [(g, .inr (7, [.ref s0, .ref a0, .ref b0, .int (nI kn), .ref x0, .int (nI L), .int (nI (ta + 1)), .int (nI 0), .int (nI (sgn T L ta)), .int (nI 0), .int (nI 0), .int (nI po), .int (nI rs), .int ca])), (x0, .inl (y 1, 60, .inl tx))] H := hP1
          have hD : va_D A [(g, .inr (7, [.ref s0, .ref a0, .ref b0, .int (nI kn), .ref x0, .int (nI L), .int (nI (ta + 1)), .int (nI 0), .int (nI (sgn T L ta)), .int (nI 0), .int (nI 0), .int (nI po), .int (nI rs), .int ca])), (x0, .inl (y 1, 60, .inl tx))] := hD1
          have hS := hS1
          clear hP1 hD1 hS1
          refine lv_iload_n hx hb dX7_read_100 rfl (lv_at hl 0 rfl) ?_
          refine lv_bipush (v := nI 99) hx hb dX7_read_101 (by decide) ?_
          refine xn_icmp_ne hx hb (by omega) (by omega) (tgt := 113) dX7_read_103 (by decide) (fun kc103 => ?_) (fun h => absurd h (by omega))
          refine lv_aload_n hx hb dX7_read_113 rfl (lv_at hl 1 rfl) ?_
          refine va_get (D := D) (ci := 7) (v := .int (nI 0)) (C := RX7) (T := TX7) (N := 14) hx hb hts hin_X7 hown hK.1 hP 0 rfl rfl 7 (by decide) f_144 (fun _ h9 => h9) rfl dX7_read_114 ?_
          refine lv_if_ne (tgt := 178) hx hb dX7_read_117 (by decide) (fun h => absurd h (by decide)) (fun _ => ?_)
          refine lv_iload_n hx hb dX7_read_120 rfl (lv_at hl 0 rfl) ?_
          refine lv_bipush (v := nI 116) hx hb dX7_read_121 (by decide) ?_
          refine xn_icmp_eq hx hb (by omega) (by omega) (tgt := 178) dX7_read_123 (by decide) (fun h => absurd h (by omega)) (fun kc123 => ?_)
          refine lv_aload_n hx hb dX7_read_126 rfl (lv_at hl 1 rfl) ?_
          refine lv_aload_n hx hb dX7_read_127 rfl (lv_at hl 1 rfl) ?_
          have hFc := xD_in (W0 := [(g, .inr (7, [.ref s0, .ref a0, .ref b0, .int (nI kn), .ref x0, .int (nI L), .int (nI (ta + 1)), .int (nI 0), .int (nI (sgn T L ta)), .int (nI 0), .int (nI 0), .int (nI po), .int (nI rs), .int ca])), (x0, .inl (y 1, 60, .inl tx))]) hD [0, 1] rfl
          refine va_calli (va_runV (As := []) (rest := [.ref g]) ⟨hx, hb, hml, hown, hts⟩ (c_X7_number_0 l D y g s0 a0 b0 x0 kn L (ta + 1) (sgn T L ta) (nI 0) (nI 0) po rs ca tx T hT (by omega)) (cwV 0 hts gX7_read_X7_number rfl rfl rfl hd_X7_number ⟨Nat.le_of_ble_eq_true rfl, Nat.le_of_ble_eq_true rfl⟩) (xpv_w hK hP hD [0, 1] 0 rfl rfl rfl rfl rfl) rfl rfl hl.1 rfl (lv_room (Nat.le_of_ble_eq_true rfl)) dX7_read_128 ⟨Nat.zero_le _, Nat.zero_le _⟩) hS (fun q _ h => hFc q h) hFc (fun r12 u12 t H locs ht hvm hw12 hB hz1 hk1 hS1 => ?_)
          have hB : va_P D vwCl [(g, .inr (7, [.ref s0, .ref a0, .ref b0, .int (nI kn), .ref x0, .int (nI L), .int (nI (nuP T L (ta + 1))), .int (nI (1 - bN (dgt T L (ta + 1)))), .int (nI (sgn T L ta)), .int (nI 0), .int (nI 0), .int (nI po), .int (nI rs), .int ca])), (x0, .inl (y 1, 60, .inl tx))] t.heap := hB
          rw [ht] at hB
          have hw12 : dgt T L (ta + 1) → r12 = nI (nuV T L (ta + 1)) := hw12
          have hJ := xj_join (ws2 := [(g, .inr (7, [.ref s0, .ref a0, .ref b0, .int (nI kn), .ref x0, .int (nI L), .int (nI (nuP T L (ta + 1))), .int (nI (1 - bN (dgt T L (ta + 1)))), .int (nI (sgn T L ta)), .int (nI 0), .int (nI 0), .int (nI po), .int (nI rs), .int ca])), (x0, .inl (y 1, 60, .inl tx))]) hP hD [0, 1] [] rfl rfl rfl rfl rfl rfl hk1 hB
          clear hP hD hS hB hk1 hz1 hFc hvm ht
          obtain ⟨hP, hD⟩ := hJ
          have hS := hS1
          clear hS1
          by_cases hd1 : dgt T L (ta + 1)
          · rw [bN_t (c := dgt T L (ta + 1)) hd1] at hP hD
            replace hP : va_P D vwCl [(g, .inr (7, [.ref s0, .ref a0, .ref b0, .int (nI kn), .ref x0, .int (nI L), .int (nI (nuP T L (ta + 1))), .int (nI 0), .int (nI (sgn T L ta)), .int (nI 0), .int (nI 0), .int (nI po), .int (nI rs), .int ca])), (x0, .inl (y 1, 60, .inl tx))] H := hP
            replace hD : va_D A [(g, .inr (7, [.ref s0, .ref a0, .ref b0, .int (nI kn), .ref x0, .int (nI L), .int (nI (nuP T L (ta + 1))), .int (nI 0), .int (nI (sgn T L ta)), .int (nI 0), .int (nI 0), .int (nI po), .int (nI rs), .int ca])), (x0, .inl (y 1, 60, .inl tx))] := hD
            refine va_put (D := D) (ci := 7) (v := .int r12) (ty := .int) (C := RX7) (T := TX7) (N := 14) hx hb hts hin_X7 tyX7 tyX7_ok nmX7 hown hK.1 hP hD hS 0 rfl rfl 9 (by decide) f_154 (fun _ h9 => h9) rfl (by decide +kernel) rfl rfl (Nat.le_of_ble_eq_true rfl) dX7_read_131 (fun H locs hP1 hD1 hS1 => ?_)
            clear hP hD hS
            have hP : va_P D vwCl [(g, .inr (7, [.ref s0, .ref a0, .ref b0, .int (nI kn), .ref x0, .int (nI L), .int (nI (nuP T L (ta + 1))), .int (nI 0), .int (nI (sgn T L ta)), .int r12, .int (nI 0), .int (nI po), .int (nI rs), .int ca])), (x0, .inl (y 1, 60, .inl tx))] H := hP1
            have hD : va_D A [(g, .inr (7, [.ref s0, .ref a0, .ref b0, .int (nI kn), .ref x0, .int (nI L), .int (nI (nuP T L (ta + 1))), .int (nI 0), .int (nI (sgn T L ta)), .int r12, .int (nI 0), .int (nI po), .int (nI rs), .int ca])), (x0, .inl (y 1, 60, .inl tx))] := hD1
            have hS := hS1
            clear hP1 hD1 hS1
            refine lv_iload_n hx hb dX7_read_134 rfl (lv_at hl 0 rfl) ?_
            refine lv_bipush (v := nI 120) hx hb dX7_read_135 (by decide) ?_
            refine xn_icmp_ne hx hb (by omega) (by omega) (tgt := 144) dX7_read_137 (by decide) (fun kc137 => ?_) (fun h => absurd h (by omega))
            refine lv_aload_n hx hb dX7_read_144 rfl (lv_at hl 1 rfl) ?_
            refine lv_bipush (v := nI 44) hx hb dX7_read_145 (by decide) ?_
            refine lv_bipush (v := nI 44) hx hb dX7_read_147 (by decide) ?_
            have hFc := xD_in (W0 := [(g, .inr (7, [.ref s0, .ref a0, .ref b0, .int (nI kn), .ref x0, .int (nI L), .int (nI (nuP T L (ta + 1))), .int (nI 0), .int (nI (sgn T L ta)), .int r12, .int (nI 0), .int (nI po), .int (nI rs), .int ca])), (x0, .inl (y 1, 60, .inl tx))]) hD [0, 1] rfl
            refine va_calli (va_runV (As := [.int (nI 44), .int (nI 44)]) (rest := []) ⟨hx, hb, hml, hown, hts⟩ (c_X7_sign_0 l D y g s0 a0 b0 x0 kn L (nuP T L (ta + 1)) (sgn T L ta) r12 (nI 0) po rs ca tx T hT 44 44 (by omega) (by omega) (by omega)) (cwV 2 hts gX7_read_X7_sign rfl rfl rfl hd_X7_sign ⟨Nat.le_of_ble_eq_true rfl, Nat.le_of_ble_eq_true rfl⟩) (xpv_w hK hP hD [0, 1] 0 rfl rfl rfl rfl rfl) rfl rfl hl.1 rfl (lv_room (Nat.le_of_ble_eq_true rfl)) dX7_read_149 ⟨Nat.zero_le _, Nat.zero_le _⟩) hS (fun q _ h => hFc q h) hFc (fun r13 u13 t H locs ht hvm hw13 hB hz1 hk1 hS1 => ?_)
            have hB : va_P D vwCl [(g, .inr (7, [.ref s0, .ref a0, .ref b0, .int (nI kn), .ref x0, .int (nI L), .int (nI ((nuP T L (ta + 1)) + bN (inC T L (nuP T L (ta + 1)) 44 44))), .int (nI (1 - bN (inC T L (nuP T L (ta + 1)) 44 44))), .int (nI (sgn T L ta)), .int r12, .int (nI 0), .int (nI po), .int (nI rs), .int ca])), (x0, .inl (y 1, 60, .inl tx))] t.heap := hB
            rw [ht] at hB
            have hw13 : r13 = nI (sgn T L (nuP T L (ta + 1))) := hw13
            have hJ := xj_join (ws2 := [(g, .inr (7, [.ref s0, .ref a0, .ref b0, .int (nI kn), .ref x0, .int (nI L), .int (nI ((nuP T L (ta + 1)) + bN (inC T L (nuP T L (ta + 1)) 44 44))), .int (nI (1 - bN (inC T L (nuP T L (ta + 1)) 44 44))), .int (nI (sgn T L ta)), .int r12, .int (nI 0), .int (nI po), .int (nI rs), .int ca])), (x0, .inl (y 1, 60, .inl tx))]) hP hD [0, 1] [] rfl rfl rfl rfl rfl rfl hk1 hB
            clear hP hD hS hB hk1 hz1 hFc hvm ht
            obtain ⟨hP, hD⟩ := hJ
            have hS := hS1
            clear hS1
            subst hw13
            by_cases hcm : inC T L (nuP T L (ta + 1)) 44 44
            · rw [bN_t (c := inC T L (nuP T L (ta + 1)) 44 44) hcm] at hP hD
              replace hP : va_P D vwCl [(g, .inr (7, [.ref s0, .ref a0, .ref b0, .int (nI kn), .ref x0, .int (nI L), .int (nI (nuP T L (ta + 1) + 1)), .int (nI 0), .int (nI (sgn T L ta)), .int r12, .int (nI 0), .int (nI po), .int (nI rs), .int ca])), (x0, .inl (y 1, 60, .inl tx))] H := hP
              replace hD : va_D A [(g, .inr (7, [.ref s0, .ref a0, .ref b0, .int (nI kn), .ref x0, .int (nI L), .int (nI (nuP T L (ta + 1) + 1)), .int (nI 0), .int (nI (sgn T L ta)), .int r12, .int (nI 0), .int (nI po), .int (nI rs), .int ca])), (x0, .inl (y 1, 60, .inl tx))] := hD
              refine lv_istore_n (lv' := [(2, .int (nI (sgn T L (nuP T L (ta + 1))))), (1, .int (nI (sgn T L ta))), (0, .ref g)]) hx hb dX7_read_152 rfl hl (by decide) rfl (fun ls hl => ?_)
              refine lv_aload_n hx hb dX7_read_153 rfl (lv_at hl 2 rfl) ?_
              refine lv_iload_n hx hb dX7_read_154 rfl (lv_at hl 1 rfl) ?_
              refine lv_bipush (v := nI 120) hx hb dX7_read_155 (by decide) ?_
              refine xn_icmp_eq hx hb (by omega) (by omega) (tgt := 167) dX7_read_157 (by decide) (fun h => absurd h (by omega)) (fun kc157 => ?_)
              refine lv_aload_n hx hb dX7_read_160 rfl (lv_at hl 2 rfl) ?_
              refine va_get (D := D) (ci := 7) (v := .int (nI 0)) (C := RX7) (T := TX7) (N := 14) hx hb hts hin_X7 hown hK.1 hP 0 rfl rfl 7 (by decide) f_144 (fun _ h9 => h9) rfl dX7_read_161 ?_
              refine lv_if_eq (tgt := 171) hx hb dX7_read_164 (by decide) (fun _ => ?_) (fun h => absurd h (by decide))
              refine lv_aload_n hx hb dX7_read_171 rfl (lv_at hl 2 rfl) ?_
              have hFc := xD_in (W0 := [(g, .inr (7, [.ref s0, .ref a0, .ref b0, .int (nI kn), .ref x0, .int (nI L), .int (nI (nuP T L (ta + 1) + 1)), .int (nI 0), .int (nI (sgn T L ta)), .int r12, .int (nI 0), .int (nI po), .int (nI rs), .int ca])), (x0, .inl (y 1, 60, .inl tx))]) hD [0, 1] rfl
              refine va_calli (va_runV (As := []) (rest := [.ref g]) ⟨hx, hb, hml, hown, hts⟩ (c_X7_number_0 l D y g s0 a0 b0 x0 kn L (nuP T L (ta + 1) + 1) (sgn T L ta) r12 (nI 0) po rs ca tx T hT (by omega)) (cwV 0 hts gX7_read_X7_number rfl rfl rfl hd_X7_number ⟨Nat.le_of_ble_eq_true rfl, Nat.le_of_ble_eq_true rfl⟩) (xpv_w hK hP hD [0, 1] 0 rfl rfl rfl rfl rfl) rfl rfl hl.1 rfl (lv_room (Nat.le_of_ble_eq_true rfl)) dX7_read_172 ⟨Nat.zero_le _, Nat.zero_le _⟩) hS (fun q _ h => hFc q h) hFc (fun r14 u14 t H locs ht hvm hw14 hB hz1 hk1 hS1 => ?_)
              have hB : va_P D vwCl [(g, .inr (7, [.ref s0, .ref a0, .ref b0, .int (nI kn), .ref x0, .int (nI L), .int (nI (nuP T L (nuP T L (ta + 1) + 1))), .int (nI (1 - bN (dgt T L (nuP T L (ta + 1) + 1)))), .int (nI (sgn T L ta)), .int r12, .int (nI 0), .int (nI po), .int (nI rs), .int ca])), (x0, .inl (y 1, 60, .inl tx))] t.heap := hB
              rw [ht] at hB
              have hw14 : dgt T L (nuP T L (ta + 1) + 1) → r14 = nI (nuV T L (nuP T L (ta + 1) + 1)) := hw14
              have hJ := xj_join (ws2 := [(g, .inr (7, [.ref s0, .ref a0, .ref b0, .int (nI kn), .ref x0, .int (nI L), .int (nI (nuP T L (nuP T L (ta + 1) + 1))), .int (nI (1 - bN (dgt T L (nuP T L (ta + 1) + 1)))), .int (nI (sgn T L ta)), .int r12, .int (nI 0), .int (nI po), .int (nI rs), .int ca])), (x0, .inl (y 1, 60, .inl tx))]) hP hD [0, 1] [] rfl rfl rfl rfl rfl rfl hk1 hB
              clear hP hD hS hB hk1 hz1 hFc hvm ht
              obtain ⟨hP, hD⟩ := hJ
              have hS := hS1
              clear hS1
              by_cases hd3 : dgt T L (nuP T L (ta + 1) + 1)
              · rw [bN_t (c := dgt T L (nuP T L (ta + 1) + 1)) hd3] at hP hD
                replace hP : va_P D vwCl [(g, .inr (7, [.ref s0, .ref a0, .ref b0, .int (nI kn), .ref x0, .int (nI L), .int (nI (nuP T L (nuP T L (ta + 1) + 1))), .int (nI 0), .int (nI (sgn T L ta)), .int r12, .int (nI 0), .int (nI po), .int (nI rs), .int ca])), (x0, .inl (y 1, 60, .inl tx))] H := hP
                replace hD : va_D A [(g, .inr (7, [.ref s0, .ref a0, .ref b0, .int (nI kn), .ref x0, .int (nI L), .int (nI (nuP T L (nuP T L (ta + 1) + 1))), .int (nI 0), .int (nI (sgn T L ta)), .int r12, .int (nI 0), .int (nI po), .int (nI rs), .int ca])), (x0, .inl (y 1, 60, .inl tx))] := hD
                refine va_put (D := D) (ci := 7) (v := .int r14) (ty := .int) (C := RX7) (T := TX7) (N := 14) hx hb hts hin_X7 tyX7 tyX7_ok nmX7 hown hK.1 hP hD hS 0 rfl rfl 10 (by decide) f_160 (fun _ h9 => h9) rfl (by decide +kernel) rfl rfl (Nat.le_of_ble_eq_true rfl) dX7_read_175 (fun H locs hP1 hD1 hS1 => ?_)
                clear hP hD hS
                have hP : va_P D vwCl [(g, .inr (7, [.ref s0, .ref a0, .ref b0, .int (nI kn), .ref x0, .int (nI L), .int (nI (nuP T L (nuP T L (ta + 1) + 1))), .int (nI 0), .int (nI (sgn T L ta)), .int r12, .int r14, .int (nI po), .int (nI rs), .int ca])), (x0, .inl (y 1, 60, .inl tx))] H := hP1
                have hD : va_D A [(g, .inr (7, [.ref s0, .ref a0, .ref b0, .int (nI kn), .ref x0, .int (nI L), .int (nI (nuP T L (nuP T L (ta + 1) + 1))), .int (nI 0), .int (nI (sgn T L ta)), .int r12, .int r14, .int (nI po), .int (nI rs), .int ca])), (x0, .inl (y 1, 60, .inl tx))] := hD1
                have hS := hS1
                clear hP1 hD1 hS1
                refine lv_aload_n hx hb dX7_read_178 rfl (lv_at hl 2 rfl) ?_
                refine lv_bipush (v := nI 59) hx hb dX7_read_179 (by decide) ?_
                refine lv_bipush (v := nI 59) hx hb dX7_read_181 (by decide) ?_
                have hFc := xD_in (W0 := [(g, .inr (7, [.ref s0, .ref a0, .ref b0, .int (nI kn), .ref x0, .int (nI L), .int (nI (nuP T L (nuP T L (ta + 1) + 1))), .int (nI 0), .int (nI (sgn T L ta)), .int r12, .int r14, .int (nI po), .int (nI rs), .int ca])), (x0, .inl (y 1, 60, .inl tx))]) hD [0, 1] rfl
                refine va_calli (va_runV (As := [.int (nI 59), .int (nI 59)]) (rest := []) ⟨hx, hb, hml, hown, hts⟩ (c_X7_sign_0 l D y g s0 a0 b0 x0 kn L (nuP T L (nuP T L (ta + 1) + 1)) (sgn T L ta) r12 r14 po rs ca tx T hT 59 59 (by omega) (by omega) (by omega)) (cwV 2 hts gX7_read_X7_sign rfl rfl rfl hd_X7_sign ⟨Nat.le_of_ble_eq_true rfl, Nat.le_of_ble_eq_true rfl⟩) (xpv_w hK hP hD [0, 1] 0 rfl rfl rfl rfl rfl) rfl rfl hl.1 rfl (lv_room (Nat.le_of_ble_eq_true rfl)) dX7_read_183 ⟨Nat.zero_le _, Nat.zero_le _⟩) hS (fun q _ h => hFc q h) hFc (fun r15 u15 t H locs ht hvm hw15 hB hz1 hk1 hS1 => ?_)
                have hB : va_P D vwCl [(g, .inr (7, [.ref s0, .ref a0, .ref b0, .int (nI kn), .ref x0, .int (nI L), .int (nI ((nuP T L (nuP T L (ta + 1) + 1)) + bN (inC T L (nuP T L (nuP T L (ta + 1) + 1)) 59 59))), .int (nI (1 - bN (inC T L (nuP T L (nuP T L (ta + 1) + 1)) 59 59))), .int (nI (sgn T L ta)), .int r12, .int r14, .int (nI po), .int (nI rs), .int ca])), (x0, .inl (y 1, 60, .inl tx))] t.heap := hB
                rw [ht] at hB
                have hw15 : r15 = nI (sgn T L (nuP T L (nuP T L (ta + 1) + 1))) := hw15
                have hJ := xj_join (ws2 := [(g, .inr (7, [.ref s0, .ref a0, .ref b0, .int (nI kn), .ref x0, .int (nI L), .int (nI ((nuP T L (nuP T L (ta + 1) + 1)) + bN (inC T L (nuP T L (nuP T L (ta + 1) + 1)) 59 59))), .int (nI (1 - bN (inC T L (nuP T L (nuP T L (ta + 1) + 1)) 59 59))), .int (nI (sgn T L ta)), .int r12, .int r14, .int (nI po), .int (nI rs), .int ca])), (x0, .inl (y 1, 60, .inl tx))]) hP hD [0, 1] [] rfl rfl rfl rfl rfl rfl hk1 hB
                clear hP hD hS hB hk1 hz1 hFc hvm ht
                obtain ⟨hP, hD⟩ := hJ
                have hS := hS1
                clear hS1
                subst hw15
                refine lv_istore_n (lv' := [(2, .int (nI (sgn T L (nuP T L (nuP T L (ta + 1) + 1))))), (1, .int (nI (sgn T L ta))), (0, .ref g)]) hx hb dX7_read_186 rfl hl (by decide) rfl (fun ls hl => ?_)
                have hc2 : sgn T L ta = 107 ∨ sgn T L ta = 110 := Or.inl hc
                have hp0 : orP T L ta = n1P T L (nuP T L (ta + 1) + 1) := (orP_2 hc2).trans (n2P_t hd1 (eq44.mpr hcm))
                have hks : bN (orK T L ta) = bN (inC T L (nuP T L (nuP T L (ta + 1) + 1)) 59 59) := bN_c ((orK_2 hc2).trans ⟨fun k9 => eq59.mp k9.2.2.2, fun k9 => ⟨hd1, eq44.mpr hcm, hd3, eq59.mpr k9⟩⟩)
                have hp : orP T L ta = nuP T L (nuP T L (ta + 1) + 1) + bN (inC T L (nuP T L (nuP T L (ta + 1) + 1)) 59 59) := (hp0.trans (n1P_t hd3)).trans (congrArg (nuP T L (nuP T L (ta + 1) + 1) + ·) (bN_c eq59))
                subst hQe
                exact xw_v hx hb hr hlocks (r12, r14) hS dX7_read_187 (fun _ => ⟨orX T L ta, orY T L ta, by unfold orX; rw [if_neg (by omega)]; exact hw12 hd1, hw14 hd3, orX_lt hT, nuV_lt hT, fun _ => rfl, fun _ => rfl⟩) (fun t ht => by rw [ht]; exact (by rw [hp, hks]; exact hP))
              · rw [bN_f (c := dgt T L (nuP T L (ta + 1) + 1)) hd3, nuP_n hd3] at hP hD
                replace hP : va_P D vwCl [(g, .inr (7, [.ref s0, .ref a0, .ref b0, .int (nI kn), .ref x0, .int (nI L), .int (nI (nuP T L (ta + 1) + 1)), .int (nI 1), .int (nI (sgn T L ta)), .int r12, .int (nI 0), .int (nI po), .int (nI rs), .int ca])), (x0, .inl (y 1, 60, .inl tx))] H := hP
                replace hD : va_D A [(g, .inr (7, [.ref s0, .ref a0, .ref b0, .int (nI kn), .ref x0, .int (nI L), .int (nI (nuP T L (ta + 1) + 1)), .int (nI 1), .int (nI (sgn T L ta)), .int r12, .int (nI 0), .int (nI po), .int (nI rs), .int ca])), (x0, .inl (y 1, 60, .inl tx))] := hD
                refine va_put (D := D) (ci := 7) (v := .int r14) (ty := .int) (C := RX7) (T := TX7) (N := 14) hx hb hts hin_X7 tyX7 tyX7_ok nmX7 hown hK.1 hP hD hS 0 rfl rfl 10 (by decide) f_160 (fun _ h9 => h9) rfl (by decide +kernel) rfl rfl (Nat.le_of_ble_eq_true rfl) dX7_read_175 (fun H locs hP1 hD1 hS1 => ?_)
                clear hP hD hS
                have hP : va_P D vwCl [(g, .inr (7, [.ref s0, .ref a0, .ref b0, .int (nI kn), .ref x0, .int (nI L), .int (nI (nuP T L (ta + 1) + 1)), .int (nI 1), .int (nI (sgn T L ta)), .int r12, .int r14, .int (nI po), .int (nI rs), .int ca])), (x0, .inl (y 1, 60, .inl tx))] H := hP1
                have hD : va_D A [(g, .inr (7, [.ref s0, .ref a0, .ref b0, .int (nI kn), .ref x0, .int (nI L), .int (nI (nuP T L (ta + 1) + 1)), .int (nI 1), .int (nI (sgn T L ta)), .int r12, .int r14, .int (nI po), .int (nI rs), .int ca])), (x0, .inl (y 1, 60, .inl tx))] := hD1
                have hS := hS1
                clear hP1 hD1 hS1
                refine lv_aload_n hx hb dX7_read_178 rfl (lv_at hl 2 rfl) ?_
                refine lv_bipush (v := nI 59) hx hb dX7_read_179 (by decide) ?_
                refine lv_bipush (v := nI 59) hx hb dX7_read_181 (by decide) ?_
                have hFc := xD_in (W0 := [(g, .inr (7, [.ref s0, .ref a0, .ref b0, .int (nI kn), .ref x0, .int (nI L), .int (nI (nuP T L (ta + 1) + 1)), .int (nI 1), .int (nI (sgn T L ta)), .int r12, .int r14, .int (nI po), .int (nI rs), .int ca])), (x0, .inl (y 1, 60, .inl tx))]) hD [0, 1] rfl
                refine va_calli (va_runV (As := [.int (nI 59), .int (nI 59)]) (rest := []) ⟨hx, hb, hml, hown, hts⟩ (c_X7_sign_1 l D y g s0 a0 b0 x0 kn L (nuP T L (ta + 1) + 1) (sgn T L ta) r12 r14 po rs ca tx T hT 59 59 (by omega) (by omega) (by omega)) (cwV 2 hts gX7_read_X7_sign rfl rfl rfl hd_X7_sign ⟨Nat.le_of_ble_eq_true rfl, Nat.le_of_ble_eq_true rfl⟩) (xpv_w hK hP hD [0, 1] 0 rfl rfl rfl rfl rfl) rfl rfl hl.1 rfl (lv_room (Nat.le_of_ble_eq_true rfl)) dX7_read_183 ⟨Nat.zero_le _, Nat.zero_le _⟩) hS (fun q _ h => hFc q h) hFc (fun r16 u16 t H locs ht hvm hw16 hB hz1 hk1 hS1 => ?_)
                have hB : va_P D vwCl [(g, .inr (7, [.ref s0, .ref a0, .ref b0, .int (nI kn), .ref x0, .int (nI L), .int (nI (nuP T L (ta + 1) + 1)), .int (nI 1), .int (nI (sgn T L ta)), .int r12, .int r14, .int (nI po), .int (nI rs), .int ca])), (x0, .inl (y 1, 60, .inl tx))] t.heap := hB
                rw [ht] at hB
                have hw16 : r16 = nI (sgn T L (nuP T L (ta + 1) + 1)) := hw16
                have hJ := xj_join (ws2 := [(g, .inr (7, [.ref s0, .ref a0, .ref b0, .int (nI kn), .ref x0, .int (nI L), .int (nI (nuP T L (ta + 1) + 1)), .int (nI 1), .int (nI (sgn T L ta)), .int r12, .int r14, .int (nI po), .int (nI rs), .int ca])), (x0, .inl (y 1, 60, .inl tx))]) hP hD [0, 1] [] rfl rfl rfl rfl rfl rfl hk1 hB
                clear hP hD hS hB hk1 hz1 hFc hvm ht
                obtain ⟨hP, hD⟩ := hJ
                have hS := hS1
                clear hS1
                subst hw16
                refine lv_istore_n (lv' := [(2, .int (nI (sgn T L (nuP T L (ta + 1) + 1)))), (1, .int (nI (sgn T L ta))), (0, .ref g)]) hx hb dX7_read_186 rfl hl (by decide) rfl (fun ls hl => ?_)
                have hc2 : sgn T L ta = 107 ∨ sgn T L ta = 110 := Or.inl hc
                have hp0 : orP T L ta = n1P T L (nuP T L (ta + 1) + 1) := (orP_2 hc2).trans (n2P_t hd1 (eq44.mpr hcm))
                have hk : ¬ orK T L ta := fun k9 => hd3 ((orK_2 hc2).mp k9).2.2.1
                have hp : orP T L ta = nuP T L (ta + 1) + 1 := hp0.trans (n1P_f hd3)
                have hks : bN (orK T L ta) = 0 := bN_f hk
                subst hQe
                exact xw_v hx hb hr hlocks (r12, r14) hS dX7_read_187 (fun k9 => absurd k9 hk) (fun t ht => by rw [ht]; exact (by rw [hp, hks]; exact hP))
            · rw [bN_f (c := inC T L (nuP T L (ta + 1)) 44 44) hcm] at hP hD
              replace hP : va_P D vwCl [(g, .inr (7, [.ref s0, .ref a0, .ref b0, .int (nI kn), .ref x0, .int (nI L), .int (nI (nuP T L (ta + 1))), .int (nI 1), .int (nI (sgn T L ta)), .int r12, .int (nI 0), .int (nI po), .int (nI rs), .int ca])), (x0, .inl (y 1, 60, .inl tx))] H := hP
              replace hD : va_D A [(g, .inr (7, [.ref s0, .ref a0, .ref b0, .int (nI kn), .ref x0, .int (nI L), .int (nI (nuP T L (ta + 1))), .int (nI 1), .int (nI (sgn T L ta)), .int r12, .int (nI 0), .int (nI po), .int (nI rs), .int ca])), (x0, .inl (y 1, 60, .inl tx))] := hD
              refine lv_istore_n (lv' := [(2, .int (nI (sgn T L (nuP T L (ta + 1))))), (1, .int (nI (sgn T L ta))), (0, .ref g)]) hx hb dX7_read_152 rfl hl (by decide) rfl (fun ls hl => ?_)
              refine lv_aload_n hx hb dX7_read_153 rfl (lv_at hl 2 rfl) ?_
              refine lv_iload_n hx hb dX7_read_154 rfl (lv_at hl 1 rfl) ?_
              refine lv_bipush (v := nI 120) hx hb dX7_read_155 (by decide) ?_
              refine xn_icmp_eq hx hb (by omega) (by omega) (tgt := 167) dX7_read_157 (by decide) (fun h => absurd h (by omega)) (fun kc157 => ?_)
              refine lv_aload_n hx hb dX7_read_160 rfl (lv_at hl 2 rfl) ?_
              refine va_get (D := D) (ci := 7) (v := .int (nI 1)) (C := RX7) (T := TX7) (N := 14) hx hb hts hin_X7 hown hK.1 hP 0 rfl rfl 7 (by decide) f_144 (fun _ h9 => h9) rfl dX7_read_161 ?_
              refine lv_if_eq (tgt := 171) hx hb dX7_read_164 (by decide) (fun h => absurd h (by decide)) (fun _ => ?_)
              refine lv_iconst (v := nI 0) hx hb dX7_read_167 (by decide) ?_
              refine lv_goto (tgt := 175) hx hb dX7_read_168 (by decide) ?_
              refine va_put (D := D) (ci := 7) (v := .int (nI 0)) (ty := .int) (C := RX7) (T := TX7) (N := 14) hx hb hts hin_X7 tyX7 tyX7_ok nmX7 hown hK.1 hP hD hS 0 rfl rfl 10 (by decide) f_160 (fun _ h9 => h9) rfl (by decide +kernel) rfl rfl (Nat.le_of_ble_eq_true rfl) dX7_read_175 (fun H locs hP1 hD1 hS1 => ?_)
              clear hP hD hS
              have hP : va_P D vwCl [(g, .inr (7, [.ref s0, .ref a0, .ref b0, .int (nI kn), .ref x0, .int (nI L), .int (nI (nuP T L (ta + 1))), .int (nI 1), .int (nI (sgn T L ta)), .int r12, .int (nI 0), .int (nI po), .int (nI rs), .int ca])), (x0, .inl (y 1, 60, .inl tx))] H := hP1
              have hD : va_D A [(g, .inr (7, [.ref s0, .ref a0, .ref b0, .int (nI kn), .ref x0, .int (nI L), .int (nI (nuP T L (ta + 1))), .int (nI 1), .int (nI (sgn T L ta)), .int r12, .int (nI 0), .int (nI po), .int (nI rs), .int ca])), (x0, .inl (y 1, 60, .inl tx))] := hD1
              have hS := hS1
              clear hP1 hD1 hS1
              refine lv_aload_n hx hb dX7_read_178 rfl (lv_at hl 2 rfl) ?_
              refine lv_bipush (v := nI 59) hx hb dX7_read_179 (by decide) ?_
              refine lv_bipush (v := nI 59) hx hb dX7_read_181 (by decide) ?_
              have hFc := xD_in (W0 := [(g, .inr (7, [.ref s0, .ref a0, .ref b0, .int (nI kn), .ref x0, .int (nI L), .int (nI (nuP T L (ta + 1))), .int (nI 1), .int (nI (sgn T L ta)), .int r12, .int (nI 0), .int (nI po), .int (nI rs), .int ca])), (x0, .inl (y 1, 60, .inl tx))]) hD [0, 1] rfl
              refine va_calli (va_runV (As := [.int (nI 59), .int (nI 59)]) (rest := []) ⟨hx, hb, hml, hown, hts⟩ (c_X7_sign_1 l D y g s0 a0 b0 x0 kn L (nuP T L (ta + 1)) (sgn T L ta) r12 (nI 0) po rs ca tx T hT 59 59 (by omega) (by omega) (by omega)) (cwV 2 hts gX7_read_X7_sign rfl rfl rfl hd_X7_sign ⟨Nat.le_of_ble_eq_true rfl, Nat.le_of_ble_eq_true rfl⟩) (xpv_w hK hP hD [0, 1] 0 rfl rfl rfl rfl rfl) rfl rfl hl.1 rfl (lv_room (Nat.le_of_ble_eq_true rfl)) dX7_read_183 ⟨Nat.zero_le _, Nat.zero_le _⟩) hS (fun q _ h => hFc q h) hFc (fun r17 u17 t H locs ht hvm hw17 hB hz1 hk1 hS1 => ?_)
              have hB : va_P D vwCl [(g, .inr (7, [.ref s0, .ref a0, .ref b0, .int (nI kn), .ref x0, .int (nI L), .int (nI (nuP T L (ta + 1))), .int (nI 1), .int (nI (sgn T L ta)), .int r12, .int (nI 0), .int (nI po), .int (nI rs), .int ca])), (x0, .inl (y 1, 60, .inl tx))] t.heap := hB
              rw [ht] at hB
              have hw17 : r17 = nI (sgn T L (nuP T L (ta + 1))) := hw17
              have hJ := xj_join (ws2 := [(g, .inr (7, [.ref s0, .ref a0, .ref b0, .int (nI kn), .ref x0, .int (nI L), .int (nI (nuP T L (ta + 1))), .int (nI 1), .int (nI (sgn T L ta)), .int r12, .int (nI 0), .int (nI po), .int (nI rs), .int ca])), (x0, .inl (y 1, 60, .inl tx))]) hP hD [0, 1] [] rfl rfl rfl rfl rfl rfl hk1 hB
              clear hP hD hS hB hk1 hz1 hFc hvm ht
              obtain ⟨hP, hD⟩ := hJ
              have hS := hS1
              clear hS1
              subst hw17
              refine lv_istore_n (lv' := [(2, .int (nI (sgn T L (nuP T L (ta + 1))))), (1, .int (nI (sgn T L ta))), (0, .ref g)]) hx hb dX7_read_186 rfl hl (by decide) rfl (fun ls hl => ?_)
              have hc2 : sgn T L ta = 107 ∨ sgn T L ta = 110 := Or.inl hc
              have hk : ¬ orK T L ta := fun k9 => hcm (eq44.mp ((orK_2 hc2).mp k9).2.1)
              have hp : orP T L ta = nuP T L (ta + 1) := (orP_2 hc2).trans (n2P_c hd1 (fun k9 => hcm (eq44.mp k9)))
              have hks : bN (orK T L ta) = 0 := bN_f hk
              subst hQe
              exact xw_v hx hb hr hlocks (r12, nI 0) hS dX7_read_187 (fun k9 => absurd k9 hk) (fun t ht => by rw [ht]; exact (by rw [hp, hks]; exact hP))
          · rw [bN_f (c := dgt T L (ta + 1)) hd1, nuP_n hd1] at hP hD
            replace hP : va_P D vwCl [(g, .inr (7, [.ref s0, .ref a0, .ref b0, .int (nI kn), .ref x0, .int (nI L), .int (nI (ta + 1)), .int (nI 1), .int (nI (sgn T L ta)), .int (nI 0), .int (nI 0), .int (nI po), .int (nI rs), .int ca])), (x0, .inl (y 1, 60, .inl tx))] H := hP
            replace hD : va_D A [(g, .inr (7, [.ref s0, .ref a0, .ref b0, .int (nI kn), .ref x0, .int (nI L), .int (nI (ta + 1)), .int (nI 1), .int (nI (sgn T L ta)), .int (nI 0), .int (nI 0), .int (nI po), .int (nI rs), .int ca])), (x0, .inl (y 1, 60, .inl tx))] := hD
            refine va_put (D := D) (ci := 7) (v := .int r12) (ty := .int) (C := RX7) (T := TX7) (N := 14) hx hb hts hin_X7 tyX7 tyX7_ok nmX7 hown hK.1 hP hD hS 0 rfl rfl 9 (by decide) f_154 (fun _ h9 => h9) rfl (by decide +kernel) rfl rfl (Nat.le_of_ble_eq_true rfl) dX7_read_131 (fun H locs hP1 hD1 hS1 => ?_)
            clear hP hD hS
            have hP : va_P D vwCl [(g, .inr (7, [.ref s0, .ref a0, .ref b0, .int (nI kn), .ref x0, .int (nI L), .int (nI (ta + 1)), .int (nI 1), .int (nI (sgn T L ta)), .int r12, .int (nI 0), .int (nI po), .int (nI rs), .int ca])), (x0, .inl (y 1, 60, .inl tx))] H := hP1
            have hD : va_D A [(g, .inr (7, [.ref s0, .ref a0, .ref b0, .int (nI kn), .ref x0, .int (nI L), .int (nI (ta + 1)), .int (nI 1), .int (nI (sgn T L ta)), .int r12, .int (nI 0), .int (nI po), .int (nI rs), .int ca])), (x0, .inl (y 1, 60, .inl tx))] := hD1
            have hS := hS1
            clear hP1 hD1 hS1
            refine lv_iload_n hx hb dX7_read_134 rfl (lv_at hl 0 rfl) ?_
            refine lv_bipush (v := nI 120) hx hb dX7_read_135 (by decide) ?_
            refine xn_icmp_ne hx hb (by omega) (by omega) (tgt := 144) dX7_read_137 (by decide) (fun kc137 => ?_) (fun h => absurd h (by omega))
            refine lv_aload_n hx hb dX7_read_144 rfl (lv_at hl 1 rfl) ?_
            refine lv_bipush (v := nI 44) hx hb dX7_read_145 (by decide) ?_
            refine lv_bipush (v := nI 44) hx hb dX7_read_147 (by decide) ?_
            have hFc := xD_in (W0 := [(g, .inr (7, [.ref s0, .ref a0, .ref b0, .int (nI kn), .ref x0, .int (nI L), .int (nI (ta + 1)), .int (nI 1), .int (nI (sgn T L ta)), .int r12, .int (nI 0), .int (nI po), .int (nI rs), .int ca])), (x0, .inl (y 1, 60, .inl tx))]) hD [0, 1] rfl
            refine va_calli (va_runV (As := [.int (nI 44), .int (nI 44)]) (rest := []) ⟨hx, hb, hml, hown, hts⟩ (c_X7_sign_1 l D y g s0 a0 b0 x0 kn L (ta + 1) (sgn T L ta) r12 (nI 0) po rs ca tx T hT 44 44 (by omega) (by omega) (by omega)) (cwV 2 hts gX7_read_X7_sign rfl rfl rfl hd_X7_sign ⟨Nat.le_of_ble_eq_true rfl, Nat.le_of_ble_eq_true rfl⟩) (xpv_w hK hP hD [0, 1] 0 rfl rfl rfl rfl rfl) rfl rfl hl.1 rfl (lv_room (Nat.le_of_ble_eq_true rfl)) dX7_read_149 ⟨Nat.zero_le _, Nat.zero_le _⟩) hS (fun q _ h => hFc q h) hFc (fun r18 u18 t H locs ht hvm hw18 hB hz1 hk1 hS1 => ?_)
            have hB : va_P D vwCl [(g, .inr (7, [.ref s0, .ref a0, .ref b0, .int (nI kn), .ref x0, .int (nI L), .int (nI (ta + 1)), .int (nI 1), .int (nI (sgn T L ta)), .int r12, .int (nI 0), .int (nI po), .int (nI rs), .int ca])), (x0, .inl (y 1, 60, .inl tx))] t.heap := hB
            rw [ht] at hB
            have hw18 : r18 = nI (sgn T L (ta + 1)) := hw18
            have hJ := xj_join (ws2 := [(g, .inr (7, [.ref s0, .ref a0, .ref b0, .int (nI kn), .ref x0, .int (nI L), .int (nI (ta + 1)), .int (nI 1), .int (nI (sgn T L ta)), .int r12, .int (nI 0), .int (nI po), .int (nI rs), .int ca])), (x0, .inl (y 1, 60, .inl tx))]) hP hD [0, 1] [] rfl rfl rfl rfl rfl rfl hk1 hB
            clear hP hD hS hB hk1 hz1 hFc hvm ht
            obtain ⟨hP, hD⟩ := hJ
            have hS := hS1
            clear hS1
            subst hw18
            refine lv_istore_n (lv' := [(2, .int (nI (sgn T L (ta + 1)))), (1, .int (nI (sgn T L ta))), (0, .ref g)]) hx hb dX7_read_152 rfl hl (by decide) rfl (fun ls hl => ?_)
            refine lv_aload_n hx hb dX7_read_153 rfl (lv_at hl 2 rfl) ?_
            refine lv_iload_n hx hb dX7_read_154 rfl (lv_at hl 1 rfl) ?_
            refine lv_bipush (v := nI 120) hx hb dX7_read_155 (by decide) ?_
            refine xn_icmp_eq hx hb (by omega) (by omega) (tgt := 167) dX7_read_157 (by decide) (fun h => absurd h (by omega)) (fun kc157 => ?_)
            refine lv_aload_n hx hb dX7_read_160 rfl (lv_at hl 2 rfl) ?_
            refine va_get (D := D) (ci := 7) (v := .int (nI 1)) (C := RX7) (T := TX7) (N := 14) hx hb hts hin_X7 hown hK.1 hP 0 rfl rfl 7 (by decide) f_144 (fun _ h9 => h9) rfl dX7_read_161 ?_
            refine lv_if_eq (tgt := 171) hx hb dX7_read_164 (by decide) (fun h => absurd h (by decide)) (fun _ => ?_)
            refine lv_iconst (v := nI 0) hx hb dX7_read_167 (by decide) ?_
            refine lv_goto (tgt := 175) hx hb dX7_read_168 (by decide) ?_
            refine va_put (D := D) (ci := 7) (v := .int (nI 0)) (ty := .int) (C := RX7) (T := TX7) (N := 14) hx hb hts hin_X7 tyX7 tyX7_ok nmX7 hown hK.1 hP hD hS 0 rfl rfl 10 (by decide) f_160 (fun _ h9 => h9) rfl (by decide +kernel) rfl rfl (Nat.le_of_ble_eq_true rfl) dX7_read_175 (fun H locs hP1 hD1 hS1 => ?_)
            clear hP hD hS
            have hP : va_P D vwCl [(g, .inr (7, [.ref s0, .ref a0, .ref b0, .int (nI kn), .ref x0, .int (nI L), .int (nI (ta + 1)), .int (nI 1), .int (nI (sgn T L ta)), .int r12, .int (nI 0), .int (nI po), .int (nI rs), .int ca])), (x0, .inl (y 1, 60, .inl tx))] H := hP1
            have hD : va_D A [(g, .inr (7, [.ref s0, .ref a0, .ref b0, .int (nI kn), .ref x0, .int (nI L), .int (nI (ta + 1)), .int (nI 1), .int (nI (sgn T L ta)), .int r12, .int (nI 0), .int (nI po), .int (nI rs), .int ca])), (x0, .inl (y 1, 60, .inl tx))] := hD1
            have hS := hS1
            clear hP1 hD1 hS1
            refine lv_aload_n hx hb dX7_read_178 rfl (lv_at hl 2 rfl) ?_
            refine lv_bipush (v := nI 59) hx hb dX7_read_179 (by decide) ?_
            refine lv_bipush (v := nI 59) hx hb dX7_read_181 (by decide) ?_
            have hFc := xD_in (W0 := [(g, .inr (7, [.ref s0, .ref a0, .ref b0, .int (nI kn), .ref x0, .int (nI L), .int (nI (ta + 1)), .int (nI 1), .int (nI (sgn T L ta)), .int r12, .int (nI 0), .int (nI po), .int (nI rs), .int ca])), (x0, .inl (y 1, 60, .inl tx))]) hD [0, 1] rfl
            refine va_calli (va_runV (As := [.int (nI 59), .int (nI 59)]) (rest := []) ⟨hx, hb, hml, hown, hts⟩ (c_X7_sign_1 l D y g s0 a0 b0 x0 kn L (ta + 1) (sgn T L ta) r12 (nI 0) po rs ca tx T hT 59 59 (by omega) (by omega) (by omega)) (cwV 2 hts gX7_read_X7_sign rfl rfl rfl hd_X7_sign ⟨Nat.le_of_ble_eq_true rfl, Nat.le_of_ble_eq_true rfl⟩) (xpv_w hK hP hD [0, 1] 0 rfl rfl rfl rfl rfl) rfl rfl hl.1 rfl (lv_room (Nat.le_of_ble_eq_true rfl)) dX7_read_183 ⟨Nat.zero_le _, Nat.zero_le _⟩) hS (fun q _ h => hFc q h) hFc (fun r19 u19 t H locs ht hvm hw19 hB hz1 hk1 hS1 => ?_)
            have hB : va_P D vwCl [(g, .inr (7, [.ref s0, .ref a0, .ref b0, .int (nI kn), .ref x0, .int (nI L), .int (nI (ta + 1)), .int (nI 1), .int (nI (sgn T L ta)), .int r12, .int (nI 0), .int (nI po), .int (nI rs), .int ca])), (x0, .inl (y 1, 60, .inl tx))] t.heap := hB
            rw [ht] at hB
            have hw19 : r19 = nI (sgn T L (ta + 1)) := hw19
            have hJ := xj_join (ws2 := [(g, .inr (7, [.ref s0, .ref a0, .ref b0, .int (nI kn), .ref x0, .int (nI L), .int (nI (ta + 1)), .int (nI 1), .int (nI (sgn T L ta)), .int r12, .int (nI 0), .int (nI po), .int (nI rs), .int ca])), (x0, .inl (y 1, 60, .inl tx))]) hP hD [0, 1] [] rfl rfl rfl rfl rfl rfl hk1 hB
            clear hP hD hS hB hk1 hz1 hFc hvm ht
            obtain ⟨hP, hD⟩ := hJ
            have hS := hS1
            clear hS1
            subst hw19
            refine lv_istore_n (lv' := [(2, .int (nI (sgn T L (ta + 1)))), (1, .int (nI (sgn T L ta))), (0, .ref g)]) hx hb dX7_read_186 rfl hl (by decide) rfl (fun ls hl => ?_)
            have hc2 : sgn T L ta = 107 ∨ sgn T L ta = 110 := Or.inl hc
            have hk : ¬ orK T L ta := fun k9 => hd1 ((orK_2 hc2).mp k9).1
            have hp : orP T L ta = ta + 1 := (orP_2 hc2).trans (n2P_f hd1)
            have hks : bN (orK T L ta) = 0 := bN_f hk
            subst hQe
            exact xw_v hx hb hr hlocks (r12, nI 0) hS dX7_read_187 (fun k9 => absurd k9 hk) (fun t ht => by rw [ht]; exact (by rw [hp, hks]; exact hP))
        · refine lv_iload_n hx hb dX7_read_44 rfl (lv_at hl 0 rfl) ?_
          refine lv_bipush (v := nI 120) hx hb dX7_read_45 (by decide) ?_
          refine xn_icmp_eq hx hb (by omega) (by omega) (tgt := 60) dX7_read_47 (by decide) (fun kc47 => ?_) (fun kc47 => ?_)
          · have hc : sgn T L ta = 120 := kc47
            refine lv_iconst (v := nI 0) hx hb dX7_read_60 (by decide) ?_
            refine va_put (D := D) (ci := 7) (v := .int (nI 0)) (ty := .boolean) (C := RX7) (T := TX7) (N := 14) hx hb hts hin_X7 tyX7 tyX7_ok nmX7 hown hK.1 hP hD hS 0 rfl rfl 7 (by decide) f_144 (fun _ h9 => h9) rfl (by decide +kernel) (xb_nar (by omega)) (xb_fit (by omega)) (Nat.le_of_ble_eq_true rfl) dX7_read_61 (fun H locs hP1 hD1 hS1 => ?_)
            clear hP hD hS
            have hP : va_P D vwCl [(g, .inr (7, [.ref s0, .ref a0, .ref b0, .int (nI kn), .ref x0, .int (nI L), .int (nI ta), .int (nI 0), .int (nI le), .int o1, .int o2, .int (nI po), .int (nI rs), .int ca])), (x0, .inl (y 1, 60, .inl tx))] H := hP1
            have hD : va_D A [(g, .inr (7, [.ref s0, .ref a0, .ref b0, .int (nI kn), .ref x0, .int (nI L), .int (nI ta), .int (nI 0), .int (nI le), .int o1, .int o2, .int (nI po), .int (nI rs), .int ca])), (x0, .inl (y 1, 60, .inl tx))] := hD1
            have hS := hS1
            clear hP1 hD1 hS1
            refine lv_aload_n hx hb dX7_read_64 rfl (lv_at hl 1 rfl) ?_
            refine lv_dup hx hb dX7_read_65 rfl ?_
            refine va_get (D := D) (ci := 7) (v := .int (nI ta)) (C := RX7) (T := TX7) (N := 14) hx hb hts hin_X7 hown hK.1 hP 0 rfl rfl 6 (by decide) f_141 (fun _ h9 => h9) rfl dX7_read_66 ?_
            refine lv_aload_n hx hb dX7_read_69 rfl (lv_at hl 1 rfl) ?_
            refine va_get (D := D) (ci := 7) (v := .int (nI 0)) (C := RX7) (T := TX7) (N := 14) hx hb hts hin_X7 hown hK.1 hP 0 rfl rfl 7 (by decide) f_144 (fun _ h9 => h9) rfl dX7_read_70 ?_
            refine lv_if_eq (tgt := 80) hx hb dX7_read_73 (by decide) (fun _ => ?_) (fun h => absurd h (by decide))
            refine lv_iconst (v := nI 1) hx hb dX7_read_80 (by decide) ?_
            refine xn_add hx hb (r := (ta + 1)) rfl dX7_read_81 ?_
            refine va_put (D := D) (ci := 7) (v := .int (nI (ta + 1))) (ty := .int) (C := RX7) (T := TX7) (N := 14) hx hb hts hin_X7 tyX7 tyX7_ok nmX7 hown hK.1 hP hD hS 0 rfl rfl 6 (by decide) f_141 (fun _ h9 => h9) rfl (by decide +kernel) rfl rfl (Nat.le_of_ble_eq_true rfl) dX7_read_82 (fun H locs hP1 hD1 hS1 => ?_)
            clear hP hD hS
            have hP : va_P D vwCl [(g, .inr (7, [.ref s0, .ref a0, .ref b0, .int (nI kn), .ref x0, .int (nI L), .int (nI (ta + 1)), .int (nI 0), .int (nI le), .int o1, .int o2, .int (nI po), .int (nI rs), .int ca])), (x0, .inl (y 1, 60, .inl tx))] H := hP1
            have hD : va_D A [(g, .inr (7, [.ref s0, .ref a0, .ref b0, .int (nI kn), .ref x0, .int (nI L), .int (nI (ta + 1)), .int (nI 0), .int (nI le), .int o1, .int o2, .int (nI po), .int (nI rs), .int ca])), (x0, .inl (y 1, 60, .inl tx))] := hD1
            have hS := hS1
            clear hP1 hD1 hS1
            refine lv_aload_n hx hb dX7_read_85 rfl (lv_at hl 1 rfl) ?_
            refine lv_iload_n hx hb dX7_read_86 rfl (lv_at hl 0 rfl) ?_
            refine va_put (D := D) (ci := 7) (v := .int (nI (sgn T L ta))) (ty := .int) (C := RX7) (T := TX7) (N := 14) hx hb hts hin_X7 tyX7 tyX7_ok nmX7 hown hK.1 hP hD hS 0 rfl rfl 8 (by decide) f_157 (fun _ h9 => h9) rfl (by decide +kernel) rfl rfl (Nat.le_of_ble_eq_true rfl) dX7_read_87 (fun H locs hP1 hD1 hS1 => ?_)
            clear hP hD hS
            have hP : va_P D vwCl [(g, .inr (7, [.ref s0, .ref a0, .ref b0, .int (nI kn), .ref x0, .int (nI L), .int (nI (ta + 1)), .int (nI 0), .int (nI (sgn T L ta)), .int o1, .int o2, .int (nI po), .int (nI rs), .int ca])), (x0, .inl (y 1, 60, .inl tx))] H := hP1
            have hD : va_D A [(g, .inr (7, [.ref s0, .ref a0, .ref b0, .int (nI kn), .ref x0, .int (nI L), .int (nI (ta + 1)), .int (nI 0), .int (nI (sgn T L ta)), .int o1, .int o2, .int (nI po), .int (nI rs), .int ca])), (x0, .inl (y 1, 60, .inl tx))] := hD1
            have hS := hS1
            clear hP1 hD1 hS1
            refine lv_aload_n hx hb dX7_read_90 rfl (lv_at hl 1 rfl) ?_
            refine lv_iconst (v := nI 0) hx hb dX7_read_91 (by decide) ?_
            refine va_put (D := D) (ci := 7) (v := .int (nI 0)) (ty := .int) (C := RX7) (T := TX7) (N := 14) hx hb hts hin_X7 tyX7 tyX7_ok nmX7 hown hK.1 hP hD hS 0 rfl rfl 9 (by decide) f_154 (fun _ h9 => h9) rfl (by decide +kernel) rfl rfl (Nat.le_of_ble_eq_true rfl) dX7_read_92 (fun H locs hP1 hD1 hS1 => ?_)
            clear hP hD hS
            have hP : va_P D vwCl [(g, .inr (7, [.ref s0, .ref a0, .ref b0, .int (nI kn), .ref x0, .int (nI L), .int (nI (ta + 1)), .int (nI 0), .int (nI (sgn T L ta)), .int (nI 0), .int o2, .int (nI po), .int (nI rs), .int ca])), (x0, .inl (y 1, 60, .inl tx))] H := hP1
            have hD : va_D A [(g, .inr (7, [.ref s0, .ref a0, .ref b0, .int (nI kn), .ref x0, .int (nI L), .int (nI (ta + 1)), .int (nI 0), .int (nI (sgn T L ta)), .int (nI 0), .int o2, .int (nI po), .int (nI rs), .int ca])), (x0, .inl (y 1, 60, .inl tx))] := hD1
            have hS := hS1
            clear hP1 hD1 hS1
            refine lv_aload_n hx hb dX7_read_95 rfl (lv_at hl 1 rfl) ?_
            refine lv_iconst (v := nI 0) hx hb dX7_read_96 (by decide) ?_
            refine va_put (D := D) (ci := 7) (v := .int (nI 0)) (ty := .int) (C := RX7) (T := TX7) (N := 14) hx hb hts hin_X7 tyX7 tyX7_ok nmX7 hown hK.1 hP hD hS 0 rfl rfl 10 (by decide) f_160 (fun _ h9 => h9) rfl (by decide +kernel) rfl rfl (Nat.le_of_ble_eq_true rfl) dX7_read_97 (fun H locs hP1 hD1 hS1 => ?_)
            clear hP hD hS
            have hP : va_P D vwCl [(g, .inr (7, [.ref s0, .ref a0, .ref b0, .int (nI kn), .ref x0, .int (nI L), .int (nI (ta + 1)), .int (nI 0), .int (nI (sgn T L ta)), .int (nI 0), .int (nI 0), .int (nI po), .int (nI rs), .int ca])), (x0, .inl (y 1, 60, .inl tx))] H := hP1
            have hD : va_D A [(g, .inr (7, [.ref s0, .ref a0, .ref b0, .int (nI kn), .ref x0, .int (nI L), .int (nI (ta + 1)), .int (nI 0), .int (nI (sgn T L ta)), .int (nI 0), .int (nI 0), .int (nI po), .int (nI rs), .int ca])), (x0, .inl (y 1, 60, .inl tx))] := hD1
            have hS := hS1
            clear hP1 hD1 hS1
            refine lv_iload_n hx hb dX7_read_100 rfl (lv_at hl 0 rfl) ?_
            refine lv_bipush (v := nI 99) hx hb dX7_read_101 (by decide) ?_
            refine xn_icmp_ne hx hb (by omega) (by omega) (tgt := 113) dX7_read_103 (by decide) (fun kc103 => ?_) (fun h => absurd h (by omega))
            refine lv_aload_n hx hb dX7_read_113 rfl (lv_at hl 1 rfl) ?_
            refine va_get (D := D) (ci := 7) (v := .int (nI 0)) (C := RX7) (T := TX7) (N := 14) hx hb hts hin_X7 hown hK.1 hP 0 rfl rfl 7 (by decide) f_144 (fun _ h9 => h9) rfl dX7_read_114 ?_
            refine lv_if_ne (tgt := 178) hx hb dX7_read_117 (by decide) (fun h => absurd h (by decide)) (fun _ => ?_)
            refine lv_iload_n hx hb dX7_read_120 rfl (lv_at hl 0 rfl) ?_
            refine lv_bipush (v := nI 116) hx hb dX7_read_121 (by decide) ?_
            refine xn_icmp_eq hx hb (by omega) (by omega) (tgt := 178) dX7_read_123 (by decide) (fun h => absurd h (by omega)) (fun kc123 => ?_)
            refine lv_aload_n hx hb dX7_read_126 rfl (lv_at hl 1 rfl) ?_
            refine lv_aload_n hx hb dX7_read_127 rfl (lv_at hl 1 rfl) ?_
            have hFc := xD_in (W0 := [(g, .inr (7, [.ref s0, .ref a0, .ref b0, .int (nI kn), .ref x0, .int (nI L), .int (nI (ta + 1)), .int (nI 0), .int (nI (sgn T L ta)), .int (nI 0), .int (nI 0), .int (nI po), .int (nI rs), .int ca])), (x0, .inl (y 1, 60, .inl tx))]) hD [0, 1] rfl
            refine va_calli (va_runV (As := []) (rest := [.ref g]) ⟨hx, hb, hml, hown, hts⟩ (c_X7_number_0 l D y g s0 a0 b0 x0 kn L (ta + 1) (sgn T L ta) (nI 0) (nI 0) po rs ca tx T hT (by omega)) (cwV 0 hts gX7_read_X7_number rfl rfl rfl hd_X7_number ⟨Nat.le_of_ble_eq_true rfl, Nat.le_of_ble_eq_true rfl⟩) (xpv_w hK hP hD [0, 1] 0 rfl rfl rfl rfl rfl) rfl rfl hl.1 rfl (lv_room (Nat.le_of_ble_eq_true rfl)) dX7_read_128 ⟨Nat.zero_le _, Nat.zero_le _⟩) hS (fun q _ h => hFc q h) hFc (fun r20 u20 t H locs ht hvm hw20 hB hz1 hk1 hS1 => ?_)
            have hB : va_P D vwCl [(g, .inr (7, [.ref s0, .ref a0, .ref b0, .int (nI kn), .ref x0, .int (nI L), .int (nI (nuP T L (ta + 1))), .int (nI (1 - bN (dgt T L (ta + 1)))), .int (nI (sgn T L ta)), .int (nI 0), .int (nI 0), .int (nI po), .int (nI rs), .int ca])), (x0, .inl (y 1, 60, .inl tx))] t.heap := hB
            rw [ht] at hB
            have hw20 : dgt T L (ta + 1) → r20 = nI (nuV T L (ta + 1)) := hw20
            have hJ := xj_join (ws2 := [(g, .inr (7, [.ref s0, .ref a0, .ref b0, .int (nI kn), .ref x0, .int (nI L), .int (nI (nuP T L (ta + 1))), .int (nI (1 - bN (dgt T L (ta + 1)))), .int (nI (sgn T L ta)), .int (nI 0), .int (nI 0), .int (nI po), .int (nI rs), .int ca])), (x0, .inl (y 1, 60, .inl tx))]) hP hD [0, 1] [] rfl rfl rfl rfl rfl rfl hk1 hB
            clear hP hD hS hB hk1 hz1 hFc hvm ht
            obtain ⟨hP, hD⟩ := hJ
            have hS := hS1
            clear hS1
            by_cases hd1 : dgt T L (ta + 1)
            · rw [bN_t (c := dgt T L (ta + 1)) hd1] at hP hD
              replace hP : va_P D vwCl [(g, .inr (7, [.ref s0, .ref a0, .ref b0, .int (nI kn), .ref x0, .int (nI L), .int (nI (nuP T L (ta + 1))), .int (nI 0), .int (nI (sgn T L ta)), .int (nI 0), .int (nI 0), .int (nI po), .int (nI rs), .int ca])), (x0, .inl (y 1, 60, .inl tx))] H := hP
              replace hD : va_D A [(g, .inr (7, [.ref s0, .ref a0, .ref b0, .int (nI kn), .ref x0, .int (nI L), .int (nI (nuP T L (ta + 1))), .int (nI 0), .int (nI (sgn T L ta)), .int (nI 0), .int (nI 0), .int (nI po), .int (nI rs), .int ca])), (x0, .inl (y 1, 60, .inl tx))] := hD
              refine va_put (D := D) (ci := 7) (v := .int r20) (ty := .int) (C := RX7) (T := TX7) (N := 14) hx hb hts hin_X7 tyX7 tyX7_ok nmX7 hown hK.1 hP hD hS 0 rfl rfl 9 (by decide) f_154 (fun _ h9 => h9) rfl (by decide +kernel) rfl rfl (Nat.le_of_ble_eq_true rfl) dX7_read_131 (fun H locs hP1 hD1 hS1 => ?_)
              clear hP hD hS
              have hP : va_P D vwCl [(g, .inr (7, [.ref s0, .ref a0, .ref b0, .int (nI kn), .ref x0, .int (nI L), .int (nI (nuP T L (ta + 1))), .int (nI 0), .int (nI (sgn T L ta)), .int r20, .int (nI 0), .int (nI po), .int (nI rs), .int ca])), (x0, .inl (y 1, 60, .inl tx))] H := hP1
              have hD : va_D A [(g, .inr (7, [.ref s0, .ref a0, .ref b0, .int (nI kn), .ref x0, .int (nI L), .int (nI (nuP T L (ta + 1))), .int (nI 0), .int (nI (sgn T L ta)), .int r20, .int (nI 0), .int (nI po), .int (nI rs), .int ca])), (x0, .inl (y 1, 60, .inl tx))] := hD1
              have hS := hS1
              clear hP1 hD1 hS1
              refine lv_iload_n hx hb dX7_read_134 rfl (lv_at hl 0 rfl) ?_
              refine lv_bipush (v := nI 120) hx hb dX7_read_135 (by decide) ?_
              refine xn_icmp_ne hx hb (by omega) (by omega) (tgt := 144) dX7_read_137 (by decide) (fun h => absurd h (by omega)) (fun kc137 => ?_)
              refine lv_iconst (v := nI 0) hx hb dX7_read_140 (by decide) ?_
              refine lv_goto (tgt := 152) hx hb dX7_read_141 (by decide) ?_
              refine lv_istore_n (lv' := [(2, .int (nI 0)), (1, .int (nI (sgn T L ta))), (0, .ref g)]) hx hb dX7_read_152 rfl hl (by decide) rfl (fun ls hl => ?_)
              refine lv_aload_n hx hb dX7_read_153 rfl (lv_at hl 2 rfl) ?_
              refine lv_iload_n hx hb dX7_read_154 rfl (lv_at hl 1 rfl) ?_
              refine lv_bipush (v := nI 120) hx hb dX7_read_155 (by decide) ?_
              refine xn_icmp_eq hx hb (by omega) (by omega) (tgt := 167) dX7_read_157 (by decide) (fun kc157 => ?_) (fun h => absurd (by omega) h)
              refine lv_iconst (v := nI 0) hx hb dX7_read_167 (by decide) ?_
              refine lv_goto (tgt := 175) hx hb dX7_read_168 (by decide) ?_
              refine va_put (D := D) (ci := 7) (v := .int (nI 0)) (ty := .int) (C := RX7) (T := TX7) (N := 14) hx hb hts hin_X7 tyX7 tyX7_ok nmX7 hown hK.1 hP hD hS 0 rfl rfl 10 (by decide) f_160 (fun _ h9 => h9) rfl (by decide +kernel) rfl rfl (Nat.le_of_ble_eq_true rfl) dX7_read_175 (fun H locs hP1 hD1 hS1 => ?_)
              clear hP hD hS
              have hP : va_P D vwCl [(g, .inr (7, [.ref s0, .ref a0, .ref b0, .int (nI kn), .ref x0, .int (nI L), .int (nI (nuP T L (ta + 1))), .int (nI 0), .int (nI (sgn T L ta)), .int r20, .int (nI 0), .int (nI po), .int (nI rs), .int ca])), (x0, .inl (y 1, 60, .inl tx))] H := hP1
              have hD : va_D A [(g, .inr (7, [.ref s0, .ref a0, .ref b0, .int (nI kn), .ref x0, .int (nI L), .int (nI (nuP T L (ta + 1))), .int (nI 0), .int (nI (sgn T L ta)), .int r20, .int (nI 0), .int (nI po), .int (nI rs), .int ca])), (x0, .inl (y 1, 60, .inl tx))] := hD1
              have hS := hS1
              clear hP1 hD1 hS1
              refine lv_aload_n hx hb dX7_read_178 rfl (lv_at hl 2 rfl) ?_
              refine lv_bipush (v := nI 59) hx hb dX7_read_179 (by decide) ?_
              refine lv_bipush (v := nI 59) hx hb dX7_read_181 (by decide) ?_
              have hFc := xD_in (W0 := [(g, .inr (7, [.ref s0, .ref a0, .ref b0, .int (nI kn), .ref x0, .int (nI L), .int (nI (nuP T L (ta + 1))), .int (nI 0), .int (nI (sgn T L ta)), .int r20, .int (nI 0), .int (nI po), .int (nI rs), .int ca])), (x0, .inl (y 1, 60, .inl tx))]) hD [0, 1] rfl
              refine va_calli (va_runV (As := [.int (nI 59), .int (nI 59)]) (rest := []) ⟨hx, hb, hml, hown, hts⟩ (c_X7_sign_0 l D y g s0 a0 b0 x0 kn L (nuP T L (ta + 1)) (sgn T L ta) r20 (nI 0) po rs ca tx T hT 59 59 (by omega) (by omega) (by omega)) (cwV 2 hts gX7_read_X7_sign rfl rfl rfl hd_X7_sign ⟨Nat.le_of_ble_eq_true rfl, Nat.le_of_ble_eq_true rfl⟩) (xpv_w hK hP hD [0, 1] 0 rfl rfl rfl rfl rfl) rfl rfl hl.1 rfl (lv_room (Nat.le_of_ble_eq_true rfl)) dX7_read_183 ⟨Nat.zero_le _, Nat.zero_le _⟩) hS (fun q _ h => hFc q h) hFc (fun r21 u21 t H locs ht hvm hw21 hB hz1 hk1 hS1 => ?_)
              have hB : va_P D vwCl [(g, .inr (7, [.ref s0, .ref a0, .ref b0, .int (nI kn), .ref x0, .int (nI L), .int (nI ((nuP T L (ta + 1)) + bN (inC T L (nuP T L (ta + 1)) 59 59))), .int (nI (1 - bN (inC T L (nuP T L (ta + 1)) 59 59))), .int (nI (sgn T L ta)), .int r20, .int (nI 0), .int (nI po), .int (nI rs), .int ca])), (x0, .inl (y 1, 60, .inl tx))] t.heap := hB
              rw [ht] at hB
              have hw21 : r21 = nI (sgn T L (nuP T L (ta + 1))) := hw21
              have hJ := xj_join (ws2 := [(g, .inr (7, [.ref s0, .ref a0, .ref b0, .int (nI kn), .ref x0, .int (nI L), .int (nI ((nuP T L (ta + 1)) + bN (inC T L (nuP T L (ta + 1)) 59 59))), .int (nI (1 - bN (inC T L (nuP T L (ta + 1)) 59 59))), .int (nI (sgn T L ta)), .int r20, .int (nI 0), .int (nI po), .int (nI rs), .int ca])), (x0, .inl (y 1, 60, .inl tx))]) hP hD [0, 1] [] rfl rfl rfl rfl rfl rfl hk1 hB
              clear hP hD hS hB hk1 hz1 hFc hvm ht
              obtain ⟨hP, hD⟩ := hJ
              have hS := hS1
              clear hS1
              subst hw21
              refine lv_istore_n (lv' := [(2, .int (nI (sgn T L (nuP T L (ta + 1))))), (1, .int (nI (sgn T L ta))), (0, .ref g)]) hx hb dX7_read_186 rfl hl (by decide) rfl (fun ls hl => ?_)
              have hks : bN (orK T L ta) = bN (inC T L (nuP T L (ta + 1)) 59 59) := bN_c ((orK_120 hc).trans ⟨fun k9 => eq59.mp k9.2, fun k9 => ⟨hd1, eq59.mpr k9⟩⟩)
              have hp : orP T L ta = nuP T L (ta + 1) + bN (inC T L (nuP T L (ta + 1)) 59 59) := ((orP_120 hc).trans (n1P_t hd1)).trans (congrArg (nuP T L (ta + 1) + ·) (bN_c eq59))
              subst hQe
              exact xw_v hx hb hr hlocks (r20, nI 0) hS dX7_read_187 (fun _ => ⟨orX T L ta, 0, by unfold orX; rw [if_neg (by omega)]; exact hw20 hd1, rfl, orX_lt hT, by decide, fun _ => rfl, fun q9 => absurd q9 (by omega)⟩) (fun t ht => by rw [ht]; exact (by rw [hp, hks]; exact hP))
            · rw [bN_f (c := dgt T L (ta + 1)) hd1, nuP_n hd1] at hP hD
              replace hP : va_P D vwCl [(g, .inr (7, [.ref s0, .ref a0, .ref b0, .int (nI kn), .ref x0, .int (nI L), .int (nI (ta + 1)), .int (nI 1), .int (nI (sgn T L ta)), .int (nI 0), .int (nI 0), .int (nI po), .int (nI rs), .int ca])), (x0, .inl (y 1, 60, .inl tx))] H := hP
              replace hD : va_D A [(g, .inr (7, [.ref s0, .ref a0, .ref b0, .int (nI kn), .ref x0, .int (nI L), .int (nI (ta + 1)), .int (nI 1), .int (nI (sgn T L ta)), .int (nI 0), .int (nI 0), .int (nI po), .int (nI rs), .int ca])), (x0, .inl (y 1, 60, .inl tx))] := hD
              refine va_put (D := D) (ci := 7) (v := .int r20) (ty := .int) (C := RX7) (T := TX7) (N := 14) hx hb hts hin_X7 tyX7 tyX7_ok nmX7 hown hK.1 hP hD hS 0 rfl rfl 9 (by decide) f_154 (fun _ h9 => h9) rfl (by decide +kernel) rfl rfl (Nat.le_of_ble_eq_true rfl) dX7_read_131 (fun H locs hP1 hD1 hS1 => ?_)
              clear hP hD hS
              have hP : va_P D vwCl [(g, .inr (7, [.ref s0, .ref a0, .ref b0, .int (nI kn), .ref x0, .int (nI L), .int (nI (ta + 1)), .int (nI 1), .int (nI (sgn T L ta)), .int r20, .int (nI 0), .int (nI po), .int (nI rs), .int ca])), (x0, .inl (y 1, 60, .inl tx))] H := hP1
              have hD : va_D A [(g, .inr (7, [.ref s0, .ref a0, .ref b0, .int (nI kn), .ref x0, .int (nI L), .int (nI (ta + 1)), .int (nI 1), .int (nI (sgn T L ta)), .int r20, .int (nI 0), .int (nI po), .int (nI rs), .int ca])), (x0, .inl (y 1, 60, .inl tx))] := hD1
              have hS := hS1
              clear hP1 hD1 hS1
              refine lv_iload_n hx hb dX7_read_134 rfl (lv_at hl 0 rfl) ?_
              refine lv_bipush (v := nI 120) hx hb dX7_read_135 (by decide) ?_
              refine xn_icmp_ne hx hb (by omega) (by omega) (tgt := 144) dX7_read_137 (by decide) (fun h => absurd h (by omega)) (fun kc137 => ?_)
              refine lv_iconst (v := nI 0) hx hb dX7_read_140 (by decide) ?_
              refine lv_goto (tgt := 152) hx hb dX7_read_141 (by decide) ?_
              refine lv_istore_n (lv' := [(2, .int (nI 0)), (1, .int (nI (sgn T L ta))), (0, .ref g)]) hx hb dX7_read_152 rfl hl (by decide) rfl (fun ls hl => ?_)
              refine lv_aload_n hx hb dX7_read_153 rfl (lv_at hl 2 rfl) ?_
              refine lv_iload_n hx hb dX7_read_154 rfl (lv_at hl 1 rfl) ?_
              refine lv_bipush (v := nI 120) hx hb dX7_read_155 (by decide) ?_
              refine xn_icmp_eq hx hb (by omega) (by omega) (tgt := 167) dX7_read_157 (by decide) (fun kc157 => ?_) (fun h => absurd (by omega) h)
              refine lv_iconst (v := nI 0) hx hb dX7_read_167 (by decide) ?_
              refine lv_goto (tgt := 175) hx hb dX7_read_168 (by decide) ?_
              refine va_put (D := D) (ci := 7) (v := .int (nI 0)) (ty := .int) (C := RX7) (T := TX7) (N := 14) hx hb hts hin_X7 tyX7 tyX7_ok nmX7 hown hK.1 hP hD hS 0 rfl rfl 10 (by decide) f_160 (fun _ h9 => h9) rfl (by decide +kernel) rfl rfl (Nat.le_of_ble_eq_true rfl) dX7_read_175 (fun H locs hP1 hD1 hS1 => ?_)
              clear hP hD hS
              have hP : va_P D vwCl [(g, .inr (7, [.ref s0, .ref a0, .ref b0, .int (nI kn), .ref x0, .int (nI L), .int (nI (ta + 1)), .int (nI 1), .int (nI (sgn T L ta)), .int r20, .int (nI 0), .int (nI po), .int (nI rs), .int ca])), (x0, .inl (y 1, 60, .inl tx))] H := hP1
              have hD : va_D A [(g, .inr (7, [.ref s0, .ref a0, .ref b0, .int (nI kn), .ref x0, .int (nI L), .int (nI (ta + 1)), .int (nI 1), .int (nI (sgn T L ta)), .int r20, .int (nI 0), .int (nI po), .int (nI rs), .int ca])), (x0, .inl (y 1, 60, .inl tx))] := hD1
              have hS := hS1
              clear hP1 hD1 hS1
              refine lv_aload_n hx hb dX7_read_178 rfl (lv_at hl 2 rfl) ?_
              refine lv_bipush (v := nI 59) hx hb dX7_read_179 (by decide) ?_
              refine lv_bipush (v := nI 59) hx hb dX7_read_181 (by decide) ?_
              have hFc := xD_in (W0 := [(g, .inr (7, [.ref s0, .ref a0, .ref b0, .int (nI kn), .ref x0, .int (nI L), .int (nI (ta + 1)), .int (nI 1), .int (nI (sgn T L ta)), .int r20, .int (nI 0), .int (nI po), .int (nI rs), .int ca])), (x0, .inl (y 1, 60, .inl tx))]) hD [0, 1] rfl
              refine va_calli (va_runV (As := [.int (nI 59), .int (nI 59)]) (rest := []) ⟨hx, hb, hml, hown, hts⟩ (c_X7_sign_1 l D y g s0 a0 b0 x0 kn L (ta + 1) (sgn T L ta) r20 (nI 0) po rs ca tx T hT 59 59 (by omega) (by omega) (by omega)) (cwV 2 hts gX7_read_X7_sign rfl rfl rfl hd_X7_sign ⟨Nat.le_of_ble_eq_true rfl, Nat.le_of_ble_eq_true rfl⟩) (xpv_w hK hP hD [0, 1] 0 rfl rfl rfl rfl rfl) rfl rfl hl.1 rfl (lv_room (Nat.le_of_ble_eq_true rfl)) dX7_read_183 ⟨Nat.zero_le _, Nat.zero_le _⟩) hS (fun q _ h => hFc q h) hFc (fun r22 u22 t H locs ht hvm hw22 hB hz1 hk1 hS1 => ?_)
              have hB : va_P D vwCl [(g, .inr (7, [.ref s0, .ref a0, .ref b0, .int (nI kn), .ref x0, .int (nI L), .int (nI (ta + 1)), .int (nI 1), .int (nI (sgn T L ta)), .int r20, .int (nI 0), .int (nI po), .int (nI rs), .int ca])), (x0, .inl (y 1, 60, .inl tx))] t.heap := hB
              rw [ht] at hB
              have hw22 : r22 = nI (sgn T L (ta + 1)) := hw22
              have hJ := xj_join (ws2 := [(g, .inr (7, [.ref s0, .ref a0, .ref b0, .int (nI kn), .ref x0, .int (nI L), .int (nI (ta + 1)), .int (nI 1), .int (nI (sgn T L ta)), .int r20, .int (nI 0), .int (nI po), .int (nI rs), .int ca])), (x0, .inl (y 1, 60, .inl tx))]) hP hD [0, 1] [] rfl rfl rfl rfl rfl rfl hk1 hB
              clear hP hD hS hB hk1 hz1 hFc hvm ht
              obtain ⟨hP, hD⟩ := hJ
              have hS := hS1
              clear hS1
              subst hw22
              refine lv_istore_n (lv' := [(2, .int (nI (sgn T L (ta + 1)))), (1, .int (nI (sgn T L ta))), (0, .ref g)]) hx hb dX7_read_186 rfl hl (by decide) rfl (fun ls hl => ?_)
              have hk : ¬ orK T L ta := fun k9 => hd1 ((orK_120 hc).mp k9).1
              have hp : orP T L ta = ta + 1 := (orP_120 hc).trans (n1P_f hd1)
              have hks : bN (orK T L ta) = 0 := bN_f hk
              subst hQe
              exact xw_v hx hb hr hlocks (r20, nI 0) hS dX7_read_187 (fun k9 => absurd k9 hk) (fun t ht => by rw [ht]; exact (by rw [hp, hks]; exact hP))
          · refine lv_iload_n hx hb dX7_read_50 rfl (lv_at hl 0 rfl) ?_
            refine lv_bipush (v := nI 116) hx hb dX7_read_51 (by decide) ?_
            refine xn_icmp_eq hx hb (by omega) (by omega) (tgt := 60) dX7_read_53 (by decide) (fun kc53 => ?_) (fun kc53 => ?_)
            · have hc : sgn T L ta = 116 := kc53
              refine lv_iconst (v := nI 0) hx hb dX7_read_60 (by decide) ?_
              refine va_put (D := D) (ci := 7) (v := .int (nI 0)) (ty := .boolean) (C := RX7) (T := TX7) (N := 14) hx hb hts hin_X7 tyX7 tyX7_ok nmX7 hown hK.1 hP hD hS 0 rfl rfl 7 (by decide) f_144 (fun _ h9 => h9) rfl (by decide +kernel) (xb_nar (by omega)) (xb_fit (by omega)) (Nat.le_of_ble_eq_true rfl) dX7_read_61 (fun H locs hP1 hD1 hS1 => ?_)
              clear hP hD hS
              have hP : va_P D vwCl [(g, .inr (7, [.ref s0, .ref a0, .ref b0, .int (nI kn), .ref x0, .int (nI L), .int (nI ta), .int (nI 0), .int (nI le), .int o1, .int o2, .int (nI po), .int (nI rs), .int ca])), (x0, .inl (y 1, 60, .inl tx))] H := hP1
              have hD : va_D A [(g, .inr (7, [.ref s0, .ref a0, .ref b0, .int (nI kn), .ref x0, .int (nI L), .int (nI ta), .int (nI 0), .int (nI le), .int o1, .int o2, .int (nI po), .int (nI rs), .int ca])), (x0, .inl (y 1, 60, .inl tx))] := hD1
              have hS := hS1
              clear hP1 hD1 hS1
              refine lv_aload_n hx hb dX7_read_64 rfl (lv_at hl 1 rfl) ?_
              refine lv_dup hx hb dX7_read_65 rfl ?_
              refine va_get (D := D) (ci := 7) (v := .int (nI ta)) (C := RX7) (T := TX7) (N := 14) hx hb hts hin_X7 hown hK.1 hP 0 rfl rfl 6 (by decide) f_141 (fun _ h9 => h9) rfl dX7_read_66 ?_
              refine lv_aload_n hx hb dX7_read_69 rfl (lv_at hl 1 rfl) ?_
              refine va_get (D := D) (ci := 7) (v := .int (nI 0)) (C := RX7) (T := TX7) (N := 14) hx hb hts hin_X7 hown hK.1 hP 0 rfl rfl 7 (by decide) f_144 (fun _ h9 => h9) rfl dX7_read_70 ?_
              refine lv_if_eq (tgt := 80) hx hb dX7_read_73 (by decide) (fun _ => ?_) (fun h => absurd h (by decide))
              refine lv_iconst (v := nI 1) hx hb dX7_read_80 (by decide) ?_
              refine xn_add hx hb (r := (ta + 1)) rfl dX7_read_81 ?_
              refine va_put (D := D) (ci := 7) (v := .int (nI (ta + 1))) (ty := .int) (C := RX7) (T := TX7) (N := 14) hx hb hts hin_X7 tyX7 tyX7_ok nmX7 hown hK.1 hP hD hS 0 rfl rfl 6 (by decide) f_141 (fun _ h9 => h9) rfl (by decide +kernel) rfl rfl (Nat.le_of_ble_eq_true rfl) dX7_read_82 (fun H locs hP1 hD1 hS1 => ?_)
              clear hP hD hS
              have hP : va_P D vwCl [(g, .inr (7, [.ref s0, .ref a0, .ref b0, .int (nI kn), .ref x0, .int (nI L), .int (nI (ta + 1)), .int (nI 0), .int (nI le), .int o1, .int o2, .int (nI po), .int (nI rs), .int ca])), (x0, .inl (y 1, 60, .inl tx))] H := hP1
              have hD : va_D A [(g, .inr (7, [.ref s0, .ref a0, .ref b0, .int (nI kn), .ref x0, .int (nI L), .int (nI (ta + 1)), .int (nI 0), .int (nI le), .int o1, .int o2, .int (nI po), .int (nI rs), .int ca])), (x0, .inl (y 1, 60, .inl tx))] := hD1
              have hS := hS1
              clear hP1 hD1 hS1
              refine lv_aload_n hx hb dX7_read_85 rfl (lv_at hl 1 rfl) ?_
              refine lv_iload_n hx hb dX7_read_86 rfl (lv_at hl 0 rfl) ?_
              refine va_put (D := D) (ci := 7) (v := .int (nI (sgn T L ta))) (ty := .int) (C := RX7) (T := TX7) (N := 14) hx hb hts hin_X7 tyX7 tyX7_ok nmX7 hown hK.1 hP hD hS 0 rfl rfl 8 (by decide) f_157 (fun _ h9 => h9) rfl (by decide +kernel) rfl rfl (Nat.le_of_ble_eq_true rfl) dX7_read_87 (fun H locs hP1 hD1 hS1 => ?_)
              clear hP hD hS
              have hP : va_P D vwCl [(g, .inr (7, [.ref s0, .ref a0, .ref b0, .int (nI kn), .ref x0, .int (nI L), .int (nI (ta + 1)), .int (nI 0), .int (nI (sgn T L ta)), .int o1, .int o2, .int (nI po), .int (nI rs), .int ca])), (x0, .inl (y 1, 60, .inl tx))] H := hP1
              have hD : va_D A [(g, .inr (7, [.ref s0, .ref a0, .ref b0, .int (nI kn), .ref x0, .int (nI L), .int (nI (ta + 1)), .int (nI 0), .int (nI (sgn T L ta)), .int o1, .int o2, .int (nI po), .int (nI rs), .int ca])), (x0, .inl (y 1, 60, .inl tx))] := hD1
              have hS := hS1
              clear hP1 hD1 hS1
              refine lv_aload_n hx hb dX7_read_90 rfl (lv_at hl 1 rfl) ?_
              refine lv_iconst (v := nI 0) hx hb dX7_read_91 (by decide) ?_
              refine va_put (D := D) (ci := 7) (v := .int (nI 0)) (ty := .int) (C := RX7) (T := TX7) (N := 14) hx hb hts hin_X7 tyX7 tyX7_ok nmX7 hown hK.1 hP hD hS 0 rfl rfl 9 (by decide) f_154 (fun _ h9 => h9) rfl (by decide +kernel) rfl rfl (Nat.le_of_ble_eq_true rfl) dX7_read_92 (fun H locs hP1 hD1 hS1 => ?_)
              clear hP hD hS
              have hP : va_P D vwCl [(g, .inr (7, [.ref s0, .ref a0, .ref b0, .int (nI kn), .ref x0, .int (nI L), .int (nI (ta + 1)), .int (nI 0), .int (nI (sgn T L ta)), .int (nI 0), .int o2, .int (nI po), .int (nI rs), .int ca])), (x0, .inl (y 1, 60, .inl tx))] H := hP1
              have hD : va_D A [(g, .inr (7, [.ref s0, .ref a0, .ref b0, .int (nI kn), .ref x0, .int (nI L), .int (nI (ta + 1)), .int (nI 0), .int (nI (sgn T L ta)), .int (nI 0), .int o2, .int (nI po), .int (nI rs), .int ca])), (x0, .inl (y 1, 60, .inl tx))] := hD1
              have hS := hS1
              clear hP1 hD1 hS1
              refine lv_aload_n hx hb dX7_read_95 rfl (lv_at hl 1 rfl) ?_
              refine lv_iconst (v := nI 0) hx hb dX7_read_96 (by decide) ?_
              refine va_put (D := D) (ci := 7) (v := .int (nI 0)) (ty := .int) (C := RX7) (T := TX7) (N := 14) hx hb hts hin_X7 tyX7 tyX7_ok nmX7 hown hK.1 hP hD hS 0 rfl rfl 10 (by decide) f_160 (fun _ h9 => h9) rfl (by decide +kernel) rfl rfl (Nat.le_of_ble_eq_true rfl) dX7_read_97 (fun H locs hP1 hD1 hS1 => ?_)
              clear hP hD hS
              have hP : va_P D vwCl [(g, .inr (7, [.ref s0, .ref a0, .ref b0, .int (nI kn), .ref x0, .int (nI L), .int (nI (ta + 1)), .int (nI 0), .int (nI (sgn T L ta)), .int (nI 0), .int (nI 0), .int (nI po), .int (nI rs), .int ca])), (x0, .inl (y 1, 60, .inl tx))] H := hP1
              have hD : va_D A [(g, .inr (7, [.ref s0, .ref a0, .ref b0, .int (nI kn), .ref x0, .int (nI L), .int (nI (ta + 1)), .int (nI 0), .int (nI (sgn T L ta)), .int (nI 0), .int (nI 0), .int (nI po), .int (nI rs), .int ca])), (x0, .inl (y 1, 60, .inl tx))] := hD1
              have hS := hS1
              clear hP1 hD1 hS1
              refine lv_iload_n hx hb dX7_read_100 rfl (lv_at hl 0 rfl) ?_
              refine lv_bipush (v := nI 99) hx hb dX7_read_101 (by decide) ?_
              refine xn_icmp_ne hx hb (by omega) (by omega) (tgt := 113) dX7_read_103 (by decide) (fun kc103 => ?_) (fun h => absurd h (by omega))
              refine lv_aload_n hx hb dX7_read_113 rfl (lv_at hl 1 rfl) ?_
              refine va_get (D := D) (ci := 7) (v := .int (nI 0)) (C := RX7) (T := TX7) (N := 14) hx hb hts hin_X7 hown hK.1 hP 0 rfl rfl 7 (by decide) f_144 (fun _ h9 => h9) rfl dX7_read_114 ?_
              refine lv_if_ne (tgt := 178) hx hb dX7_read_117 (by decide) (fun h => absurd h (by decide)) (fun _ => ?_)
              refine lv_iload_n hx hb dX7_read_120 rfl (lv_at hl 0 rfl) ?_
              refine lv_bipush (v := nI 116) hx hb dX7_read_121 (by decide) ?_
              refine xn_icmp_eq hx hb (by omega) (by omega) (tgt := 178) dX7_read_123 (by decide) (fun kc123 => ?_) (fun h => absurd (by omega) h)
              refine lv_aload_n hx hb dX7_read_178 rfl (lv_at hl 1 rfl) ?_
              refine lv_bipush (v := nI 59) hx hb dX7_read_179 (by decide) ?_
              refine lv_bipush (v := nI 59) hx hb dX7_read_181 (by decide) ?_
              have hFc := xD_in (W0 := [(g, .inr (7, [.ref s0, .ref a0, .ref b0, .int (nI kn), .ref x0, .int (nI L), .int (nI (ta + 1)), .int (nI 0), .int (nI (sgn T L ta)), .int (nI 0), .int (nI 0), .int (nI po), .int (nI rs), .int ca])), (x0, .inl (y 1, 60, .inl tx))]) hD [0, 1] rfl
              refine va_calli (va_runV (As := [.int (nI 59), .int (nI 59)]) (rest := []) ⟨hx, hb, hml, hown, hts⟩ (c_X7_sign_0 l D y g s0 a0 b0 x0 kn L (ta + 1) (sgn T L ta) (nI 0) (nI 0) po rs ca tx T hT 59 59 (by omega) (by omega) (by omega)) (cwV 2 hts gX7_read_X7_sign rfl rfl rfl hd_X7_sign ⟨Nat.le_of_ble_eq_true rfl, Nat.le_of_ble_eq_true rfl⟩) (xpv_w hK hP hD [0, 1] 0 rfl rfl rfl rfl rfl) rfl rfl hl.1 rfl (lv_room (Nat.le_of_ble_eq_true rfl)) dX7_read_183 ⟨Nat.zero_le _, Nat.zero_le _⟩) hS (fun q _ h => hFc q h) hFc (fun r23 u23 t H locs ht hvm hw23 hB hz1 hk1 hS1 => ?_)
              have hB : va_P D vwCl [(g, .inr (7, [.ref s0, .ref a0, .ref b0, .int (nI kn), .ref x0, .int (nI L), .int (nI ((ta + 1) + bN (inC T L (ta + 1) 59 59))), .int (nI (1 - bN (inC T L (ta + 1) 59 59))), .int (nI (sgn T L ta)), .int (nI 0), .int (nI 0), .int (nI po), .int (nI rs), .int ca])), (x0, .inl (y 1, 60, .inl tx))] t.heap := hB
              rw [ht] at hB
              have hw23 : r23 = nI (sgn T L (ta + 1)) := hw23
              have hJ := xj_join (ws2 := [(g, .inr (7, [.ref s0, .ref a0, .ref b0, .int (nI kn), .ref x0, .int (nI L), .int (nI ((ta + 1) + bN (inC T L (ta + 1) 59 59))), .int (nI (1 - bN (inC T L (ta + 1) 59 59))), .int (nI (sgn T L ta)), .int (nI 0), .int (nI 0), .int (nI po), .int (nI rs), .int ca])), (x0, .inl (y 1, 60, .inl tx))]) hP hD [0, 1] [] rfl rfl rfl rfl rfl rfl hk1 hB
              clear hP hD hS hB hk1 hz1 hFc hvm ht
              obtain ⟨hP, hD⟩ := hJ
              have hS := hS1
              clear hS1
              subst hw23
              refine lv_istore_n (lv' := [(2, .int (nI (sgn T L (ta + 1)))), (1, .int (nI (sgn T L ta))), (0, .ref g)]) hx hb dX7_read_186 rfl hl (by decide) rfl (fun ls hl => ?_)
              have hks : bN (orK T L ta) = bN (inC T L (ta + 1) 59 59) := bN_c ((orK_116 hc).trans eq59)
              have hp : orP T L ta = ta + 1 + bN (inC T L (ta + 1) 59 59) := (orP_116 hc).trans (congrArg (ta + 1 + ·) (bN_c eq59))
              subst hQe
              exact xw_v hx hb hr hlocks (nI 0, nI 0) hS dX7_read_187 (fun _ => ⟨0, 0, rfl, rfl, by decide, by decide, fun q9 => absurd hc q9, fun q9 => absurd q9 (by omega)⟩) (fun t ht => by rw [ht]; exact (by rw [hp, hks]; exact hP))
            · refine lv_iconst (v := nI 1) hx hb dX7_read_56 (by decide) ?_
              refine lv_goto (tgt := 61) hx hb dX7_read_57 (by decide) ?_
              refine va_put (D := D) (ci := 7) (v := .int (nI 1)) (ty := .boolean) (C := RX7) (T := TX7) (N := 14) hx hb hts hin_X7 tyX7 tyX7_ok nmX7 hown hK.1 hP hD hS 0 rfl rfl 7 (by decide) f_144 (fun _ h9 => h9) rfl (by decide +kernel) (xb_nar (by omega)) (xb_fit (by omega)) (Nat.le_of_ble_eq_true rfl) dX7_read_61 (fun H locs hP1 hD1 hS1 => ?_)
              clear hP hD hS
              have hP : va_P D vwCl [(g, .inr (7, [.ref s0, .ref a0, .ref b0, .int (nI kn), .ref x0, .int (nI L), .int (nI ta), .int (nI 1), .int (nI le), .int o1, .int o2, .int (nI po), .int (nI rs), .int ca])), (x0, .inl (y 1, 60, .inl tx))] H := hP1
              have hD : va_D A [(g, .inr (7, [.ref s0, .ref a0, .ref b0, .int (nI kn), .ref x0, .int (nI L), .int (nI ta), .int (nI 1), .int (nI le), .int o1, .int o2, .int (nI po), .int (nI rs), .int ca])), (x0, .inl (y 1, 60, .inl tx))] := hD1
              have hS := hS1
              clear hP1 hD1 hS1
              refine lv_aload_n hx hb dX7_read_64 rfl (lv_at hl 1 rfl) ?_
              refine lv_dup hx hb dX7_read_65 rfl ?_
              refine va_get (D := D) (ci := 7) (v := .int (nI ta)) (C := RX7) (T := TX7) (N := 14) hx hb hts hin_X7 hown hK.1 hP 0 rfl rfl 6 (by decide) f_141 (fun _ h9 => h9) rfl dX7_read_66 ?_
              refine lv_aload_n hx hb dX7_read_69 rfl (lv_at hl 1 rfl) ?_
              refine va_get (D := D) (ci := 7) (v := .int (nI 1)) (C := RX7) (T := TX7) (N := 14) hx hb hts hin_X7 hown hK.1 hP 0 rfl rfl 7 (by decide) f_144 (fun _ h9 => h9) rfl dX7_read_70 ?_
              refine lv_if_eq (tgt := 80) hx hb dX7_read_73 (by decide) (fun h => absurd h (by decide)) (fun _ => ?_)
              refine lv_iconst (v := nI 0) hx hb dX7_read_76 (by decide) ?_
              refine lv_goto (tgt := 81) hx hb dX7_read_77 (by decide) ?_
              refine xn_add hx hb (r := (ta + 0)) rfl dX7_read_81 ?_
              refine va_put (D := D) (ci := 7) (v := .int (nI (ta + 0))) (ty := .int) (C := RX7) (T := TX7) (N := 14) hx hb hts hin_X7 tyX7 tyX7_ok nmX7 hown hK.1 hP hD hS 0 rfl rfl 6 (by decide) f_141 (fun _ h9 => h9) rfl (by decide +kernel) rfl rfl (Nat.le_of_ble_eq_true rfl) dX7_read_82 (fun H locs hP1 hD1 hS1 => ?_)
              clear hP hD hS
              have hP : va_P D vwCl [(g, .inr (7, [.ref s0, .ref a0, .ref b0, .int (nI kn), .ref x0, .int (nI L), .int (nI (ta + 0)), .int (nI 1), .int (nI le), .int o1, .int o2, .int (nI po), .int (nI rs), .int ca])), (x0, .inl (y 1, 60, .inl tx))] H := hP1
              have hD : va_D A [(g, .inr (7, [.ref s0, .ref a0, .ref b0, .int (nI kn), .ref x0, .int (nI L), .int (nI (ta + 0)), .int (nI 1), .int (nI le), .int o1, .int o2, .int (nI po), .int (nI rs), .int ca])), (x0, .inl (y 1, 60, .inl tx))] := hD1
              have hS := hS1
              clear hP1 hD1 hS1
              refine lv_aload_n hx hb dX7_read_85 rfl (lv_at hl 1 rfl) ?_
              refine lv_iload_n hx hb dX7_read_86 rfl (lv_at hl 0 rfl) ?_
              refine va_put (D := D) (ci := 7) (v := .int (nI (sgn T L ta))) (ty := .int) (C := RX7) (T := TX7) (N := 14) hx hb hts hin_X7 tyX7 tyX7_ok nmX7 hown hK.1 hP hD hS 0 rfl rfl 8 (by decide) f_157 (fun _ h9 => h9) rfl (by decide +kernel) rfl rfl (Nat.le_of_ble_eq_true rfl) dX7_read_87 (fun H locs hP1 hD1 hS1 => ?_)
              clear hP hD hS
              have hP : va_P D vwCl [(g, .inr (7, [.ref s0, .ref a0, .ref b0, .int (nI kn), .ref x0, .int (nI L), .int (nI (ta + 0)), .int (nI 1), .int (nI (sgn T L ta)), .int o1, .int o2, .int (nI po), .int (nI rs), .int ca])), (x0, .inl (y 1, 60, .inl tx))] H := hP1
              have hD : va_D A [(g, .inr (7, [.ref s0, .ref a0, .ref b0, .int (nI kn), .ref x0, .int (nI L), .int (nI (ta + 0)), .int (nI 1), .int (nI (sgn T L ta)), .int o1, .int o2, .int (nI po), .int (nI rs), .int ca])), (x0, .inl (y 1, 60, .inl tx))] := hD1
              have hS := hS1
              clear hP1 hD1 hS1
              refine lv_aload_n hx hb dX7_read_90 rfl (lv_at hl 1 rfl) ?_
              refine lv_iconst (v := nI 0) hx hb dX7_read_91 (by decide) ?_
              refine va_put (D := D) (ci := 7) (v := .int (nI 0)) (ty := .int) (C := RX7) (T := TX7) (N := 14) hx hb hts hin_X7 tyX7 tyX7_ok nmX7 hown hK.1 hP hD hS 0 rfl rfl 9 (by decide) f_154 (fun _ h9 => h9) rfl (by decide +kernel) rfl rfl (Nat.le_of_ble_eq_true rfl) dX7_read_92 (fun H locs hP1 hD1 hS1 => ?_)
              clear hP hD hS
              have hP : va_P D vwCl [(g, .inr (7, [.ref s0, .ref a0, .ref b0, .int (nI kn), .ref x0, .int (nI L), .int (nI (ta + 0)), .int (nI 1), .int (nI (sgn T L ta)), .int (nI 0), .int o2, .int (nI po), .int (nI rs), .int ca])), (x0, .inl (y 1, 60, .inl tx))] H := hP1
              have hD : va_D A [(g, .inr (7, [.ref s0, .ref a0, .ref b0, .int (nI kn), .ref x0, .int (nI L), .int (nI (ta + 0)), .int (nI 1), .int (nI (sgn T L ta)), .int (nI 0), .int o2, .int (nI po), .int (nI rs), .int ca])), (x0, .inl (y 1, 60, .inl tx))] := hD1
              have hS := hS1
              clear hP1 hD1 hS1
              refine lv_aload_n hx hb dX7_read_95 rfl (lv_at hl 1 rfl) ?_
              refine lv_iconst (v := nI 0) hx hb dX7_read_96 (by decide) ?_
              refine va_put (D := D) (ci := 7) (v := .int (nI 0)) (ty := .int) (C := RX7) (T := TX7) (N := 14) hx hb hts hin_X7 tyX7 tyX7_ok nmX7 hown hK.1 hP hD hS 0 rfl rfl 10 (by decide) f_160 (fun _ h9 => h9) rfl (by decide +kernel) rfl rfl (Nat.le_of_ble_eq_true rfl) dX7_read_97 (fun H locs hP1 hD1 hS1 => ?_)
              clear hP hD hS
              have hP : va_P D vwCl [(g, .inr (7, [.ref s0, .ref a0, .ref b0, .int (nI kn), .ref x0, .int (nI L), .int (nI (ta + 0)), .int (nI 1), .int (nI (sgn T L ta)), .int (nI 0), .int (nI 0), .int (nI po), .int (nI rs), .int ca])), (x0, .inl (y 1, 60, .inl tx))] H := hP1
              have hD : va_D A [(g, .inr (7, [.ref s0, .ref a0, .ref b0, .int (nI kn), .ref x0, .int (nI L), .int (nI (ta + 0)), .int (nI 1), .int (nI (sgn T L ta)), .int (nI 0), .int (nI 0), .int (nI po), .int (nI rs), .int ca])), (x0, .inl (y 1, 60, .inl tx))] := hD1
              have hS := hS1
              clear hP1 hD1 hS1
              refine lv_iload_n hx hb dX7_read_100 rfl (lv_at hl 0 rfl) ?_
              refine lv_bipush (v := nI 99) hx hb dX7_read_101 (by decide) ?_
              refine xn_icmp_ne hx hb (by omega) (by omega) (tgt := 113) dX7_read_103 (by decide) (fun kc103 => ?_) (fun h => absurd h (by omega))
              refine lv_aload_n hx hb dX7_read_113 rfl (lv_at hl 1 rfl) ?_
              refine va_get (D := D) (ci := 7) (v := .int (nI 1)) (C := RX7) (T := TX7) (N := 14) hx hb hts hin_X7 hown hK.1 hP 0 rfl rfl 7 (by decide) f_144 (fun _ h9 => h9) rfl dX7_read_114 ?_
              refine lv_if_ne (tgt := 178) hx hb dX7_read_117 (by decide) (fun _ => ?_) (fun h => absurd h (by decide))
              refine lv_aload_n hx hb dX7_read_178 rfl (lv_at hl 1 rfl) ?_
              refine lv_bipush (v := nI 59) hx hb dX7_read_179 (by decide) ?_
              refine lv_bipush (v := nI 59) hx hb dX7_read_181 (by decide) ?_
              have hFc := xD_in (W0 := [(g, .inr (7, [.ref s0, .ref a0, .ref b0, .int (nI kn), .ref x0, .int (nI L), .int (nI (ta + 0)), .int (nI 1), .int (nI (sgn T L ta)), .int (nI 0), .int (nI 0), .int (nI po), .int (nI rs), .int ca])), (x0, .inl (y 1, 60, .inl tx))]) hD [0, 1] rfl
              refine va_calli (va_runV (As := [.int (nI 59), .int (nI 59)]) (rest := []) ⟨hx, hb, hml, hown, hts⟩ (c_X7_sign_1 l D y g s0 a0 b0 x0 kn L (ta + 0) (sgn T L ta) (nI 0) (nI 0) po rs ca tx T hT 59 59 (by omega) (by omega) (by omega)) (cwV 2 hts gX7_read_X7_sign rfl rfl rfl hd_X7_sign ⟨Nat.le_of_ble_eq_true rfl, Nat.le_of_ble_eq_true rfl⟩) (xpv_w hK hP hD [0, 1] 0 rfl rfl rfl rfl rfl) rfl rfl hl.1 rfl (lv_room (Nat.le_of_ble_eq_true rfl)) dX7_read_183 ⟨Nat.zero_le _, Nat.zero_le _⟩) hS (fun q _ h => hFc q h) hFc (fun r24 u24 t H locs ht hvm hw24 hB hz1 hk1 hS1 => ?_)
              have hB : va_P D vwCl [(g, .inr (7, [.ref s0, .ref a0, .ref b0, .int (nI kn), .ref x0, .int (nI L), .int (nI (ta + 0)), .int (nI 1), .int (nI (sgn T L ta)), .int (nI 0), .int (nI 0), .int (nI po), .int (nI rs), .int ca])), (x0, .inl (y 1, 60, .inl tx))] t.heap := hB
              rw [ht] at hB
              have hw24 : r24 = nI (sgn T L (ta + 0)) := hw24
              have hJ := xj_join (ws2 := [(g, .inr (7, [.ref s0, .ref a0, .ref b0, .int (nI kn), .ref x0, .int (nI L), .int (nI (ta + 0)), .int (nI 1), .int (nI (sgn T L ta)), .int (nI 0), .int (nI 0), .int (nI po), .int (nI rs), .int ca])), (x0, .inl (y 1, 60, .inl tx))]) hP hD [0, 1] [] rfl rfl rfl rfl rfl rfl hk1 hB
              clear hP hD hS hB hk1 hz1 hFc hvm ht
              obtain ⟨hP, hD⟩ := hJ
              have hS := hS1
              clear hS1
              subst hw24
              refine lv_istore_n (lv' := [(2, .int (nI (sgn T L (ta + 0)))), (1, .int (nI (sgn T L ta))), (0, .ref g)]) hx hb dX7_read_186 rfl hl (by decide) rfl (fun ls hl => ?_)
              have hk : ¬ orK T L ta := orK_no (by omega) (by omega) (by omega) (by omega) (by omega)
              have hp : orP T L ta = ta := orP_no (by omega) (by omega) (by omega) (by omega) (by omega)
              have hks : bN (orK T L ta) = 0 := bN_f hk
              subst hQe
              exact xw_v hx hb hr hlocks (nI 0, nI 0) hS dX7_read_187 (fun k9 => absurd k9 hk) (fun t ht => by rw [ht]; exact (by rw [hp, hks]; exact hP))
  refine xn_icmp_ge hx hb (by omega) (by omega) (tgt := 23) dX7_read_8 (by decide) (fun kc8 => ?_) (fun kc8 => ?_)
  · refine lv_iconst (v := nI 0) hx hb dX7_read_23 (by decide) ?_
    refine xv (v := nI (sgn T L ta)) (congrArg nI (by unfold sgn; first | (rw [if_pos kc8]; done) | (rw [if_neg (by omega)]; done))) ?_
    exact jn24  ls (lv_sub hl [0] rfl) 
  · refine lv_aload_n hx hb dX7_read_11 rfl (lv_at hl 0 rfl) ?_
    refine va_get (D := D) (ci := 7) (v := .ref x0) (C := RX7) (T := TX7) (N := 14) hx hb hts hin_X7 hown hK.1 hP 0 rfl rfl 4 (by decide) f_19 (fun _ h9 => h9) rfl dX7_read_12 ?_
    refine lv_aload_n hx hb dX7_read_15 rfl (lv_at hl 0 rfl) ?_
    refine va_get (D := D) (ci := 7) (v := .int (nI ta)) (C := RX7) (T := TX7) (N := 14) hx hb hts hin_X7 hown hK.1 hP 0 rfl rfl 6 (by decide) f_141 (fun _ h9 => h9) rfl dX7_read_16 ?_
    refine xn_iald hx hb hK hP 1 rfl (by omega) (by first | decide | omega) (v := nI (T ta)) ((hT.2 ta kc8).1) dX7_read_19 ?_
    refine lv_goto (tgt := 24) hx hb dX7_read_20 (by decide) ?_
    refine xv (v := nI (sgn T L ta)) (congrArg nI (by unfold sgn; first | (rw [if_pos kc8]; done) | (rw [if_neg (by omega)]; done))) ?_
    exact jn24  ls (lv_sub hl [0] rfl) 
set_option maxHeartbeats 8000000 in
set_option maxRecDepth 100000 in
theorem c_X7_does (l : Launch) (D : va_G) (y : Nat → ClassId) (g s0 a0 b0 x0 kn L ta wr le x z po rs : Nat) (ca : Int32) (V : Nat → Nat) (hI : Inv V) (hx0 : x < 2 ^ 30) (hz0 : z < 2 ^ 30) (hle : le = 99 ∨ le = 107 ∨ le = 110 ∨ le = 116 ∨ le = 120) : Met l yX7_does wsX7_does ({ frames := 5, cells := 0, slots := 0, locals := 114 }) (va_Pc [.ref g] (xPw D y [(g, .inr (7, [.ref s0, .ref a0, .ref b0, .int (nI kn), .ref x0, .int (nI L), .int (nI ta), .int (nI wr), .int (nI le), .int (nI x), .int (nI z), .int (nI po), .int (nI rs), .int ca])), (s0, .inl (y 1, 72, .inl (fun j9 => nI (V j9))))])) (va_Qi (fun r (u : Unit) => r = dsI V le x z) (fun (u : Unit) t => va_P D vwCl [(g, .inr (7, [.ref s0, .ref a0, .ref b0, .int (nI kn), .ref x0, .int (nI L), .int (nI ta), .int (nI wr), .int (nI le), .int (nI x), .int (nI z), .int (nI po), .int (nI rs), .int ca])), (s0, .inl (y 1, 72, .inl (fun j9 => nI ((doV V le x z) j9))))] t.heap) (xIn [(g, .inr (7, [.ref s0, .ref a0, .ref b0, .int (nI kn), .ref x0, .int (nI L), .int (nI ta), .int (nI wr), .int (nI le), .int (nI x), .int (nI z), .int (nI po), .int (nI rs), .int ca])), (s0, .inl (y 1, 72, .inl (fun j9 => nI (V j9))))])) 0 0 (xIn [(g, .inr (7, [.ref s0, .ref a0, .ref b0, .int (nI kn), .ref x0, .int (nI L), .int (nI ta), .int (nI wr), .int (nI le), .int (nI x), .int (nI z), .int (nI po), .int (nI rs), .int ca])), (s0, .inl (y 1, 72, .inl (fun j9 => nI (V j9))))]) := by
  refine Met.ofW (cc := cX7_does) (maxL := 4) (ret := (some .int)) (by decide) rfl ?_
  intro p e s m args below meth c s₁ B hml hv
  obtain ⟨rfl, hP, hK, hD0⟩ := hv
  have hx := B.exec
  have hb := B.bytes
  have hr := B.returns
  have hts := atoms_spec (ws := wsX7_does) B.pre
  have hown : s.vm.findClass RX7 = some m.cls := findClass_of_methodNamed B.named
  have hlocks := B.notSynchronized
  have f_154 := hts (.fieldLink RX7 154 "LoomTunesModel" "one" "I") (by decide +kernel)
  have f_157 := hts (.fieldLink RX7 157 "LoomTunesModel" "letter" "I") (by decide +kernel)
  have f_160 := hts (.fieldLink RX7 160 "LoomTunesModel" "two" "I") (by decide +kernel)
  have f_51 := hts (.constant RX7 51 (-1000001)) (by decide +kernel)
  have f_7 := hts (.fieldLink RX7 7 "LoomTunesModel" "s" "[I") (by decide +kernel)
  have f_76 := hts (.constant RX7 76 (-1000002)) (by decide +kernel)
  have hin_X7 : ∀ w ∈ wsX70, w ∈ wsX7_does := by decide +kernel
  have hD := xD_self hD0
  generalize hAe : xIn [(g, .inr (7, [.ref s0, .ref a0, .ref b0, .int (nI kn), .ref x0, .int (nI L), .int (nI ta), .int (nI wr), .int (nI le), .int (nI x), .int (nI z), .int (nI po), .int (nI rs), .int ca])), (s0, .inl (y 1, 72, .inl (fun j9 => nI (V j9))))] = A at hD ⊢
  have hS : va_S A s.heap s.heap [] := va_S.rf
  have hP : va_P D vwCl [(g, .inr (7, [.ref s0, .ref a0, .ref b0, .int (nI kn), .ref x0, .int (nI L), .int (nI ta), .int (nI wr), .int (nI le), .int (nI x), .int (nI z), .int (nI po), .int (nI rs), .int ca])), (s0, .inl (y 1, 72, .inl (fun j9 => nI (V j9))))] s.heap := hP
  have hl := lv_entry ([.ref g]) (n := 4) (Nat.le_of_ble_eq_true rfl)
  rw [lg_entry_eq]
  generalize (lg_sl ([.ref g]) ++ List.replicate (4 - (lg_sl ([.ref g])).length) Slot.unset).toArray = ls at hl ⊢
  have hl : lv_has ls 4 [(0, .ref g)] := hl
  generalize hQe : (MQ below (va_Qi (fun r (u : Unit) => r = dsI V le x z) (fun (u : Unit) t => va_P D vwCl [(g, .inr (7, [.ref s0, .ref a0, .ref b0, .int (nI kn), .ref x0, .int (nI L), .int (nI ta), .int (nI wr), .int (nI le), .int (nI x), .int (nI z), .int (nI po), .int (nI rs), .int ca])), (s0, .inl (y 1, 72, .inl (fun j9 => nI ((doV V le x z) j9))))] t.heap) A) ([.ref g] : List Value).toArray s 0 0 A) = Q
  have hsz := hI.sz
  have hbl1 := bN_lt (c := ¬ nI x < nI 0 ∧ ¬ nI 7 < nI x)
  have hbl2 := bN_lt (c := inR (nI x) (V 16))
  have hbl3 := bN_lt (c := ¬ nI z < nI 0 ∧ ¬ nI 47 < nI z)
  have hbl4 := bN_lt (c := ¬ nI z < nI 0 ∧ ¬ nI 3 < nI z)
  refine lv_aload_n hx hb dX7_does_0 rfl (lv_at hl 0 rfl) ?_
  refine va_get (D := D) (ci := 7) (v := .int (nI x)) (C := RX7) (T := TX7) (N := 14) hx hb hts hin_X7 hown hK.1 hP 0 rfl rfl 9 (by decide) f_154 (fun _ h9 => h9) rfl dX7_does_1 ?_
  refine lv_iconst (v := nI 0) hx hb dX7_does_4 (by decide) ?_
  refine lv_bipush (v := nI 7) hx hb dX7_does_5 (by decide) ?_
  refine xc_S (As := [.int (nI x), .int (nI 0), .int (nI 7)]) (rest := []) ⟨hx, hb, hml, hown, hts⟩ (c_X7_in l (nI x) (nI 0) (nI 7)) (va_cwS 3 hts gX7_does_X7_in rfl rfl rfl hd_X7_in.2 ⟨Nat.le_of_ble_eq_true rfl, Nat.le_of_ble_eq_true rfl⟩) xps_0 rfl hl.1 rfl (Nat.le_of_ble_eq_true rfl) dX7_does_7 ⟨Nat.zero_le _, Nat.zero_le _⟩ (fun r1 hr1 => ?_)
  subst hr1
  refine lv_istore_n (lv' := [(1, .int (nI (bN (¬ (nI x) < (nI 0) ∧ ¬ (nI 7) < (nI x))))), (0, .ref g)]) hx hb dX7_does_10 rfl hl (by decide) rfl (fun ls hl => ?_)
  refine lv_aload_n hx hb dX7_does_11 rfl (lv_at hl 1 rfl) ?_
  refine va_get (D := D) (ci := 7) (v := .int (nI le)) (C := RX7) (T := TX7) (N := 14) hx hb hts hin_X7 hown hK.1 hP 0 rfl rfl 8 (by decide) f_157 (fun _ h9 => h9) rfl dX7_does_12 ?_
  refine lv_bipush (v := nI 99) hx hb dX7_does_15 (by decide) ?_
  refine xn_icmp_ne hx hb (by omega) (by omega) (tgt := 48) dX7_does_17 (by decide) (fun kc17 => ?_) (fun kc17 => ?_)
  · refine lv_aload_n hx hb dX7_does_48 rfl (lv_at hl 1 rfl) ?_
    refine va_get (D := D) (ci := 7) (v := .int (nI le)) (C := RX7) (T := TX7) (N := 14) hx hb hts hin_X7 hown hK.1 hP 0 rfl rfl 8 (by decide) f_157 (fun _ h9 => h9) rfl dX7_does_49 ?_
    refine lv_bipush (v := nI 116) hx hb dX7_does_52 (by decide) ?_
    refine xn_icmp_ne hx hb (by omega) (by omega) (tgt := 88) dX7_does_54 (by decide) (fun kc54 => ?_) (fun kc54 => ?_)
    · refine lv_aload_n hx hb dX7_does_88 rfl (lv_at hl 1 rfl) ?_
      refine va_get (D := D) (ci := 7) (v := .int (nI le)) (C := RX7) (T := TX7) (N := 14) hx hb hts hin_X7 hown hK.1 hP 0 rfl rfl 8 (by decide) f_157 (fun _ h9 => h9) rfl dX7_does_89 ?_
      refine lv_bipush (v := nI 120) hx hb dX7_does_92 (by decide) ?_
      refine xn_icmp_ne hx hb (by omega) (by omega) (tgt := 108) dX7_does_94 (by decide) (fun kc94 => ?_) (fun kc94 => ?_)
      · by_cases hc : le = 110
        · refine lv_iload_n hx hb dX7_does_108 rfl (lv_at hl 0 rfl) ?_
          refine xn_if_eq hx hb (by omega) (tgt := 142) dX7_does_109 (by decide) (fun kc109 => ?_) (fun kc109 => ?_)
          · refine lv_iconst (v := nI 0) hx hb dX7_does_142 (by decide) ?_
            refine lv_istore_n (lv' := [(2, .int (nI 0)), (1, .int (nI (bN (¬ (nI x) < (nI 0) ∧ ¬ (nI 7) < (nI x))))), (0, .ref g)]) hx hb dX7_does_143 rfl hl (by decide) rfl (fun ls hl => ?_)
            refine lv_iload_n hx hb dX7_does_144 rfl (lv_at hl 0 rfl) ?_
            refine lv_if_eq (tgt := 197) hx hb dX7_does_145 (by decide) (fun _ => ?_) (fun h => absurd h (by decide))
            refine lv_iload_n hx hb dX7_does_197 rfl (lv_at hl 0 rfl) ?_
            refine lv_if_eq (tgt := 205) hx hb dX7_does_198 (by decide) (fun _ => ?_) (fun h => absurd h (by decide))
            refine lv_ldc hx hb hown f_51 dX7_does_205 ?_
            have e9 := ds_110n (V := V) (x := x) (z := z) (fun q9 => by first | exact (bN_0.mp kc109) ((inx rfl (by decide)).mpr q9.1) | exact (bN_0.mp kc135) ((inx rfl (by decide)).mpr q9.2))
            subst hQe
            exact xw_i hx hb hr hlocks () hS dX7_does_207 (by rw [hc]; exact e9.1) (fun t ht => by rw [ht]; exact (by have e10 := e9.2; rw [← hc] at e10; rw [e10]; exact hP))
          · have hx8 := (inR_n (k := x) (n := 8) (by omega) (by decide)).mp ((inx rfl (by decide)).mp (bN_n0.mp kc109))
            refine lv_aload_n hx hb dX7_does_112 rfl (lv_at hl 1 rfl) ?_
            refine va_get (D := D) (ci := 7) (v := .int (nI z)) (C := RX7) (T := TX7) (N := 14) hx hb hts hin_X7 hown hK.1 hP 0 rfl rfl 10 (by decide) f_160 (fun _ h9 => h9) rfl dX7_does_113 ?_
            refine lv_iconst (v := nI 0) hx hb dX7_does_116 (by decide) ?_
            refine lv_aload_n hx hb dX7_does_117 rfl (lv_at hl 1 rfl) ?_
            refine va_get (D := D) (ci := 7) (v := .int (nI le)) (C := RX7) (T := TX7) (N := 14) hx hb hts hin_X7 hown hK.1 hP 0 rfl rfl 8 (by decide) f_157 (fun _ h9 => h9) rfl dX7_does_118 ?_
            refine lv_bipush (v := nI 110) hx hb dX7_does_121 (by decide) ?_
            refine xn_icmp_ne hx hb (by omega) (by omega) (tgt := 131) dX7_does_123 (by decide) (fun h => absurd h (by omega)) (fun kc123 => ?_)
            refine lv_bipush (v := nI 47) hx hb dX7_does_126 (by decide) ?_
            refine lv_goto (tgt := 132) hx hb dX7_does_128 (by decide) ?_
            refine xc_S (As := [.int (nI z), .int (nI 0), .int (nI 47)]) (rest := []) ⟨hx, hb, hml, hown, hts⟩ (c_X7_in l (nI z) (nI 0) (nI 47)) (va_cwS 3 hts gX7_does_X7_in rfl rfl rfl hd_X7_in.2 ⟨Nat.le_of_ble_eq_true rfl, Nat.le_of_ble_eq_true rfl⟩) xps_0 rfl hl.1 rfl (Nat.le_of_ble_eq_true rfl) dX7_does_132 ⟨Nat.zero_le _, Nat.zero_le _⟩ (fun r2 hr2 => ?_)
            subst hr2
            refine xn_if_eq hx hb (by omega) (tgt := 142) dX7_does_135 (by decide) (fun kc135 => ?_) (fun kc135 => ?_)
            · refine lv_iconst (v := nI 0) hx hb dX7_does_142 (by decide) ?_
              refine lv_istore_n (lv' := [(2, .int (nI 0)), (1, .int (nI (bN (¬ (nI x) < (nI 0) ∧ ¬ (nI 7) < (nI x))))), (0, .ref g)]) hx hb dX7_does_143 rfl hl (by decide) rfl (fun ls hl => ?_)
              refine lv_iload_n hx hb dX7_does_144 rfl (lv_at hl 0 rfl) ?_
              refine lv_if_eq (tgt := 197) hx hb dX7_does_145 (by decide) (fun _ => ?_) (fun h => absurd h (by decide))
              refine lv_iload_n hx hb dX7_does_197 rfl (lv_at hl 0 rfl) ?_
              refine lv_if_eq (tgt := 205) hx hb dX7_does_198 (by decide) (fun _ => ?_) (fun h => absurd h (by decide))
              refine lv_ldc hx hb hown f_51 dX7_does_205 ?_
              have e9 := ds_110n (V := V) (x := x) (z := z) (fun q9 => by first | exact (bN_0.mp kc109) ((inx rfl (by decide)).mpr q9.1) | exact (bN_0.mp kc135) ((inx rfl (by decide)).mpr q9.2))
              subst hQe
              exact xw_i hx hb hr hlocks () hS dX7_does_207 (by rw [hc]; exact e9.1) (fun t ht => by rw [ht]; exact (by have e10 := e9.2; rw [← hc] at e10; rw [e10]; exact hP))
            · have hz8 := (inR_n (k := z) (n := 48) (by omega) (by decide)).mp ((inx rfl (by decide)).mp (bN_n0.mp kc135))
              refine lv_iconst (v := nI 1) hx hb dX7_does_138 (by decide) ?_
              refine lv_goto (tgt := 143) hx hb dX7_does_139 (by decide) ?_
              refine lv_istore_n (lv' := [(2, .int (nI 1)), (1, .int (nI (bN (¬ (nI x) < (nI 0) ∧ ¬ (nI 7) < (nI x))))), (0, .ref g)]) hx hb dX7_does_143 rfl hl (by decide) rfl (fun ls hl => ?_)
              refine lv_iload_n hx hb dX7_does_144 rfl (lv_at hl 0 rfl) ?_
              refine lv_if_eq (tgt := 197) hx hb dX7_does_145 (by decide) (fun h => absurd h (by decide)) (fun _ => ?_)
              refine lv_aload_n hx hb dX7_does_148 rfl (lv_at hl 2 rfl) ?_
              refine va_get (D := D) (ci := 7) (v := .int (nI le)) (C := RX7) (T := TX7) (N := 14) hx hb hts hin_X7 hown hK.1 hP 0 rfl rfl 8 (by decide) f_157 (fun _ h9 => h9) rfl dX7_does_149 ?_
              refine lv_bipush (v := nI 120) hx hb dX7_does_152 (by decide) ?_
              refine xn_icmp_ne hx hb (by omega) (by omega) (tgt := 168) dX7_does_154 (by decide) (fun kc154 => ?_) (fun h => absurd h (by omega))
              refine lv_aload_n hx hb dX7_does_168 rfl (lv_at hl 2 rfl) ?_
              refine lv_aload_n hx hb dX7_does_169 rfl (lv_at hl 2 rfl) ?_
              refine va_get (D := D) (ci := 7) (v := .int (nI le)) (C := RX7) (T := TX7) (N := 14) hx hb hts hin_X7 hown hK.1 hP 0 rfl rfl 8 (by decide) f_157 (fun _ h9 => h9) rfl dX7_does_170 ?_
              refine lv_bipush (v := nI 110) hx hb dX7_does_173 (by decide) ?_
              refine xn_icmp_ne hx hb (by omega) (by omega) (tgt := 182) dX7_does_175 (by decide) (fun h => absurd h (by omega)) (fun kc175 => ?_)
              refine lv_iconst (v := nI 0) hx hb dX7_does_178 (by decide) ?_
              refine lv_goto (tgt := 184) hx hb dX7_does_179 (by decide) ?_
              refine lv_aload_n hx hb dX7_does_184 rfl (lv_at hl 2 rfl) ?_
              refine va_get (D := D) (ci := 7) (v := .int (nI x)) (C := RX7) (T := TX7) (N := 14) hx hb hts hin_X7 hown hK.1 hP 0 rfl rfl 9 (by decide) f_154 (fun _ h9 => h9) rfl dX7_does_185 ?_
              refine xn_add hx hb (r := x) (Nat.zero_add _) dX7_does_188 ?_
              refine lv_aload_n hx hb dX7_does_189 rfl (lv_at hl 2 rfl) ?_
              refine va_get (D := D) (ci := 7) (v := .int (nI z)) (C := RX7) (T := TX7) (N := 14) hx hb hts hin_X7 hown hK.1 hP 0 rfl rfl 10 (by decide) f_160 (fun _ h9 => h9) rfl dX7_does_190 ?_
              have hFc := xD_in (W0 := [(g, .inr (7, [.ref s0, .ref a0, .ref b0, .int (nI kn), .ref x0, .int (nI L), .int (nI ta), .int (nI wr), .int (nI le), .int (nI x), .int (nI z), .int (nI po), .int (nI rs), .int ca])), (s0, .inl (y 1, 72, .inl (fun j9 => nI (V j9))))]) hD [0, 1] rfl
              refine va_calli (va_runV (As := [.int (nI x), .int (nI z)]) (rest := []) ⟨hx, hb, hml, hown, hts⟩ (c_X7_puts l D y g s0 a0 b0 x0 kn L ta wr le (nI x) (nI z) po rs ca V x z (by omega)) (cwV 2 hts gX7_does_X7_puts rfl rfl rfl hd_X7_puts ⟨Nat.le_of_ble_eq_true rfl, Nat.le_of_ble_eq_true rfl⟩) (xpv_w hK hP hD [0, 1] 0 rfl rfl rfl rfl rfl) rfl rfl hl.1 rfl (lv_room (Nat.le_of_ble_eq_true rfl)) dX7_does_193 ⟨Nat.zero_le _, Nat.zero_le _⟩) hS (fun q _ h => hFc q h) hFc (fun r3 u3 t H locs ht hvm hw3 hB hz1 hk1 hS1 => ?_)
              have hB : va_P D vwCl [(g, .inr (7, [.ref s0, .ref a0, .ref b0, .int (nI kn), .ref x0, .int (nI L), .int (nI ta), .int (nI wr), .int (nI le), .int (nI x), .int (nI z), .int (nI po), .int (nI rs), .int ca])), (s0, .inl (y 1, 72, .inl (fun j9 => nI ((uN V x z) j9))))] t.heap := hB
              rw [ht] at hB
              have hw3 : r3 = nI (V x) := hw3
              have hJ := xj_join (ws2 := [(g, .inr (7, [.ref s0, .ref a0, .ref b0, .int (nI kn), .ref x0, .int (nI L), .int (nI ta), .int (nI wr), .int (nI le), .int (nI x), .int (nI z), .int (nI po), .int (nI rs), .int ca])), (s0, .inl (y 1, 72, .inl (fun j9 => nI ((uN V x z) j9))))]) hP hD [0, 1] [] rfl rfl rfl rfl rfl rfl hk1 hB
              clear hP hD hS hB hk1 hz1 hFc hvm ht
              obtain ⟨hP, hD⟩ := hJ
              have hS := hS1
              clear hS1
              subst hw3
              refine lv_istore_n (lv' := [(3, .int (nI (V x))), (2, .int (nI 1)), (1, .int (nI (bN (¬ (nI x) < (nI 0) ∧ ¬ (nI 7) < (nI x))))), (0, .ref g)]) hx hb dX7_does_196 rfl hl (by decide) rfl (fun ls hl => ?_)
              refine lv_iload_n hx hb dX7_does_197 rfl (lv_at hl 1 rfl) ?_
              refine lv_if_eq (tgt := 205) hx hb dX7_does_198 (by decide) (fun h => absurd h (by decide)) (fun _ => ?_)
              refine lv_iconst (v := nI 0) hx hb dX7_does_201 (by decide) ?_
              refine lv_goto (tgt := 207) hx hb dX7_does_202 (by decide) ?_
              have e9 := ds_110p (V := V) (x := x) (z := z) hI hx8 hz8
              subst hQe
              exact xw_i hx hb hr hlocks () hS dX7_does_207 (by rw [hc]; exact e9.1) (fun t ht => by rw [ht]; exact (by have e10 := e9.2; rw [← hc] at e10; rw [e10]; exact hP))
        · have hc : le = 107 := by omega
          refine lv_iload_n hx hb dX7_does_108 rfl (lv_at hl 0 rfl) ?_
          refine xn_if_eq hx hb (by omega) (tgt := 142) dX7_does_109 (by decide) (fun kc109 => ?_) (fun kc109 => ?_)
          · refine lv_iconst (v := nI 0) hx hb dX7_does_142 (by decide) ?_
            refine lv_istore_n (lv' := [(2, .int (nI 0)), (1, .int (nI (bN (¬ (nI x) < (nI 0) ∧ ¬ (nI 7) < (nI x))))), (0, .ref g)]) hx hb dX7_does_143 rfl hl (by decide) rfl (fun ls hl => ?_)
            refine lv_iload_n hx hb dX7_does_144 rfl (lv_at hl 0 rfl) ?_
            refine lv_if_eq (tgt := 197) hx hb dX7_does_145 (by decide) (fun _ => ?_) (fun h => absurd h (by decide))
            refine lv_iload_n hx hb dX7_does_197 rfl (lv_at hl 0 rfl) ?_
            refine lv_if_eq (tgt := 205) hx hb dX7_does_198 (by decide) (fun _ => ?_) (fun h => absurd h (by decide))
            refine lv_ldc hx hb hown f_51 dX7_does_205 ?_
            have e9 := ds_107n (V := V) (x := x) (z := z) (fun q9 => by first | exact (bN_0.mp kc109) ((inx rfl (by decide)).mpr q9.1) | exact (bN_0.mp kc135) ((inx rfl (by decide)).mpr q9.2))
            subst hQe
            exact xw_i hx hb hr hlocks () hS dX7_does_207 (by rw [hc]; exact e9.1) (fun t ht => by rw [ht]; exact (by have e10 := e9.2; rw [← hc] at e10; rw [e10]; exact hP))
          · have hx8 := (inR_n (k := x) (n := 8) (by omega) (by decide)).mp ((inx rfl (by decide)).mp (bN_n0.mp kc109))
            refine lv_aload_n hx hb dX7_does_112 rfl (lv_at hl 1 rfl) ?_
            refine va_get (D := D) (ci := 7) (v := .int (nI z)) (C := RX7) (T := TX7) (N := 14) hx hb hts hin_X7 hown hK.1 hP 0 rfl rfl 10 (by decide) f_160 (fun _ h9 => h9) rfl dX7_does_113 ?_
            refine lv_iconst (v := nI 0) hx hb dX7_does_116 (by decide) ?_
            refine lv_aload_n hx hb dX7_does_117 rfl (lv_at hl 1 rfl) ?_
            refine va_get (D := D) (ci := 7) (v := .int (nI le)) (C := RX7) (T := TX7) (N := 14) hx hb hts hin_X7 hown hK.1 hP 0 rfl rfl 8 (by decide) f_157 (fun _ h9 => h9) rfl dX7_does_118 ?_
            refine lv_bipush (v := nI 110) hx hb dX7_does_121 (by decide) ?_
            refine xn_icmp_ne hx hb (by omega) (by omega) (tgt := 131) dX7_does_123 (by decide) (fun kc123 => ?_) (fun h => absurd h (by omega))
            refine lv_iconst (v := nI 3) hx hb dX7_does_131 (by decide) ?_
            refine xc_S (As := [.int (nI z), .int (nI 0), .int (nI 3)]) (rest := []) ⟨hx, hb, hml, hown, hts⟩ (c_X7_in l (nI z) (nI 0) (nI 3)) (va_cwS 3 hts gX7_does_X7_in rfl rfl rfl hd_X7_in.2 ⟨Nat.le_of_ble_eq_true rfl, Nat.le_of_ble_eq_true rfl⟩) xps_0 rfl hl.1 rfl (Nat.le_of_ble_eq_true rfl) dX7_does_132 ⟨Nat.zero_le _, Nat.zero_le _⟩ (fun r4 hr4 => ?_)
            subst hr4
            refine xn_if_eq hx hb (by omega) (tgt := 142) dX7_does_135 (by decide) (fun kc135 => ?_) (fun kc135 => ?_)
            · refine lv_iconst (v := nI 0) hx hb dX7_does_142 (by decide) ?_
              refine lv_istore_n (lv' := [(2, .int (nI 0)), (1, .int (nI (bN (¬ (nI x) < (nI 0) ∧ ¬ (nI 7) < (nI x))))), (0, .ref g)]) hx hb dX7_does_143 rfl hl (by decide) rfl (fun ls hl => ?_)
              refine lv_iload_n hx hb dX7_does_144 rfl (lv_at hl 0 rfl) ?_
              refine lv_if_eq (tgt := 197) hx hb dX7_does_145 (by decide) (fun _ => ?_) (fun h => absurd h (by decide))
              refine lv_iload_n hx hb dX7_does_197 rfl (lv_at hl 0 rfl) ?_
              refine lv_if_eq (tgt := 205) hx hb dX7_does_198 (by decide) (fun _ => ?_) (fun h => absurd h (by decide))
              refine lv_ldc hx hb hown f_51 dX7_does_205 ?_
              have e9 := ds_107n (V := V) (x := x) (z := z) (fun q9 => by first | exact (bN_0.mp kc109) ((inx rfl (by decide)).mpr q9.1) | exact (bN_0.mp kc135) ((inx rfl (by decide)).mpr q9.2))
              subst hQe
              exact xw_i hx hb hr hlocks () hS dX7_does_207 (by rw [hc]; exact e9.1) (fun t ht => by rw [ht]; exact (by have e10 := e9.2; rw [← hc] at e10; rw [e10]; exact hP))
            · have hz8 := (inR_n (k := z) (n := 4) (by omega) (by decide)).mp ((inx rfl (by decide)).mp (bN_n0.mp kc135))
              refine lv_iconst (v := nI 1) hx hb dX7_does_138 (by decide) ?_
              refine lv_goto (tgt := 143) hx hb dX7_does_139 (by decide) ?_
              refine lv_istore_n (lv' := [(2, .int (nI 1)), (1, .int (nI (bN (¬ (nI x) < (nI 0) ∧ ¬ (nI 7) < (nI x))))), (0, .ref g)]) hx hb dX7_does_143 rfl hl (by decide) rfl (fun ls hl => ?_)
              refine lv_iload_n hx hb dX7_does_144 rfl (lv_at hl 0 rfl) ?_
              refine lv_if_eq (tgt := 197) hx hb dX7_does_145 (by decide) (fun h => absurd h (by decide)) (fun _ => ?_)
              refine lv_aload_n hx hb dX7_does_148 rfl (lv_at hl 2 rfl) ?_
              refine va_get (D := D) (ci := 7) (v := .int (nI le)) (C := RX7) (T := TX7) (N := 14) hx hb hts hin_X7 hown hK.1 hP 0 rfl rfl 8 (by decide) f_157 (fun _ h9 => h9) rfl dX7_does_149 ?_
              refine lv_bipush (v := nI 120) hx hb dX7_does_152 (by decide) ?_
              refine xn_icmp_ne hx hb (by omega) (by omega) (tgt := 168) dX7_does_154 (by decide) (fun kc154 => ?_) (fun h => absurd h (by omega))
              refine lv_aload_n hx hb dX7_does_168 rfl (lv_at hl 2 rfl) ?_
              refine lv_aload_n hx hb dX7_does_169 rfl (lv_at hl 2 rfl) ?_
              refine va_get (D := D) (ci := 7) (v := .int (nI le)) (C := RX7) (T := TX7) (N := 14) hx hb hts hin_X7 hown hK.1 hP 0 rfl rfl 8 (by decide) f_157 (fun _ h9 => h9) rfl dX7_does_170 ?_
              refine lv_bipush (v := nI 110) hx hb dX7_does_173 (by decide) ?_
              refine xn_icmp_ne hx hb (by omega) (by omega) (tgt := 182) dX7_does_175 (by decide) (fun kc175 => ?_) (fun h => absurd h (by omega))
              refine lv_bipush (v := nI 8) hx hb dX7_does_182 (by decide) ?_
              refine lv_aload_n hx hb dX7_does_184 rfl (lv_at hl 2 rfl) ?_
              refine va_get (D := D) (ci := 7) (v := .int (nI x)) (C := RX7) (T := TX7) (N := 14) hx hb hts hin_X7 hown hK.1 hP 0 rfl rfl 9 (by decide) f_154 (fun _ h9 => h9) rfl dX7_does_185 ?_
              refine xn_add hx hb (r := (8 + x)) rfl dX7_does_188 ?_
              refine lv_aload_n hx hb dX7_does_189 rfl (lv_at hl 2 rfl) ?_
              refine va_get (D := D) (ci := 7) (v := .int (nI z)) (C := RX7) (T := TX7) (N := 14) hx hb hts hin_X7 hown hK.1 hP 0 rfl rfl 10 (by decide) f_160 (fun _ h9 => h9) rfl dX7_does_190 ?_
              have hFc := xD_in (W0 := [(g, .inr (7, [.ref s0, .ref a0, .ref b0, .int (nI kn), .ref x0, .int (nI L), .int (nI ta), .int (nI wr), .int (nI le), .int (nI x), .int (nI z), .int (nI po), .int (nI rs), .int ca])), (s0, .inl (y 1, 72, .inl (fun j9 => nI (V j9))))]) hD [0, 1] rfl
              refine va_calli (va_runV (As := [.int (nI (8 + x)), .int (nI z)]) (rest := []) ⟨hx, hb, hml, hown, hts⟩ (c_X7_puts l D y g s0 a0 b0 x0 kn L ta wr le (nI x) (nI z) po rs ca V (8 + x) z (by omega)) (cwV 2 hts gX7_does_X7_puts rfl rfl rfl hd_X7_puts ⟨Nat.le_of_ble_eq_true rfl, Nat.le_of_ble_eq_true rfl⟩) (xpv_w hK hP hD [0, 1] 0 rfl rfl rfl rfl rfl) rfl rfl hl.1 rfl (lv_room (Nat.le_of_ble_eq_true rfl)) dX7_does_193 ⟨Nat.zero_le _, Nat.zero_le _⟩) hS (fun q _ h => hFc q h) hFc (fun r5 u5 t H locs ht hvm hw5 hB hz1 hk1 hS1 => ?_)
              have hB : va_P D vwCl [(g, .inr (7, [.ref s0, .ref a0, .ref b0, .int (nI kn), .ref x0, .int (nI L), .int (nI ta), .int (nI wr), .int (nI le), .int (nI x), .int (nI z), .int (nI po), .int (nI rs), .int ca])), (s0, .inl (y 1, 72, .inl (fun j9 => nI ((uN V (8 + x) z) j9))))] t.heap := hB
              rw [ht] at hB
              have hw5 : r5 = nI (V (8 + x)) := hw5
              have hJ := xj_join (ws2 := [(g, .inr (7, [.ref s0, .ref a0, .ref b0, .int (nI kn), .ref x0, .int (nI L), .int (nI ta), .int (nI wr), .int (nI le), .int (nI x), .int (nI z), .int (nI po), .int (nI rs), .int ca])), (s0, .inl (y 1, 72, .inl (fun j9 => nI ((uN V (8 + x) z) j9))))]) hP hD [0, 1] [] rfl rfl rfl rfl rfl rfl hk1 hB
              clear hP hD hS hB hk1 hz1 hFc hvm ht
              obtain ⟨hP, hD⟩ := hJ
              have hS := hS1
              clear hS1
              subst hw5
              refine lv_istore_n (lv' := [(3, .int (nI (V (8 + x)))), (2, .int (nI 1)), (1, .int (nI (bN (¬ (nI x) < (nI 0) ∧ ¬ (nI 7) < (nI x))))), (0, .ref g)]) hx hb dX7_does_196 rfl hl (by decide) rfl (fun ls hl => ?_)
              refine lv_iload_n hx hb dX7_does_197 rfl (lv_at hl 1 rfl) ?_
              refine lv_if_eq (tgt := 205) hx hb dX7_does_198 (by decide) (fun h => absurd h (by decide)) (fun _ => ?_)
              refine lv_iconst (v := nI 0) hx hb dX7_does_201 (by decide) ?_
              refine lv_goto (tgt := 207) hx hb dX7_does_202 (by decide) ?_
              have e9 := ds_107p (V := V) (x := x) (z := z) hI hx8 hz8
              subst hQe
              exact xw_i hx hb hr hlocks () hS dX7_does_207 (by rw [hc]; exact e9.1) (fun t ht => by rw [ht]; exact (by have e10 := e9.2; rw [← hc] at e10; rw [e10]; exact hP))
      · have hc : le = 120 := by omega
        refine lv_aload_n hx hb dX7_does_97 rfl (lv_at hl 1 rfl) ?_
        refine lv_aload_n hx hb dX7_does_98 rfl (lv_at hl 1 rfl) ?_
        refine va_get (D := D) (ci := 7) (v := .int (nI x)) (C := RX7) (T := TX7) (N := 14) hx hb hts hin_X7 hown hK.1 hP 0 rfl rfl 9 (by decide) f_154 (fun _ h9 => h9) rfl dX7_does_99 ?_
        refine xc_V (As := [.int (nI x)]) (rest := []) ⟨hx, hb, hml, hown, hts⟩ (c_X7_isCard l D y g s0 a0 b0 x0 kn L ta wr le (nI x) (nI z) po rs ca V hI (nI x)) (cwV 1 hts gX7_does_X7_isCard rfl rfl rfl hd_X7_isCard ⟨Nat.le_of_ble_eq_true rfl, Nat.le_of_ble_eq_true rfl⟩) (xpv_r hK hP [0, 1] 0 rfl rfl rfl) rfl hl.1 rfl (Nat.le_of_ble_eq_true rfl) dX7_does_102 ⟨Nat.zero_le _, Nat.zero_le _⟩ (fun r6 hr6 => ?_)
        subst hr6
        refine lv_goto (tgt := 143) hx hb dX7_does_105 (by decide) ?_
        refine lv_istore_n (lv' := [(2, .int (nI (bN (inR (nI x) (V 16))))), (1, .int (nI (bN (¬ (nI x) < (nI 0) ∧ ¬ (nI 7) < (nI x))))), (0, .ref g)]) hx hb dX7_does_143 rfl hl (by decide) rfl (fun ls hl => ?_)
        refine lv_iload_n hx hb dX7_does_144 rfl (lv_at hl 0 rfl) ?_
        refine xn_if_eq hx hb (by omega) (tgt := 197) dX7_does_145 (by decide) (fun kc145 => ?_) (fun kc145 => ?_)
        · refine lv_iload_n hx hb dX7_does_197 rfl (lv_at hl 0 rfl) ?_
          refine xn_if_eq hx hb (by omega) (tgt := 205) dX7_does_198 (by decide) (fun kc198 => ?_) (fun h => absurd (kc145) h)
          refine lv_ldc hx hb hown f_51 dX7_does_205 ?_
          have e9 := ds_120n (V := V) (x := x) (z := z) (bN_0.mp kc145)
          subst hQe
          exact xw_i hx hb hr hlocks () hS dX7_does_207 (by rw [hc]; exact e9.1) (fun t ht => by rw [ht]; exact (by have e10 := e9.2; rw [← hc] at e10; rw [e10]; exact hP))
        · have hxc := (inR_n (k := x) (n := V 16) (by omega) (by omega)).mp (bN_n0.mp kc145)
          refine lv_aload_n hx hb dX7_does_148 rfl (lv_at hl 2 rfl) ?_
          refine va_get (D := D) (ci := 7) (v := .int (nI le)) (C := RX7) (T := TX7) (N := 14) hx hb hts hin_X7 hown hK.1 hP 0 rfl rfl 8 (by decide) f_157 (fun _ h9 => h9) rfl dX7_does_149 ?_
          refine lv_bipush (v := nI 120) hx hb dX7_does_152 (by decide) ?_
          refine xn_icmp_ne hx hb (by omega) (by omega) (tgt := 168) dX7_does_154 (by decide) (fun h => absurd h (by omega)) (fun kc154 => ?_)
          refine lv_aload_n hx hb dX7_does_157 rfl (lv_at hl 2 rfl) ?_
          refine lv_aload_n hx hb dX7_does_158 rfl (lv_at hl 2 rfl) ?_
          refine va_get (D := D) (ci := 7) (v := .int (nI x)) (C := RX7) (T := TX7) (N := 14) hx hb hts hin_X7 hown hK.1 hP 0 rfl rfl 9 (by decide) f_154 (fun _ h9 => h9) rfl dX7_does_159 ?_
          have hFc := xD_in (W0 := [(g, .inr (7, [.ref s0, .ref a0, .ref b0, .int (nI kn), .ref x0, .int (nI L), .int (nI ta), .int (nI wr), .int (nI le), .int (nI x), .int (nI z), .int (nI po), .int (nI rs), .int ca])), (s0, .inl (y 1, 72, .inl (fun j9 => nI (V j9))))]) hD [0, 1] rfl
          refine va_calli (va_runV (As := [.int (nI x)]) (rest := []) ⟨hx, hb, hml, hown, hts⟩ (c_X7_tears l D y g s0 a0 b0 x0 kn L ta wr le (nI x) (nI z) po rs ca V hI x (by omega)) (cwV 1 hts gX7_does_X7_tears rfl rfl rfl hd_X7_tears ⟨Nat.le_of_ble_eq_true rfl, Nat.le_of_ble_eq_true rfl⟩) (xpv_w hK hP hD [0, 1] 0 rfl rfl rfl rfl rfl) rfl rfl hl.1 rfl (lv_room (Nat.le_of_ble_eq_true rfl)) dX7_does_162 ⟨Nat.zero_le _, Nat.zero_le _⟩) hS (fun q _ h => hFc q h) hFc (fun r7 u7 t H locs ht hvm hw7 hB hz1 hk1 hS1 => ?_)
          have hB : va_P D vwCl [(g, .inr (7, [.ref s0, .ref a0, .ref b0, .int (nI kn), .ref x0, .int (nI L), .int (nI ta), .int (nI wr), .int (nI le), .int (nI x), .int (nI z), .int (nI po), .int (nI rs), .int ca])), (s0, .inl (y 1, 72, .inl (fun j9 => nI ((teA V x) j9))))] t.heap := hB
          rw [ht] at hB
          have hw7 : r7 = nI (V (17 + x)) := hw7
          have hJ := xj_join (ws2 := [(g, .inr (7, [.ref s0, .ref a0, .ref b0, .int (nI kn), .ref x0, .int (nI L), .int (nI ta), .int (nI wr), .int (nI le), .int (nI x), .int (nI z), .int (nI po), .int (nI rs), .int ca])), (s0, .inl (y 1, 72, .inl (fun j9 => nI ((teA V x) j9))))]) hP hD [0, 1] [] rfl rfl rfl rfl rfl rfl hk1 hB
          clear hP hD hS hB hk1 hz1 hFc hvm ht
          obtain ⟨hP, hD⟩ := hJ
          have hS := hS1
          clear hS1
          subst hw7
          refine lv_goto (tgt := 196) hx hb dX7_does_165 (by decide) ?_
          refine lv_istore_n (lv' := [(3, .int (nI (V (17 + x)))), (2, .int (nI (bN (inR (nI x) (V 16))))), (1, .int (nI (bN (¬ (nI x) < (nI 0) ∧ ¬ (nI 7) < (nI x))))), (0, .ref g)]) hx hb dX7_does_196 rfl hl (by decide) rfl (fun ls hl => ?_)
          refine lv_iload_n hx hb dX7_does_197 rfl (lv_at hl 1 rfl) ?_
          refine xn_if_eq hx hb (by omega) (tgt := 205) dX7_does_198 (by decide) (fun h => absurd h (kc145)) (fun kc198 => ?_)
          refine lv_iconst (v := nI 0) hx hb dX7_does_201 (by decide) ?_
          refine lv_goto (tgt := 207) hx hb dX7_does_202 (by decide) ?_
          have e9 := ds_120p (V := V) (x := x) (z := z) hI hxc
          subst hQe
          exact xw_i hx hb hr hlocks () hS dX7_does_207 (by rw [hc]; exact e9.1) (fun t ht => by rw [ht]; exact (by have e10 := e9.2; rw [← hc] at e10; rw [e10]; exact hP))
    · have hc : le = 116 := by omega
      refine lv_aload_n hx hb dX7_does_57 rfl (lv_at hl 1 rfl) ?_
      refine va_get (D := D) (ci := 7) (v := .ref s0) (C := RX7) (T := TX7) (N := 14) hx hb hts hin_X7 hown hK.1 hP 0 rfl rfl 0 (by decide) f_7 (fun _ h9 => h9) rfl dX7_does_58 ?_
      refine lv_bipush (v := nI 16) hx hb dX7_does_61 (by decide) ?_
      refine xn_iald hx hb hK hP 1 rfl (by omega) (by first | decide | omega) (v := nI (V 16)) (rfl) dX7_does_63 ?_
      refine lv_iconst (v := nI 2) hx hb dX7_does_64 (by decide) ?_
      refine xn_icmp_ge hx hb (by omega) (by omega) (tgt := 72) dX7_does_65 (by decide) (fun kc65 => ?_) (fun kc65 => ?_)
      · refine lv_aload_n hx hb dX7_does_72 rfl (lv_at hl 1 rfl) ?_
        have hFc := xD_in (W0 := [(g, .inr (7, [.ref s0, .ref a0, .ref b0, .int (nI kn), .ref x0, .int (nI L), .int (nI ta), .int (nI wr), .int (nI le), .int (nI x), .int (nI z), .int (nI po), .int (nI rs), .int ca])), (s0, .inl (y 1, 72, .inl (fun j9 => nI (V j9))))]) hD [0, 1] rfl
        refine va_calli (va_runV (As := []) (rest := []) ⟨hx, hb, hml, hown, hts⟩ (c_X7_turns l D y g s0 a0 b0 x0 kn L ta wr le (nI x) (nI z) po rs ca V hI) (cwV 0 hts gX7_does_X7_turns rfl rfl rfl hd_X7_turns ⟨Nat.le_of_ble_eq_true rfl, Nat.le_of_ble_eq_true rfl⟩) (xpv_w hK hP hD [0, 1] 0 rfl rfl rfl rfl rfl) rfl rfl hl.1 rfl (lv_room (Nat.le_of_ble_eq_true rfl)) dX7_does_73 ⟨Nat.zero_le _, Nat.zero_le _⟩) hS (fun q _ h => hFc q h) hFc (fun r8 u8 t H locs ht hvm hw8 hB hz1 hk1 hS1 => ?_)
        have hB : va_P D vwCl [(g, .inr (7, [.ref s0, .ref a0, .ref b0, .int (nI kn), .ref x0, .int (nI L), .int (nI ta), .int (nI wr), .int (nI le), .int (nI x), .int (nI z), .int (nI po), .int (nI rs), .int ca])), (s0, .inl (y 1, 72, .inl (fun j9 => nI ((rvA V (V 16 / 2)) j9))))] t.heap := hB
        rw [ht] at hB
        have hw8 : r8 = nI (V 16) := hw8
        have hJ := xj_join (ws2 := [(g, .inr (7, [.ref s0, .ref a0, .ref b0, .int (nI kn), .ref x0, .int (nI L), .int (nI ta), .int (nI wr), .int (nI le), .int (nI x), .int (nI z), .int (nI po), .int (nI rs), .int ca])), (s0, .inl (y 1, 72, .inl (fun j9 => nI ((rvA V (V 16 / 2)) j9))))]) hP hD [0, 1] [] rfl rfl rfl rfl rfl rfl hk1 hB
        clear hP hD hS hB hk1 hz1 hFc hvm ht
        obtain ⟨hP, hD⟩ := hJ
        have hS := hS1
        clear hS1
        subst hw8
        refine lv_istore_n (lv' := [(2, .int (nI (V 16))), (1, .int (nI (bN (¬ (nI x) < (nI 0) ∧ ¬ (nI 7) < (nI x))))), (0, .ref g)]) hx hb dX7_does_76 rfl hl (by decide) rfl (fun ls hl => ?_)
        refine lv_iload_n hx hb dX7_does_77 rfl (lv_at hl 0 rfl) ?_
        refine xn_if_ne hx hb (by omega) (tgt := 86) dX7_does_78 (by decide) (fun kc78 => ?_) (fun h => absurd h (by omega))
        refine lv_iconst (v := nI 0) hx hb dX7_does_86 (by decide) ?_
        have e9 := ds_116p (V := V) (x := x) (z := z) hI (by omega)
        subst hQe
        exact xw_i hx hb hr hlocks () hS dX7_does_87 (by rw [hc]; exact e9.1) (fun t ht => by rw [ht]; exact (by have e10 := e9.2; rw [← hc] at e10; rw [e10]; exact hP))
      · refine lv_iconst (v := nI 0) hx hb dX7_does_68 (by decide) ?_
        refine lv_goto (tgt := 76) hx hb dX7_does_69 (by decide) ?_
        refine lv_istore_n (lv' := [(2, .int (nI 0)), (1, .int (nI (bN (¬ (nI x) < (nI 0) ∧ ¬ (nI 7) < (nI x))))), (0, .ref g)]) hx hb dX7_does_76 rfl hl (by decide) rfl (fun ls hl => ?_)
        refine lv_iload_n hx hb dX7_does_77 rfl (lv_at hl 0 rfl) ?_
        refine lv_if_ne (tgt := 86) hx hb dX7_does_78 (by decide) (fun h => absurd h (by decide)) (fun _ => ?_)
        refine lv_ldc hx hb hown f_76 dX7_does_81 ?_
        refine lv_goto (tgt := 87) hx hb dX7_does_83 (by decide) ?_
        have e9 := ds_116n (V := V) (x := x) (z := z) (by omega)
        subst hQe
        exact xw_i hx hb hr hlocks () hS dX7_does_87 (by rw [hc]; exact e9.1) (fun t ht => by rw [ht]; exact (by have e10 := e9.2; rw [← hc] at e10; rw [e10]; exact hP))
  · have hc : le = 99 := by omega
    refine lv_aload_n hx hb dX7_does_20 rfl (lv_at hl 1 rfl) ?_
    refine lv_aload_n hx hb dX7_does_21 rfl (lv_at hl 1 rfl) ?_
    refine va_get (D := D) (ci := 7) (v := .int (nI x)) (C := RX7) (T := TX7) (N := 14) hx hb hts hin_X7 hown hK.1 hP 0 rfl rfl 9 (by decide) f_154 (fun _ h9 => h9) rfl dX7_does_22 ?_
    refine xc_V (As := [.int (nI x)]) (rest := []) ⟨hx, hb, hml, hown, hts⟩ (c_X7_bringFault l D y g s0 a0 b0 x0 kn L ta wr le (nI x) (nI z) po rs ca V hI (nI x)) (cwV 1 hts gX7_does_X7_bringFault rfl rfl rfl hd_X7_bringFault ⟨Nat.le_of_ble_eq_true rfl, Nat.le_of_ble_eq_true rfl⟩) (xpv_r hK hP [0, 1] 0 rfl rfl rfl) rfl hl.1 rfl (Nat.le_of_ble_eq_true rfl) dX7_does_25 ⟨Nat.zero_le _, Nat.zero_le _⟩ (fun r9 hr9 => ?_)
    subst hr9
    refine lv_istore_n (lv' := [(2, .int (bfI V (nI x))), (1, .int (nI (bN (¬ (nI x) < (nI 0) ∧ ¬ (nI 7) < (nI x))))), (0, .ref g)]) hx hb dX7_does_28 rfl hl (by decide) rfl (fun ls hl => ?_)
    refine lv_iload_n hx hb dX7_does_29 rfl (lv_at hl 0 rfl) ?_
    refine lv_if_ge (tgt := 37) hx hb dX7_does_30 (by decide) (fun kc30 => ?_) (fun kc30 => ?_)
    · have hbx := bf_okn (by omega) hsz kc30
      refine lv_aload_n hx hb dX7_does_37 rfl (lv_at hl 2 rfl) ?_
      refine lv_aload_n hx hb dX7_does_38 rfl (lv_at hl 2 rfl) ?_
      refine va_get (D := D) (ci := 7) (v := .int (nI x)) (C := RX7) (T := TX7) (N := 14) hx hb hts hin_X7 hown hK.1 hP 0 rfl rfl 9 (by decide) f_154 (fun _ h9 => h9) rfl dX7_does_39 ?_
      have hFc := xD_in (W0 := [(g, .inr (7, [.ref s0, .ref a0, .ref b0, .int (nI kn), .ref x0, .int (nI L), .int (nI ta), .int (nI wr), .int (nI le), .int (nI x), .int (nI z), .int (nI po), .int (nI rs), .int ca])), (s0, .inl (y 1, 72, .inl (fun j9 => nI (V j9))))]) hD [0, 1] rfl
      refine va_calli (va_runV (As := [.int (nI x)]) (rest := []) ⟨hx, hb, hml, hown, hts⟩ (c_X7_brings l D y g s0 a0 b0 x0 kn L ta wr le (nI x) (nI z) po rs ca V hI x (by omega) (by omega)) (cwV 1 hts gX7_does_X7_brings rfl rfl rfl hd_X7_brings ⟨Nat.le_of_ble_eq_true rfl, Nat.le_of_ble_eq_true rfl⟩) (xpv_w hK hP hD [0, 1] 0 rfl rfl rfl rfl rfl) rfl rfl hl.1 rfl (lv_room (Nat.le_of_ble_eq_true rfl)) dX7_does_42 ⟨Nat.zero_le _, Nat.zero_le _⟩) hS (fun q _ h => hFc q h) hFc (fun r10 u10 t H locs ht hvm hw10 hB hz1 hk1 hS1 => ?_)
      have hB : va_P D vwCl [(g, .inr (7, [.ref s0, .ref a0, .ref b0, .int (nI kn), .ref x0, .int (nI L), .int (nI ta), .int (nI wr), .int (nI le), .int (nI x), .int (nI z), .int (nI po), .int (nI rs), .int ca])), (s0, .inl (y 1, 72, .inl (fun j9 => nI ((brV V x) j9))))] t.heap := hB
      rw [ht] at hB
      have hw10 : r10 = nI (ans V x) := hw10
      have hJ := xj_join (ws2 := [(g, .inr (7, [.ref s0, .ref a0, .ref b0, .int (nI kn), .ref x0, .int (nI L), .int (nI ta), .int (nI wr), .int (nI le), .int (nI x), .int (nI z), .int (nI po), .int (nI rs), .int ca])), (s0, .inl (y 1, 72, .inl (fun j9 => nI ((brV V x) j9))))]) hP hD [0, 1] [] rfl rfl rfl rfl rfl rfl hk1 hB
      clear hP hD hS hB hk1 hz1 hFc hvm ht
      obtain ⟨hP, hD⟩ := hJ
      have hS := hS1
      clear hS1
      subst hw10
      refine lv_istore_n (lv' := [(3, .int (nI (ans V x))), (2, .int (bfI V (nI x))), (1, .int (nI (bN (¬ (nI x) < (nI 0) ∧ ¬ (nI 7) < (nI x))))), (0, .ref g)]) hx hb dX7_does_45 rfl hl (by decide) rfl (fun ls hl => ?_)
      refine lv_iload_n hx hb dX7_does_46 rfl (lv_at hl 1 rfl) ?_
      have e9 := ds_99p (V := V) (x := x) (z := z) hbx.1 hbx.2
      subst hQe
      exact xw_i hx hb hr hlocks () hS dX7_does_47 (by rw [hc]; exact e9.1) (fun t ht => by rw [ht]; exact (by have e10 := e9.2; rw [← hc] at e10; rw [e10]; exact hP))
    · refine lv_iload_n hx hb dX7_does_33 rfl (lv_at hl 0 rfl) ?_
      refine lv_goto (tgt := 45) hx hb dX7_does_34 (by decide) ?_
      refine lv_istore_n (lv' := [(3, .int (bfI V (nI x))), (2, .int (bfI V (nI x))), (1, .int (nI (bN (¬ (nI x) < (nI 0) ∧ ¬ (nI 7) < (nI x))))), (0, .ref g)]) hx hb dX7_does_45 rfl hl (by decide) rfl (fun ls hl => ?_)
      refine lv_iload_n hx hb dX7_does_46 rfl (lv_at hl 1 rfl) ?_
      have e9 := ds_99n (V := V) (x := x) (z := z) hsz (Int32.not_le.mp kc30)
      subst hQe
      exact xw_i hx hb hr hlocks () hS dX7_does_47 (by rw [hc]; exact e9.1) (fun t ht => by rw [ht]; exact (by have e10 := e9.2; rw [← hc] at e10; rw [e10]; exact hP))
set_option maxHeartbeats 8000000 in
set_option maxRecDepth 100000 in
theorem c_X7_go (l : Launch) (D : va_G) (y : Nat → ClassId) (g s0 a0 b0 x0 kn L ta wr le : Nat) (o1 o2 : Int32) (po rs : Nat) (ca : Int32) (tx : Nat → Int32) (T : Nat → Nat) (hT : RepT T L tx) (V : Nat → Nat) (hI : Inv V) : Met l yX7_go wsX7_go ({ frames := 6, cells := 0, slots := 0, locals := 137 }) (va_Pc [.ref g] (xPw D y [(g, .inr (7, [.ref s0, .ref a0, .ref b0, .int (nI kn), .ref x0, .int (nI L), .int (nI ta), .int (nI wr), .int (nI le), .int o1, .int o2, .int (nI po), .int (nI rs), .int ca])), (s0, .inl (y 1, 72, .inl (fun j9 => nI (V j9)))), (x0, .inl (y 1, 60, .inl tx))])) (va_Qi (fun r (u : Nat × Nat × Nat × Int32 × Int32 × Nat × Nat × Int32 × (Nat → Nat)) => u.2.2.2.2.2.2.1 = (goA T L V).2.2.1 ∧ (u.2.2.2.2.2.2.1 = 0 → r = nI (goA T L V).1) ∧ (¬ u.2.2.2.2.2.2.1 = 0 → u.2.2.2.2.2.1 = (goA T L V).2.1 ∧ u.2.2.2.2.2.2.2.1 = (goA T L V).2.2.2.1) ∧ u.2.2.2.2.2.2.2.2 = (goA T L V).2.2.2.2) (fun (u : Nat × Nat × Nat × Int32 × Int32 × Nat × Nat × Int32 × (Nat → Nat)) t => va_P D vwCl [(g, .inr (7, [.ref s0, .ref a0, .ref b0, .int (nI kn), .ref x0, .int (nI L), .int (nI u.1), .int (nI u.2.1), .int (nI u.2.2.1), .int u.2.2.2.1, .int u.2.2.2.2.1, .int (nI u.2.2.2.2.2.1), .int (nI u.2.2.2.2.2.2.1), .int u.2.2.2.2.2.2.2.1])), (s0, .inl (y 1, 72, .inl (fun j9 => nI ((u.2.2.2.2.2.2.2.2) j9)))), (x0, .inl (y 1, 60, .inl tx))] t.heap) (xIn [(g, .inr (7, [.ref s0, .ref a0, .ref b0, .int (nI kn), .ref x0, .int (nI L), .int (nI ta), .int (nI wr), .int (nI le), .int o1, .int o2, .int (nI po), .int (nI rs), .int ca])), (s0, .inl (y 1, 72, .inl (fun j9 => nI (V j9)))), (x0, .inl (y 1, 60, .inl tx))])) 0 0 (xIn [(g, .inr (7, [.ref s0, .ref a0, .ref b0, .int (nI kn), .ref x0, .int (nI L), .int (nI ta), .int (nI wr), .int (nI le), .int o1, .int o2, .int (nI po), .int (nI rs), .int ca])), (s0, .inl (y 1, 72, .inl (fun j9 => nI (V j9)))), (x0, .inl (y 1, 60, .inl tx))]) := by
  refine Met.ofW (cc := cX7_go) (maxL := 2) (ret := (some .int)) (by decide) rfl ?_
  intro p e s m args below meth c s₁ B hml hv
  obtain ⟨rfl, hP, hK, hD0⟩ := hv
  have hx := B.exec
  have hb := B.bytes
  have hr := B.returns
  have hts := atoms_spec (ws := wsX7_go) B.pre
  have hown : s.vm.findClass RX7 = some m.cls := findClass_of_methodNamed B.named
  have hlocks := B.notSynchronized
  have f_138 := hts (.fieldLink RX7 138 "LoomTunesModel" "length" "I") (by decide +kernel)
  have f_141 := hts (.fieldLink RX7 141 "LoomTunesModel" "at" "I") (by decide +kernel)
  have f_144 := hts (.fieldLink RX7 144 "LoomTunesModel" "isWrong" "Z") (by decide +kernel)
  have f_169 := hts (.fieldLink RX7 169 "LoomTunesModel" "reason" "I") (by decide +kernel)
  have f_172 := hts (.fieldLink RX7 172 "LoomTunesModel" "position" "I") (by decide +kernel)
  have f_181 := hts (.fieldLink RX7 181 "LoomTunesModel" "cause" "I") (by decide +kernel)
  have hin_X7 : ∀ w ∈ wsX70, w ∈ wsX7_go := by decide +kernel
  have hD := xD_self hD0
  generalize hAe : xIn [(g, .inr (7, [.ref s0, .ref a0, .ref b0, .int (nI kn), .ref x0, .int (nI L), .int (nI ta), .int (nI wr), .int (nI le), .int o1, .int o2, .int (nI po), .int (nI rs), .int ca])), (s0, .inl (y 1, 72, .inl (fun j9 => nI (V j9)))), (x0, .inl (y 1, 60, .inl tx))] = A at hD ⊢
  have hS : va_S A s.heap s.heap [] := va_S.rf
  have hP : va_P D vwCl [(g, .inr (7, [.ref s0, .ref a0, .ref b0, .int (nI kn), .ref x0, .int (nI L), .int (nI ta), .int (nI wr), .int (nI le), .int o1, .int o2, .int (nI po), .int (nI rs), .int ca])), (s0, .inl (y 1, 72, .inl (fun j9 => nI (V j9)))), (x0, .inl (y 1, 60, .inl tx))] s.heap := hP
  have hl := lv_entry ([.ref g]) (n := 2) (Nat.le_of_ble_eq_true rfl)
  rw [lg_entry_eq]
  generalize (lg_sl ([.ref g]) ++ List.replicate (2 - (lg_sl ([.ref g])).length) Slot.unset).toArray = ls at hl ⊢
  have hl : lv_has ls 2 [(0, .ref g)] := hl
  generalize hQe : (MQ below (va_Qi (fun r (u : Nat × Nat × Nat × Int32 × Int32 × Nat × Nat × Int32 × (Nat → Nat)) => u.2.2.2.2.2.2.1 = (goA T L V).2.2.1 ∧ (u.2.2.2.2.2.2.1 = 0 → r = nI (goA T L V).1) ∧ (¬ u.2.2.2.2.2.2.1 = 0 → u.2.2.2.2.2.1 = (goA T L V).2.1 ∧ u.2.2.2.2.2.2.2.1 = (goA T L V).2.2.2.1) ∧ u.2.2.2.2.2.2.2.2 = (goA T L V).2.2.2.2) (fun (u : Nat × Nat × Nat × Int32 × Int32 × Nat × Nat × Int32 × (Nat → Nat)) t => va_P D vwCl [(g, .inr (7, [.ref s0, .ref a0, .ref b0, .int (nI kn), .ref x0, .int (nI L), .int (nI u.1), .int (nI u.2.1), .int (nI u.2.2.1), .int u.2.2.2.1, .int u.2.2.2.2.1, .int (nI u.2.2.2.2.2.1), .int (nI u.2.2.2.2.2.2.1), .int u.2.2.2.2.2.2.2.1])), (s0, .inl (y 1, 72, .inl (fun j9 => nI ((u.2.2.2.2.2.2.2.2) j9)))), (x0, .inl (y 1, 60, .inl tx))] t.heap) A) ([.ref g] : List Value).toArray s 0 0 A) = Q
  have hL := hT.1
  refine lv_iconst (v := nI 0) hx hb dX7_go_0 (by decide) ?_
  refine lv_istore_n (lv' := [(1, .int (nI 0)), (0, .ref g)]) hx hb dX7_go_1 rfl hl (by decide) rfl (fun ls hl => ?_)
  refine lv_aload_n hx hb dX7_go_2 rfl (lv_at hl 1 rfl) ?_
  refine lv_iconst (v := nI 0) hx hb dX7_go_3 (by decide) ?_
  refine va_put (D := D) (ci := 7) (v := .int (nI 0)) (ty := .int) (C := RX7) (T := TX7) (N := 14) hx hb hts hin_X7 tyX7 tyX7_ok nmX7 hown hK.1 hP hD hS 0 rfl rfl 6 (by decide) f_141 (fun _ h9 => h9) rfl (by decide +kernel) rfl rfl (Nat.le_of_ble_eq_true rfl) dX7_go_4 (fun H locs hP1 hD1 hS1 => ?_)
  clear hP hD hS
  have hP : va_P D vwCl [(g, .inr (7, [.ref s0, .ref a0, .ref b0, .int (nI kn), .ref x0, .int (nI L), .int (nI 0), .int (nI wr), .int (nI le), .int o1, .int o2, .int (nI po), .int (nI rs), .int ca])), (s0, .inl (y 1, 72, .inl (fun j9 => nI (V j9)))), (x0, .inl (y 1, 60, .inl tx))] H := hP1
  have hD : va_D A [(g, .inr (7, [.ref s0, .ref a0, .ref b0, .int (nI kn), .ref x0, .int (nI L), .int (nI 0), .int (nI wr), .int (nI le), .int o1, .int o2, .int (nI po), .int (nI rs), .int ca])), (s0, .inl (y 1, 72, .inl (fun j9 => nI (V j9)))), (x0, .inl (y 1, 60, .inl tx))] := hD1
  have hS := hS1
  clear hP1 hD1 hS1
  refine lv_aload_n hx hb dX7_go_7 rfl (lv_at hl 1 rfl) ?_
  refine lv_iconst (v := nI 0) hx hb dX7_go_8 (by decide) ?_
  refine va_put (D := D) (ci := 7) (v := .int (nI 0)) (ty := .int) (C := RX7) (T := TX7) (N := 14) hx hb hts hin_X7 tyX7 tyX7_ok nmX7 hown hK.1 hP hD hS 0 rfl rfl 12 (by decide) f_169 (fun _ h9 => h9) rfl (by decide +kernel) rfl rfl (Nat.le_of_ble_eq_true rfl) dX7_go_9 (fun H locs hP1 hD1 hS1 => ?_)
  clear hP hD hS
  have hP : va_P D vwCl [(g, .inr (7, [.ref s0, .ref a0, .ref b0, .int (nI kn), .ref x0, .int (nI L), .int (nI 0), .int (nI wr), .int (nI le), .int o1, .int o2, .int (nI po), .int (nI 0), .int ca])), (s0, .inl (y 1, 72, .inl (fun j9 => nI (V j9)))), (x0, .inl (y 1, 60, .inl tx))] H := hP1
  have hD : va_D A [(g, .inr (7, [.ref s0, .ref a0, .ref b0, .int (nI kn), .ref x0, .int (nI L), .int (nI 0), .int (nI wr), .int (nI le), .int o1, .int o2, .int (nI po), .int (nI 0), .int ca])), (s0, .inl (y 1, 72, .inl (fun j9 => nI (V j9)))), (x0, .inl (y 1, 60, .inl tx))] := hD1
  have hS := hS1
  clear hP1 hD1 hS1
  have lp12 : ∀ (n : Nat) (k : Nat) (ta9 : Nat) (wr9 : Nat) (le9 : Nat) (o19 : Int32) (o29 : Int32) (po9 : Nat) (rs9 : Nat) (ca9 : Int32) (V9 : Nat → Nat), (if rs9 = 0 then L - ta9 + 1 else 0) < n → (Inv V9) → (rs9 = 0 → goF T L (60 - k) ta9 V9 k = goA T L V ∧ k ≤ ta9) → (¬ rs9 = 0 → goA T L V = (k - 1, po9, rs9, ca9, V9) ∧ 1 ≤ k) → (ta9 ≤ 75) → (rs9 ≤ 2) → ∀ (H : Heap) (locs : List Loc), va_P D vwCl [(g, .inr (7, [.ref s0, .ref a0, .ref b0, .int (nI kn), .ref x0, .int (nI L), .int (nI ta9), .int (nI wr9), .int (nI le9), .int o19, .int o29, .int (nI po9), .int (nI rs9), .int ca9])), (s0, .inl (y 1, 72, .inl (fun j9 => nI (V9 j9)))), (x0, .inl (y 1, 60, .inl tx))] H → va_D A [(g, .inr (7, [.ref s0, .ref a0, .ref b0, .int (nI kn), .ref x0, .int (nI L), .int (nI ta9), .int (nI wr9), .int (nI le9), .int o19, .int o29, .int (nI po9), .int (nI rs9), .int ca9])), (s0, .inl (y 1, 72, .inl (fun j9 => nI (V9 j9)))), (x0, .inl (y 1, 60, .inl tx))] → va_S A s.heap H locs → ∀ ls : Array Slot, lv_has ls 2 [(1, .int (nI k)), (0, .ref g)] → W p l e (headSpec wsX7_go ({ frames := 6, cells := 0, slots := 0, locals := 137 })).room s m ([.ref g] : List Value).toArray below meth c H locs 0 0 Q (F0 m 12 ls []) := by
    intro n
    induction n with
    | zero => intro k ta9 wr9 le9 o19 o29 po9 rs9 ca9 V9 hm; exact absurd hm (Nat.not_lt_zero _)
    | succ n ih12 =>
      intro k ta9 wr9 le9 o19 o29 po9 rs9 ca9 V9 hm hI9 hg1 hg2 h75 hrs H locs hP hD hS ls hl
      refine lv_aload_n hx hb dX7_go_12 rfl (lv_at hl 1 rfl) ?_
      refine va_get (D := D) (ci := 7) (v := .int (nI ta9)) (C := RX7) (T := TX7) (N := 14) hx hb hts hin_X7 hown hK.1 hP 0 rfl rfl 6 (by decide) f_141 (fun _ h9 => h9) rfl dX7_go_13 ?_
      refine lv_aload_n hx hb dX7_go_16 rfl (lv_at hl 1 rfl) ?_
      refine va_get (D := D) (ci := 7) (v := .int (nI L)) (C := RX7) (T := TX7) (N := 14) hx hb hts hin_X7 hown hK.1 hP 0 rfl rfl 5 (by decide) f_138 (fun _ h9 => h9) rfl dX7_go_17 ?_
      refine xn_icmp_ge hx hb (by omega) (by omega) (tgt := 102) dX7_go_20 (by decide) (fun kc20 => ?_) (fun kc20 => ?_)
      · refine lv_iload_n hx hb dX7_go_102 rfl (lv_at hl 0 rfl) ?_
        subst hQe
        exact xw_i hx hb hr hlocks (ta9, wr9, le9, o19, o29, po9, rs9, ca9, V9) hS dX7_go_103 (go_fin hg1 hg2 (by first | exact Or.inl kc20 | exact Or.inr kc27)) (fun t ht => by rw [ht]; exact (hP))
      · refine lv_aload_n hx hb dX7_go_23 rfl (lv_at hl 1 rfl) ?_
        refine va_get (D := D) (ci := 7) (v := .int (nI rs9)) (C := RX7) (T := TX7) (N := 14) hx hb hts hin_X7 hown hK.1 hP 0 rfl rfl 12 (by decide) f_169 (fun _ h9 => h9) rfl dX7_go_24 ?_
        refine xn_if_ne hx hb (by omega) (tgt := 102) dX7_go_27 (by decide) (fun kc27 => ?_) (fun kc27 => ?_)
        · refine lv_iload_n hx hb dX7_go_102 rfl (lv_at hl 0 rfl) ?_
          subst hQe
          exact xw_i hx hb hr hlocks (ta9, wr9, le9, o19, o29, po9, rs9, ca9, V9) hS dX7_go_103 (go_fin hg1 hg2 (by first | exact Or.inl kc20 | exact Or.inr kc27)) (fun t ht => by rw [ht]; exact (hP))
        · have hk9 := (hg1 kc27).2
          have hop := orP_le (T := T) (L := L) (p := ta9)
          refine lv_aload_n hx hb dX7_go_30 rfl (lv_at hl 1 rfl) ?_
          refine lv_aload_n hx hb dX7_go_31 rfl (lv_at hl 1 rfl) ?_
          refine va_get (D := D) (ci := 7) (v := .int (nI ta9)) (C := RX7) (T := TX7) (N := 14) hx hb hts hin_X7 hown hK.1 hP 0 rfl rfl 6 (by decide) f_141 (fun _ h9 => h9) rfl dX7_go_32 ?_
          refine va_put (D := D) (ci := 7) (v := .int (nI ta9)) (ty := .int) (C := RX7) (T := TX7) (N := 14) hx hb hts hin_X7 tyX7 tyX7_ok nmX7 hown hK.1 hP hD hS 0 rfl rfl 11 (by decide) f_172 (fun _ h9 => h9) rfl (by decide +kernel) rfl rfl (Nat.le_of_ble_eq_true rfl) dX7_go_35 (fun H locs hP1 hD1 hS1 => ?_)
          clear hP hD hS
          have hP : va_P D vwCl [(g, .inr (7, [.ref s0, .ref a0, .ref b0, .int (nI kn), .ref x0, .int (nI L), .int (nI ta9), .int (nI wr9), .int (nI le9), .int o19, .int o29, .int (nI ta9), .int (nI rs9), .int ca9])), (s0, .inl (y 1, 72, .inl (fun j9 => nI (V9 j9)))), (x0, .inl (y 1, 60, .inl tx))] H := hP1
          have hD : va_D A [(g, .inr (7, [.ref s0, .ref a0, .ref b0, .int (nI kn), .ref x0, .int (nI L), .int (nI ta9), .int (nI wr9), .int (nI le9), .int o19, .int o29, .int (nI ta9), .int (nI rs9), .int ca9])), (s0, .inl (y 1, 72, .inl (fun j9 => nI (V9 j9)))), (x0, .inl (y 1, 60, .inl tx))] := hD1
          have hS := hS1
          clear hP1 hD1 hS1
          refine lv_aload_n hx hb dX7_go_38 rfl (lv_at hl 1 rfl) ?_
          have hFc := xD_in (W0 := [(g, .inr (7, [.ref s0, .ref a0, .ref b0, .int (nI kn), .ref x0, .int (nI L), .int (nI ta9), .int (nI wr9), .int (nI le9), .int o19, .int o29, .int (nI ta9), .int (nI rs9), .int ca9])), (x0, .inl (y 1, 60, .inl tx))]) hD [0, 2] rfl
          refine va_callv (va_runV (As := []) (rest := []) ⟨hx, hb, hml, hown, hts⟩ (c_X7_read l D y g s0 a0 b0 x0 kn L ta9 wr9 le9 o19 o29 ta9 rs9 ca9 tx T hT (by omega)) (cwV 0 hts gX7_go_X7_read rfl rfl rfl hd_X7_read ⟨Nat.le_of_ble_eq_true rfl, Nat.le_of_ble_eq_true rfl⟩) (xpv_w hK hP hD [0, 2] 0 rfl rfl rfl rfl rfl) rfl rfl hl.1 rfl (lv_room (Nat.le_of_ble_eq_true rfl)) dX7_go_39 ⟨Nat.zero_le _, Nat.zero_le _⟩) hS (fun q _ h => hFc q h) hFc (fun u1 t H locs ht hvm hw1 hB hz1 hk1 hS1 => ?_)
          have hB : va_P D vwCl [(g, .inr (7, [.ref s0, .ref a0, .ref b0, .int (nI kn), .ref x0, .int (nI L), .int (nI (orP T L ta9)), .int (nI (1 - bN (orK T L ta9))), .int (nI (sgn T L ta9)), .int u1.1, .int u1.2, .int (nI ta9), .int (nI rs9), .int ca9])), (x0, .inl (y 1, 60, .inl tx))] t.heap := hB
          rw [ht] at hB
          have hw1 : orK T L ta9 → ∃ x9 z9 : Nat, u1.1 = nI x9 ∧ u1.2 = nI z9 ∧ x9 < 1000 ∧ z9 < 1000 ∧ (¬ sgn T L ta9 = 116 → x9 = orX T L ta9) ∧ (sgn T L ta9 = 107 ∨ sgn T L ta9 = 110 → z9 = orY T L ta9) := hw1
          have hJ := xj_join (ws2 := [(g, .inr (7, [.ref s0, .ref a0, .ref b0, .int (nI kn), .ref x0, .int (nI L), .int (nI (orP T L ta9)), .int (nI (1 - bN (orK T L ta9))), .int (nI (sgn T L ta9)), .int u1.1, .int u1.2, .int (nI ta9), .int (nI rs9), .int ca9])), (s0, .inl (y 1, 72, .inl (fun j9 => nI (V9 j9)))), (x0, .inl (y 1, 60, .inl tx))]) hP hD [0, 2] [1] rfl rfl rfl rfl rfl rfl hk1 hB
          clear hP hD hS hB hk1 hz1 hFc hvm ht
          obtain ⟨hP, hD⟩ := hJ
          have hS := hS1
          clear hS1
          by_cases hk : orK T L ta9
          · obtain ⟨x9, z9, hx9, hz9, hxb, hzb, hxx, hzz⟩ := hw1 hk
            rw [bN_t (c := orK T L ta9) hk, hx9, hz9] at hP hD
            have hlb := orK_k hk
            have hlb : sgn T L ta9 = 99 ∨ sgn T L ta9 = 107 ∨ sgn T L ta9 = 110 ∨ sgn T L ta9 = 116 ∨ sgn T L ta9 = 120 := by omega
            have hgt := or_gt hk
            have hdx := do_x (V := V9) hxx hzz hlb
            have hk1 : id (orK T L ta9) := hk
            clear hk
            have hxb : x9 < 2 ^ 30 := by omega
            have hzb : z9 < 2 ^ 30 := by omega
            replace hP : va_P D vwCl [(g, .inr (7, [.ref s0, .ref a0, .ref b0, .int (nI kn), .ref x0, .int (nI L), .int (nI (orP T L ta9)), .int (nI 0), .int (nI (sgn T L ta9)), .int (nI x9), .int (nI z9), .int (nI ta9), .int (nI rs9), .int ca9])), (s0, .inl (y 1, 72, .inl (fun j9 => nI (V9 j9)))), (x0, .inl (y 1, 60, .inl tx))] H := hP
            replace hD : va_D A [(g, .inr (7, [.ref s0, .ref a0, .ref b0, .int (nI kn), .ref x0, .int (nI L), .int (nI (orP T L ta9)), .int (nI 0), .int (nI (sgn T L ta9)), .int (nI x9), .int (nI z9), .int (nI ta9), .int (nI rs9), .int ca9])), (s0, .inl (y 1, 72, .inl (fun j9 => nI (V9 j9)))), (x0, .inl (y 1, 60, .inl tx))] := hD
            refine lv_aload_n hx hb dX7_go_42 rfl (lv_at hl 1 rfl) ?_
            refine lv_aload_n hx hb dX7_go_43 rfl (lv_at hl 1 rfl) ?_
            refine va_get (D := D) (ci := 7) (v := .int (nI 0)) (C := RX7) (T := TX7) (N := 14) hx hb hts hin_X7 hown hK.1 hP 0 rfl rfl 7 (by decide) f_144 (fun _ h9 => h9) rfl dX7_go_44 ?_
            refine lv_if_eq (tgt := 62) hx hb dX7_go_47 (by decide) (fun _ => ?_) (fun h => absurd h (by decide))
            refine lv_aload_n hx hb dX7_go_62 rfl (lv_at hl 1 rfl) ?_
            have hFc := xD_in (W0 := [(g, .inr (7, [.ref s0, .ref a0, .ref b0, .int (nI kn), .ref x0, .int (nI L), .int (nI (orP T L ta9)), .int (nI 0), .int (nI (sgn T L ta9)), .int (nI x9), .int (nI z9), .int (nI ta9), .int (nI rs9), .int ca9])), (s0, .inl (y 1, 72, .inl (fun j9 => nI (V9 j9))))]) hD [0, 1] rfl
            refine va_calli (va_runV (As := []) (rest := [.ref g]) ⟨hx, hb, hml, hown, hts⟩ (c_X7_does l D y g s0 a0 b0 x0 kn L (orP T L ta9) 0 (sgn T L ta9) x9 z9 ta9 rs9 ca9 V9 hI9 hxb hzb hlb) (cwV 0 hts gX7_go_X7_does rfl rfl rfl hd_X7_does ⟨Nat.le_of_ble_eq_true rfl, Nat.le_of_ble_eq_true rfl⟩) (xpv_w hK hP hD [0, 1] 0 rfl rfl rfl rfl rfl) rfl rfl hl.1 rfl (lv_room (Nat.le_of_ble_eq_true rfl)) dX7_go_63 ⟨Nat.zero_le _, Nat.zero_le _⟩) hS (fun q _ h => hFc q h) hFc (fun r2 u2 t H locs ht hvm hw2 hB hz1 hk1 hS1 => ?_)
            have hB : va_P D vwCl [(g, .inr (7, [.ref s0, .ref a0, .ref b0, .int (nI kn), .ref x0, .int (nI L), .int (nI (orP T L ta9)), .int (nI 0), .int (nI (sgn T L ta9)), .int (nI x9), .int (nI z9), .int (nI ta9), .int (nI rs9), .int ca9])), (s0, .inl (y 1, 72, .inl (fun j9 => nI ((doV V9 (sgn T L ta9) x9 z9) j9))))] t.heap := hB
            rw [ht] at hB
            have hw2 : r2 = dsI V9 (sgn T L ta9) x9 z9 := hw2
            have hJ := xj_join (ws2 := [(g, .inr (7, [.ref s0, .ref a0, .ref b0, .int (nI kn), .ref x0, .int (nI L), .int (nI (orP T L ta9)), .int (nI 0), .int (nI (sgn T L ta9)), .int (nI x9), .int (nI z9), .int (nI ta9), .int (nI rs9), .int ca9])), (s0, .inl (y 1, 72, .inl (fun j9 => nI ((doV V9 (sgn T L ta9) x9 z9) j9)))), (x0, .inl (y 1, 60, .inl tx))]) hP hD [0, 1] [2] rfl rfl rfl rfl rfl rfl hk1 hB
            clear hP hD hS hB hk1 hz1 hFc hvm ht
            obtain ⟨hP, hD⟩ := hJ
            have hS := hS1
            clear hS1
            subst hw2
            refine va_put (D := D) (ci := 7) (v := .int (dsI V9 (sgn T L ta9) x9 z9)) (ty := .int) (C := RX7) (T := TX7) (N := 14) hx hb hts hin_X7 tyX7 tyX7_ok nmX7 hown hK.1 hP hD hS 0 rfl rfl 13 (by decide) f_181 (fun _ h9 => h9) rfl (by decide +kernel) rfl rfl (Nat.le_of_ble_eq_true rfl) dX7_go_66 (fun H locs hP1 hD1 hS1 => ?_)
            clear hP hD hS
            have hP : va_P D vwCl [(g, .inr (7, [.ref s0, .ref a0, .ref b0, .int (nI kn), .ref x0, .int (nI L), .int (nI (orP T L ta9)), .int (nI 0), .int (nI (sgn T L ta9)), .int (nI x9), .int (nI z9), .int (nI ta9), .int (nI rs9), .int (dsI V9 (sgn T L ta9) x9 z9)])), (s0, .inl (y 1, 72, .inl (fun j9 => nI ((doV V9 (sgn T L ta9) x9 z9) j9)))), (x0, .inl (y 1, 60, .inl tx))] H := hP1
            have hD : va_D A [(g, .inr (7, [.ref s0, .ref a0, .ref b0, .int (nI kn), .ref x0, .int (nI L), .int (nI (orP T L ta9)), .int (nI 0), .int (nI (sgn T L ta9)), .int (nI x9), .int (nI z9), .int (nI ta9), .int (nI rs9), .int (dsI V9 (sgn T L ta9) x9 z9)])), (s0, .inl (y 1, 72, .inl (fun j9 => nI ((doV V9 (sgn T L ta9) x9 z9) j9)))), (x0, .inl (y 1, 60, .inl tx))] := hD1
            have hS := hS1
            clear hP1 hD1 hS1
            refine lv_aload_n hx hb dX7_go_69 rfl (lv_at hl 1 rfl) ?_
            refine lv_aload_n hx hb dX7_go_70 rfl (lv_at hl 1 rfl) ?_
            refine va_get (D := D) (ci := 7) (v := .int (nI 0)) (C := RX7) (T := TX7) (N := 14) hx hb hts hin_X7 hown hK.1 hP 0 rfl rfl 7 (by decide) f_144 (fun _ h9 => h9) rfl dX7_go_71 ?_
            refine lv_if_eq (tgt := 81) hx hb dX7_go_74 (by decide) (fun _ => ?_) (fun h => absurd h (by decide))
            refine lv_aload_n hx hb dX7_go_81 rfl (lv_at hl 1 rfl) ?_
            refine va_get (D := D) (ci := 7) (v := .int (dsI V9 (sgn T L ta9) x9 z9)) (C := RX7) (T := TX7) (N := 14) hx hb hts hin_X7 hown hK.1 hP 0 rfl rfl 13 (by decide) f_181 (fun _ h9 => h9) rfl dX7_go_82 ?_
            refine lv_if_ge (tgt := 92) hx hb dX7_go_85 (by decide) (fun kc85 => ?_) (fun kc85 => ?_)
            · refine lv_iconst (v := nI 0) hx hb dX7_go_92 (by decide) ?_
              refine va_put (D := D) (ci := 7) (v := .int (nI 0)) (ty := .int) (C := RX7) (T := TX7) (N := 14) hx hb hts hin_X7 tyX7 tyX7_ok nmX7 hown hK.1 hP hD hS 0 rfl rfl 12 (by decide) f_169 (fun _ h9 => h9) rfl (by decide +kernel) rfl rfl (Nat.le_of_ble_eq_true rfl) dX7_go_93 (fun H locs hP1 hD1 hS1 => ?_)
              clear hP hD hS
              have hP : va_P D vwCl [(g, .inr (7, [.ref s0, .ref a0, .ref b0, .int (nI kn), .ref x0, .int (nI L), .int (nI (orP T L ta9)), .int (nI 0), .int (nI (sgn T L ta9)), .int (nI x9), .int (nI z9), .int (nI ta9), .int (nI 0), .int (dsI V9 (sgn T L ta9) x9 z9)])), (s0, .inl (y 1, 72, .inl (fun j9 => nI ((doV V9 (sgn T L ta9) x9 z9) j9)))), (x0, .inl (y 1, 60, .inl tx))] H := hP1
              have hD : va_D A [(g, .inr (7, [.ref s0, .ref a0, .ref b0, .int (nI kn), .ref x0, .int (nI L), .int (nI (orP T L ta9)), .int (nI 0), .int (nI (sgn T L ta9)), .int (nI x9), .int (nI z9), .int (nI ta9), .int (nI 0), .int (dsI V9 (sgn T L ta9) x9 z9)])), (s0, .inl (y 1, 72, .inl (fun j9 => nI ((doV V9 (sgn T L ta9) x9 z9) j9)))), (x0, .inl (y 1, 60, .inl tx))] := hD1
              have hS := hS1
              clear hP1 hD1 hS1
              refine lv_iinc (v := nI (k + 1)) (lv' := [(1, .int (nI (k + 1))), (0, .ref g)]) hx hb dX7_go_96 hl (k := 0) rfl (nI_add k 1) (by decide) rfl (fun ls hl => ?_)
              refine lv_goto (tgt := 12) hx hb dX7_go_99 (by decide) ?_
              exact ih12 (k + 1) (orP T L ta9) 0 (sgn T L ta9) (nI x9) (nI z9) ta9 0 (dsI V9 (sgn T L ta9) x9 z9) (doV V9 (sgn T L ta9) x9 z9) (by first | exact go_m0 hm kc27 kc20 hgt | exact go_m1 hm kc27 kc20 (by decide)) (do_inv hI9 _ _ _) (fun _ => ⟨(go_s (by omega) kc20 hk1 hdx kc85).symm.trans (hg1 kc27).1, by omega⟩) (fun q9 => absurd rfl q9) (by omega) (by decide) _ _ hP hD hS ls (lv_sub hl [0, 1] rfl)
            · refine lv_iconst (v := nI 2) hx hb dX7_go_88 (by decide) ?_
              refine lv_goto (tgt := 93) hx hb dX7_go_89 (by decide) ?_
              refine va_put (D := D) (ci := 7) (v := .int (nI 2)) (ty := .int) (C := RX7) (T := TX7) (N := 14) hx hb hts hin_X7 tyX7 tyX7_ok nmX7 hown hK.1 hP hD hS 0 rfl rfl 12 (by decide) f_169 (fun _ h9 => h9) rfl (by decide +kernel) rfl rfl (Nat.le_of_ble_eq_true rfl) dX7_go_93 (fun H locs hP1 hD1 hS1 => ?_)
              clear hP hD hS
              have hP : va_P D vwCl [(g, .inr (7, [.ref s0, .ref a0, .ref b0, .int (nI kn), .ref x0, .int (nI L), .int (nI (orP T L ta9)), .int (nI 0), .int (nI (sgn T L ta9)), .int (nI x9), .int (nI z9), .int (nI ta9), .int (nI 2), .int (dsI V9 (sgn T L ta9) x9 z9)])), (s0, .inl (y 1, 72, .inl (fun j9 => nI ((doV V9 (sgn T L ta9) x9 z9) j9)))), (x0, .inl (y 1, 60, .inl tx))] H := hP1
              have hD : va_D A [(g, .inr (7, [.ref s0, .ref a0, .ref b0, .int (nI kn), .ref x0, .int (nI L), .int (nI (orP T L ta9)), .int (nI 0), .int (nI (sgn T L ta9)), .int (nI x9), .int (nI z9), .int (nI ta9), .int (nI 2), .int (dsI V9 (sgn T L ta9) x9 z9)])), (s0, .inl (y 1, 72, .inl (fun j9 => nI ((doV V9 (sgn T L ta9) x9 z9) j9)))), (x0, .inl (y 1, 60, .inl tx))] := hD1
              have hS := hS1
              clear hP1 hD1 hS1
              refine lv_iinc (v := nI (k + 1)) (lv' := [(1, .int (nI (k + 1))), (0, .ref g)]) hx hb dX7_go_96 hl (k := 0) rfl (nI_add k 1) (by decide) rfl (fun ls hl => ?_)
              refine lv_goto (tgt := 12) hx hb dX7_go_99 (by decide) ?_
              exact ih12 (k + 1) (orP T L ta9) 0 (sgn T L ta9) (nI x9) (nI z9) ta9 2 (dsI V9 (sgn T L ta9) x9 z9) (doV V9 (sgn T L ta9) x9 z9) (by first | exact go_m0 hm kc27 kc20 hgt | exact go_m1 hm kc27 kc20 (by decide)) (do_inv hI9 _ _ _) (fun q9 => absurd q9 (by decide)) (fun _ => ⟨((hg1 kc27).1.symm.trans (go_2 hI9 (by omega) kc20 hk1 hdx (Int32.not_le.mp kc85))), by omega⟩) (by omega) (by decide) _ _ hP hD hS ls (lv_sub hl [0, 1] rfl)
          · rw [bN_f (c := orK T L ta9) hk] at hP hD
            replace hP : va_P D vwCl [(g, .inr (7, [.ref s0, .ref a0, .ref b0, .int (nI kn), .ref x0, .int (nI L), .int (nI (orP T L ta9)), .int (nI 1), .int (nI (sgn T L ta9)), .int u1.1, .int u1.2, .int (nI ta9), .int (nI rs9), .int ca9])), (s0, .inl (y 1, 72, .inl (fun j9 => nI (V9 j9)))), (x0, .inl (y 1, 60, .inl tx))] H := hP
            replace hD : va_D A [(g, .inr (7, [.ref s0, .ref a0, .ref b0, .int (nI kn), .ref x0, .int (nI L), .int (nI (orP T L ta9)), .int (nI 1), .int (nI (sgn T L ta9)), .int u1.1, .int u1.2, .int (nI ta9), .int (nI rs9), .int ca9])), (s0, .inl (y 1, 72, .inl (fun j9 => nI (V9 j9)))), (x0, .inl (y 1, 60, .inl tx))] := hD
            refine lv_aload_n hx hb dX7_go_42 rfl (lv_at hl 1 rfl) ?_
            refine lv_aload_n hx hb dX7_go_43 rfl (lv_at hl 1 rfl) ?_
            refine va_get (D := D) (ci := 7) (v := .int (nI 1)) (C := RX7) (T := TX7) (N := 14) hx hb hts hin_X7 hown hK.1 hP 0 rfl rfl 7 (by decide) f_144 (fun _ h9 => h9) rfl dX7_go_44 ?_
            refine lv_if_eq (tgt := 62) hx hb dX7_go_47 (by decide) (fun h => absurd h (by decide)) (fun _ => ?_)
            refine lv_aload_n hx hb dX7_go_50 rfl (lv_at hl 1 rfl) ?_
            refine va_get (D := D) (ci := 7) (v := .int (nI (orP T L ta9))) (C := RX7) (T := TX7) (N := 14) hx hb hts hin_X7 hown hK.1 hP 0 rfl rfl 6 (by decide) f_141 (fun _ h9 => h9) rfl dX7_go_51 ?_
            refine lv_aload_n hx hb dX7_go_54 rfl (lv_at hl 1 rfl) ?_
            refine va_get (D := D) (ci := 7) (v := .int (nI ta9)) (C := RX7) (T := TX7) (N := 14) hx hb hts hin_X7 hown hK.1 hP 0 rfl rfl 11 (by decide) f_172 (fun _ h9 => h9) rfl dX7_go_55 ?_
            refine xn_sub hx hb (r := ((orP T L ta9) - ta9)) (by omega) rfl dX7_go_58 ?_
            refine lv_goto (tgt := 66) hx hb dX7_go_59 (by decide) ?_
            refine va_put (D := D) (ci := 7) (v := .int (nI ((orP T L ta9) - ta9))) (ty := .int) (C := RX7) (T := TX7) (N := 14) hx hb hts hin_X7 tyX7 tyX7_ok nmX7 hown hK.1 hP hD hS 0 rfl rfl 13 (by decide) f_181 (fun _ h9 => h9) rfl (by decide +kernel) rfl rfl (Nat.le_of_ble_eq_true rfl) dX7_go_66 (fun H locs hP1 hD1 hS1 => ?_)
            clear hP hD hS
            have hP : va_P D vwCl [(g, .inr (7, [.ref s0, .ref a0, .ref b0, .int (nI kn), .ref x0, .int (nI L), .int (nI (orP T L ta9)), .int (nI 1), .int (nI (sgn T L ta9)), .int u1.1, .int u1.2, .int (nI ta9), .int (nI rs9), .int (nI ((orP T L ta9) - ta9))])), (s0, .inl (y 1, 72, .inl (fun j9 => nI (V9 j9)))), (x0, .inl (y 1, 60, .inl tx))] H := hP1
            have hD : va_D A [(g, .inr (7, [.ref s0, .ref a0, .ref b0, .int (nI kn), .ref x0, .int (nI L), .int (nI (orP T L ta9)), .int (nI 1), .int (nI (sgn T L ta9)), .int u1.1, .int u1.2, .int (nI ta9), .int (nI rs9), .int (nI ((orP T L ta9) - ta9))])), (s0, .inl (y 1, 72, .inl (fun j9 => nI (V9 j9)))), (x0, .inl (y 1, 60, .inl tx))] := hD1
            have hS := hS1
            clear hP1 hD1 hS1
            refine lv_aload_n hx hb dX7_go_69 rfl (lv_at hl 1 rfl) ?_
            refine lv_aload_n hx hb dX7_go_70 rfl (lv_at hl 1 rfl) ?_
            refine va_get (D := D) (ci := 7) (v := .int (nI 1)) (C := RX7) (T := TX7) (N := 14) hx hb hts hin_X7 hown hK.1 hP 0 rfl rfl 7 (by decide) f_144 (fun _ h9 => h9) rfl dX7_go_71 ?_
            refine lv_if_eq (tgt := 81) hx hb dX7_go_74 (by decide) (fun h => absurd h (by decide)) (fun _ => ?_)
            refine lv_iconst (v := nI 1) hx hb dX7_go_77 (by decide) ?_
            refine lv_goto (tgt := 93) hx hb dX7_go_78 (by decide) ?_
            refine va_put (D := D) (ci := 7) (v := .int (nI 1)) (ty := .int) (C := RX7) (T := TX7) (N := 14) hx hb hts hin_X7 tyX7 tyX7_ok nmX7 hown hK.1 hP hD hS 0 rfl rfl 12 (by decide) f_169 (fun _ h9 => h9) rfl (by decide +kernel) rfl rfl (Nat.le_of_ble_eq_true rfl) dX7_go_93 (fun H locs hP1 hD1 hS1 => ?_)
            clear hP hD hS
            have hP : va_P D vwCl [(g, .inr (7, [.ref s0, .ref a0, .ref b0, .int (nI kn), .ref x0, .int (nI L), .int (nI (orP T L ta9)), .int (nI 1), .int (nI (sgn T L ta9)), .int u1.1, .int u1.2, .int (nI ta9), .int (nI 1), .int (nI ((orP T L ta9) - ta9))])), (s0, .inl (y 1, 72, .inl (fun j9 => nI (V9 j9)))), (x0, .inl (y 1, 60, .inl tx))] H := hP1
            have hD : va_D A [(g, .inr (7, [.ref s0, .ref a0, .ref b0, .int (nI kn), .ref x0, .int (nI L), .int (nI (orP T L ta9)), .int (nI 1), .int (nI (sgn T L ta9)), .int u1.1, .int u1.2, .int (nI ta9), .int (nI 1), .int (nI ((orP T L ta9) - ta9))])), (s0, .inl (y 1, 72, .inl (fun j9 => nI (V9 j9)))), (x0, .inl (y 1, 60, .inl tx))] := hD1
            have hS := hS1
            clear hP1 hD1 hS1
            refine lv_iinc (v := nI (k + 1)) (lv' := [(1, .int (nI (k + 1))), (0, .ref g)]) hx hb dX7_go_96 hl (k := 0) rfl (nI_add k 1) (by decide) rfl (fun ls hl => ?_)
            refine lv_goto (tgt := 12) hx hb dX7_go_99 (by decide) ?_
            exact ih12 (k + 1) (orP T L ta9) 1 (sgn T L ta9) u1.1 u1.2 ta9 1 (nI ((orP T L ta9) - ta9)) V9 (by first | exact go_m0 hm kc27 kc20 hgt | exact go_m1 hm kc27 kc20 (by decide)) (hI9) (fun q9 => absurd q9 (by decide)) (fun _ => ⟨((hg1 kc27).1.symm.trans (goF_1 (by omega) kc20 hk)), by omega⟩) (by omega) (by decide) _ _ hP hD hS ls (lv_sub hl [0, 1] rfl)
  exact lp12 ((if 0 = 0 then L - 0 + 1 else 0) + 1) 0 0 wr le o1 o2 po 0 ca V (Nat.lt_succ_self _) (hI) (fun _ => ⟨rfl, Nat.le_refl _⟩) (fun q9 => absurd rfl q9) (by omega) (by decide) _ _ hP hD hS ls (lv_sub hl [0, 1] rfl)
set_option maxHeartbeats 8000000 in
set_option maxRecDepth 100000 in
theorem c_X7_look (l : Launch) (D : va_G) (y : Nat → ClassId) (g s0 a0 b0 x0 kn L ta wr le : Nat) (o1 o2 : Int32) (po rs : Nat) (ca : Int32) (tx : Nat → Int32) (T : Nat → Nat) (hT : RepT T L tx) (V : Nat → Nat) (hI : Inv V) (Au : Nat → Nat) : Met l yX7_look wsX7_look ({ frames := 7, cells := 0, slots := 0, locals := 158 }) (va_Pc [.ref g] (xPw D y [(g, .inr (7, [.ref s0, .ref a0, .ref b0, .int (nI kn), .ref x0, .int (nI L), .int (nI ta), .int (nI wr), .int (nI le), .int o1, .int o2, .int (nI po), .int (nI rs), .int ca])), (s0, .inl (y 1, 72, .inl (fun j9 => nI (V j9)))), (a0, .inl (y 1, 72, .inl (fun j9 => nI (Au j9)))), (x0, .inl (y 1, 60, .inl tx))])) (va_Qv (fun (u : Nat × Nat × Nat × Int32 × Int32 × Nat × Nat × Int32) => u.2.2.2.2.2.2.1 = (goA T L V).2.2.1 ∧ (¬ u.2.2.2.2.2.2.1 = 0 → u.2.2.2.2.2.1 = (goA T L V).2.1 ∧ u.2.2.2.2.2.2.2 = (goA T L V).2.2.2.1)) (fun (u : Nat × Nat × Nat × Int32 × Int32 × Nat × Nat × Int32) t => va_P D vwCl [(g, .inr (7, [.ref s0, .ref a0, .ref b0, .int (nI kn), .ref x0, .int (nI L), .int (nI u.1), .int (nI u.2.1), .int (nI u.2.2.1), .int u.2.2.2.1, .int u.2.2.2.2.1, .int (nI u.2.2.2.2.2.1), .int (nI u.2.2.2.2.2.2.1), .int u.2.2.2.2.2.2.2])), (s0, .inl (y 1, 72, .inl (fun j9 => nI (V j9)))), (a0, .inl (y 1, 72, .inl (fun j9 => nI (V j9)))), (x0, .inl (y 1, 60, .inl tx))] t.heap) (xIn [(g, .inr (7, [.ref s0, .ref a0, .ref b0, .int (nI kn), .ref x0, .int (nI L), .int (nI ta), .int (nI wr), .int (nI le), .int o1, .int o2, .int (nI po), .int (nI rs), .int ca])), (s0, .inl (y 1, 72, .inl (fun j9 => nI (V j9)))), (a0, .inl (y 1, 72, .inl (fun j9 => nI (Au j9)))), (x0, .inl (y 1, 60, .inl tx))])) 0 0 (xIn [(g, .inr (7, [.ref s0, .ref a0, .ref b0, .int (nI kn), .ref x0, .int (nI L), .int (nI ta), .int (nI wr), .int (nI le), .int o1, .int o2, .int (nI po), .int (nI rs), .int ca])), (s0, .inl (y 1, 72, .inl (fun j9 => nI (V j9)))), (a0, .inl (y 1, 72, .inl (fun j9 => nI (Au j9)))), (x0, .inl (y 1, 60, .inl tx))]) := by
  refine Met.ofW (cc := cX7_look) (maxL := 2) (ret := none) (by decide) rfl ?_
  intro p e s m args below meth c s₁ B hml hv
  obtain ⟨rfl, hP, hK, hD0⟩ := hv
  have hx := B.exec
  have hb := B.bytes
  have hr := B.returns
  have hts := atoms_spec (ws := wsX7_look) B.pre
  have hown : s.vm.findClass RX7 = some m.cls := findClass_of_methodNamed B.named
  have hlocks := B.notSynchronized
  have hD := xD_self hD0
  generalize hAe : xIn [(g, .inr (7, [.ref s0, .ref a0, .ref b0, .int (nI kn), .ref x0, .int (nI L), .int (nI ta), .int (nI wr), .int (nI le), .int o1, .int o2, .int (nI po), .int (nI rs), .int ca])), (s0, .inl (y 1, 72, .inl (fun j9 => nI (V j9)))), (a0, .inl (y 1, 72, .inl (fun j9 => nI (Au j9)))), (x0, .inl (y 1, 60, .inl tx))] = A at hD ⊢
  have hS : va_S A s.heap s.heap [] := va_S.rf
  have hP : va_P D vwCl [(g, .inr (7, [.ref s0, .ref a0, .ref b0, .int (nI kn), .ref x0, .int (nI L), .int (nI ta), .int (nI wr), .int (nI le), .int o1, .int o2, .int (nI po), .int (nI rs), .int ca])), (s0, .inl (y 1, 72, .inl (fun j9 => nI (V j9)))), (a0, .inl (y 1, 72, .inl (fun j9 => nI (Au j9)))), (x0, .inl (y 1, 60, .inl tx))] s.heap := hP
  have hl := lv_entry ([.ref g]) (n := 2) (Nat.le_of_ble_eq_true rfl)
  rw [lg_entry_eq]
  generalize (lg_sl ([.ref g]) ++ List.replicate (2 - (lg_sl ([.ref g])).length) Slot.unset).toArray = ls at hl ⊢
  have hl : lv_has ls 2 [(0, .ref g)] := hl
  generalize hQe : (MQ below (va_Qv (fun (u : Nat × Nat × Nat × Int32 × Int32 × Nat × Nat × Int32) => u.2.2.2.2.2.2.1 = (goA T L V).2.2.1 ∧ (¬ u.2.2.2.2.2.2.1 = 0 → u.2.2.2.2.2.1 = (goA T L V).2.1 ∧ u.2.2.2.2.2.2.2 = (goA T L V).2.2.2.1)) (fun (u : Nat × Nat × Nat × Int32 × Int32 × Nat × Nat × Int32) t => va_P D vwCl [(g, .inr (7, [.ref s0, .ref a0, .ref b0, .int (nI kn), .ref x0, .int (nI L), .int (nI u.1), .int (nI u.2.1), .int (nI u.2.2.1), .int u.2.2.2.1, .int u.2.2.2.2.1, .int (nI u.2.2.2.2.2.1), .int (nI u.2.2.2.2.2.2.1), .int u.2.2.2.2.2.2.2])), (s0, .inl (y 1, 72, .inl (fun j9 => nI (V j9)))), (a0, .inl (y 1, 72, .inl (fun j9 => nI (V j9)))), (x0, .inl (y 1, 60, .inl tx))] t.heap) A) ([.ref g] : List Value).toArray s 0 0 A) = Q
  refine lv_aload_n hx hb dX7_look_0 rfl (lv_at hl 0 rfl) ?_
  have hFc := xD_in (W0 := [(g, .inr (7, [.ref s0, .ref a0, .ref b0, .int (nI kn), .ref x0, .int (nI L), .int (nI ta), .int (nI wr), .int (nI le), .int o1, .int o2, .int (nI po), .int (nI rs), .int ca])), (s0, .inl (y 1, 72, .inl (fun j9 => nI (V j9)))), (a0, .inl (y 1, 72, .inl (fun j9 => nI (Au j9))))]) hD [0, 1, 2] rfl
  refine va_callv (va_runV (As := []) (rest := []) ⟨hx, hb, hml, hown, hts⟩ (c_X7_putAside l D y g s0 a0 b0 x0 kn L ta wr le o1 o2 po rs ca V Au) (cwV 0 hts gX7_look_X7_putAside rfl rfl rfl hd_X7_putAside ⟨Nat.le_of_ble_eq_true rfl, Nat.le_of_ble_eq_true rfl⟩) (xpv_w hK hP hD [0, 1, 2] 0 rfl rfl rfl rfl rfl) rfl rfl hl.1 rfl (lv_room (Nat.le_of_ble_eq_true rfl)) dX7_look_1 ⟨Nat.zero_le _, Nat.zero_le _⟩) hS (fun q _ h => hFc q h) hFc (fun u1 t H locs ht hvm hw1 hB hz1 hk1 hS1 => ?_)
  have hB : va_P D vwCl [(g, .inr (7, [.ref s0, .ref a0, .ref b0, .int (nI kn), .ref x0, .int (nI L), .int (nI ta), .int (nI wr), .int (nI le), .int o1, .int o2, .int (nI po), .int (nI rs), .int ca])), (s0, .inl (y 1, 72, .inl (fun j9 => nI (V j9)))), (a0, .inl (y 1, 72, .inl (fun j9 => nI (V j9))))] t.heap := hB
  rw [ht] at hB
  have hJ := xj_join (ws2 := [(g, .inr (7, [.ref s0, .ref a0, .ref b0, .int (nI kn), .ref x0, .int (nI L), .int (nI ta), .int (nI wr), .int (nI le), .int o1, .int o2, .int (nI po), .int (nI rs), .int ca])), (s0, .inl (y 1, 72, .inl (fun j9 => nI (V j9)))), (a0, .inl (y 1, 72, .inl (fun j9 => nI (V j9)))), (x0, .inl (y 1, 60, .inl tx))]) hP hD [0, 1, 2] [3] rfl rfl rfl rfl rfl rfl hk1 hB
  clear hP hD hS hB hk1 hz1 hFc hvm ht
  obtain ⟨hP, hD⟩ := hJ
  have hS := hS1
  clear hS1
  refine lv_aload_n hx hb dX7_look_4 rfl (lv_at hl 0 rfl) ?_
  have hFc := xD_in (W0 := [(g, .inr (7, [.ref s0, .ref a0, .ref b0, .int (nI kn), .ref x0, .int (nI L), .int (nI ta), .int (nI wr), .int (nI le), .int o1, .int o2, .int (nI po), .int (nI rs), .int ca])), (s0, .inl (y 1, 72, .inl (fun j9 => nI (V j9)))), (x0, .inl (y 1, 60, .inl tx))]) hD [0, 1, 3] rfl
  refine va_calli (va_runV (As := []) (rest := []) ⟨hx, hb, hml, hown, hts⟩ (c_X7_go l D y g s0 a0 b0 x0 kn L ta wr le o1 o2 po rs ca tx T hT V hI) (cwV 0 hts gX7_look_X7_go rfl rfl rfl hd_X7_go ⟨Nat.le_of_ble_eq_true rfl, Nat.le_of_ble_eq_true rfl⟩) (xpv_w hK hP hD [0, 1, 3] 0 rfl rfl rfl rfl rfl) rfl rfl hl.1 rfl (lv_room (Nat.le_of_ble_eq_true rfl)) dX7_look_5 ⟨Nat.zero_le _, Nat.zero_le _⟩) hS (fun q _ h => hFc q h) hFc (fun r2 u2 t H locs ht hvm hw2 hB hz1 hk1 hS1 => ?_)
  have hB : va_P D vwCl [(g, .inr (7, [.ref s0, .ref a0, .ref b0, .int (nI kn), .ref x0, .int (nI L), .int (nI u2.1), .int (nI u2.2.1), .int (nI u2.2.2.1), .int u2.2.2.2.1, .int u2.2.2.2.2.1, .int (nI u2.2.2.2.2.2.1), .int (nI u2.2.2.2.2.2.2.1), .int u2.2.2.2.2.2.2.2.1])), (s0, .inl (y 1, 72, .inl (fun j9 => nI ((u2.2.2.2.2.2.2.2.2) j9)))), (x0, .inl (y 1, 60, .inl tx))] t.heap := hB
  rw [ht] at hB
  have hw2 : u2.2.2.2.2.2.2.1 = (goA T L V).2.2.1 ∧ (u2.2.2.2.2.2.2.1 = 0 → r2 = nI (goA T L V).1) ∧ (¬ u2.2.2.2.2.2.2.1 = 0 → u2.2.2.2.2.2.1 = (goA T L V).2.1 ∧ u2.2.2.2.2.2.2.2.1 = (goA T L V).2.2.2.1) ∧ u2.2.2.2.2.2.2.2.2 = (goA T L V).2.2.2.2 := hw2
  have hJ := xj_join (ws2 := [(g, .inr (7, [.ref s0, .ref a0, .ref b0, .int (nI kn), .ref x0, .int (nI L), .int (nI u2.1), .int (nI u2.2.1), .int (nI u2.2.2.1), .int u2.2.2.2.1, .int u2.2.2.2.2.1, .int (nI u2.2.2.2.2.2.1), .int (nI u2.2.2.2.2.2.2.1), .int u2.2.2.2.2.2.2.2.1])), (s0, .inl (y 1, 72, .inl (fun j9 => nI ((u2.2.2.2.2.2.2.2.2) j9)))), (a0, .inl (y 1, 72, .inl (fun j9 => nI (V j9)))), (x0, .inl (y 1, 60, .inl tx))]) hP hD [0, 1, 3] [2] rfl rfl rfl rfl rfl rfl hk1 hB
  clear hP hD hS hB hk1 hz1 hFc hvm ht
  obtain ⟨hP, hD⟩ := hJ
  have hS := hS1
  clear hS1
  refine lv_istore_n (lv' := [(1, .int r2), (0, .ref g)]) hx hb dX7_look_8 rfl hl (by decide) rfl (fun ls hl => ?_)
  refine lv_aload_n hx hb dX7_look_9 rfl (lv_at hl 1 rfl) ?_
  have hFc := xD_in (W0 := [(g, .inr (7, [.ref s0, .ref a0, .ref b0, .int (nI kn), .ref x0, .int (nI L), .int (nI u2.1), .int (nI u2.2.1), .int (nI u2.2.2.1), .int u2.2.2.2.1, .int u2.2.2.2.2.1, .int (nI u2.2.2.2.2.2.1), .int (nI u2.2.2.2.2.2.2.1), .int u2.2.2.2.2.2.2.2.1])), (s0, .inl (y 1, 72, .inl (fun j9 => nI ((u2.2.2.2.2.2.2.2.2) j9)))), (a0, .inl (y 1, 72, .inl (fun j9 => nI (V j9))))]) hD [0, 1, 2] rfl
  refine va_callv (va_runV (As := []) (rest := []) ⟨hx, hb, hml, hown, hts⟩ (c_X7_putBack l D y g s0 a0 b0 x0 kn L u2.1 u2.2.1 u2.2.2.1 u2.2.2.2.1 u2.2.2.2.2.1 u2.2.2.2.2.2.1 u2.2.2.2.2.2.2.1 u2.2.2.2.2.2.2.2.1 (u2.2.2.2.2.2.2.2.2) V) (cwV 0 hts gX7_look_X7_putBack rfl rfl rfl hd_X7_putBack ⟨Nat.le_of_ble_eq_true rfl, Nat.le_of_ble_eq_true rfl⟩) (xpv_w hK hP hD [0, 1, 2] 0 rfl rfl rfl rfl rfl) rfl rfl hl.1 rfl (lv_room (Nat.le_of_ble_eq_true rfl)) dX7_look_10 ⟨Nat.zero_le _, Nat.zero_le _⟩) hS (fun q _ h => hFc q h) hFc (fun u3 t H locs ht hvm hw3 hB hz1 hk1 hS1 => ?_)
  have hB : va_P D vwCl [(g, .inr (7, [.ref s0, .ref a0, .ref b0, .int (nI kn), .ref x0, .int (nI L), .int (nI u2.1), .int (nI u2.2.1), .int (nI u2.2.2.1), .int u2.2.2.2.1, .int u2.2.2.2.2.1, .int (nI u2.2.2.2.2.2.1), .int (nI u2.2.2.2.2.2.2.1), .int u2.2.2.2.2.2.2.2.1])), (s0, .inl (y 1, 72, .inl (fun j9 => nI (V j9)))), (a0, .inl (y 1, 72, .inl (fun j9 => nI (V j9))))] t.heap := hB
  rw [ht] at hB
  have hJ := xj_join (ws2 := [(g, .inr (7, [.ref s0, .ref a0, .ref b0, .int (nI kn), .ref x0, .int (nI L), .int (nI u2.1), .int (nI u2.2.1), .int (nI u2.2.2.1), .int u2.2.2.2.1, .int u2.2.2.2.2.1, .int (nI u2.2.2.2.2.2.1), .int (nI u2.2.2.2.2.2.2.1), .int u2.2.2.2.2.2.2.2.1])), (s0, .inl (y 1, 72, .inl (fun j9 => nI (V j9)))), (a0, .inl (y 1, 72, .inl (fun j9 => nI (V j9)))), (x0, .inl (y 1, 60, .inl tx))]) hP hD [0, 1, 2] [3] rfl rfl rfl rfl rfl rfl hk1 hB
  clear hP hD hS hB hk1 hz1 hFc hvm ht
  obtain ⟨hP, hD⟩ := hJ
  have hS := hS1
  clear hS1
  subst hQe
  exact xw_v hx hb hr hlocks (u2.1, u2.2.1, u2.2.2.1, u2.2.2.2.1, u2.2.2.2.2.1, u2.2.2.2.2.2.1, u2.2.2.2.2.2.2.1, u2.2.2.2.2.2.2.2.1) hS dX7_look_13 (⟨hw2.1, hw2.2.2.1⟩) (fun t ht => by rw [ht]; exact (hP))
set_option maxHeartbeats 8000000 in
set_option maxRecDepth 100000 in
theorem c_X7_fault (l : Launch) (D : va_G) (y : Nat → ClassId) (g s0 a0 b0 x0 kn L ta wr le : Nat) (o1 o2 : Int32) (po rs : Nat) (ca : Int32) (tx : Nat → Int32) (T : Nat → Nat) (hT : RepT T L tx) (V : Nat → Nat) (hI : Inv V) (Au : Nat → Nat) (w : Int32) : Met l yX7_fault wsX7_fault ({ frames := 8, cells := 0, slots := 0, locals := 179 }) (va_Pc [.ref g, .int w] (xPw D y [(g, .inr (7, [.ref s0, .ref a0, .ref b0, .int (nI kn), .ref x0, .int (nI L), .int (nI ta), .int (nI wr), .int (nI le), .int o1, .int o2, .int (nI po), .int (nI rs), .int ca])), (s0, .inl (y 1, 72, .inl (fun j9 => nI (V j9)))), (a0, .inl (y 1, 72, .inl (fun j9 => nI (Au j9)))), (x0, .inl (y 1, 60, .inl tx))])) (va_Qi (fun r (u : (Nat × Nat × Nat × Int32 × Int32 × Nat × Nat × Int32) × (Nat → Nat)) => r = faI T L V w) (fun (u : (Nat × Nat × Nat × Int32 × Int32 × Nat × Nat × Int32) × (Nat → Nat)) t => va_P D vwCl [(g, .inr (7, [.ref s0, .ref a0, .ref b0, .int (nI kn), .ref x0, .int (nI L), .int (nI u.1.1), .int (nI u.1.2.1), .int (nI u.1.2.2.1), .int u.1.2.2.2.1, .int u.1.2.2.2.2.1, .int (nI u.1.2.2.2.2.2.1), .int (nI u.1.2.2.2.2.2.2.1), .int u.1.2.2.2.2.2.2.2])), (s0, .inl (y 1, 72, .inl (fun j9 => nI (V j9)))), (a0, .inl (y 1, 72, .inl (fun j9 => nI (u.2 j9)))), (x0, .inl (y 1, 60, .inl tx))] t.heap) (xIn [(g, .inr (7, [.ref s0, .ref a0, .ref b0, .int (nI kn), .ref x0, .int (nI L), .int (nI ta), .int (nI wr), .int (nI le), .int o1, .int o2, .int (nI po), .int (nI rs), .int ca])), (s0, .inl (y 1, 72, .inl (fun j9 => nI (V j9)))), (a0, .inl (y 1, 72, .inl (fun j9 => nI (Au j9)))), (x0, .inl (y 1, 60, .inl tx))])) 0 0 (xIn [(g, .inr (7, [.ref s0, .ref a0, .ref b0, .int (nI kn), .ref x0, .int (nI L), .int (nI ta), .int (nI wr), .int (nI le), .int o1, .int o2, .int (nI po), .int (nI rs), .int ca])), (s0, .inl (y 1, 72, .inl (fun j9 => nI (V j9)))), (a0, .inl (y 1, 72, .inl (fun j9 => nI (Au j9)))), (x0, .inl (y 1, 60, .inl tx))]) := by
  refine Met.ofW (cc := cX7_fault) (maxL := 2) (ret := (some .int)) (by decide) rfl ?_
  intro p e s m args below meth c s₁ B hml hv
  obtain ⟨rfl, hP, hK, hD0⟩ := hv
  have hx := B.exec
  have hb := B.bytes
  have hr := B.returns
  have hts := atoms_spec (ws := wsX7_fault) B.pre
  have hown : s.vm.findClass RX7 = some m.cls := findClass_of_methodNamed B.named
  have hlocks := B.notSynchronized
  have f_169 := hts (.fieldLink RX7 169 "LoomTunesModel" "reason" "I") (by decide +kernel)
  have f_172 := hts (.fieldLink RX7 172 "LoomTunesModel" "position" "I") (by decide +kernel)
  have f_181 := hts (.fieldLink RX7 181 "LoomTunesModel" "cause" "I") (by decide +kernel)
  have f_51 := hts (.constant RX7 51 (-1000001)) (by decide +kernel)
  have f_93 := hts (.constant RX7 93 (-1000004)) (by decide +kernel)
  have hin_X7 : ∀ w ∈ wsX70, w ∈ wsX7_fault := by decide +kernel
  have hD := xD_self hD0
  generalize hAe : xIn [(g, .inr (7, [.ref s0, .ref a0, .ref b0, .int (nI kn), .ref x0, .int (nI L), .int (nI ta), .int (nI wr), .int (nI le), .int o1, .int o2, .int (nI po), .int (nI rs), .int ca])), (s0, .inl (y 1, 72, .inl (fun j9 => nI (V j9)))), (a0, .inl (y 1, 72, .inl (fun j9 => nI (Au j9)))), (x0, .inl (y 1, 60, .inl tx))] = A at hD ⊢
  have hS : va_S A s.heap s.heap [] := va_S.rf
  have hP : va_P D vwCl [(g, .inr (7, [.ref s0, .ref a0, .ref b0, .int (nI kn), .ref x0, .int (nI L), .int (nI ta), .int (nI wr), .int (nI le), .int o1, .int o2, .int (nI po), .int (nI rs), .int ca])), (s0, .inl (y 1, 72, .inl (fun j9 => nI (V j9)))), (a0, .inl (y 1, 72, .inl (fun j9 => nI (Au j9)))), (x0, .inl (y 1, 60, .inl tx))] s.heap := hP
  have hl := lv_entry ([.ref g, .int w]) (n := 2) (Nat.le_of_ble_eq_true rfl)
  rw [lg_entry_eq]
  generalize (lg_sl ([.ref g, .int w]) ++ List.replicate (2 - (lg_sl ([.ref g, .int w])).length) Slot.unset).toArray = ls at hl ⊢
  have hl : lv_has ls 2 [(0, .ref g), (1, .int w)] := hl
  generalize hQe : (MQ below (va_Qi (fun r (u : (Nat × Nat × Nat × Int32 × Int32 × Nat × Nat × Int32) × (Nat → Nat)) => r = faI T L V w) (fun (u : (Nat × Nat × Nat × Int32 × Int32 × Nat × Nat × Int32) × (Nat → Nat)) t => va_P D vwCl [(g, .inr (7, [.ref s0, .ref a0, .ref b0, .int (nI kn), .ref x0, .int (nI L), .int (nI u.1.1), .int (nI u.1.2.1), .int (nI u.1.2.2.1), .int u.1.2.2.2.1, .int u.1.2.2.2.2.1, .int (nI u.1.2.2.2.2.2.1), .int (nI u.1.2.2.2.2.2.2.1), .int u.1.2.2.2.2.2.2.2])), (s0, .inl (y 1, 72, .inl (fun j9 => nI (V j9)))), (a0, .inl (y 1, 72, .inl (fun j9 => nI (u.2 j9)))), (x0, .inl (y 1, 60, .inl tx))] t.heap) A) ([.ref g, .int w] : List Value).toArray s 0 0 A) = Q
  have hblw := bN_lt (c := ¬ w < nI 0 ∧ ¬ nI 2 < w)
  refine lv_iload_n hx hb dX7_fault_0 rfl (lv_at hl 1 rfl) ?_
  refine lv_iconst (v := nI 0) hx hb dX7_fault_1 (by decide) ?_
  refine lv_iconst (v := nI 2) hx hb dX7_fault_2 (by decide) ?_
  refine xc_S (As := [.int w, .int (nI 0), .int (nI 2)]) (rest := []) ⟨hx, hb, hml, hown, hts⟩ (c_X7_in l w (nI 0) (nI 2)) (va_cwS 3 hts gX7_fault_X7_in rfl rfl rfl hd_X7_in.2 ⟨Nat.le_of_ble_eq_true rfl, Nat.le_of_ble_eq_true rfl⟩) xps_0 rfl hl.1 rfl (Nat.le_of_ble_eq_true rfl) dX7_fault_3 ⟨Nat.zero_le _, Nat.zero_le _⟩ (fun r1 hr1 => ?_)
  subst hr1
  refine xn_if_ne hx hb (by omega) (tgt := 12) dX7_fault_6 (by decide) (fun kc6 => ?_) (fun kc6 => ?_)
  · obtain ⟨kw, hkw, rfl⟩ := inR_k (n := 3) (by decide) ((inx rfl (by decide)).mp (bN_n0.mp kc6))
    refine lv_aload_n hx hb dX7_fault_12 rfl (lv_at hl 0 rfl) ?_
    have hFc := xD_in (W0 := [(g, .inr (7, [.ref s0, .ref a0, .ref b0, .int (nI kn), .ref x0, .int (nI L), .int (nI ta), .int (nI wr), .int (nI le), .int o1, .int o2, .int (nI po), .int (nI rs), .int ca])), (s0, .inl (y 1, 72, .inl (fun j9 => nI (V j9)))), (a0, .inl (y 1, 72, .inl (fun j9 => nI (Au j9)))), (x0, .inl (y 1, 60, .inl tx))]) hD [0, 1, 2, 3] rfl
    refine va_callv (va_runV (As := []) (rest := []) ⟨hx, hb, hml, hown, hts⟩ (c_X7_look l D y g s0 a0 b0 x0 kn L ta wr le o1 o2 po rs ca tx T hT V hI Au) (cwV 0 hts gX7_fault_X7_look rfl rfl rfl hd_X7_look ⟨Nat.le_of_ble_eq_true rfl, Nat.le_of_ble_eq_true rfl⟩) (xpv_w hK hP hD [0, 1, 2, 3] 0 rfl rfl rfl rfl rfl) rfl rfl hl.1 rfl (lv_room (Nat.le_of_ble_eq_true rfl)) dX7_fault_13 ⟨Nat.zero_le _, Nat.zero_le _⟩) hS (fun q _ h => hFc q h) hFc (fun u2 t H locs ht hvm hw2 hB hz1 hk1 hS1 => ?_)
    have hB : va_P D vwCl [(g, .inr (7, [.ref s0, .ref a0, .ref b0, .int (nI kn), .ref x0, .int (nI L), .int (nI u2.1), .int (nI u2.2.1), .int (nI u2.2.2.1), .int u2.2.2.2.1, .int u2.2.2.2.2.1, .int (nI u2.2.2.2.2.2.1), .int (nI u2.2.2.2.2.2.2.1), .int u2.2.2.2.2.2.2.2])), (s0, .inl (y 1, 72, .inl (fun j9 => nI (V j9)))), (a0, .inl (y 1, 72, .inl (fun j9 => nI (V j9)))), (x0, .inl (y 1, 60, .inl tx))] t.heap := hB
    rw [ht] at hB
    have hw2 : u2.2.2.2.2.2.2.1 = (goA T L V).2.2.1 ∧ (¬ u2.2.2.2.2.2.2.1 = 0 → u2.2.2.2.2.2.1 = (goA T L V).2.1 ∧ u2.2.2.2.2.2.2.2 = (goA T L V).2.2.2.1) := hw2
    have hJ := xj_join (ws2 := [(g, .inr (7, [.ref s0, .ref a0, .ref b0, .int (nI kn), .ref x0, .int (nI L), .int (nI u2.1), .int (nI u2.2.1), .int (nI u2.2.2.1), .int u2.2.2.2.1, .int u2.2.2.2.2.1, .int (nI u2.2.2.2.2.2.1), .int (nI u2.2.2.2.2.2.2.1), .int u2.2.2.2.2.2.2.2])), (s0, .inl (y 1, 72, .inl (fun j9 => nI (V j9)))), (a0, .inl (y 1, 72, .inl (fun j9 => nI (V j9)))), (x0, .inl (y 1, 60, .inl tx))]) hP hD [0, 1, 2, 3] [] rfl rfl rfl rfl rfl rfl hk1 hB
    clear hP hD hS hB hk1 hz1 hFc hvm ht
    obtain ⟨hP, hD⟩ := hJ
    have hS := hS1
    clear hS1
    have hlru2 : u2.2.2.2.2.2.2.1 ≤ 2 := by rw [hw2.1]; exact go_rs
    refine lv_aload_n hx hb dX7_fault_16 rfl (lv_at hl 0 rfl) ?_
    refine va_get (D := D) (ci := 7) (v := .int (nI u2.2.2.2.2.2.2.1)) (C := RX7) (T := TX7) (N := 14) hx hb hts hin_X7 hown hK.1 hP 0 rfl rfl 12 (by decide) f_169 (fun _ h9 => h9) rfl dX7_fault_17 ?_
    refine xn_if_ne hx hb (by omega) (tgt := 28) dX7_fault_20 (by decide) (fun kc20 => ?_) (fun kc20 => ?_)
    · refine lv_iload_n hx hb dX7_fault_28 rfl (lv_at hl 1 rfl) ?_
      refine xn_if_ne hx hb (by omega) (tgt := 39) dX7_fault_29 (by decide) (fun kc29 => ?_) (fun kc29 => ?_)
      · refine lv_iload_n hx hb dX7_fault_39 rfl (lv_at hl 1 rfl) ?_
        refine lv_iconst (v := nI 1) hx hb dX7_fault_40 (by decide) ?_
        refine xn_icmp_ne hx hb (by omega) (by omega) (tgt := 51) dX7_fault_41 (by decide) (fun kc41 => ?_) (fun kc41 => ?_)
        · refine lv_aload_n hx hb dX7_fault_51 rfl (lv_at hl 0 rfl) ?_
          refine va_get (D := D) (ci := 7) (v := .int u2.2.2.2.2.2.2.2) (C := RX7) (T := TX7) (N := 14) hx hb hts hin_X7 hown hK.1 hP 0 rfl rfl 13 (by decide) f_181 (fun _ h9 => h9) rfl dX7_fault_52 ?_
          subst hQe
          exact xw_i hx hb hr hlocks (u2, V) hS dX7_fault_55 (by have hno : ¬ (goA T L V).2.2.1 = 0 := fun q9 => kc20 (hw2.1.trans q9); rw [faI_n hkw, faN_n hno, if_neg kc29, if_neg kc41, (hw2.2 kc20).2]) (fun t ht => by rw [ht]; exact (hP))
        · refine lv_aload_n hx hb dX7_fault_44 rfl (lv_at hl 0 rfl) ?_
          refine va_get (D := D) (ci := 7) (v := .int (nI u2.2.2.2.2.2.2.1)) (C := RX7) (T := TX7) (N := 14) hx hb hts hin_X7 hown hK.1 hP 0 rfl rfl 12 (by decide) f_169 (fun _ h9 => h9) rfl dX7_fault_45 ?_
          refine lv_goto (tgt := 55) hx hb dX7_fault_48 (by decide) ?_
          subst hQe
          exact xw_i hx hb hr hlocks (u2, V) hS dX7_fault_55 (by have hno : ¬ (goA T L V).2.2.1 = 0 := fun q9 => kc20 (hw2.1.trans q9); rw [faI_n hkw, faN_n hno, if_neg kc29, if_pos kc41, hw2.1]) (fun t ht => by rw [ht]; exact (hP))
      · refine lv_aload_n hx hb dX7_fault_32 rfl (lv_at hl 0 rfl) ?_
        refine va_get (D := D) (ci := 7) (v := .int (nI u2.2.2.2.2.2.1)) (C := RX7) (T := TX7) (N := 14) hx hb hts hin_X7 hown hK.1 hP 0 rfl rfl 11 (by decide) f_172 (fun _ h9 => h9) rfl dX7_fault_33 ?_
        refine lv_goto (tgt := 55) hx hb dX7_fault_36 (by decide) ?_
        subst hQe
        exact xw_i hx hb hr hlocks (u2, V) hS dX7_fault_55 (by have hno : ¬ (goA T L V).2.2.1 = 0 := fun q9 => kc20 (hw2.1.trans q9); rw [faI_n hkw, faN_n hno, if_pos kc29, (hw2.2 kc20).1]) (fun t ht => by rw [ht]; exact (hP))
    · refine lv_ldc hx hb hown f_93 dX7_fault_23 ?_
      refine lv_goto (tgt := 55) hx hb dX7_fault_25 (by decide) ?_
      subst hQe
      exact xw_i hx hb hr hlocks (u2, V) hS dX7_fault_55 (by rw [faI_n hkw, faN_0 (hw2.1 ▸ kc20)]) (fun t ht => by rw [ht]; exact (hP))
  · refine lv_ldc hx hb hown f_51 dX7_fault_9 ?_
    subst hQe
    exact xw_i hx hb hr hlocks ((ta, wr, le, o1, o2, po, rs, ca), Au) hS dX7_fault_11 (faI_f (fun hq => (bN_0.mp kc6) ((inx rfl (by decide)).mpr hq))) (fun t ht => by rw [ht]; exact (hP))
set_option maxHeartbeats 8000000 in
set_option maxRecDepth 100000 in
theorem c_X7_play (l : Launch) (D : va_G) (y : Nat → ClassId) (g s0 a0 b0 x0 kn L ta wr le : Nat) (o1 o2 : Int32) (po rs : Nat) (ca : Int32) (tx : Nat → Int32) (T : Nat → Nat) (hT : RepT T L tx) (V : Nat → Nat) (hI : Inv V) (Bf : Nat → Nat) (Bk : Nat → Nat → Nat) (hB0 : RepB kn Bk Bf) (hk4 : kn ≤ 4) (Au : Nat → Nat) : Met l yX7_play wsX7_play ({ frames := 8, cells := 0, slots := 0, locals := 179 }) (va_Pc [.ref g] (xPw D y [(g, .inr (7, [.ref s0, .ref a0, .ref b0, .int (nI kn), .ref x0, .int (nI L), .int (nI ta), .int (nI wr), .int (nI le), .int o1, .int o2, .int (nI po), .int (nI rs), .int ca])), (s0, .inl (y 1, 72, .inl (fun j9 => nI (V j9)))), (a0, .inl (y 1, 72, .inl (fun j9 => nI (Au j9)))), (b0, .inl (y 1, 288, .inl (fun j9 => nI (Bf j9)))), (x0, .inl (y 1, 60, .inl tx))])) (va_Qi (fun r (u : (Nat × Nat × Nat × Int32 × Int32 × Nat × Nat × Int32) × (Nat → Nat)) => r = pyI T L V ∧ RepB (stN (pyI T L V) kn) (stB (pyI T L V) kn Bk V) u.2) (fun (u : (Nat × Nat × Nat × Int32 × Int32 × Nat × Nat × Int32) × (Nat → Nat)) t => va_P D vwCl [(g, .inr (7, [.ref s0, .ref a0, .ref b0, .int (nI (stN (pyI T L V) kn)), .ref x0, .int (nI L), .int (nI u.1.1), .int (nI u.1.2.1), .int (nI u.1.2.2.1), .int u.1.2.2.2.1, .int u.1.2.2.2.2.1, .int (nI u.1.2.2.2.2.2.1), .int (nI u.1.2.2.2.2.2.2.1), .int u.1.2.2.2.2.2.2.2])), (s0, .inl (y 1, 72, .inl (fun j9 => nI ((stV (pyI T L V) V (pyV T L V)) j9)))), (a0, .inl (y 1, 72, .inl (fun j9 => nI (V j9)))), (b0, .inl (y 1, 288, .inl (fun j9 => nI (u.2 j9)))), (x0, .inl (y 1, 60, .inl tx))] t.heap) (xIn [(g, .inr (7, [.ref s0, .ref a0, .ref b0, .int (nI kn), .ref x0, .int (nI L), .int (nI ta), .int (nI wr), .int (nI le), .int o1, .int o2, .int (nI po), .int (nI rs), .int ca])), (s0, .inl (y 1, 72, .inl (fun j9 => nI (V j9)))), (a0, .inl (y 1, 72, .inl (fun j9 => nI (Au j9)))), (b0, .inl (y 1, 288, .inl (fun j9 => nI (Bf j9)))), (x0, .inl (y 1, 60, .inl tx))])) 0 0 (xIn [(g, .inr (7, [.ref s0, .ref a0, .ref b0, .int (nI kn), .ref x0, .int (nI L), .int (nI ta), .int (nI wr), .int (nI le), .int o1, .int o2, .int (nI po), .int (nI rs), .int ca])), (s0, .inl (y 1, 72, .inl (fun j9 => nI (V j9)))), (a0, .inl (y 1, 72, .inl (fun j9 => nI (Au j9)))), (b0, .inl (y 1, 288, .inl (fun j9 => nI (Bf j9)))), (x0, .inl (y 1, 60, .inl tx))]) := by
  refine Met.ofW (cc := cX7_play) (maxL := 1) (ret := (some .int)) (by decide) rfl ?_
  intro p e s m args below meth c s₁ B hml hv
  obtain ⟨rfl, hP, hK, hD0⟩ := hv
  have hx := B.exec
  have hb := B.bytes
  have hr := B.returns
  have hts := atoms_spec (ws := wsX7_play) B.pre
  have hown : s.vm.findClass RX7 = some m.cls := findClass_of_methodNamed B.named
  have hlocks := B.notSynchronized
  have f_169 := hts (.fieldLink RX7 169 "LoomTunesModel" "reason" "I") (by decide +kernel)
  have f_76 := hts (.constant RX7 76 (-1000002)) (by decide +kernel)
  have hin_X7 : ∀ w ∈ wsX70, w ∈ wsX7_play := by decide +kernel
  have hD := xD_self hD0
  generalize hAe : xIn [(g, .inr (7, [.ref s0, .ref a0, .ref b0, .int (nI kn), .ref x0, .int (nI L), .int (nI ta), .int (nI wr), .int (nI le), .int o1, .int o2, .int (nI po), .int (nI rs), .int ca])), (s0, .inl (y 1, 72, .inl (fun j9 => nI (V j9)))), (a0, .inl (y 1, 72, .inl (fun j9 => nI (Au j9)))), (b0, .inl (y 1, 288, .inl (fun j9 => nI (Bf j9)))), (x0, .inl (y 1, 60, .inl tx))] = A at hD ⊢
  have hS : va_S A s.heap s.heap [] := va_S.rf
  have hP : va_P D vwCl [(g, .inr (7, [.ref s0, .ref a0, .ref b0, .int (nI kn), .ref x0, .int (nI L), .int (nI ta), .int (nI wr), .int (nI le), .int o1, .int o2, .int (nI po), .int (nI rs), .int ca])), (s0, .inl (y 1, 72, .inl (fun j9 => nI (V j9)))), (a0, .inl (y 1, 72, .inl (fun j9 => nI (Au j9)))), (b0, .inl (y 1, 288, .inl (fun j9 => nI (Bf j9)))), (x0, .inl (y 1, 60, .inl tx))] s.heap := hP
  have hl := lv_entry ([.ref g]) (n := 1) (Nat.le_of_ble_eq_true rfl)
  rw [lg_entry_eq]
  generalize (lg_sl ([.ref g]) ++ List.replicate (1 - (lg_sl ([.ref g])).length) Slot.unset).toArray = ls at hl ⊢
  have hl : lv_has ls 1 [(0, .ref g)] := hl
  generalize hQe : (MQ below (va_Qi (fun r (u : (Nat × Nat × Nat × Int32 × Int32 × Nat × Nat × Int32) × (Nat → Nat)) => r = pyI T L V ∧ RepB (stN (pyI T L V) kn) (stB (pyI T L V) kn Bk V) u.2) (fun (u : (Nat × Nat × Nat × Int32 × Int32 × Nat × Nat × Int32) × (Nat → Nat)) t => va_P D vwCl [(g, .inr (7, [.ref s0, .ref a0, .ref b0, .int (nI (stN (pyI T L V) kn)), .ref x0, .int (nI L), .int (nI u.1.1), .int (nI u.1.2.1), .int (nI u.1.2.2.1), .int u.1.2.2.2.1, .int u.1.2.2.2.2.1, .int (nI u.1.2.2.2.2.2.1), .int (nI u.1.2.2.2.2.2.2.1), .int u.1.2.2.2.2.2.2.2])), (s0, .inl (y 1, 72, .inl (fun j9 => nI ((stV (pyI T L V) V (pyV T L V)) j9)))), (a0, .inl (y 1, 72, .inl (fun j9 => nI (V j9)))), (b0, .inl (y 1, 288, .inl (fun j9 => nI (u.2 j9)))), (x0, .inl (y 1, 60, .inl tx))] t.heap) A) ([.ref g] : List Value).toArray s 0 0 A) = Q
  refine lv_aload_n hx hb dX7_play_0 rfl (lv_at hl 0 rfl) ?_
  have hFc := xD_in (W0 := [(g, .inr (7, [.ref s0, .ref a0, .ref b0, .int (nI kn), .ref x0, .int (nI L), .int (nI ta), .int (nI wr), .int (nI le), .int o1, .int o2, .int (nI po), .int (nI rs), .int ca])), (s0, .inl (y 1, 72, .inl (fun j9 => nI (V j9)))), (a0, .inl (y 1, 72, .inl (fun j9 => nI (Au j9)))), (x0, .inl (y 1, 60, .inl tx))]) hD [0, 1, 2, 4] rfl
  refine va_callv (va_runV (As := []) (rest := []) ⟨hx, hb, hml, hown, hts⟩ (c_X7_look l D y g s0 a0 b0 x0 kn L ta wr le o1 o2 po rs ca tx T hT V hI Au) (cwV 0 hts gX7_play_X7_look rfl rfl rfl hd_X7_look ⟨Nat.le_of_ble_eq_true rfl, Nat.le_of_ble_eq_true rfl⟩) (xpv_w hK hP hD [0, 1, 2, 4] 0 rfl rfl rfl rfl rfl) rfl rfl hl.1 rfl (lv_room (Nat.le_of_ble_eq_true rfl)) dX7_play_1 ⟨Nat.zero_le _, Nat.zero_le _⟩) hS (fun q _ h => hFc q h) hFc (fun u1 t H locs ht hvm hw1 hB hz1 hk1 hS1 => ?_)
  have hB : va_P D vwCl [(g, .inr (7, [.ref s0, .ref a0, .ref b0, .int (nI kn), .ref x0, .int (nI L), .int (nI u1.1), .int (nI u1.2.1), .int (nI u1.2.2.1), .int u1.2.2.2.1, .int u1.2.2.2.2.1, .int (nI u1.2.2.2.2.2.1), .int (nI u1.2.2.2.2.2.2.1), .int u1.2.2.2.2.2.2.2])), (s0, .inl (y 1, 72, .inl (fun j9 => nI (V j9)))), (a0, .inl (y 1, 72, .inl (fun j9 => nI (V j9)))), (x0, .inl (y 1, 60, .inl tx))] t.heap := hB
  rw [ht] at hB
  have hw1 : u1.2.2.2.2.2.2.1 = (goA T L V).2.2.1 ∧ (¬ u1.2.2.2.2.2.2.1 = 0 → u1.2.2.2.2.2.1 = (goA T L V).2.1 ∧ u1.2.2.2.2.2.2.2 = (goA T L V).2.2.2.1) := hw1
  have hJ := xj_join (ws2 := [(g, .inr (7, [.ref s0, .ref a0, .ref b0, .int (nI kn), .ref x0, .int (nI L), .int (nI u1.1), .int (nI u1.2.1), .int (nI u1.2.2.1), .int u1.2.2.2.1, .int u1.2.2.2.2.1, .int (nI u1.2.2.2.2.2.1), .int (nI u1.2.2.2.2.2.2.1), .int u1.2.2.2.2.2.2.2])), (s0, .inl (y 1, 72, .inl (fun j9 => nI (V j9)))), (a0, .inl (y 1, 72, .inl (fun j9 => nI (V j9)))), (b0, .inl (y 1, 288, .inl (fun j9 => nI (Bf j9)))), (x0, .inl (y 1, 60, .inl tx))]) hP hD [0, 1, 2, 4] [3] rfl rfl rfl rfl rfl rfl hk1 hB
  clear hP hD hS hB hk1 hz1 hFc hvm ht
  obtain ⟨hP, hD⟩ := hJ
  have hS := hS1
  clear hS1
  have hlru1 : u1.2.2.2.2.2.2.1 ≤ 2 := by rw [hw1.1]; exact go_rs
  refine lv_aload_n hx hb dX7_play_4 rfl (lv_at hl 0 rfl) ?_
  refine va_get (D := D) (ci := 7) (v := .int (nI u1.2.2.2.2.2.2.1)) (C := RX7) (T := TX7) (N := 14) hx hb hts hin_X7 hown hK.1 hP 0 rfl rfl 12 (by decide) f_169 (fun _ h9 => h9) rfl dX7_play_5 ?_
  refine xn_if_le hx hb (by omega) (tgt := 14) dX7_play_8 (by decide) (fun kc8 => ?_) (fun kc8 => ?_)
  · refine lv_aload_n hx hb dX7_play_14 rfl (lv_at hl 0 rfl) ?_
    have hFc := xD_in (W0 := [(g, .inr (7, [.ref s0, .ref a0, .ref b0, .int (nI kn), .ref x0, .int (nI L), .int (nI u1.1), .int (nI u1.2.1), .int (nI u1.2.2.1), .int u1.2.2.2.1, .int u1.2.2.2.2.1, .int (nI u1.2.2.2.2.2.1), .int (nI u1.2.2.2.2.2.2.1), .int u1.2.2.2.2.2.2.2])), (s0, .inl (y 1, 72, .inl (fun j9 => nI (V j9)))), (b0, .inl (y 1, 288, .inl (fun j9 => nI (Bf j9))))]) hD [0, 1, 3] rfl
    refine va_callv (va_runV (As := []) (rest := []) ⟨hx, hb, hml, hown, hts⟩ (c_X7_know l D y g s0 a0 b0 x0 kn L u1.1 u1.2.1 u1.2.2.1 u1.2.2.2.1 u1.2.2.2.2.1 u1.2.2.2.2.2.1 u1.2.2.2.2.2.2.1 u1.2.2.2.2.2.2.2 V Bf Bk hB0 hk4) (cwV 0 hts gX7_play_X7_know rfl rfl rfl hd_X7_know ⟨Nat.le_of_ble_eq_true rfl, Nat.le_of_ble_eq_true rfl⟩) (xpv_w hK hP hD [0, 1, 3] 0 rfl rfl rfl rfl rfl) rfl rfl hl.1 rfl (lv_room (Nat.le_of_ble_eq_true rfl)) dX7_play_15 ⟨Nat.zero_le _, Nat.zero_le _⟩) hS (fun q _ h => hFc q h) hFc (fun u2 t H locs ht hvm hw2 hB hz1 hk1 hS1 => ?_)
    have hB : va_P D vwCl [(g, .inr (7, [.ref s0, .ref a0, .ref b0, .int (nI (kpN kn)), .ref x0, .int (nI L), .int (nI u1.1), .int (nI u1.2.1), .int (nI u1.2.2.1), .int u1.2.2.2.1, .int u1.2.2.2.2.1, .int (nI u1.2.2.2.2.2.1), .int (nI u1.2.2.2.2.2.2.1), .int u1.2.2.2.2.2.2.2])), (s0, .inl (y 1, 72, .inl (fun j9 => nI (V j9)))), (b0, .inl (y 1, 288, .inl (fun j9 => nI (u2 j9))))] t.heap := hB
    rw [ht] at hB
    have hw2 : RepB (kpN kn) (knB kn Bk V) u2 := hw2
    have hJ := xj_join (ws2 := [(g, .inr (7, [.ref s0, .ref a0, .ref b0, .int (nI (kpN kn)), .ref x0, .int (nI L), .int (nI u1.1), .int (nI u1.2.1), .int (nI u1.2.2.1), .int u1.2.2.2.1, .int u1.2.2.2.2.1, .int (nI u1.2.2.2.2.2.1), .int (nI u1.2.2.2.2.2.2.1), .int u1.2.2.2.2.2.2.2])), (s0, .inl (y 1, 72, .inl (fun j9 => nI (V j9)))), (a0, .inl (y 1, 72, .inl (fun j9 => nI (V j9)))), (b0, .inl (y 1, 288, .inl (fun j9 => nI (u2 j9)))), (x0, .inl (y 1, 60, .inl tx))]) hP hD [0, 1, 3] [2, 4] rfl rfl rfl rfl rfl rfl hk1 hB
    clear hP hD hS hB hk1 hz1 hFc hvm ht
    obtain ⟨hP, hD⟩ := hJ
    have hS := hS1
    clear hS1
    refine lv_aload_n hx hb dX7_play_18 rfl (lv_at hl 0 rfl) ?_
    have hFc := xD_in (W0 := [(g, .inr (7, [.ref s0, .ref a0, .ref b0, .int (nI (kpN kn)), .ref x0, .int (nI L), .int (nI u1.1), .int (nI u1.2.1), .int (nI u1.2.2.1), .int u1.2.2.2.1, .int u1.2.2.2.2.1, .int (nI u1.2.2.2.2.2.1), .int (nI u1.2.2.2.2.2.2.1), .int u1.2.2.2.2.2.2.2])), (s0, .inl (y 1, 72, .inl (fun j9 => nI (V j9)))), (x0, .inl (y 1, 60, .inl tx))]) hD [0, 1, 4] rfl
    refine va_calli (va_runV (As := []) (rest := []) ⟨hx, hb, hml, hown, hts⟩ (c_X7_go l D y g s0 a0 b0 x0 (kpN kn) L u1.1 u1.2.1 u1.2.2.1 u1.2.2.2.1 u1.2.2.2.2.1 u1.2.2.2.2.2.1 u1.2.2.2.2.2.2.1 u1.2.2.2.2.2.2.2 tx T hT V hI) (cwV 0 hts gX7_play_X7_go rfl rfl rfl hd_X7_go ⟨Nat.le_of_ble_eq_true rfl, Nat.le_of_ble_eq_true rfl⟩) (xpv_w hK hP hD [0, 1, 4] 0 rfl rfl rfl rfl rfl) rfl rfl hl.1 rfl (lv_room (Nat.le_of_ble_eq_true rfl)) dX7_play_19 ⟨Nat.zero_le _, Nat.zero_le _⟩) hS (fun q _ h => hFc q h) hFc (fun r3 u3 t H locs ht hvm hw3 hB hz1 hk1 hS1 => ?_)
    have hB : va_P D vwCl [(g, .inr (7, [.ref s0, .ref a0, .ref b0, .int (nI (kpN kn)), .ref x0, .int (nI L), .int (nI u3.1), .int (nI u3.2.1), .int (nI u3.2.2.1), .int u3.2.2.2.1, .int u3.2.2.2.2.1, .int (nI u3.2.2.2.2.2.1), .int (nI u3.2.2.2.2.2.2.1), .int u3.2.2.2.2.2.2.2.1])), (s0, .inl (y 1, 72, .inl (fun j9 => nI ((u3.2.2.2.2.2.2.2.2) j9)))), (x0, .inl (y 1, 60, .inl tx))] t.heap := hB
    rw [ht] at hB
    have hw3 : u3.2.2.2.2.2.2.1 = (goA T L V).2.2.1 ∧ (u3.2.2.2.2.2.2.1 = 0 → r3 = nI (goA T L V).1) ∧ (¬ u3.2.2.2.2.2.2.1 = 0 → u3.2.2.2.2.2.1 = (goA T L V).2.1 ∧ u3.2.2.2.2.2.2.2.1 = (goA T L V).2.2.2.1) ∧ u3.2.2.2.2.2.2.2.2 = (goA T L V).2.2.2.2 := hw3
    have hJ := xj_join (ws2 := [(g, .inr (7, [.ref s0, .ref a0, .ref b0, .int (nI (kpN kn)), .ref x0, .int (nI L), .int (nI u3.1), .int (nI u3.2.1), .int (nI u3.2.2.1), .int u3.2.2.2.1, .int u3.2.2.2.2.1, .int (nI u3.2.2.2.2.2.1), .int (nI u3.2.2.2.2.2.2.1), .int u3.2.2.2.2.2.2.2.1])), (s0, .inl (y 1, 72, .inl (fun j9 => nI ((u3.2.2.2.2.2.2.2.2) j9)))), (a0, .inl (y 1, 72, .inl (fun j9 => nI (V j9)))), (b0, .inl (y 1, 288, .inl (fun j9 => nI (u2 j9)))), (x0, .inl (y 1, 60, .inl tx))]) hP hD [0, 1, 4] [2, 3] rfl rfl rfl rfl rfl rfl hk1 hB
    clear hP hD hS hB hk1 hz1 hFc hvm ht
    obtain ⟨hP, hD⟩ := hJ
    have hS := hS1
    clear hS1
    have hok : (goA T L V).2.2.1 = 0 := hw1.1 ▸ kc8
    have hxv : ¬ pyI T L V < 0 := by rw [py_t hok]; exact nI_pos go_lt
    have hgr := hw3
    subst hQe
    exact xw_i hx hb hr hlocks ((u3.1, u3.2.1, u3.2.2.1, u3.2.2.2.1, u3.2.2.2.2.1, u3.2.2.2.2.2.1, u3.2.2.2.2.2.2.1, u3.2.2.2.2.2.2.2.1), u2) hS dX7_play_22 (⟨(hgr.2.1 (hgr.1.trans hok)).trans (py_t hok).symm, by rw [stN_p hxv, stB_p hxv]; exact hw2⟩) (fun t ht => by rw [ht]; exact (by rw [stV_p hxv, stN_p hxv, show pyV T L V = u3.2.2.2.2.2.2.2.2 from hgr.2.2.2.symm]; exact hP))
  · refine lv_ldc hx hb hown f_76 dX7_play_11 ?_
    have hno : ¬ (goA T L V).2.2.1 = 0 := fun q9 => kc8 (hw1.1.trans q9)
    have hxv := py_lt hno
    subst hQe
    exact xw_i hx hb hr hlocks (u1, Bf) hS dX7_play_13 (⟨(py_f hno).symm, by rw [stN_n hxv, stB_n hxv]; exact hB0⟩) (fun t ht => by rw [ht]; exact (by rw [stV_n hxv, stN_n hxv]; exact hP))
