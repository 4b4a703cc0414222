set_option maxHeartbeats 8000000 in
set_option maxRecDepth 100000 in
theorem c_X4_append (l : Launch) (D : va_G) (y : Nat → ClassId) (a b : Nat) (sg : Nat → Int32) (T : Nat → Nat) (L : Nat) (hT : RepT T L sg) (np kd : Nat) (f1 f2 : Int32) (od fp fr : Nat) (fc : Int32) (x : Int32) : Met l yX4_append wsX4_append ({ frames := 0, cells := 0, slots := 0, locals := 0 }) (va_Pc [.ref a, .int x] (xPw D y [(a, .inr (4, [.ref b, .int (nI L), .int (nI np), .int (nI kd), .int f1, .int f2, .int (nI od), .int (nI fp), .int (nI fr), .int fc])), (b, .inl (y 0, 60, .inl sg))])) (va_Qi (fun r (u : Nat → Int32) => r = tyI L x ∧ RepT (tyT T L x) (tyL L x) u) (fun (u : Nat → Int32) t => va_P D vwCl [(a, .inr (4, [.ref b, .int (nI (tyL L x)), .int (nI np), .int (nI kd), .int f1, .int f2, .int (nI od), .int (nI fp), .int (nI fr), .int fc])), (b, .inl (y 0, 60, .inl u))] t.heap) (xIn [(a, .inr (4, [.ref b, .int (nI L), .int (nI np), .int (nI kd), .int f1, .int f2, .int (nI od), .int (nI fp), .int (nI fr), .int fc])), (b, .inl (y 0, 60, .inl sg))])) 0 0 (xIn [(a, .inr (4, [.ref b, .int (nI L), .int (nI np), .int (nI kd), .int f1, .int f2, .int (nI od), .int (nI fp), .int (nI fr), .int fc])), (b, .inl (y 0, 60, .inl sg))]) := by
  refine Met.ofW (cc := cX4_append) (maxL := 2) (ret := (some .int)) (by decide) rfl ?_
  intro p e s m args below meth c s₁ B hml hv
  obtain ⟨rfl, hP, hK, hD0⟩ := hv
  have hx := B.exec
  have hb := B.bytes
  have hr := B.returns
  have hts := atoms_spec (ws := wsX4_append) B.pre
  have hown : s.vm.findClass RX4 = some m.cls := findClass_of_methodNamed B.named
  have hlocks := B.notSynchronized
  have f_15 := hts (.fieldLink RX4 15 "LoomTunes$Script" "length" "I") (by decide +kernel)
  have f_19 := hts (.constant RX4 19 (-1000001)) (by decide +kernel)
  have f_20 := hts (.constant RX4 20 (-1000003)) (by decide +kernel)
  have f_9 := hts (.fieldLink RX4 9 "LoomTunes$Script" "signs" "[C") (by decide +kernel)
  have hin_X4 : ∀ w ∈ wsX40, w ∈ wsX4_append := by decide +kernel
  have hD := xD_self hD0
  generalize hAe : xIn [(a, .inr (4, [.ref b, .int (nI L), .int (nI np), .int (nI kd), .int f1, .int f2, .int (nI od), .int (nI fp), .int (nI fr), .int fc])), (b, .inl (y 0, 60, .inl sg))] = A at hD ⊢
  have hS : va_S A s.heap s.heap [] := va_S.rf
  have hP : va_P D vwCl [(a, .inr (4, [.ref b, .int (nI L), .int (nI np), .int (nI kd), .int f1, .int f2, .int (nI od), .int (nI fp), .int (nI fr), .int fc])), (b, .inl (y 0, 60, .inl sg))] s.heap := hP
  have hl := lv_entry ([.ref a, .int x]) (n := 2) (Nat.le_of_ble_eq_true rfl)
  rw [lg_entry_eq]
  generalize (lg_sl ([.ref a, .int x]) ++ List.replicate (2 - (lg_sl ([.ref a, .int x])).length) Slot.unset).toArray = ls at hl ⊢
  have hl : lv_has ls 2 [(0, .ref a), (1, .int x)] := hl
  generalize hQe : (MQ below (va_Qi (fun r (u : Nat → Int32) => r = tyI L x ∧ RepT (tyT T L x) (tyL L x) u) (fun (u : Nat → Int32) t => va_P D vwCl [(a, .inr (4, [.ref b, .int (nI (tyL L x)), .int (nI np), .int (nI kd), .int f1, .int f2, .int (nI od), .int (nI fp), .int (nI fr), .int fc])), (b, .inl (y 0, 60, .inl u))] t.heap) A) ([.ref a, .int x] : List Value).toArray s 0 0 A) = Q
  have hL := hT.1
  refine lv_iload_n hx hb dX4_append_0 rfl (lv_at hl 1 rfl) ?_
  refine lv_bipush (v := nI 32) hx hb dX4_append_1 (by decide) ?_
  refine lv_icmp_lt (tgt := 12) hx hb dX4_append_3 (by decide) (fun kc3 => ?_) (fun kc3 => ?_)
  · refine lv_ldc hx hb hown f_19 dX4_append_12 ?_
    have ef := ty_1 (T := T) (L := L) (x := x) (by first | exact fun hq => hq.1 kc3 | exact fun hq => kc9 hq.2)
    subst hQe
    exact xw_i hx hb hr hlocks sg hS dX4_append_14 (⟨ef.1.symm, by rw [ef.2.1, ef.2.2]; exact hT⟩) (fun t ht => by rw [ht]; exact (by rw [ef.2.1]; exact hP))
  · refine lv_iload_n hx hb dX4_append_6 rfl (lv_at hl 1 rfl) ?_
    refine lv_bipush (v := nI 126) hx hb dX4_append_7 (by decide) ?_
    refine lv_icmp_le (tgt := 15) hx hb dX4_append_9 (by decide) (fun kc9 => ?_) (fun kc9 => ?_)
    · have hty : tyO x := ⟨kc3, kc9⟩
      refine lv_aload_n hx hb dX4_append_15 rfl (lv_at hl 0 rfl) ?_
      refine va_get (D := D) (ci := 4) (v := .int (nI L)) (C := RX4) (T := TX4) (N := 10) hx hb hts hin_X4 hown hK.1 hP 0 rfl rfl 1 (by decide) f_15 (fun _ h9 => h9) rfl dX4_append_16 ?_
      refine xn_if_lt hx hb (by omega) (tgt := 34) dX4_append_19 (by decide) ?_
      refine lv_aload_n hx hb dX4_append_22 rfl (lv_at hl 0 rfl) ?_
      refine va_get (D := D) (ci := 4) (v := .int (nI L)) (C := RX4) (T := TX4) (N := 10) hx hb hts hin_X4 hown hK.1 hP 0 rfl rfl 1 (by decide) f_15 (fun _ h9 => h9) rfl dX4_append_23 ?_
      refine lv_aload_n hx hb dX4_append_26 rfl (lv_at hl 0 rfl) ?_
      refine va_get (D := D) (ci := 4) (v := .ref b) (C := RX4) (T := TX4) (N := 10) hx hb hts hin_X4 hown hK.1 hP 0 rfl rfl 0 (by decide) f_9 (fun _ h9 => h9) rfl dX4_append_27 ?_
      refine xn_alen hx hb hK hP 1 0 rfl rfl rfl dX4_append_30 ?_
      refine xn_icmp_lt hx hb (by omega) (by omega) (tgt := 37) dX4_append_31 (by decide) (fun kc31 => ?_) (fun kc31 => ?_)
      · obtain ⟨k, hk, hk2, rfl⟩ := ty_k hty
        have e3 := ty_3 (T := T) hty hk2 kc31
        refine lv_aload_n hx hb dX4_append_37 rfl (lv_at hl 0 rfl) ?_
        refine va_get (D := D) (ci := 4) (v := .ref b) (C := RX4) (T := TX4) (N := 10) hx hb hts hin_X4 hown hK.1 hP 0 rfl rfl 0 (by decide) f_9 (fun _ h9 => h9) rfl dX4_append_38 ?_
        refine lv_aload_n hx hb dX4_append_41 rfl (lv_at hl 0 rfl) ?_
        refine va_get (D := D) (ci := 4) (v := .int (nI L)) (C := RX4) (T := TX4) (N := 10) hx hb hts hin_X4 hown hK.1 hP 0 rfl rfl 1 (by decide) f_15 (fun _ h9 => h9) rfl dX4_append_42 ?_
        refine lv_iload_n hx hb dX4_append_45 rfl (lv_at hl 1 rfl) ?_
        refine lv_i2c hx hb dX4_append_46 (v := nI k) (xi_i2c (by omega)) ?_
        refine xn_cast hx hb hK hP hD hS 1 (g := upd sg L (nI k)) (by omega) rfl (by omega) (by first | decide | omega) rfl dX4_append_47 (fun H locs hP1 hD1 hS1 => ?_)
        clear hP hD hS
        have hP : va_P D vwCl [(a, .inr (4, [.ref b, .int (nI L), .int (nI np), .int (nI kd), .int f1, .int f2, .int (nI od), .int (nI fp), .int (nI fr), .int fc])), (b, .inl (y 0, 60, .inl (upd sg L (nI k))))] H := hP1
        have hD : va_D A [(a, .inr (4, [.ref b, .int (nI L), .int (nI np), .int (nI kd), .int f1, .int f2, .int (nI od), .int (nI fp), .int (nI fr), .int fc])), (b, .inl (y 0, 60, .inl (upd sg L (nI k))))] := hD1
        have hS := hS1
        clear hP1 hD1 hS1
        refine lv_aload_n hx hb dX4_append_48 rfl (lv_at hl 0 rfl) ?_
        refine lv_dup hx hb dX4_append_49 rfl ?_
        refine va_get (D := D) (ci := 4) (v := .int (nI L)) (C := RX4) (T := TX4) (N := 10) hx hb hts hin_X4 hown hK.1 hP 0 rfl rfl 1 (by decide) f_15 (fun _ h9 => h9) rfl dX4_append_50 ?_
        refine lv_iconst (v := nI 1) hx hb dX4_append_53 (by decide) ?_
        refine xn_add hx hb (r := (L + 1)) rfl dX4_append_54 ?_
        refine va_put (D := D) (ci := 4) (v := .int (nI (L + 1))) (ty := .int) (C := RX4) (T := TX4) (N := 10) hx hb hts hin_X4 tyX4 tyX4_ok nmX4 hown hK.1 hP hD hS 0 rfl rfl 1 (by decide) f_15 (fun _ h9 => h9) rfl (by decide +kernel) rfl rfl (Nat.le_of_ble_eq_true rfl) dX4_append_55 (fun H locs hP1 hD1 hS1 => ?_)
        clear hP hD hS
        have hP : va_P D vwCl [(a, .inr (4, [.ref b, .int (nI (L + 1)), .int (nI np), .int (nI kd), .int f1, .int f2, .int (nI od), .int (nI fp), .int (nI fr), .int fc])), (b, .inl (y 0, 60, .inl (upd sg L (nI k))))] H := hP1
        have hD : va_D A [(a, .inr (4, [.ref b, .int (nI (L + 1)), .int (nI np), .int (nI kd), .int f1, .int f2, .int (nI od), .int (nI fp), .int (nI fr), .int fc])), (b, .inl (y 0, 60, .inl (upd sg L (nI k))))] := hD1
        have hS := hS1
        clear hP1 hD1 hS1
        refine lv_aload_n hx hb dX4_append_58 rfl (lv_at hl 0 rfl) ?_
        refine va_get (D := D) (ci := 4) (v := .int (nI (L + 1))) (C := RX4) (T := TX4) (N := 10) hx hb hts hin_X4 hown hK.1 hP 0 rfl rfl 1 (by decide) f_15 (fun _ h9 => h9) rfl dX4_append_59 ?_
        subst hQe
        exact xw_i hx hb hr hlocks (upd sg L (nI k)) hS dX4_append_62 (⟨e3.1.symm, by rw [e3.2.1, e3.2.2]; exact ty_rep hT hk hk2 kc31⟩) (fun t ht => by rw [ht]; exact (by rw [e3.2.1]; exact hP))
      · refine lv_ldc hx hb hown f_20 dX4_append_34 ?_
        have ef := ty_2 (T := T) (L := L) (x := x) hty (Nat.not_lt.mpr kc31)
        subst hQe
        exact xw_i hx hb hr hlocks sg hS dX4_append_36 (⟨ef.1.symm, by rw [ef.2.1, ef.2.2]; exact hT⟩) (fun t ht => by rw [ht]; exact (by rw [ef.2.1]; exact hP))
    · refine lv_ldc hx hb hown f_19 dX4_append_12 ?_
      have ef := ty_1 (T := T) (L := L) (x := x) (by first | exact fun hq => hq.1 kc3 | exact fun hq => kc9 hq.2)
      subst hQe
      exact xw_i hx hb hr hlocks sg hS dX4_append_14 (⟨ef.1.symm, by rw [ef.2.1, ef.2.2]; exact hT⟩) (fun t ht => by rw [ht]; exact (by rw [ef.2.1]; exact hP))
set_option maxHeartbeats 8000000 in
set_option maxRecDepth 100000 in
theorem c_X6_type (l : Launch) (D : va_G) (y : Nat → ClassId) (g : Nat) (tt : Nat → Nat) (gr gt gc sa : Nat) (h : Nat → Nat) (a : Nat) (sb : Nat) (sg : Nat → Int32) (T : Nat → Nat) (L : Nat) (hT : RepT T L sg) (np kd : Nat) (f1 f2 : Int32) (od fp fr : Nat) (fc : Int32) (x : Int32) : Met l yX6_type wsX6_type ({ frames := 1, cells := 0, slots := 0, locals := 21 }) (va_Pc [.ref g, .int x] (xPw D y [(g, .inr (6, [.ref (h 0), .ref (tt 0), .ref a, .ref gr, .ref gt, .ref gc, .ref sa])), (sa, .inr (4, [.ref sb, .int (nI L), .int (nI np), .int (nI kd), .int f1, .int f2, .int (nI od), .int (nI fp), .int (nI fr), .int fc])), (sb, .inl (y 0, 60, .inl sg))])) (va_Qi (fun r (u : Nat → Int32) => r = tyI L x ∧ RepT (tyT T L x) (tyL L x) u) (fun (u : Nat → Int32) t => va_P D vwCl [(g, .inr (6, [.ref (h 0), .ref (tt 0), .ref a, .ref gr, .ref gt, .ref gc, .ref sa])), (sa, .inr (4, [.ref sb, .int (nI (tyL L x)), .int (nI np), .int (nI kd), .int f1, .int f2, .int (nI od), .int (nI fp), .int (nI fr), .int fc])), (sb, .inl (y 0, 60, .inl u))] t.heap) (xIn [(g, .inr (6, [.ref (h 0), .ref (tt 0), .ref a, .ref gr, .ref gt, .ref gc, .ref sa])), (sa, .inr (4, [.ref sb, .int (nI L), .int (nI np), .int (nI kd), .int f1, .int f2, .int (nI od), .int (nI fp), .int (nI fr), .int fc])), (sb, .inl (y 0, 60, .inl sg))])) 0 0 (xIn [(g, .inr (6, [.ref (h 0), .ref (tt 0), .ref a, .ref gr, .ref gt, .ref gc, .ref sa])), (sa, .inr (4, [.ref sb, .int (nI L), .int (nI np), .int (nI kd), .int f1, .int f2, .int (nI od), .int (nI fp), .int (nI fr), .int fc])), (sb, .inl (y 0, 60, .inl sg))]) := by
  refine Met.ofW (cc := cX6_type) (maxL := 2) (ret := (some .int)) (by decide) rfl ?_
  intro p e s m args below meth c s₁ B hml hv
  obtain ⟨rfl, hP, hK, hD0⟩ := hv
  have hx := B.exec
  have hb := B.bytes
  have hr := B.returns
  have hts := atoms_spec (ws := wsX6_type) B.pre
  have hown : s.vm.findClass RX6 = some m.cls := findClass_of_methodNamed B.named
  have hlocks := B.notSynchronized
  have f_52 := hts (.fieldLink RX6 52 "LoomTunes" "script" "LLoomTunes$Script;") (by decide +kernel)
  have hin_X6 : ∀ w ∈ wsX60, w ∈ wsX6_type := by decide +kernel
  have hD := xD_self hD0
  generalize hAe : xIn [(g, .inr (6, [.ref (h 0), .ref (tt 0), .ref a, .ref gr, .ref gt, .ref gc, .ref sa])), (sa, .inr (4, [.ref sb, .int (nI L), .int (nI np), .int (nI kd), .int f1, .int f2, .int (nI od), .int (nI fp), .int (nI fr), .int fc])), (sb, .inl (y 0, 60, .inl sg))] = A at hD ⊢
  have hS : va_S A s.heap s.heap [] := va_S.rf
  have hP : va_P D vwCl [(g, .inr (6, [.ref (h 0), .ref (tt 0), .ref a, .ref gr, .ref gt, .ref gc, .ref sa])), (sa, .inr (4, [.ref sb, .int (nI L), .int (nI np), .int (nI kd), .int f1, .int f2, .int (nI od), .int (nI fp), .int (nI fr), .int fc])), (sb, .inl (y 0, 60, .inl sg))] s.heap := hP
  have hl := lv_entry ([.ref g, .int x]) (n := 2) (Nat.le_of_ble_eq_true rfl)
  rw [lg_entry_eq]
  generalize (lg_sl ([.ref g, .int x]) ++ List.replicate (2 - (lg_sl ([.ref g, .int x])).length) Slot.unset).toArray = ls at hl ⊢
  have hl : lv_has ls 2 [(0, .ref g), (1, .int x)] := hl
  generalize hQe : (MQ below (va_Qi (fun r (u : Nat → Int32) => r = tyI L x ∧ RepT (tyT T L x) (tyL L x) u) (fun (u : Nat → Int32) t => va_P D vwCl [(g, .inr (6, [.ref (h 0), .ref (tt 0), .ref a, .ref gr, .ref gt, .ref gc, .ref sa])), (sa, .inr (4, [.ref sb, .int (nI (tyL L x)), .int (nI np), .int (nI kd), .int f1, .int f2, .int (nI od), .int (nI fp), .int (nI fr), .int fc])), (sb, .inl (y 0, 60, .inl u))] t.heap) A) ([.ref g, .int x] : List Value).toArray s 0 0 A) = Q
  refine lv_aload_n hx hb dX6_type_0 rfl (lv_at hl 0 rfl) ?_
  refine va_get (D := D) (ci := 6) (v := .ref sa) (C := RX6) (T := TX6) (N := 7) hx hb hts hin_X6 hown hK.1 hP 0 rfl rfl 6 (by decide) f_52 (fun _ h9 => h9) rfl dX6_type_1 ?_
  refine lv_iload_n hx hb dX6_type_4 rfl (lv_at hl 1 rfl) ?_
  have hFc := xD_in (W0 := [(sa, .inr (4, [.ref sb, .int (nI L), .int (nI np), .int (nI kd), .int f1, .int f2, .int (nI od), .int (nI fp), .int (nI fr), .int fc])), (sb, .inl (y 0, 60, .inl sg))]) hD [1, 2] rfl
  refine va_calli (va_runV (As := [.int x]) (rest := []) ⟨hx, hb, hml, hown, hts⟩ (c_X4_append l D y sa sb sg T L hT np kd f1 f2 od fp fr fc x) (cwV 1 hts gX6_type_X4_append rfl rfl rfl hd_X4_append ⟨Nat.le_of_ble_eq_true rfl, Nat.le_of_ble_eq_true rfl⟩) (xpv_w hK hP hD [1, 2] 1 rfl rfl rfl rfl rfl) rfl rfl hl.1 rfl (lv_room (Nat.le_of_ble_eq_true rfl)) dX6_type_5 ⟨Nat.zero_le _, Nat.zero_le _⟩) hS (fun q _ h => hFc q h) hFc (fun r1 u1 t H locs ht hvm hw1 hB hz1 hk1 hS1 => ?_)
  have hB : va_P D vwCl [(sa, .inr (4, [.ref sb, .int (nI (tyL L x)), .int (nI np), .int (nI kd), .int f1, .int f2, .int (nI od), .int (nI fp), .int (nI fr), .int fc])), (sb, .inl (y 0, 60, .inl u1))] t.heap := hB
  rw [ht] at hB
  have hw1 : r1 = tyI L x ∧ RepT (tyT T L x) (tyL L x) u1 := hw1
  have hJ := xj_join (ws2 := [(g, .inr (6, [.ref (h 0), .ref (tt 0), .ref a, .ref gr, .ref gt, .ref gc, .ref sa])), (sa, .inr (4, [.ref sb, .int (nI (tyL L x)), .int (nI np), .int (nI kd), .int f1, .int f2, .int (nI od), .int (nI fp), .int (nI fr), .int fc])), (sb, .inl (y 0, 60, .inl u1))]) hP hD [1, 2] [0] rfl rfl rfl rfl rfl rfl hk1 hB
  clear hP hD hS hB hk1 hz1 hFc hvm ht
  obtain ⟨hP, hD⟩ := hJ
  have hS := hS1
  clear hS1
  obtain ⟨hr1, hTu1⟩ := hw1
  subst hr1
  subst hQe
  exact xw_i hx hb hr hlocks u1 hS dX6_type_8 (⟨rfl, hTu1⟩) (fun t ht => by rw [ht]; exact (hP))
set_option maxHeartbeats 8000000 in
set_option maxRecDepth 100000 in
theorem c_X6_clearText (l : Launch) (D : va_G) (y : Nat → ClassId) (g : Nat) (tt : Nat → Nat) (gr gt gc sa : Nat) (h : Nat → Nat) (a : Nat) (sb : Nat) (sg : Nat → Int32) (L : Nat) (np kd : Nat) (f1 f2 : Int32) (od fp fr : Nat) (fc : Int32) : Met l yX6_clearText wsX6_clearText ({ frames := 1, cells := 0, slots := 0, locals := 21 }) (va_Pc [.ref g] (xPw D y [(g, .inr (6, [.ref (h 0), .ref (tt 0), .ref a, .ref gr, .ref gt, .ref gc, .ref sa])), (sa, .inr (4, [.ref sb, .int (nI L), .int (nI np), .int (nI kd), .int f1, .int f2, .int (nI od), .int (nI fp), .int (nI fr), .int fc])), (sb, .inl (y 0, 60, .inl sg))])) (va_Qi (fun r (u : Unit) => r = nI L) (fun (u : Unit) t => va_P D vwCl [(g, .inr (6, [.ref (h 0), .ref (tt 0), .ref a, .ref gr, .ref gt, .ref gc, .ref sa])), (sa, .inr (4, [.ref sb, .int (nI 0), .int (nI np), .int (nI kd), .int f1, .int f2, .int (nI od), .int (nI fp), .int (nI fr), .int fc])), (sb, .inl (y 0, 60, .inl sg))] t.heap) (xIn [(g, .inr (6, [.ref (h 0), .ref (tt 0), .ref a, .ref gr, .ref gt, .ref gc, .ref sa])), (sa, .inr (4, [.ref sb, .int (nI L), .int (nI np), .int (nI kd), .int f1, .int f2, .int (nI od), .int (nI fp), .int (nI fr), .int fc])), (sb, .inl (y 0, 60, .inl sg))])) 0 0 (xIn [(g, .inr (6, [.ref (h 0), .ref (tt 0), .ref a, .ref gr, .ref gt, .ref gc, .ref sa])), (sa, .inr (4, [.ref sb, .int (nI L), .int (nI np), .int (nI kd), .int f1, .int f2, .int (nI od), .int (nI fp), .int (nI fr), .int fc])), (sb, .inl (y 0, 60, .inl sg))]) := by
  refine Met.ofW (cc := cX6_clearText) (maxL := 1) (ret := (some .int)) (by decide) rfl ?_
  intro p e s m args below meth c s₁ B hml hv
  obtain ⟨rfl, hP, hK, hD0⟩ := hv
  have hx := B.exec
  have hb := B.bytes
  have hr := B.returns
  have hts := atoms_spec (ws := wsX6_clearText) B.pre
  have hown : s.vm.findClass RX6 = some m.cls := findClass_of_methodNamed B.named
  have hlocks := B.notSynchronized
  have f_52 := hts (.fieldLink RX6 52 "LoomTunes" "script" "LLoomTunes$Script;") (by decide +kernel)
  have hin_X6 : ∀ w ∈ wsX60, w ∈ wsX6_clearText := by decide +kernel
  have hD := xD_self hD0
  generalize hAe : xIn [(g, .inr (6, [.ref (h 0), .ref (tt 0), .ref a, .ref gr, .ref gt, .ref gc, .ref sa])), (sa, .inr (4, [.ref sb, .int (nI L), .int (nI np), .int (nI kd), .int f1, .int f2, .int (nI od), .int (nI fp), .int (nI fr), .int fc])), (sb, .inl (y 0, 60, .inl sg))] = A at hD ⊢
  have hS : va_S A s.heap s.heap [] := va_S.rf
  have hP : va_P D vwCl [(g, .inr (6, [.ref (h 0), .ref (tt 0), .ref a, .ref gr, .ref gt, .ref gc, .ref sa])), (sa, .inr (4, [.ref sb, .int (nI L), .int (nI np), .int (nI kd), .int f1, .int f2, .int (nI od), .int (nI fp), .int (nI fr), .int fc])), (sb, .inl (y 0, 60, .inl sg))] s.heap := hP
  have hl := lv_entry ([.ref g]) (n := 1) (Nat.le_of_ble_eq_true rfl)
  rw [lg_entry_eq]
  generalize (lg_sl ([.ref g]) ++ List.replicate (1 - (lg_sl ([.ref g])).length) Slot.unset).toArray = ls at hl ⊢
  have hl : lv_has ls 1 [(0, .ref g)] := hl
  generalize hQe : (MQ below (va_Qi (fun r (u : Unit) => r = nI L) (fun (u : Unit) t => va_P D vwCl [(g, .inr (6, [.ref (h 0), .ref (tt 0), .ref a, .ref gr, .ref gt, .ref gc, .ref sa])), (sa, .inr (4, [.ref sb, .int (nI 0), .int (nI np), .int (nI kd), .int f1, .int f2, .int (nI od), .int (nI fp), .int (nI fr), .int fc])), (sb, .inl (y 0, 60, .inl sg))] t.heap) A) ([.ref g] : List Value).toArray s 0 0 A) = Q
  refine lv_aload_n hx hb dX6_clearText_0 rfl (lv_at hl 0 rfl) ?_
  refine va_get (D := D) (ci := 6) (v := .ref sa) (C := RX6) (T := TX6) (N := 7) hx hb hts hin_X6 hown hK.1 hP 0 rfl rfl 6 (by decide) f_52 (fun _ h9 => h9) rfl dX6_clearText_1 ?_
  have hFc := xD_in (W0 := [(sa, .inr (4, [.ref sb, .int (nI L), .int (nI np), .int (nI kd), .int f1, .int f2, .int (nI od), .int (nI fp), .int (nI fr), .int fc])), (sb, .inl (y 0, 60, .inl sg))]) hD [1, 2] rfl
  refine va_calli (va_runV (As := []) (rest := []) ⟨hx, hb, hml, hown, hts⟩ (c_X4_empty l D y sa sb sg L np kd f1 f2 od fp fr fc) (cwV 0 hts gX6_clearText_X4_empty rfl rfl rfl hd_X4_empty ⟨Nat.le_of_ble_eq_true rfl, Nat.le_of_ble_eq_true rfl⟩) (xpv_w hK hP hD [1, 2] 1 rfl rfl rfl rfl rfl) rfl rfl hl.1 rfl (lv_room (Nat.le_of_ble_eq_true rfl)) dX6_clearText_4 ⟨Nat.zero_le _, Nat.zero_le _⟩) hS (fun q _ h => hFc q h) hFc (fun r1 u1 t H locs ht hvm hw1 hB hz1 hk1 hS1 => ?_)
  have hB : va_P D vwCl [(sa, .inr (4, [.ref sb, .int (nI 0), .int (nI np), .int (nI kd), .int f1, .int f2, .int (nI od), .int (nI fp), .int (nI fr), .int fc])), (sb, .inl (y 0, 60, .inl sg))] t.heap := hB
  rw [ht] at hB
  have hw1 : r1 = nI L := hw1
  have hJ := xj_join (ws2 := [(g, .inr (6, [.ref (h 0), .ref (tt 0), .ref a, .ref gr, .ref gt, .ref gc, .ref sa])), (sa, .inr (4, [.ref sb, .int (nI 0), .int (nI np), .int (nI kd), .int f1, .int f2, .int (nI od), .int (nI fp), .int (nI fr), .int fc])), (sb, .inl (y 0, 60, .inl sg))]) hP hD [1, 2] [0] rfl rfl rfl rfl rfl rfl hk1 hB
  clear hP hD hS hB hk1 hz1 hFc hvm ht
  obtain ⟨hP, hD⟩ := hJ
  have hS := hS1
  clear hS1
  subst hw1
  subst hQe
  exact xw_i hx hb hr hlocks () hS dX6_clearText_7 (rfl) (fun t ht => by rw [ht]; exact (hP))
set_option maxHeartbeats 8000000 in
set_option maxRecDepth 100000 in
theorem c_X6_fault (l : Launch) (D : va_G) (y : Nat → ClassId) (g : Nat) (tt : Nat → Nat) (gr gt gc sa a : Nat) (h : Nat → Nat) (V : Nat → Nat) (q : Nat → Nat → Int32) (hR : RepC V q) (hI : Inv V) (U : Nat → Nat) (z : Nat → Nat → Int32) (sb : Nat) (sg : Nat → Int32) (T : Nat → Nat) (L : Nat) (hT : RepT T L sg) (np kd : Nat) (f1 f2 : Int32) (od fp fr : Nat) (fc : Int32) (hp : np < 2 ^ 30) (w : Int32) : Met l yX6_fault wsX6_fault ({ frames := 6, cells := 0, slots := 0, locals := 135 }) (va_Pc [.ref g, .int w] (xPw D y [(g, .inr (6, [.ref (h 0), .ref (tt 0), .ref a, .ref gr, .ref gt, .ref gc, .ref sa])), (h 0, .inr (2, [.ref (h 1), .ref (h 2), .ref (h 3), .ref (h 4), .int (nI (V 16)), .int (nI (V 67)), .int (rmb V), .int (nI (V 66))])), (h 1, .inl (y 1, 8, .inl (q 0))), (h 2, .inl (y 1, 8, .inl (q 1))), (h 3, .inl (y 1, 24, .inl (q 2))), (h 4, .inl (y 1, 4, .inl (q 3))), (tt 0, .inr (2, [.ref (tt 1), .ref (tt 2), .ref (tt 3), .ref (tt 4), .int (nI (U 16)), .int (nI (U 67)), .int (rmb U), .int (nI (U 66))])), (tt 1, .inl (y 1, 8, .inl (z 0))), (tt 2, .inl (y 1, 8, .inl (z 1))), (tt 3, .inl (y 1, 24, .inl (z 2))), (tt 4, .inl (y 1, 4, .inl (z 3))), (sa, .inr (4, [.ref sb, .int (nI L), .int (nI np), .int (nI kd), .int f1, .int f2, .int (nI od), .int (nI fp), .int (nI fr), .int fc])), (sb, .inl (y 0, 60, .inl sg))])) (va_Qi (fun r (u : Nat × Nat × Int32 × Int32 × Nat × Nat × Nat × Int32 × (Nat → Nat) × (Nat → Nat → Int32)) => r = faI T L V w ∧ u.1 < 2 ^ 30) (fun (u : Nat × Nat × Int32 × Int32 × Nat × Nat × Nat × Int32 × (Nat → Nat) × (Nat → Nat → Int32)) t => va_P D vwCl [(g, .inr (6, [.ref (h 0), .ref (tt 0), .ref a, .ref gr, .ref gt, .ref gc, .ref sa])), (h 0, .inr (2, [.ref (h 1), .ref (h 2), .ref (h 3), .ref (h 4), .int (nI (V 16)), .int (nI (V 67)), .int (rmb V), .int (nI (V 66))])), (h 1, .inl (y 1, 8, .inl (q 0))), (h 2, .inl (y 1, 8, .inl (q 1))), (h 3, .inl (y 1, 24, .inl (q 2))), (h 4, .inl (y 1, 4, .inl (q 3))), (tt 0, .inr (2, [.ref (tt 1), .ref (tt 2), .ref (tt 3), .ref (tt 4), .int (nI ((u.2.2.2.2.2.2.2.2.1) 16)), .int (nI ((u.2.2.2.2.2.2.2.2.1) 67)), .int (rmb (u.2.2.2.2.2.2.2.2.1)), .int (nI ((u.2.2.2.2.2.2.2.2.1) 66))])), (tt 1, .inl (y 1, 8, .inl ((u.2.2.2.2.2.2.2.2.2) 0))), (tt 2, .inl (y 1, 8, .inl ((u.2.2.2.2.2.2.2.2.2) 1))), (tt 3, .inl (y 1, 24, .inl ((u.2.2.2.2.2.2.2.2.2) 2))), (tt 4, .inl (y 1, 4, .inl ((u.2.2.2.2.2.2.2.2.2) 3))), (sa, .inr (4, [.ref sb, .int (nI L), .int (nI u.1), .int (nI u.2.1), .int u.2.2.1, .int u.2.2.2.1, .int (nI u.2.2.2.2.1), .int (nI u.2.2.2.2.2.1), .int (nI u.2.2.2.2.2.2.1), .int u.2.2.2.2.2.2.2.1])), (sb, .inl (y 0, 60, .inl sg))] t.heap) (xIn [(g, .inr (6, [.ref (h 0), .ref (tt 0), .ref a, .ref gr, .ref gt, .ref gc, .ref sa])), (h 0, .inr (2, [.ref (h 1), .ref (h 2), .ref (h 3), .ref (h 4), .int (nI (V 16)), .int (nI (V 67)), .int (rmb V), .int (nI (V 66))])), (h 1, .inl (y 1, 8, .inl (q 0))), (h 2, .inl (y 1, 8, .inl (q 1))), (h 3, .inl (y 1, 24, .inl (q 2))), (h 4, .inl (y 1, 4, .inl (q 3))), (tt 0, .inr (2, [.ref (tt 1), .ref (tt 2), .ref (tt 3), .ref (tt 4), .int (nI (U 16)), .int (nI (U 67)), .int (rmb U), .int (nI (U 66))])), (tt 1, .inl (y 1, 8, .inl (z 0))), (tt 2, .inl (y 1, 8, .inl (z 1))), (tt 3, .inl (y 1, 24, .inl (z 2))), (tt 4, .inl (y 1, 4, .inl (z 3))), (sa, .inr (4, [.ref sb, .int (nI L), .int (nI np), .int (nI kd), .int f1, .int f2, .int (nI od), .int (nI fp), .int (nI fr), .int fc])), (sb, .inl (y 0, 60, .inl sg))])) 0 0 (xIn [(g, .inr (6, [.ref (h 0), .ref (tt 0), .ref a, .ref gr, .ref gt, .ref gc, .ref sa])), (h 0, .inr (2, [.ref (h 1), .ref (h 2), .ref (h 3), .ref (h 4), .int (nI (V 16)), .int (nI (V 67)), .int (rmb V), .int (nI (V 66))])), (h 1, .inl (y 1, 8, .inl (q 0))), (h 2, .inl (y 1, 8, .inl (q 1))), (h 3, .inl (y 1, 24, .inl (q 2))), (h 4, .inl (y 1, 4, .inl (q 3))), (tt 0, .inr (2, [.ref (tt 1), .ref (tt 2), .ref (tt 3), .ref (tt 4), .int (nI (U 16)), .int (nI (U 67)), .int (rmb U), .int (nI (U 66))])), (tt 1, .inl (y 1, 8, .inl (z 0))), (tt 2, .inl (y 1, 8, .inl (z 1))), (tt 3, .inl (y 1, 24, .inl (z 2))), (tt 4, .inl (y 1, 4, .inl (z 3))), (sa, .inr (4, [.ref sb, .int (nI L), .int (nI np), .int (nI kd), .int f1, .int f2, .int (nI od), .int (nI fp), .int (nI fr), .int fc])), (sb, .inl (y 0, 60, .inl sg))]) := by
  refine Met.ofW (cc := cX6_fault) (maxL := 2) (ret := (some .int)) (by decide) rfl ?_
  intro p e s m args below meth c s₁ B hml hv
  obtain ⟨rfl, hP, hK, hD0⟩ := hv
  have hx := B.exec
  have hb := B.bytes
  have hr := B.returns
  have hts := atoms_spec (ws := wsX6_fault) B.pre
  have hown : s.vm.findClass RX6 = some m.cls := findClass_of_methodNamed B.named
  have hlocks := B.notSynchronized
  have f_10 := hts (.fieldLink RX6 10 "LoomTunes" "now" "LLoomTunes$Register;") (by decide +kernel)
  have f_147 := hts (.constant RX6 147 (-1000004)) (by decide +kernel)
  have f_16 := hts (.fieldLink RX6 16 "LoomTunes" "trial" "LLoomTunes$Register;") (by decide +kernel)
  have f_236 := hts (.fieldLink RX6 236 "LoomTunes$Script" "faultPlace" "I") (by decide +kernel)
  have f_239 := hts (.fieldLink RX6 239 "LoomTunes$Script" "faultReason" "I") (by decide +kernel)
  have f_242 := hts (.fieldLink RX6 242 "LoomTunes$Script" "faultCause" "I") (by decide +kernel)
  have f_52 := hts (.fieldLink RX6 52 "LoomTunes" "script" "LLoomTunes$Script;") (by decide +kernel)
  have f_93 := hts (.constant RX6 93 (-1000001)) (by decide +kernel)
  have hin_X4 : ∀ w ∈ wsX40, w ∈ wsX6_fault := by decide +kernel
  have hin_X6 : ∀ w ∈ wsX60, w ∈ wsX6_fault := by decide +kernel
  have hD := xD_self hD0
  generalize hAe : xIn [(g, .inr (6, [.ref (h 0), .ref (tt 0), .ref a, .ref gr, .ref gt, .ref gc, .ref sa])), (h 0, .inr (2, [.ref (h 1), .ref (h 2), .ref (h 3), .ref (h 4), .int (nI (V 16)), .int (nI (V 67)), .int (rmb V), .int (nI (V 66))])), (h 1, .inl (y 1, 8, .inl (q 0))), (h 2, .inl (y 1, 8, .inl (q 1))), (h 3, .inl (y 1, 24, .inl (q 2))), (h 4, .inl (y 1, 4, .inl (q 3))), (tt 0, .inr (2, [.ref (tt 1), .ref (tt 2), .ref (tt 3), .ref (tt 4), .int (nI (U 16)), .int (nI (U 67)), .int (rmb U), .int (nI (U 66))])), (tt 1, .inl (y 1, 8, .inl (z 0))), (tt 2, .inl (y 1, 8, .inl (z 1))), (tt 3, .inl (y 1, 24, .inl (z 2))), (tt 4, .inl (y 1, 4, .inl (z 3))), (sa, .inr (4, [.ref sb, .int (nI L), .int (nI np), .int (nI kd), .int f1, .int f2, .int (nI od), .int (nI fp), .int (nI fr), .int fc])), (sb, .inl (y 0, 60, .inl sg))] = A at hD ⊢
  have hS : va_S A s.heap s.heap [] := va_S.rf
  have hP : va_P D vwCl [(g, .inr (6, [.ref (h 0), .ref (tt 0), .ref a, .ref gr, .ref gt, .ref gc, .ref sa])), (h 0, .inr (2, [.ref (h 1), .ref (h 2), .ref (h 3), .ref (h 4), .int (nI (V 16)), .int (nI (V 67)), .int (rmb V), .int (nI (V 66))])), (h 1, .inl (y 1, 8, .inl (q 0))), (h 2, .inl (y 1, 8, .inl (q 1))), (h 3, .inl (y 1, 24, .inl (q 2))), (h 4, .inl (y 1, 4, .inl (q 3))), (tt 0, .inr (2, [.ref (tt 1), .ref (tt 2), .ref (tt 3), .ref (tt 4), .int (nI (U 16)), .int (nI (U 67)), .int (rmb U), .int (nI (U 66))])), (tt 1, .inl (y 1, 8, .inl (z 0))), (tt 2, .inl (y 1, 8, .inl (z 1))), (tt 3, .inl (y 1, 24, .inl (z 2))), (tt 4, .inl (y 1, 4, .inl (z 3))), (sa, .inr (4, [.ref sb, .int (nI L), .int (nI np), .int (nI kd), .int f1, .int f2, .int (nI od), .int (nI fp), .int (nI fr), .int fc])), (sb, .inl (y 0, 60, .inl sg))] s.heap := hP
  have hl := lv_entry ([.ref g, .int w]) (n := 2) (Nat.le_of_ble_eq_true rfl)
  rw [lg_entry_eq]
  generalize (lg_sl ([.ref g, .int w]) ++ List.replicate (2 - (lg_sl ([.ref g, .int w])).length) Slot.unset).toArray = ls at hl ⊢
  have hl : lv_has ls 2 [(0, .ref g), (1, .int w)] := hl
  generalize hQe : (MQ below (va_Qi (fun r (u : Nat × Nat × Int32 × Int32 × Nat × Nat × Nat × Int32 × (Nat → Nat) × (Nat → Nat → Int32)) => r = faI T L V w ∧ u.1 < 2 ^ 30) (fun (u : Nat × Nat × Int32 × Int32 × Nat × Nat × Nat × Int32 × (Nat → Nat) × (Nat → Nat → Int32)) t => va_P D vwCl [(g, .inr (6, [.ref (h 0), .ref (tt 0), .ref a, .ref gr, .ref gt, .ref gc, .ref sa])), (h 0, .inr (2, [.ref (h 1), .ref (h 2), .ref (h 3), .ref (h 4), .int (nI (V 16)), .int (nI (V 67)), .int (rmb V), .int (nI (V 66))])), (h 1, .inl (y 1, 8, .inl (q 0))), (h 2, .inl (y 1, 8, .inl (q 1))), (h 3, .inl (y 1, 24, .inl (q 2))), (h 4, .inl (y 1, 4, .inl (q 3))), (tt 0, .inr (2, [.ref (tt 1), .ref (tt 2), .ref (tt 3), .ref (tt 4), .int (nI ((u.2.2.2.2.2.2.2.2.1) 16)), .int (nI ((u.2.2.2.2.2.2.2.2.1) 67)), .int (rmb (u.2.2.2.2.2.2.2.2.1)), .int (nI ((u.2.2.2.2.2.2.2.2.1) 66))])), (tt 1, .inl (y 1, 8, .inl ((u.2.2.2.2.2.2.2.2.2) 0))), (tt 2, .inl (y 1, 8, .inl ((u.2.2.2.2.2.2.2.2.2) 1))), (tt 3, .inl (y 1, 24, .inl ((u.2.2.2.2.2.2.2.2.2) 2))), (tt 4, .inl (y 1, 4, .inl ((u.2.2.2.2.2.2.2.2.2) 3))), (sa, .inr (4, [.ref sb, .int (nI L), .int (nI u.1), .int (nI u.2.1), .int u.2.2.1, .int u.2.2.2.1, .int (nI u.2.2.2.2.1), .int (nI u.2.2.2.2.2.1), .int (nI u.2.2.2.2.2.2.1), .int u.2.2.2.2.2.2.2.1])), (sb, .inl (y 0, 60, .inl sg))] t.heap) A) ([.ref g, .int w] : List Value).toArray s 0 0 A) = Q
  have hgb := bN_lt (c := (goA T L V).2.2.1 = 0)
  refine lv_iload_n hx hb dX6_fault_0 rfl (lv_at hl 1 rfl) ?_
  refine lv_if_lt (tgt := 9) hx hb dX6_fault_1 (by decide) (fun kc1 => ?_) (fun kc1 => ?_)
  · refine lv_ldc hx hb hown f_93 dX6_fault_9 ?_
    subst hQe
    exact xw_i hx hb hr hlocks (np, kd, f1, f2, od, fp, fr, fc, U, z) hS dX6_fault_11 (⟨faI_f (fun hq => by first | exact hq.1 kc1 | exact hq.2 (xgt_n (m := 3) rfl (by decide) kc6)), hp⟩) (fun t ht => by rw [ht]; exact (hP))
  · refine lv_iload_n hx hb dX6_fault_4 rfl (lv_at hl 1 rfl) ?_
    refine lv_iconst (v := nI 2) hx hb dX6_fault_5 (by decide) ?_
    refine lv_icmp_le (tgt := 12) hx hb dX6_fault_6 (by decide) (fun kc6 => ?_) (fun kc6 => ?_)
    · obtain ⟨kw, hkw, rfl⟩ := inR_k (n := 3) (by decide) ⟨kc1, xle_n (m := 3) rfl (by decide) kc6⟩
      refine lv_aload_n hx hb dX6_fault_12 rfl (lv_at hl 0 rfl) ?_
      refine va_get (D := D) (ci := 6) (v := .ref (tt 0)) (C := RX6) (T := TX6) (N := 7) hx hb hts hin_X6 hown hK.1 hP 0 rfl rfl 1 (by decide) f_16 (fun _ h9 => h9) rfl dX6_fault_13 ?_
      refine lv_aload_n hx hb dX6_fault_16 rfl (lv_at hl 0 rfl) ?_
      refine va_get (D := D) (ci := 6) (v := .ref (h 0)) (C := RX6) (T := TX6) (N := 7) hx hb hts hin_X6 hown hK.1 hP 0 rfl rfl 0 (by decide) f_10 (fun _ h9 => h9) rfl dX6_fault_17 ?_
      have hFc := xD_in (W0 := [(tt 0, .inr (2, [.ref (tt 1), .ref (tt 2), .ref (tt 3), .ref (tt 4), .int (nI (U 16)), .int (nI (U 67)), .int (rmb U), .int (nI (U 66))])), (tt 1, .inl (y 1, 8, .inl (z 0))), (tt 2, .inl (y 1, 8, .inl (z 1))), (tt 3, .inl (y 1, 24, .inl (z 2))), (tt 4, .inl (y 1, 4, .inl (z 3))), (h 0, .inr (2, [.ref (h 1), .ref (h 2), .ref (h 3), .ref (h 4), .int (nI (V 16)), .int (nI (V 67)), .int (rmb V), .int (nI (V 66))])), (h 1, .inl (y 1, 8, .inl (q 0))), (h 2, .inl (y 1, 8, .inl (q 1))), (h 3, .inl (y 1, 24, .inl (q 2))), (h 4, .inl (y 1, 4, .inl (q 3)))]) hD [6, 7, 8, 9, 10, 1, 2, 3, 4, 5] rfl
      refine va_callv (va_runV (As := [.ref (h 0)]) (rest := []) ⟨hx, hb, hml, hown, hts⟩ (c_X2_copyFrom l D y tt U z h V q hR (hI.sz)) (cwV 1 hts gX6_fault_X2_copyFrom rfl rfl rfl hd_X2_copyFrom ⟨Nat.le_of_ble_eq_true rfl, Nat.le_of_ble_eq_true rfl⟩) (xpv_w hK hP hD [6, 7, 8, 9, 10, 1, 2, 3, 4, 5] 6 rfl rfl rfl rfl rfl) rfl rfl hl.1 rfl (lv_room (Nat.le_of_ble_eq_true rfl)) dX6_fault_20 ⟨Nat.zero_le _, Nat.zero_le _⟩) hS (fun q _ h => hFc q h) hFc (fun u1 t H locs ht hvm hw1 hB hz1 hk1 hS1 => ?_)
      have hB : va_P D vwCl [(tt 0, .inr (2, [.ref (tt 1), .ref (tt 2), .ref (tt 3), .ref (tt 4), .int (nI (V 16)), .int (nI (V 67)), .int (rmb V), .int (nI (V 66))])), (tt 1, .inl (y 1, 8, .inl (u1 0))), (tt 2, .inl (y 1, 8, .inl (u1 1))), (tt 3, .inl (y 1, 24, .inl (u1 2))), (tt 4, .inl (y 1, 4, .inl (u1 3))), (h 0, .inr (2, [.ref (h 1), .ref (h 2), .ref (h 3), .ref (h 4), .int (nI (V 16)), .int (nI (V 67)), .int (rmb V), .int (nI (V 66))])), (h 1, .inl (y 1, 8, .inl (q 0))), (h 2, .inl (y 1, 8, .inl (q 1))), (h 3, .inl (y 1, 24, .inl (q 2))), (h 4, .inl (y 1, 4, .inl (q 3)))] t.heap := hB
      rw [ht] at hB
      have hw1 : RepC V u1 := hw1
      have hJ := xj_join (ws2 := [(g, .inr (6, [.ref (h 0), .ref (tt 0), .ref a, .ref gr, .ref gt, .ref gc, .ref sa])), (h 0, .inr (2, [.ref (h 1), .ref (h 2), .ref (h 3), .ref (h 4), .int (nI (V 16)), .int (nI (V 67)), .int (rmb V), .int (nI (V 66))])), (h 1, .inl (y 1, 8, .inl (q 0))), (h 2, .inl (y 1, 8, .inl (q 1))), (h 3, .inl (y 1, 24, .inl (q 2))), (h 4, .inl (y 1, 4, .inl (q 3))), (tt 0, .inr (2, [.ref (tt 1), .ref (tt 2), .ref (tt 3), .ref (tt 4), .int (nI (V 16)), .int (nI (V 67)), .int (rmb V), .int (nI (V 66))])), (tt 1, .inl (y 1, 8, .inl (u1 0))), (tt 2, .inl (y 1, 8, .inl (u1 1))), (tt 3, .inl (y 1, 24, .inl (u1 2))), (tt 4, .inl (y 1, 4, .inl (u1 3))), (sa, .inr (4, [.ref sb, .int (nI L), .int (nI np), .int (nI kd), .int f1, .int f2, .int (nI od), .int (nI fp), .int (nI fr), .int fc])), (sb, .inl (y 0, 60, .inl sg))]) hP hD [6, 7, 8, 9, 10, 1, 2, 3, 4, 5] [0, 11, 12] rfl rfl rfl rfl rfl rfl hk1 hB
      clear hP hD hS hB hk1 hz1 hFc hvm ht
      obtain ⟨hP, hD⟩ := hJ
      have hS := hS1
      clear hS1
      refine lv_aload_n hx hb dX6_fault_23 rfl (lv_at hl 0 rfl) ?_
      refine va_get (D := D) (ci := 6) (v := .ref sa) (C := RX6) (T := TX6) (N := 7) hx hb hts hin_X6 hown hK.1 hP 0 rfl rfl 6 (by decide) f_52 (fun _ h9 => h9) rfl dX6_fault_24 ?_
      refine lv_aload_n hx hb dX6_fault_27 rfl (lv_at hl 0 rfl) ?_
      refine va_get (D := D) (ci := 6) (v := .ref (tt 0)) (C := RX6) (T := TX6) (N := 7) hx hb hts hin_X6 hown hK.1 hP 0 rfl rfl 1 (by decide) f_16 (fun _ h9 => h9) rfl dX6_fault_28 ?_
      have hFc := xD_in (W0 := [(sa, .inr (4, [.ref sb, .int (nI L), .int (nI np), .int (nI kd), .int f1, .int f2, .int (nI od), .int (nI fp), .int (nI fr), .int fc])), (sb, .inl (y 0, 60, .inl sg)), (tt 0, .inr (2, [.ref (tt 1), .ref (tt 2), .ref (tt 3), .ref (tt 4), .int (nI (V 16)), .int (nI (V 67)), .int (rmb V), .int (nI (V 66))])), (tt 1, .inl (y 1, 8, .inl (u1 0))), (tt 2, .inl (y 1, 8, .inl (u1 1))), (tt 3, .inl (y 1, 24, .inl (u1 2))), (tt 4, .inl (y 1, 4, .inl (u1 3)))]) hD [11, 12, 6, 7, 8, 9, 10] rfl
      refine va_calli (va_runV (As := [.ref (tt 0)]) (rest := []) ⟨hx, hb, hml, hown, hts⟩ (c_X4_runsOn l D y sa sb sg T L hT np kd f1 f2 od fp fr fc hp tt V u1 hw1 hI) (cwV 1 hts gX6_fault_X4_runsOn rfl rfl rfl hd_X4_runsOn ⟨Nat.le_of_ble_eq_true rfl, Nat.le_of_ble_eq_true rfl⟩) (xpv_w hK hP hD [11, 12, 6, 7, 8, 9, 10] 11 rfl rfl rfl rfl rfl) rfl rfl hl.1 rfl (lv_room (Nat.le_of_ble_eq_true rfl)) dX6_fault_31 ⟨Nat.zero_le _, Nat.zero_le _⟩) hS (fun q _ h => hFc q h) hFc (fun r2 u2 t H locs ht hvm hw2 hB hz1 hk1 hS1 => ?_)
      have hB : va_P D vwCl [(sa, .inr (4, [.ref sb, .int (nI L), .int (nI u2.1), .int (nI u2.2.1), .int u2.2.2.1, .int u2.2.2.2.1, .int (nI u2.2.2.2.2.1), .int (nI u2.2.2.2.2.2.1), .int (nI u2.2.2.2.2.2.2.1), .int u2.2.2.2.2.2.2.2.1])), (sb, .inl (y 0, 60, .inl sg)), (tt 0, .inr (2, [.ref (tt 1), .ref (tt 2), .ref (tt 3), .ref (tt 4), .int (nI ((u2.2.2.2.2.2.2.2.2.1) 16)), .int (nI ((u2.2.2.2.2.2.2.2.2.1) 67)), .int (rmb (u2.2.2.2.2.2.2.2.2.1)), .int (nI ((u2.2.2.2.2.2.2.2.2.1) 66))])), (tt 1, .inl (y 1, 8, .inl ((u2.2.2.2.2.2.2.2.2.2) 0))), (tt 2, .inl (y 1, 8, .inl ((u2.2.2.2.2.2.2.2.2.2) 1))), (tt 3, .inl (y 1, 24, .inl ((u2.2.2.2.2.2.2.2.2.2) 2))), (tt 4, .inl (y 1, 4, .inl ((u2.2.2.2.2.2.2.2.2.2) 3)))] t.heap := hB
      rw [ht] at hB
      have hw2 : r2 = nI (bN ((goA T L V).2.2.1 = 0)) ∧ u2.2.2.2.2.1 = (goA T L V).1 ∧ (¬ (goA T L V).2.2.1 = 0 → u2.2.2.2.2.2.1 = (goA T L V).2.1 ∧ u2.2.2.2.2.2.2.1 = (goA T L V).2.2.1 ∧ u2.2.2.2.2.2.2.2.1 = (goA T L V).2.2.2.1) ∧ ((goA T L V).2.2.1 = 0 → u2.2.2.2.2.2.2.2.2.1 = (goA T L V).2.2.2.2 ∧ RepC u2.2.2.2.2.2.2.2.2.1 u2.2.2.2.2.2.2.2.2.2) ∧ u2.1 < 2 ^ 28 := hw2
      have hJ := xj_join (ws2 := [(g, .inr (6, [.ref (h 0), .ref (tt 0), .ref a, .ref gr, .ref gt, .ref gc, .ref sa])), (h 0, .inr (2, [.ref (h 1), .ref (h 2), .ref (h 3), .ref (h 4), .int (nI (V 16)), .int (nI (V 67)), .int (rmb V), .int (nI (V 66))])), (h 1, .inl (y 1, 8, .inl (q 0))), (h 2, .inl (y 1, 8, .inl (q 1))), (h 3, .inl (y 1, 24, .inl (q 2))), (h 4, .inl (y 1, 4, .inl (q 3))), (tt 0, .inr (2, [.ref (tt 1), .ref (tt 2), .ref (tt 3), .ref (tt 4), .int (nI ((u2.2.2.2.2.2.2.2.2.1) 16)), .int (nI ((u2.2.2.2.2.2.2.2.2.1) 67)), .int (rmb (u2.2.2.2.2.2.2.2.2.1)), .int (nI ((u2.2.2.2.2.2.2.2.2.1) 66))])), (tt 1, .inl (y 1, 8, .inl ((u2.2.2.2.2.2.2.2.2.2) 0))), (tt 2, .inl (y 1, 8, .inl ((u2.2.2.2.2.2.2.2.2.2) 1))), (tt 3, .inl (y 1, 24, .inl ((u2.2.2.2.2.2.2.2.2.2) 2))), (tt 4, .inl (y 1, 4, .inl ((u2.2.2.2.2.2.2.2.2.2) 3))), (sa, .inr (4, [.ref sb, .int (nI L), .int (nI u2.1), .int (nI u2.2.1), .int u2.2.2.1, .int u2.2.2.2.1, .int (nI u2.2.2.2.2.1), .int (nI u2.2.2.2.2.2.1), .int (nI u2.2.2.2.2.2.2.1), .int u2.2.2.2.2.2.2.2.1])), (sb, .inl (y 0, 60, .inl sg))]) hP hD [11, 12, 6, 7, 8, 9, 10] [0, 1, 2, 3, 4, 5] rfl rfl rfl rfl rfl rfl hk1 hB
      clear hP hD hS hB hk1 hz1 hFc hvm ht
      obtain ⟨hP, hD⟩ := hJ
      have hS := hS1
      clear hS1
      obtain ⟨hr2, hgu2⟩ := hw2
      subst hr2
      refine xn_if_eq hx hb (by omega) (tgt := 40) dX6_fault_34 (by decide) (fun kc34 => ?_) (fun kc34 => ?_)
      · have hno := bN_0.mp kc34
        refine lv_iload_n hx hb dX6_fault_40 rfl (lv_at hl 1 rfl) ?_
        refine xn_if_ne hx hb (by omega) (tgt := 54) dX6_fault_41 (by decide) (fun kc41 => ?_) (fun kc41 => ?_)
        · refine lv_iload_n hx hb dX6_fault_54 rfl (lv_at hl 1 rfl) ?_
          refine lv_iconst (v := nI 1) hx hb dX6_fault_55 (by decide) ?_
          refine xn_icmp_ne hx hb (by omega) (by omega) (tgt := 69) dX6_fault_56 (by decide) (fun kc56 => ?_) (fun kc56 => ?_)
          · refine lv_aload_n hx hb dX6_fault_69 rfl (lv_at hl 0 rfl) ?_
            refine va_get (D := D) (ci := 6) (v := .ref sa) (C := RX6) (T := TX6) (N := 7) hx hb hts hin_X6 hown hK.1 hP 0 rfl rfl 6 (by decide) f_52 (fun _ h9 => h9) rfl dX6_fault_70 ?_
            refine va_get (D := D) (ci := 4) (v := .int u2.2.2.2.2.2.2.2.1) (C := RX4) (T := TX4) (N := 10) hx hb hts hin_X4 hown hK.1 hP 11 rfl rfl 9 (by decide) f_242 (fun _ h9 => h9) rfl dX6_fault_73 ?_
            subst hQe
            exact xw_i hx hb hr hlocks u2 hS dX6_fault_76 (⟨by rw [faI_n hkw, faN_n hno, if_neg kc41, if_neg kc56, (hgu2.2.1 hno).2.2], by have := hgu2.2.2.2; omega⟩) (fun t ht => by rw [ht]; exact (hP))
          · refine lv_aload_n hx hb dX6_fault_59 rfl (lv_at hl 0 rfl) ?_
            refine va_get (D := D) (ci := 6) (v := .ref sa) (C := RX6) (T := TX6) (N := 7) hx hb hts hin_X6 hown hK.1 hP 0 rfl rfl 6 (by decide) f_52 (fun _ h9 => h9) rfl dX6_fault_60 ?_
            refine va_get (D := D) (ci := 4) (v := .int (nI u2.2.2.2.2.2.2.1)) (C := RX4) (T := TX4) (N := 10) hx hb hts hin_X4 hown hK.1 hP 11 rfl rfl 8 (by decide) f_239 (fun _ h9 => h9) rfl dX6_fault_63 ?_
            refine lv_goto (tgt := 76) hx hb dX6_fault_66 (by decide) ?_
            subst hQe
            exact xw_i hx hb hr hlocks u2 hS dX6_fault_76 (⟨by rw [faI_n hkw, faN_n hno, if_neg kc41, if_pos kc56, (hgu2.2.1 hno).2.1], by have := hgu2.2.2.2; omega⟩) (fun t ht => by rw [ht]; exact (hP))
        · refine lv_aload_n hx hb dX6_fault_44 rfl (lv_at hl 0 rfl) ?_
          refine va_get (D := D) (ci := 6) (v := .ref sa) (C := RX6) (T := TX6) (N := 7) hx hb hts hin_X6 hown hK.1 hP 0 rfl rfl 6 (by decide) f_52 (fun _ h9 => h9) rfl dX6_fault_45 ?_
          refine va_get (D := D) (ci := 4) (v := .int (nI u2.2.2.2.2.2.1)) (C := RX4) (T := TX4) (N := 10) hx hb hts hin_X4 hown hK.1 hP 11 rfl rfl 7 (by decide) f_236 (fun _ h9 => h9) rfl dX6_fault_48 ?_
          refine lv_goto (tgt := 76) hx hb dX6_fault_51 (by decide) ?_
          subst hQe
          exact xw_i hx hb hr hlocks u2 hS dX6_fault_76 (⟨by rw [faI_n hkw, faN_n hno, if_pos kc41, (hgu2.2.1 hno).1], by have := hgu2.2.2.2; omega⟩) (fun t ht => by rw [ht]; exact (hP))
      · have hok := bN_n0.mp kc34
        refine lv_ldc hx hb hown f_147 dX6_fault_37 ?_
        subst hQe
        exact xw_i hx hb hr hlocks u2 hS dX6_fault_39 (⟨by rw [faI_n hkw, faN_0 hok], by have := hgu2.2.2.2; omega⟩) (fun t ht => by rw [ht]; exact (hP))
    · refine lv_ldc hx hb hown f_93 dX6_fault_9 ?_
      subst hQe
      exact xw_i hx hb hr hlocks (np, kd, f1, f2, od, fp, fr, fc, U, z) hS dX6_fault_11 (⟨faI_f (fun hq => by first | exact hq.1 kc1 | exact hq.2 (xgt_n (m := 3) rfl (by decide) kc6)), hp⟩) (fun t ht => by rw [ht]; exact (hP))
