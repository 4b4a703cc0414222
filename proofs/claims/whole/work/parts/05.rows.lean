set_option maxHeartbeats 8000000 in
set_option maxRecDepth 100000 in
theorem c_X0_staysUpTo (l : Launch) (D : va_G) (y : Nat → ClassId) (g : Nat) (h : Nat → Nat) (V : Nat → Nat) (q : Nat → Nat → Int32) (hR : RepC V q) (hI : Inv V) (r t : Nat) (hr0 : r < 2 ^ 30) (ht : t < 8) : Met l yX0_staysUpTo wsX0_staysUpTo ({ frames := 2, cells := 0, slots := 0, locals := 43 }) (va_Pc [.ref g, .int (nI r), .int (nI t)] (xPr D y [(g, .inr (0, [.ref (h 0)])), (h 0, .inr (2, [.ref (h 1), .ref (h 2), .ref (h 3), .ref (h 4), .int (nI (V 16)), .int (nI (V 67)), .int (rmb V), .int (nI (V 66))])), (h 1, .inl (y 1, 8, .inl (q 0))), (h 2, .inl (y 1, 8, .inl (q 1))), (h 3, .inl (y 1, 24, .inl (q 2))), (h 4, .inl (y 1, 4, .inl (q 3)))])) (vp_Si (fun rz => rz = nI (runR V t r))) 0 0 (fun _ => False) := by
  refine Met.ofW (cc := cX0_staysUpTo) (maxL := 6) (ret := (some .int)) (by decide) rfl ?_
  intro p e s m args below meth c s₁ B hml hv
  obtain ⟨rfl, hP, hK⟩ := hv
  have hx := B.exec
  have hb := B.bytes
  have hr := B.returns
  have hts := atoms_spec (ws := wsX0_staysUpTo) B.pre
  have hown : s.vm.findClass RX0 = some m.cls := findClass_of_methodNamed B.named
  have hlocks := B.notSynchronized
  have f_9 := hts (.fieldLink RX0 9 "LoomTunes$Cloth" "register" "LLoomTunes$Register;") (by decide +kernel)
  have hin_X0 : ∀ w ∈ wsX00, w ∈ wsX0_staysUpTo := by decide +kernel
  have hP : va_P D vwCl [(g, .inr (0, [.ref (h 0)])), (h 0, .inr (2, [.ref (h 1), .ref (h 2), .ref (h 3), .ref (h 4), .int (nI (V 16)), .int (nI (V 67)), .int (rmb V), .int (nI (V 66))])), (h 1, .inl (y 1, 8, .inl (q 0))), (h 2, .inl (y 1, 8, .inl (q 1))), (h 3, .inl (y 1, 24, .inl (q 2))), (h 4, .inl (y 1, 4, .inl (q 3)))] s.heap := hP
  have hl := lv_entry ([.ref g, .int (nI r), .int (nI t)]) (n := 6) (Nat.le_of_ble_eq_true rfl)
  rw [lg_entry_eq]
  generalize (lg_sl ([.ref g, .int (nI r), .int (nI t)]) ++ List.replicate (6 - (lg_sl ([.ref g, .int (nI r), .int (nI t)])).length) Slot.unset).toArray = ls at hl ⊢
  have hl : lv_has ls 6 [(0, .ref g), (1, .int (nI r)), (2, .int (nI t))] := hl
  refine lv_aload_n hx hb dX0_staysUpTo_0 rfl (lv_at hl 0 rfl) ?_
  refine va_get (D := D) (ci := 0) (v := .ref (h 0)) (C := RX0) (T := TX0) (N := 1) hx hb hts hin_X0 hown hK.1 hP 0 rfl rfl 0 (by decide) f_9 (fun _ h9 => h9) rfl dX0_staysUpTo_1 ?_
  refine lv_iload_n hx hb dX0_staysUpTo_4 rfl (lv_at hl 1 rfl) ?_
  refine lv_iload_n hx hb dX0_staysUpTo_5 rfl (lv_at hl 2 rfl) ?_
  refine xc_V (As := [.int (nI r), .int (nI t)]) (rest := []) ⟨hx, hb, hml, hown, hts⟩ (c_X2_soundsAt_n l D y h V q hR hI r (by omega) t (by omega)) (cwV 2 hts gX0_staysUpTo_X2_soundsAt rfl rfl rfl hd_X2_soundsAt ⟨Nat.le_of_ble_eq_true rfl, Nat.le_of_ble_eq_true rfl⟩) (xpv_r hK hP [1, 2, 3, 4, 5] 1 rfl rfl rfl) rfl hl.1 rfl (Nat.le_of_ble_eq_true rfl) dX0_staysUpTo_6 ⟨Nat.zero_le _, Nat.zero_le _⟩ (fun r1 hr1 => ?_)
  subst hr1
  refine lv_istore_n (lv' := [(3, .int (nI (sndN V r t))), (0, .ref g), (1, .int (nI r)), (2, .int (nI t))]) hx hb dX0_staysUpTo_9 rfl hl (by decide) rfl (fun ls hl => ?_)
  refine lv_iconst (v := nI 0) hx hb dX0_staysUpTo_10 (by decide) ?_
  refine lv_istore (lv' := [(4, .int (nI 0)), (3, .int (nI (sndN V r t))), (0, .ref g), (1, .int (nI r)), (2, .int (nI t))]) hx hb dX0_staysUpTo_11 hl (by decide) rfl (fun ls hl => ?_)
  refine lv_iload_n hx hb dX0_staysUpTo_13 rfl (lv_at hl 3 rfl) ?_
  refine lv_istore (lv' := [(5, .int (nI r)), (4, .int (nI 0)), (3, .int (nI (sndN V r t))), (0, .ref g), (1, .int (nI r)), (2, .int (nI t))]) hx hb dX0_staysUpTo_14 hl (by decide) rfl (fun ls hl => ?_)
  have lp16 : ∀ (n : Nat) (e1 : Nat), e1 < n → (e1 ≤ r + 1) → (r + 1 - e1 + runA V t (sndN V r t) e1 = runA V t (sndN V r t) (r + 1)) → ∀ ls : Array Slot, lv_has ls 6 [(5, .int ((nI e1) + (-1))), (4, .int (nI (r + 1 - e1))), (3, .int (nI (sndN V r t))), (0, .ref g), (1, .int (nI r)), (2, .int (nI t))] → W p l e (headSpec wsX0_staysUpTo ({ frames := 2, cells := 0, slots := 0, locals := 43 })).room s m ([.ref g, .int (nI r), .int (nI t)] : List Value).toArray below meth c s.heap [] 0 0 (MQ below (vp_Si (fun rz => rz = nI (runR V t r))) ([.ref g, .int (nI r), .int (nI t)] : List Value).toArray s 0 0 (fun _ => False)) (F0 m 16 ls []) := by
    intro n
    induction n with
    | zero => intro e1 hm; exact absurd hm (Nat.not_lt_zero _)
    | succ n ih16 =>
      intro e1 hm he hv ls hl
      refine lv_iload hx hb dX0_staysUpTo_16 (lv_at hl 0 rfl) ?_
      refine lv_if_lt (tgt := 44) hx hb dX0_staysUpTo_18 (by decide) (fun kc18 => ?_) (fun kc18 => ?_)
      · have he0 := xe_t (by omega) kc18
        refine lv_iload hx hb dX0_staysUpTo_44 (lv_at hl 1 rfl) ?_
        exact xr_i hx hb hr hlocks dX0_staysUpTo_46 (congrArg nI (by show _ = runA V t (sndN V r t) (r + 1); first | (have qr := runA_n kc32; omega) | (subst he0; have qr : runA V t (sndN V r t) 0 = 0 := rfl; omega)))
      · obtain ⟨k, rfl⟩ : ∃ k, e1 = k + 1 := ⟨e1 - 1, by have := xe_f (by omega) kc18; omega⟩
        have hl : lv_has ls 6 [(5, .int ((nI (k + 1)) + (-1))), (4, .int (nI (r + 1 - (k + 1)))), (3, .int (nI (sndN V r t))), (0, .ref g), (1, .int (nI r)), (2, .int (nI t))] := hl
        rw [pk_m1] at hl
        refine lv_aload_n hx hb dX0_staysUpTo_21 rfl (lv_at hl 3 rfl) ?_
        refine va_get (D := D) (ci := 0) (v := .ref (h 0)) (C := RX0) (T := TX0) (N := 1) hx hb hts hin_X0 hown hK.1 hP 0 rfl rfl 0 (by decide) f_9 (fun _ h9 => h9) rfl dX0_staysUpTo_22 ?_
        refine lv_iload hx hb dX0_staysUpTo_25 (lv_at hl 0 rfl) ?_
        refine lv_iload_n hx hb dX0_staysUpTo_27 rfl (lv_at hl 5 rfl) ?_
        refine xc_V (As := [.int (nI k), .int (nI t)]) (rest := []) ⟨hx, hb, hml, hown, hts⟩ (c_X2_soundsAt_n l D y h V q hR hI k (by omega) t (by omega)) (cwV 2 hts gX0_staysUpTo_X2_soundsAt rfl rfl rfl hd_X2_soundsAt ⟨Nat.le_of_ble_eq_true rfl, Nat.le_of_ble_eq_true rfl⟩) (xpv_r hK hP [1, 2, 3, 4, 5] 1 rfl rfl rfl) rfl hl.1 rfl (Nat.le_of_ble_eq_true rfl) dX0_staysUpTo_28 ⟨Nat.zero_le _, Nat.zero_le _⟩ (fun r2 hr2 => ?_)
        subst hr2
        refine lv_iload_n hx hb dX0_staysUpTo_31 rfl (lv_at hl 2 rfl) ?_
        refine xn_icmp_ne hx hb (by have := sndN_lt (V := V) (r := k) (t := t); have := sndN_lt (V := V) (r := r) (t := t); omega) (by have := sndN_lt (V := V) (r := k) (t := t); have := sndN_lt (V := V) (r := r) (t := t); omega) (tgt := 44) dX0_staysUpTo_32 (by decide) (fun kc32 => ?_) (fun kc32 => ?_)
        · refine lv_iload hx hb dX0_staysUpTo_44 (lv_at hl 1 rfl) ?_
          exact xr_i hx hb hr hlocks dX0_staysUpTo_46 (congrArg nI (by show _ = runA V t (sndN V r t) (r + 1); first | (have qr := runA_n kc32; omega) | (subst he0; have qr : runA V t (sndN V r t) 0 = 0 := rfl; omega)))
        · refine lv_iinc (v := nI (r + 1 - (k + 1) + 1)) (lv' := [(4, .int (nI (r + 1 - (k + 1) + 1))), (5, .int (nI k)), (3, .int (nI (sndN V r t))), (0, .ref g), (1, .int (nI r)), (2, .int (nI t))]) hx hb dX0_staysUpTo_35 hl (k := 1) rfl (nI_add (r + 1 - (k + 1)) 1) (by decide) rfl (fun ls hl => ?_)
          refine lv_iinc (v := (nI k) + (-1)) (lv' := [(5, .int ((nI k) + (-1))), (4, .int (nI (r + 1 - (k + 1) + 1))), (3, .int (nI (sndN V r t))), (0, .ref g), (1, .int (nI r)), (2, .int (nI t))]) hx hb dX0_staysUpTo_38 hl (k := 1) rfl (rfl) (by decide) rfl (fun ls hl => ?_)
          refine lv_goto (tgt := 16) hx hb dX0_staysUpTo_41 (by decide) ?_
          have e3 : (r + 1 - (k + 1) + 1) = (r + 1 - k) := by omega
          exact ih16 k (by omega) (by omega) (by have qr := runA_s kc32; omega) ls (xl_eq (b := [(5, .int ((nI k) + (-1))), (4, .int (nI (r + 1 - k))), (3, .int (nI (sndN V r t))), (0, .ref g), (1, .int (nI r)), (2, .int (nI t))]) (lv_sub (l' := [(5, .int ((nI k) + (-1))), (4, .int (nI (r + 1 - (k + 1) + 1))), (3, .int (nI (sndN V r t))), (0, .ref g), (1, .int (nI r)), (2, .int (nI t))]) hl [0, 1, 2, 3, 4, 5] rfl) (xk rfl (xk (congrArg (fun z : Nat => Value.int (nI z)) e3) (xk rfl (xk rfl (xk rfl (xk rfl (rfl : ([] : List (Nat × Value)) = []))))))))
  have e4 : (nI r) = ((nI (r + 1)) + (-1)) := (pk_m1 r).symm
  have e5 : 0 = (r + 1 - (r + 1)) := by omega
  exact lp16 ((r + 1) + 1) (r + 1) (Nat.lt_succ_self _) (by omega) (by omega) ls (xl_eq (b := [(5, .int ((nI (r + 1)) + (-1))), (4, .int (nI (r + 1 - (r + 1)))), (3, .int (nI (sndN V r t))), (0, .ref g), (1, .int (nI r)), (2, .int (nI t))]) (lv_sub (l' := [(5, .int (nI r)), (4, .int (nI 0)), (3, .int (nI (sndN V r t))), (0, .ref g), (1, .int (nI r)), (2, .int (nI t))]) hl [0, 1, 2, 3, 4, 5] rfl) (xk (congrArg Value.int e4) (xk (congrArg (fun z : Nat => Value.int (nI z)) e5) (xk rfl (xk rfl (xk rfl (xk rfl (rfl : ([] : List (Nat × Value)) = []))))))))
set_option maxHeartbeats 8000000 in
set_option maxRecDepth 100000 in
theorem c_X0_longestFloat (l : Launch) (D : va_G) (y : Nat → ClassId) (g : Nat) (h : Nat → Nat) (V : Nat → Nat) (q : Nat → Nat → Int32) (hR : RepC V q) (hI : Inv V) (t : Nat) (ht : t < 8) : Met l yX0_longestFloat wsX0_longestFloat ({ frames := 3, cells := 0, slots := 0, locals := 68 }) (va_Pc [.ref g, .int (nI t)] (xPr D y [(g, .inr (0, [.ref (h 0)])), (h 0, .inr (2, [.ref (h 1), .ref (h 2), .ref (h 3), .ref (h 4), .int (nI (V 16)), .int (nI (V 67)), .int (rmb V), .int (nI (V 66))])), (h 1, .inl (y 1, 8, .inl (q 0))), (h 2, .inl (y 1, 8, .inl (q 1))), (h 3, .inl (y 1, 24, .inl (q 2))), (h 4, .inl (y 1, 4, .inl (q 3)))])) (vp_Si (fun rz => rz = nI (mxR V t (V 16)))) 0 0 (fun _ => False) := by
  refine Met.ofW (cc := cX0_longestFloat) (maxL := 4) (ret := (some .int)) (by decide) rfl ?_
  intro p e s m args below meth c s₁ B hml hv
  obtain ⟨rfl, hP, hK⟩ := hv
  have hx := B.exec
  have hb := B.bytes
  have hr := B.returns
  have hts := atoms_spec (ws := wsX0_longestFloat) B.pre
  have hown : s.vm.findClass RX0 = some m.cls := findClass_of_methodNamed B.named
  have hlocks := B.notSynchronized
  have f_21 := hts (.fieldLink RX0 21 "LoomTunes$Register" "size" "I") (by decide +kernel)
  have f_9 := hts (.fieldLink RX0 9 "LoomTunes$Cloth" "register" "LLoomTunes$Register;") (by decide +kernel)
  have hin_X0 : ∀ w ∈ wsX00, w ∈ wsX0_longestFloat := by decide +kernel
  have hin_X2 : ∀ w ∈ wsX20, w ∈ wsX0_longestFloat := by decide +kernel
  have mc_29 := hts (.code Lib.Math.max.name Lib.Math.max.code 2 (some .int)) (by decide +kernel)
  have mi_29 := hts (.initialized "java/lang/Math") (by decide +kernel)
  have ml_29 := hts (.methodLink RX0 29 Lib.Math.max.name) (by decide +kernel)
  have ms_29 := hts (.static Lib.Math.max.name) (by decide +kernel)
  have hP : va_P D vwCl [(g, .inr (0, [.ref (h 0)])), (h 0, .inr (2, [.ref (h 1), .ref (h 2), .ref (h 3), .ref (h 4), .int (nI (V 16)), .int (nI (V 67)), .int (rmb V), .int (nI (V 66))])), (h 1, .inl (y 1, 8, .inl (q 0))), (h 2, .inl (y 1, 8, .inl (q 1))), (h 3, .inl (y 1, 24, .inl (q 2))), (h 4, .inl (y 1, 4, .inl (q 3)))] s.heap := hP
  have hl := lv_entry ([.ref g, .int (nI t)]) (n := 4) (Nat.le_of_ble_eq_true rfl)
  rw [lg_entry_eq]
  generalize (lg_sl ([.ref g, .int (nI t)]) ++ List.replicate (4 - (lg_sl ([.ref g, .int (nI t)])).length) Slot.unset).toArray = ls at hl ⊢
  have hl : lv_has ls 4 [(0, .ref g), (1, .int (nI t))] := hl
  have hsz := hI.sz
  refine lv_iconst (v := nI 0) hx hb dX0_longestFloat_0 (by decide) ?_
  refine lv_istore_n (lv' := [(2, .int (nI 0)), (0, .ref g), (1, .int (nI t))]) hx hb dX0_longestFloat_1 rfl hl (by decide) rfl (fun ls hl => ?_)
  refine lv_iconst (v := nI 0) hx hb dX0_longestFloat_2 (by decide) ?_
  refine lv_istore_n (lv' := [(3, .int (nI 0)), (2, .int (nI 0)), (0, .ref g), (1, .int (nI t))]) hx hb dX0_longestFloat_3 rfl hl (by decide) rfl (fun ls hl => ?_)
  have lp4 : ∀ (n : Nat) (i : Nat), V 16 - i < n → (i ≤ V 16) → ∀ ls : Array Slot, lv_has ls 4 [(3, .int (nI i)), (2, .int (nI (mxR V t i))), (0, .ref g), (1, .int (nI t))] → W p l e (headSpec wsX0_longestFloat ({ frames := 3, cells := 0, slots := 0, locals := 68 })).room s m ([.ref g, .int (nI t)] : List Value).toArray below meth c s.heap [] 0 0 (MQ below (vp_Si (fun rz => rz = nI (mxR V t (V 16)))) ([.ref g, .int (nI t)] : List Value).toArray s 0 0 (fun _ => False)) (F0 m 4 ls []) := by
    intro n
    induction n with
    | zero => intro i hm; exact absurd hm (Nat.not_lt_zero _)
    | succ n ih4 =>
      intro i hm hi ls hl
      refine lv_iload_n hx hb dX0_longestFloat_4 rfl (lv_at hl 0 rfl) ?_
      refine lv_aload_n hx hb dX0_longestFloat_5 rfl (lv_at hl 2 rfl) ?_
      refine va_get (D := D) (ci := 0) (v := .ref (h 0)) (C := RX0) (T := TX0) (N := 1) hx hb hts hin_X0 hown hK.1 hP 0 rfl rfl 0 (by decide) f_9 (fun _ h9 => h9) rfl dX0_longestFloat_6 ?_
      refine va_get (D := D) (ci := 2) (v := .int (nI (V 16))) (C := RX2) (T := TX2) (N := 8) hx hb hts hin_X2 hown hK.1 hP 1 rfl rfl 4 (by decide) f_21 (fun _ h9 => h9) rfl dX0_longestFloat_9 ?_
      refine xn_icmp_ge hx hb (by omega) (by omega) (tgt := 32) dX0_longestFloat_12 (by decide) (fun kc12 => ?_) (fun kc12 => ?_)
      · refine lv_iload_n hx hb dX0_longestFloat_32 rfl (lv_at hl 1 rfl) ?_
        exact xr_i hx hb hr hlocks dX0_longestFloat_33 (congrArg nI (by rw [show i = V 16 by omega]))
      · have hm1 := mxR_le (V := V) (t := t) i
        have hm2 : runR V t i ≤ i + 1 := runA_le (i + 1)
        refine lv_iload_n hx hb dX0_longestFloat_15 rfl (lv_at hl 1 rfl) ?_
        refine lv_aload_n hx hb dX0_longestFloat_16 rfl (lv_at hl 2 rfl) ?_
        refine lv_iload_n hx hb dX0_longestFloat_17 rfl (lv_at hl 0 rfl) ?_
        refine lv_iload_n hx hb dX0_longestFloat_18 rfl (lv_at hl 3 rfl) ?_
        refine xc_V (As := [.int (nI i), .int (nI t)]) (rest := [.int (nI (mxR V t i))]) ⟨hx, hb, hml, hown, hts⟩ (c_X0_staysUpTo l D y g h V q hR hI i t (by omega) (by omega)) (cwV 2 hts gX0_longestFloat_X0_staysUpTo rfl rfl rfl hd_X0_staysUpTo ⟨Nat.le_of_ble_eq_true rfl, Nat.le_of_ble_eq_true rfl⟩) (xpv_r hK hP [0, 1, 2, 3, 4, 5] 0 rfl rfl rfl) rfl hl.1 rfl (Nat.le_of_ble_eq_true rfl) dX0_longestFloat_19 ⟨Nat.zero_le _, Nat.zero_le _⟩ (fun r1 hr1 => ?_)
        subst hr1
        refine va_mmax hx hb (hml.trans hl.1.symm) hown ml_29 ms_29 mi_29 mc_29 (Nat.le_of_ble_eq_true rfl) (Nat.le_of_ble_eq_true rfl) (Nat.zero_le _) (Nat.zero_le _) dX0_longestFloat_22 ?_
        refine xv (xi_max (by omega) (by omega)) ?_
        refine lv_istore_n (lv' := [(2, .int (nI (if mxR V t i < runR V t i then runR V t i else mxR V t i))), (3, .int (nI i)), (0, .ref g), (1, .int (nI t))]) hx hb dX0_longestFloat_25 rfl hl (by decide) rfl (fun ls hl => ?_)
        refine lv_iinc (v := nI (i + 1)) (lv' := [(3, .int (nI (i + 1))), (2, .int (nI (if mxR V t i < runR V t i then runR V t i else mxR V t i))), (0, .ref g), (1, .int (nI t))]) hx hb dX0_longestFloat_26 hl (k := 1) rfl (nI_add i 1) (by decide) rfl (fun ls hl => ?_)
        refine lv_goto (tgt := 4) hx hb dX0_longestFloat_29 (by decide) ?_
        have e2 : (if mxR V t i < runR V t i then runR V t i else mxR V t i) = (mxR V t (i + 1)) := by rw [mxR]
        exact ih4 (i + 1) (by omega) (by omega) ls (xl_eq (b := [(3, .int (nI (i + 1))), (2, .int (nI (mxR V t (i + 1)))), (0, .ref g), (1, .int (nI t))]) (lv_sub (l' := [(3, .int (nI (i + 1))), (2, .int (nI (if mxR V t i < runR V t i then runR V t i else mxR V t i))), (0, .ref g), (1, .int (nI t))]) hl [0, 1, 2, 3] rfl) (xk rfl (xk (congrArg (fun z : Nat => Value.int (nI z)) e2) (xk rfl (xk rfl (rfl : ([] : List (Nat × Value)) = []))))))
  have e3 : 0 = (mxR V t 0) := rfl
  exact lp4 ((V 16 - 0) + 1) 0 (Nat.lt_succ_self _) (by omega) ls (xl_eq (b := [(3, .int (nI 0)), (2, .int (nI (mxR V t 0))), (0, .ref g), (1, .int (nI t))]) (lv_sub (l' := [(3, .int (nI 0)), (2, .int (nI 0)), (0, .ref g), (1, .int (nI t))]) hl [0, 1, 2, 3] rfl) (xk rfl (xk (congrArg (fun z : Nat => Value.int (nI z)) e3) (xk rfl (xk rfl (rfl : ([] : List (Nat × Value)) = []))))))
set_option maxHeartbeats 8000000 in
set_option maxRecDepth 100000 in
theorem c_X0_longFloats (l : Launch) (D : va_G) (y : Nat → ClassId) (g : Nat) (h : Nat → Nat) (V : Nat → Nat) (q : Nat → Nat → Int32) (hR : RepC V q) (hI : Inv V) (t : Nat) (ht : t < 8) : Met l yX0_longFloats wsX0_longFloats ({ frames := 3, cells := 0, slots := 0, locals := 68 }) (va_Pc [.ref g, .int (nI t)] (xPr D y [(g, .inr (0, [.ref (h 0)])), (h 0, .inr (2, [.ref (h 1), .ref (h 2), .ref (h 3), .ref (h 4), .int (nI (V 16)), .int (nI (V 67)), .int (rmb V), .int (nI (V 66))])), (h 1, .inl (y 1, 8, .inl (q 0))), (h 2, .inl (y 1, 8, .inl (q 1))), (h 3, .inl (y 1, 24, .inl (q 2))), (h 4, .inl (y 1, 4, .inl (q 3)))])) (vp_Si (fun rz => rz = nI (loT V t))) 0 0 (fun _ => False) := by
  refine Met.ofW (cc := cX0_longFloats) (maxL := 4) (ret := (some .int)) (by decide) rfl ?_
  intro p e s m args below meth c s₁ B hml hv
  obtain ⟨rfl, hP, hK⟩ := hv
  have hx := B.exec
  have hb := B.bytes
  have hr := B.returns
  have hts := atoms_spec (ws := wsX0_longFloats) B.pre
  have hown : s.vm.findClass RX0 = some m.cls := findClass_of_methodNamed B.named
  have hlocks := B.notSynchronized
  have f_21 := hts (.fieldLink RX0 21 "LoomTunes$Register" "size" "I") (by decide +kernel)
  have f_9 := hts (.fieldLink RX0 9 "LoomTunes$Cloth" "register" "LLoomTunes$Register;") (by decide +kernel)
  have hin_X0 : ∀ w ∈ wsX00, w ∈ wsX0_longFloats := by decide +kernel
  have hin_X2 : ∀ w ∈ wsX20, w ∈ wsX0_longFloats := by decide +kernel
  have hP : va_P D vwCl [(g, .inr (0, [.ref (h 0)])), (h 0, .inr (2, [.ref (h 1), .ref (h 2), .ref (h 3), .ref (h 4), .int (nI (V 16)), .int (nI (V 67)), .int (rmb V), .int (nI (V 66))])), (h 1, .inl (y 1, 8, .inl (q 0))), (h 2, .inl (y 1, 8, .inl (q 1))), (h 3, .inl (y 1, 24, .inl (q 2))), (h 4, .inl (y 1, 4, .inl (q 3)))] s.heap := hP
  have hl := lv_entry ([.ref g, .int (nI t)]) (n := 4) (Nat.le_of_ble_eq_true rfl)
  rw [lg_entry_eq]
  generalize (lg_sl ([.ref g, .int (nI t)]) ++ List.replicate (4 - (lg_sl ([.ref g, .int (nI t)])).length) Slot.unset).toArray = ls at hl ⊢
  have hl : lv_has ls 4 [(0, .ref g), (1, .int (nI t))] := hl
  have hsz := hI.sz
  have hs3 := hI.s3
  refine lv_iconst (v := nI 0) hx hb dX0_longFloats_0 (by decide) ?_
  refine lv_istore_n (lv' := [(2, .int (nI 0)), (0, .ref g), (1, .int (nI t))]) hx hb dX0_longFloats_1 rfl hl (by decide) rfl (fun ls hl => ?_)
  refine lv_iconst (v := nI 0) hx hb dX0_longFloats_2 (by decide) ?_
  refine lv_istore_n (lv' := [(3, .int (nI 0)), (2, .int (nI 0)), (0, .ref g), (1, .int (nI t))]) hx hb dX0_longFloats_3 rfl hl (by decide) rfl (fun ls hl => ?_)
  have lp4 : ∀ (n : Nat) (i : Nat), V 16 - i < n → (i ≤ V 16) → ∀ ls : Array Slot, lv_has ls 4 [(3, .int (nI i)), (2, .int (nI (sN (fun r => if runR V t r = V 71 + 1 then 1 else 0) i))), (0, .ref g), (1, .int (nI t))] → W p l e (headSpec wsX0_longFloats ({ frames := 3, cells := 0, slots := 0, locals := 68 })).room s m ([.ref g, .int (nI t)] : List Value).toArray below meth c s.heap [] 0 0 (MQ below (vp_Si (fun rz => rz = nI (loT V t))) ([.ref g, .int (nI t)] : List Value).toArray s 0 0 (fun _ => False)) (F0 m 4 ls []) := by
    intro n
    induction n with
    | zero => intro i hm; exact absurd hm (Nat.not_lt_zero _)
    | succ n ih4 =>
      intro i hm hi ls hl
      refine lv_iload_n hx hb dX0_longFloats_4 rfl (lv_at hl 0 rfl) ?_
      refine lv_aload_n hx hb dX0_longFloats_5 rfl (lv_at hl 2 rfl) ?_
      refine va_get (D := D) (ci := 0) (v := .ref (h 0)) (C := RX0) (T := TX0) (N := 1) hx hb hts hin_X0 hown hK.1 hP 0 rfl rfl 0 (by decide) f_9 (fun _ h9 => h9) rfl dX0_longFloats_6 ?_
      refine va_get (D := D) (ci := 2) (v := .int (nI (V 16))) (C := RX2) (T := TX2) (N := 8) hx hb hts hin_X2 hown hK.1 hP 1 rfl rfl 4 (by decide) f_21 (fun _ h9 => h9) rfl dX0_longFloats_9 ?_
      refine xn_icmp_ge hx hb (by omega) (by omega) (tgt := 43) dX0_longFloats_12 (by decide) (fun kc12 => ?_) (fun kc12 => ?_)
      · refine lv_iload_n hx hb dX0_longFloats_43 rfl (lv_at hl 1 rfl) ?_
        exact xr_i hx hb hr hlocks dX0_longFloats_44 (congrArg nI (by rw [show i = V 16 by omega]))
      · have hm2 : runR V t i ≤ i + 1 := runA_le (i + 1)
        refine lv_aload_n hx hb dX0_longFloats_15 rfl (lv_at hl 2 rfl) ?_
        refine lv_iload_n hx hb dX0_longFloats_16 rfl (lv_at hl 0 rfl) ?_
        refine lv_iload_n hx hb dX0_longFloats_17 rfl (lv_at hl 3 rfl) ?_
        refine xc_V (As := [.int (nI i), .int (nI t)]) (rest := []) ⟨hx, hb, hml, hown, hts⟩ (c_X0_staysUpTo l D y g h V q hR hI i t (by omega) (by omega)) (cwV 2 hts gX0_longFloats_X0_staysUpTo rfl rfl rfl hd_X0_staysUpTo ⟨Nat.le_of_ble_eq_true rfl, Nat.le_of_ble_eq_true rfl⟩) (xpv_r hK hP [0, 1, 2, 3, 4, 5] 0 rfl rfl rfl) rfl hl.1 rfl (Nat.le_of_ble_eq_true rfl) dX0_longFloats_18 ⟨Nat.zero_le _, Nat.zero_le _⟩ (fun r1 hr1 => ?_)
        subst hr1
        refine lv_aload_n hx hb dX0_longFloats_21 rfl (lv_at hl 2 rfl) ?_
        refine va_get (D := D) (ci := 0) (v := .ref (h 0)) (C := RX0) (T := TX0) (N := 1) hx hb hts hin_X0 hown hK.1 hP 0 rfl rfl 0 (by decide) f_9 (fun _ h9 => h9) rfl dX0_longFloats_22 ?_
        refine lv_iconst (v := nI 3) hx hb dX0_longFloats_25 (by decide) ?_
        refine xc_V (As := [.int (nI 3)]) (rest := [.int (nI (runR V t i))]) ⟨hx, hb, hml, hown, hts⟩ (c_X2_settingAt l D y h V q hR hI 3 (by omega)) (cwV 1 hts gX0_longFloats_X2_settingAt rfl rfl rfl hd_X2_settingAt ⟨Nat.le_of_ble_eq_true rfl, Nat.le_of_ble_eq_true rfl⟩) (xpv_r hK hP [1, 2, 3, 4, 5] 1 rfl rfl rfl) rfl hl.1 rfl (Nat.le_of_ble_eq_true rfl) dX0_longFloats_26 ⟨Nat.zero_le _, Nat.zero_le _⟩ (fun r2 hr2 => ?_)
        subst hr2
        refine xv (v := nI (V 71)) rfl ?_
        refine lv_iconst (v := nI 1) hx hb dX0_longFloats_29 (by decide) ?_
        refine xn_add hx hb (r := ((V 71) + 1)) rfl dX0_longFloats_30 ?_
        refine xn_icmp_ne hx hb (by omega) (by omega) (tgt := 37) dX0_longFloats_31 (by decide) (fun kc31 => ?_) (fun kc31 => ?_)
        · refine lv_iinc (v := nI (i + 1)) (lv' := [(3, .int (nI (i + 1))), (2, .int (nI (sN (fun r => if runR V t r = V 71 + 1 then 1 else 0) i))), (0, .ref g), (1, .int (nI t))]) hx hb dX0_longFloats_37 hl (k := 0) rfl (nI_add i 1) (by decide) rfl (fun ls hl => ?_)
          refine lv_goto (tgt := 4) hx hb dX0_longFloats_40 (by decide) ?_
          have e3 : (sN (fun r => if runR V t r = V 71 + 1 then 1 else 0) i) = (sN (fun r => if runR V t r = V 71 + 1 then 1 else 0) (i + 1)) := by first | exact sN_t (if_pos kc31) | exact sN_f (if_neg kc31)
          exact ih4 (i + 1) (by omega) (by omega) ls (xl_eq (b := [(3, .int (nI (i + 1))), (2, .int (nI (sN (fun r => if runR V t r = V 71 + 1 then 1 else 0) (i + 1)))), (0, .ref g), (1, .int (nI t))]) (lv_sub (l' := [(3, .int (nI (i + 1))), (2, .int (nI (sN (fun r => if runR V t r = V 71 + 1 then 1 else 0) i))), (0, .ref g), (1, .int (nI t))]) hl [0, 1, 2, 3] rfl) (xk rfl (xk (congrArg (fun z : Nat => Value.int (nI z)) e3) (xk rfl (xk rfl (rfl : ([] : List (Nat × Value)) = []))))))
        · refine lv_iinc (v := nI (sN (fun r => if runR V t r = V 71 + 1 then 1 else 0) i + 1)) (lv' := [(2, .int (nI (sN (fun r => if runR V t r = V 71 + 1 then 1 else 0) i + 1))), (3, .int (nI i)), (0, .ref g), (1, .int (nI t))]) hx hb dX0_longFloats_34 hl (k := 1) rfl (nI_add (sN (fun r => if runR V t r = V 71 + 1 then 1 else 0) i) 1) (by decide) rfl (fun ls hl => ?_)
          refine lv_iinc (v := nI (i + 1)) (lv' := [(3, .int (nI (i + 1))), (2, .int (nI (sN (fun r => if runR V t r = V 71 + 1 then 1 else 0) i + 1))), (0, .ref g), (1, .int (nI t))]) hx hb dX0_longFloats_37 hl (k := 1) rfl (nI_add i 1) (by decide) rfl (fun ls hl => ?_)
          refine lv_goto (tgt := 4) hx hb dX0_longFloats_40 (by decide) ?_
          have e4 : (sN (fun r => if runR V t r = V 71 + 1 then 1 else 0) i + 1) = (sN (fun r => if runR V t r = V 71 + 1 then 1 else 0) (i + 1)) := by first | exact sN_t (if_pos kc31) | exact sN_f (if_neg kc31)
          exact ih4 (i + 1) (by omega) (by omega) ls (xl_eq (b := [(3, .int (nI (i + 1))), (2, .int (nI (sN (fun r => if runR V t r = V 71 + 1 then 1 else 0) (i + 1)))), (0, .ref g), (1, .int (nI t))]) (lv_sub (l' := [(3, .int (nI (i + 1))), (2, .int (nI (sN (fun r => if runR V t r = V 71 + 1 then 1 else 0) i + 1))), (0, .ref g), (1, .int (nI t))]) hl [0, 1, 2, 3] rfl) (xk rfl (xk (congrArg (fun z : Nat => Value.int (nI z)) e4) (xk rfl (xk rfl (rfl : ([] : List (Nat × Value)) = []))))))
  have e5 : 0 = (sN (fun r => if runR V t r = V 71 + 1 then 1 else 0) 0) := rfl
  exact lp4 ((V 16 - 0) + 1) 0 (Nat.lt_succ_self _) (by omega) ls (xl_eq (b := [(3, .int (nI 0)), (2, .int (nI (sN (fun r => if runR V t r = V 71 + 1 then 1 else 0) 0))), (0, .ref g), (1, .int (nI t))]) (lv_sub (l' := [(3, .int (nI 0)), (2, .int (nI 0)), (0, .ref g), (1, .int (nI t))]) hl [0, 1, 2, 3] rfl) (xk rfl (xk (congrArg (fun z : Nat => Value.int (nI z)) e5) (xk rfl (xk rfl (rfl : ([] : List (Nat × Value)) = []))))))
set_option maxHeartbeats 8000000 in
set_option maxRecDepth 100000 in
theorem c_X0_longFloatsInAll (l : Launch) (D : va_G) (y : Nat → ClassId) (g : Nat) (h : Nat → Nat) (V : Nat → Nat) (q : Nat → Nat → Int32) (hR : RepC V q) (hI : Inv V) : Met l yX0_longFloatsInAll wsX0_longFloatsInAll ({ frames := 4, cells := 0, slots := 0, locals := 91 }) (va_Pc [.ref g] (xPr D y [(g, .inr (0, [.ref (h 0)])), (h 0, .inr (2, [.ref (h 1), .ref (h 2), .ref (h 3), .ref (h 4), .int (nI (V 16)), .int (nI (V 67)), .int (rmb V), .int (nI (V 66))])), (h 1, .inl (y 1, 8, .inl (q 0))), (h 2, .inl (y 1, 8, .inl (q 1))), (h 3, .inl (y 1, 24, .inl (q 2))), (h 4, .inl (y 1, 4, .inl (q 3)))])) (vp_Si (fun rz => rz = nI (loA V))) 0 0 (fun _ => False) := by
  refine Met.ofW (cc := cX0_longFloatsInAll) (maxL := 3) (ret := (some .int)) (by decide) rfl ?_
  intro p e s m args below meth c s₁ B hml hv
  obtain ⟨rfl, hP, hK⟩ := hv
  have hx := B.exec
  have hb := B.bytes
  have hr := B.returns
  have hts := atoms_spec (ws := wsX0_longFloatsInAll) B.pre
  have hown : s.vm.findClass RX0 = some m.cls := findClass_of_methodNamed B.named
  have hlocks := B.notSynchronized
  have hP : va_P D vwCl [(g, .inr (0, [.ref (h 0)])), (h 0, .inr (2, [.ref (h 1), .ref (h 2), .ref (h 3), .ref (h 4), .int (nI (V 16)), .int (nI (V 67)), .int (rmb V), .int (nI (V 66))])), (h 1, .inl (y 1, 8, .inl (q 0))), (h 2, .inl (y 1, 8, .inl (q 1))), (h 3, .inl (y 1, 24, .inl (q 2))), (h 4, .inl (y 1, 4, .inl (q 3)))] s.heap := hP
  have hl := lv_entry ([.ref g]) (n := 3) (Nat.le_of_ble_eq_true rfl)
  rw [lg_entry_eq]
  generalize (lg_sl ([.ref g]) ++ List.replicate (3 - (lg_sl ([.ref g])).length) Slot.unset).toArray = ls at hl ⊢
  have hl : lv_has ls 3 [(0, .ref g)] := hl
  refine lv_iconst (v := nI 0) hx hb dX0_longFloatsInAll_0 (by decide) ?_
  refine lv_istore_n (lv' := [(1, .int (nI 0)), (0, .ref g)]) hx hb dX0_longFloatsInAll_1 rfl hl (by decide) rfl (fun ls hl => ?_)
  refine lv_iconst (v := nI 0) hx hb dX0_longFloatsInAll_2 (by decide) ?_
  refine lv_istore_n (lv' := [(2, .int (nI 0)), (1, .int (nI 0)), (0, .ref g)]) hx hb dX0_longFloatsInAll_3 rfl hl (by decide) rfl (fun ls hl => ?_)
  have lp4 : ∀ (n : Nat) (i : Nat), 8 - i < n → (i ≤ 8) → ∀ ls : Array Slot, lv_has ls 3 [(2, .int (nI i)), (1, .int (nI (sN (loT V) i))), (0, .ref g)] → W p l e (headSpec wsX0_longFloatsInAll ({ frames := 4, cells := 0, slots := 0, locals := 91 })).room s m ([.ref g] : List Value).toArray below meth c s.heap [] 0 0 (MQ below (vp_Si (fun rz => rz = nI (loA V))) ([.ref g] : List Value).toArray s 0 0 (fun _ => False)) (F0 m 4 ls []) := by
    intro n
    induction n with
    | zero => intro i hm; exact absurd hm (Nat.not_lt_zero _)
    | succ n ih4 =>
      intro i hm hi ls hl
      refine lv_iload_n hx hb dX0_longFloatsInAll_4 rfl (lv_at hl 0 rfl) ?_
      refine lv_bipush (v := nI 8) hx hb dX0_longFloatsInAll_5 (by decide) ?_
      refine xn_icmp_ge hx hb (by omega) (by omega) (tgt := 24) dX0_longFloatsInAll_7 (by decide) (fun kc7 => ?_) (fun kc7 => ?_)
      · refine lv_iload_n hx hb dX0_longFloatsInAll_24 rfl (lv_at hl 1 rfl) ?_
        exact xr_i hx hb hr hlocks dX0_longFloatsInAll_25 (congrArg nI (by rw [show i = 8 by omega]))
      · refine lv_iload_n hx hb dX0_longFloatsInAll_10 rfl (lv_at hl 1 rfl) ?_
        refine lv_aload_n hx hb dX0_longFloatsInAll_11 rfl (lv_at hl 2 rfl) ?_
        refine lv_iload_n hx hb dX0_longFloatsInAll_12 rfl (lv_at hl 0 rfl) ?_
        refine xc_V (As := [.int (nI i)]) (rest := [.int (nI (sN (loT V) i))]) ⟨hx, hb, hml, hown, hts⟩ (c_X0_longFloats l D y g h V q hR hI i (by omega)) (cwV 1 hts gX0_longFloatsInAll_X0_longFloats rfl rfl rfl hd_X0_longFloats ⟨Nat.le_of_ble_eq_true rfl, Nat.le_of_ble_eq_true rfl⟩) (xpv_r hK hP [0, 1, 2, 3, 4, 5] 0 rfl rfl rfl) rfl hl.1 rfl (Nat.le_of_ble_eq_true rfl) dX0_longFloatsInAll_13 ⟨Nat.zero_le _, Nat.zero_le _⟩ (fun r1 hr1 => ?_)
        subst hr1
        refine xn_add hx hb (r := ((sN (loT V) i) + (loT V i))) rfl dX0_longFloatsInAll_16 ?_
        refine lv_istore_n (lv' := [(1, .int (nI ((sN (loT V) i) + (loT V i)))), (2, .int (nI i)), (0, .ref g)]) hx hb dX0_longFloatsInAll_17 rfl hl (by decide) rfl (fun ls hl => ?_)
        refine lv_iinc (v := nI (i + 1)) (lv' := [(2, .int (nI (i + 1))), (1, .int (nI ((sN (loT V) i) + (loT V i)))), (0, .ref g)]) hx hb dX0_longFloatsInAll_18 hl (k := 1) rfl (nI_add i 1) (by decide) rfl (fun ls hl => ?_)
        refine lv_goto (tgt := 4) hx hb dX0_longFloatsInAll_21 (by decide) ?_
        have e2 : ((sN (loT V) i) + (loT V i)) = (sN (loT V) (i + 1)) := rfl
        exact ih4 (i + 1) (by omega) (by omega) ls (xl_eq (b := [(2, .int (nI (i + 1))), (1, .int (nI (sN (loT V) (i + 1)))), (0, .ref g)]) (lv_sub (l' := [(2, .int (nI (i + 1))), (1, .int (nI ((sN (loT V) i) + (loT V i)))), (0, .ref g)]) hl [0, 1, 2] rfl) (xk rfl (xk (congrArg (fun z : Nat => Value.int (nI z)) e2) (xk rfl (rfl : ([] : List (Nat × Value)) = [])))))
  have e3 : 0 = (sN (loT V) 0) := rfl
  exact lp4 ((8 - 0) + 1) 0 (Nat.lt_succ_self _) (by omega) ls (xl_eq (b := [(2, .int (nI 0)), (1, .int (nI (sN (loT V) 0))), (0, .ref g)]) (lv_sub (l' := [(2, .int (nI 0)), (1, .int (nI 0)), (0, .ref g)]) hl [0, 1, 2] rfl) (xk rfl (xk (congrArg (fun z : Nat => Value.int (nI z)) e3) (xk rfl (rfl : ([] : List (Nat × Value)) = [])))))
set_option maxHeartbeats 8000000 in
set_option maxRecDepth 100000 in
theorem c_X3_barAt (l : Launch) (D : va_G) (y : Nat → ClassId) (g : Nat) (h : Nat → Nat) (V : Nat → Nat) (q : Nat → Nat → Int32) (hR : RepC V q) (hI : Inv V) (r : Nat) (hr0 : r < 2 ^ 31) : Met l yX3_barAt wsX3_barAt ({ frames := 1, cells := 0, slots := 0, locals := 21 }) (va_Pc [.ref g, .int (nI r)] (xPr D y [(g, .inr (3, [.ref (h 0)])), (h 0, .inr (2, [.ref (h 1), .ref (h 2), .ref (h 3), .ref (h 4), .int (nI (V 16)), .int (nI (V 67)), .int (rmb V), .int (nI (V 66))])), (h 1, .inl (y 1, 8, .inl (q 0))), (h 2, .inl (y 1, 8, .inl (q 1))), (h 3, .inl (y 1, 24, .inl (q 2))), (h 4, .inl (y 1, 4, .inl (q 3)))])) (vp_Si (fun rz => rz = nI (r / V 68))) 0 0 (fun _ => False) := by
  refine Met.ofW (cc := cX3_barAt) (maxL := 3) (ret := (some .int)) (by decide) rfl ?_
  intro p e s m args below meth c s₁ B hml hv
  obtain ⟨rfl, hP, hK⟩ := hv
  have hx := B.exec
  have hb := B.bytes
  have hr := B.returns
  have hts := atoms_spec (ws := wsX3_barAt) B.pre
  have hown : s.vm.findClass RX3 = some m.cls := findClass_of_methodNamed B.named
  have hlocks := B.notSynchronized
  have f_9 := hts (.fieldLink RX3 9 "LoomTunes$Rows" "register" "LLoomTunes$Register;") (by decide +kernel)
  have hin_X3 : ∀ w ∈ wsX30, w ∈ wsX3_barAt := by decide +kernel
  have hP : va_P D vwCl [(g, .inr (3, [.ref (h 0)])), (h 0, .inr (2, [.ref (h 1), .ref (h 2), .ref (h 3), .ref (h 4), .int (nI (V 16)), .int (nI (V 67)), .int (rmb V), .int (nI (V 66))])), (h 1, .inl (y 1, 8, .inl (q 0))), (h 2, .inl (y 1, 8, .inl (q 1))), (h 3, .inl (y 1, 24, .inl (q 2))), (h 4, .inl (y 1, 4, .inl (q 3)))] s.heap := hP
  have hl := lv_entry ([.ref g, .int (nI r)]) (n := 3) (Nat.le_of_ble_eq_true rfl)
  rw [lg_entry_eq]
  generalize (lg_sl ([.ref g, .int (nI r)]) ++ List.replicate (3 - (lg_sl ([.ref g, .int (nI r)])).length) Slot.unset).toArray = ls at hl ⊢
  have hl : lv_has ls 3 [(0, .ref g), (1, .int (nI r))] := hl
  have hs0 := hI.s0
  refine lv_aload_n hx hb dX3_barAt_0 rfl (lv_at hl 0 rfl) ?_
  refine va_get (D := D) (ci := 3) (v := .ref (h 0)) (C := RX3) (T := TX3) (N := 1) hx hb hts hin_X3 hown hK.1 hP 0 rfl rfl 0 (by decide) f_9 (fun _ h9 => h9) rfl dX3_barAt_1 ?_
  refine lv_iconst (v := nI 0) hx hb dX3_barAt_4 (by decide) ?_
  refine xc_V (As := [.int (nI 0)]) (rest := []) ⟨hx, hb, hml, hown, hts⟩ (c_X2_settingAt l D y h V q hR hI 0 (by omega)) (cwV 1 hts gX3_barAt_X2_settingAt rfl rfl rfl hd_X2_settingAt ⟨Nat.le_of_ble_eq_true rfl, Nat.le_of_ble_eq_true rfl⟩) (xpv_r hK hP [1, 2, 3, 4, 5] 1 rfl rfl rfl) rfl hl.1 rfl (Nat.le_of_ble_eq_true rfl) dX3_barAt_5 ⟨Nat.zero_le _, Nat.zero_le _⟩ (fun r1 hr1 => ?_)
  subst hr1
  refine xv (v := nI (V 68)) rfl ?_
  refine lv_istore_n (lv' := [(2, .int (nI (V 68))), (0, .ref g), (1, .int (nI r))]) hx hb dX3_barAt_8 rfl hl (by decide) rfl (fun ls hl => ?_)
  refine lv_iload_n hx hb dX3_barAt_9 rfl (lv_at hl 0 rfl) ?_
  refine xn_if_le hx hb (by omega) (tgt := 19) dX3_barAt_10 (by decide) (fun h => absurd h (by omega)) (fun kc10 => ?_)
  refine lv_iload_n hx hb dX3_barAt_13 rfl (lv_at hl 2 rfl) ?_
  refine lv_iload_n hx hb dX3_barAt_14 rfl (lv_at hl 0 rfl) ?_
  refine xn_div hx hb (r := (r / (V 68))) (by omega) (by omega) (by omega) rfl dX3_barAt_15 ?_
  refine lv_goto (tgt := 20) hx hb dX3_barAt_16 (by decide) ?_
  exact xr_i hx hb hr hlocks dX3_barAt_20 (rfl)
set_option maxHeartbeats 8000000 in
set_option maxRecDepth 100000 in
theorem c_X3_bars (l : Launch) (D : va_G) (y : Nat → ClassId) (g : Nat) (h : Nat → Nat) (V : Nat → Nat) (q : Nat → Nat → Int32) (hR : RepC V q) (hI : Inv V) : Met l yX3_bars wsX3_bars ({ frames := 2, cells := 0, slots := 0, locals := 43 }) (va_Pc [.ref g] (xPr D y [(g, .inr (3, [.ref (h 0)])), (h 0, .inr (2, [.ref (h 1), .ref (h 2), .ref (h 3), .ref (h 4), .int (nI (V 16)), .int (nI (V 67)), .int (rmb V), .int (nI (V 66))])), (h 1, .inl (y 1, 8, .inl (q 0))), (h 2, .inl (y 1, 8, .inl (q 1))), (h 3, .inl (y 1, 24, .inl (q 2))), (h 4, .inl (y 1, 4, .inl (q 3)))])) (vp_Si (fun rz => rz = nI (baN V))) 0 0 (fun _ => False) := by
  refine Met.ofW (cc := cX3_bars) (maxL := 1) (ret := (some .int)) (by decide) rfl ?_
  intro p e s m args below meth c s₁ B hml hv
  obtain ⟨rfl, hP, hK⟩ := hv
  have hx := B.exec
  have hb := B.bytes
  have hr := B.returns
  have hts := atoms_spec (ws := wsX3_bars) B.pre
  have hown : s.vm.findClass RX3 = some m.cls := findClass_of_methodNamed B.named
  have hlocks := B.notSynchronized
  have f_21 := hts (.fieldLink RX3 21 "LoomTunes$Register" "size" "I") (by decide +kernel)
  have f_9 := hts (.fieldLink RX3 9 "LoomTunes$Rows" "register" "LLoomTunes$Register;") (by decide +kernel)
  have hin_X2 : ∀ w ∈ wsX20, w ∈ wsX3_bars := by decide +kernel
  have hin_X3 : ∀ w ∈ wsX30, w ∈ wsX3_bars := by decide +kernel
  have hP : va_P D vwCl [(g, .inr (3, [.ref (h 0)])), (h 0, .inr (2, [.ref (h 1), .ref (h 2), .ref (h 3), .ref (h 4), .int (nI (V 16)), .int (nI (V 67)), .int (rmb V), .int (nI (V 66))])), (h 1, .inl (y 1, 8, .inl (q 0))), (h 2, .inl (y 1, 8, .inl (q 1))), (h 3, .inl (y 1, 24, .inl (q 2))), (h 4, .inl (y 1, 4, .inl (q 3)))] s.heap := hP
  have hl := lv_entry ([.ref g]) (n := 1) (Nat.le_of_ble_eq_true rfl)
  rw [lg_entry_eq]
  generalize (lg_sl ([.ref g]) ++ List.replicate (1 - (lg_sl ([.ref g])).length) Slot.unset).toArray = ls at hl ⊢
  have hl : lv_has ls 1 [(0, .ref g)] := hl
  have hsz := hI.sz
  refine lv_aload_n hx hb dX3_bars_0 rfl (lv_at hl 0 rfl) ?_
  refine va_get (D := D) (ci := 3) (v := .ref (h 0)) (C := RX3) (T := TX3) (N := 1) hx hb hts hin_X3 hown hK.1 hP 0 rfl rfl 0 (by decide) f_9 (fun _ h9 => h9) rfl dX3_bars_1 ?_
  refine va_get (D := D) (ci := 2) (v := .int (nI (V 16))) (C := RX2) (T := TX2) (N := 8) hx hb hts hin_X2 hown hK.1 hP 1 rfl rfl 4 (by decide) f_21 (fun _ h9 => h9) rfl dX3_bars_4 ?_
  refine xn_if_ne hx hb (by omega) (tgt := 14) dX3_bars_7 (by decide) (fun kc7 => ?_) (fun kc7 => ?_)
  · refine lv_aload_n hx hb dX3_bars_14 rfl (lv_at hl 0 rfl) ?_
    refine lv_aload_n hx hb dX3_bars_15 rfl (lv_at hl 0 rfl) ?_
    refine va_get (D := D) (ci := 3) (v := .ref (h 0)) (C := RX3) (T := TX3) (N := 1) hx hb hts hin_X3 hown hK.1 hP 0 rfl rfl 0 (by decide) f_9 (fun _ h9 => h9) rfl dX3_bars_16 ?_
    refine va_get (D := D) (ci := 2) (v := .int (nI (V 16))) (C := RX2) (T := TX2) (N := 8) hx hb hts hin_X2 hown hK.1 hP 1 rfl rfl 4 (by decide) f_21 (fun _ h9 => h9) rfl dX3_bars_19 ?_
    refine lv_iconst (v := nI 1) hx hb dX3_bars_22 (by decide) ?_
    refine xn_sub hx hb (r := ((V 16) - 1)) (by omega) rfl dX3_bars_23 ?_
    refine xc_V (As := [.int (nI ((V 16) - 1))]) (rest := []) ⟨hx, hb, hml, hown, hts⟩ (c_X3_barAt l D y g h V q hR hI ((V 16) - 1) (by omega)) (cwV 1 hts gX3_bars_X3_barAt rfl rfl rfl hd_X3_barAt ⟨Nat.le_of_ble_eq_true rfl, Nat.le_of_ble_eq_true rfl⟩) (xpv_r hK hP [0, 1, 2, 3, 4, 5] 0 rfl rfl rfl) rfl hl.1 rfl (Nat.le_of_ble_eq_true rfl) dX3_bars_24 ⟨Nat.zero_le _, Nat.zero_le _⟩ (fun r1 hr1 => ?_)
    subst hr1
    refine lv_iconst (v := nI 1) hx hb dX3_bars_27 (by decide) ?_
    refine xn_add hx hb (r := ((((V 16) - 1) / V 68) + 1)) rfl dX3_bars_28 ?_
    exact xr_i hx hb hr hlocks dX3_bars_29 (congrArg nI (by unfold baN; first | rw [if_pos kc7] | rw [if_neg kc7]))
  · refine lv_iconst (v := nI 0) hx hb dX3_bars_10 (by decide) ?_
    refine lv_goto (tgt := 29) hx hb dX3_bars_11 (by decide) ?_
    exact xr_i hx hb hr hlocks dX3_bars_29 (congrArg nI (by unfold baN; first | rw [if_pos kc7] | rw [if_neg kc7]))
set_option maxHeartbeats 8000000 in
set_option maxRecDepth 100000 in
theorem c_X3_noteSet (l : Launch) (D : va_G) (y : Nat → ClassId) (g : Nat) (h : Nat → Nat) (V : Nat → Nat) (q : Nat → Nat → Int32) (hR : RepC V q) (hI : Inv V) (r : Nat) (hr0 : r < 2 ^ 31) : Met l yX3_noteSet wsX3_noteSet ({ frames := 2, cells := 0, slots := 0, locals := 43 }) (va_Pc [.ref g, .int (nI r)] (xPr D y [(g, .inr (3, [.ref (h 0)])), (h 0, .inr (2, [.ref (h 1), .ref (h 2), .ref (h 3), .ref (h 4), .int (nI (V 16)), .int (nI (V 67)), .int (rmb V), .int (nI (V 66))])), (h 1, .inl (y 1, 8, .inl (q 0))), (h 2, .inl (y 1, 8, .inl (q 1))), (h 3, .inl (y 1, 24, .inl (q 2))), (h 4, .inl (y 1, 4, .inl (q 3)))])) (vp_Si (fun rz => rz = nI (nsA V r 8))) 0 0 (fun _ => False) := by
  refine Met.ofW (cc := cX3_noteSet) (maxL := 4) (ret := (some .int)) (by decide) rfl ?_
  intro p e s m args below meth c s₁ B hml hv
  obtain ⟨rfl, hP, hK⟩ := hv
  have hx := B.exec
  have hb := B.bytes
  have hr := B.returns
  have hts := atoms_spec (ws := wsX3_noteSet) B.pre
  have hown : s.vm.findClass RX3 = some m.cls := findClass_of_methodNamed B.named
  have hlocks := B.notSynchronized
  have f_9 := hts (.fieldLink RX3 9 "LoomTunes$Rows" "register" "LLoomTunes$Register;") (by decide +kernel)
  have hin_X3 : ∀ w ∈ wsX30, w ∈ wsX3_noteSet := by decide +kernel
  have hP : va_P D vwCl [(g, .inr (3, [.ref (h 0)])), (h 0, .inr (2, [.ref (h 1), .ref (h 2), .ref (h 3), .ref (h 4), .int (nI (V 16)), .int (nI (V 67)), .int (rmb V), .int (nI (V 66))])), (h 1, .inl (y 1, 8, .inl (q 0))), (h 2, .inl (y 1, 8, .inl (q 1))), (h 3, .inl (y 1, 24, .inl (q 2))), (h 4, .inl (y 1, 4, .inl (q 3)))] s.heap := hP
  have hl := lv_entry ([.ref g, .int (nI r)]) (n := 4) (Nat.le_of_ble_eq_true rfl)
  rw [lg_entry_eq]
  generalize (lg_sl ([.ref g, .int (nI r)]) ++ List.replicate (4 - (lg_sl ([.ref g, .int (nI r)])).length) Slot.unset).toArray = ls at hl ⊢
  have hl : lv_has ls 4 [(0, .ref g), (1, .int (nI r))] := hl
  have hnt : ∀ {k : Nat}, k < 8 → V k < 48 := fun hk => hI.nt hk
  refine lv_iconst (v := nI 0) hx hb dX3_noteSet_0 (by decide) ?_
  refine lv_istore_n (lv' := [(2, .int (nI 0)), (0, .ref g), (1, .int (nI r))]) hx hb dX3_noteSet_1 rfl hl (by decide) rfl (fun ls hl => ?_)
  refine lv_iconst (v := nI 0) hx hb dX3_noteSet_2 (by decide) ?_
  refine lv_istore_n (lv' := [(3, .int (nI 0)), (2, .int (nI 0)), (0, .ref g), (1, .int (nI r))]) hx hb dX3_noteSet_3 rfl hl (by decide) rfl (fun ls hl => ?_)
  have lp4 : ∀ (n : Nat) (i : Nat), 8 - i < n → (i ≤ 8) → ∀ ls : Array Slot, lv_has ls 4 [(3, .int (nI i)), (2, .int (nI (nsA V r i))), (0, .ref g), (1, .int (nI r))] → W p l e (headSpec wsX3_noteSet ({ frames := 2, cells := 0, slots := 0, locals := 43 })).room s m ([.ref g, .int (nI r)] : List Value).toArray below meth c s.heap [] 0 0 (MQ below (vp_Si (fun rz => rz = nI (nsA V r 8))) ([.ref g, .int (nI r)] : List Value).toArray s 0 0 (fun _ => False)) (F0 m 4 ls []) := by
    intro n
    induction n with
    | zero => intro i hm; exact absurd hm (Nat.not_lt_zero _)
    | succ n ih4 =>
      intro i hm hi ls hl
      refine lv_iload_n hx hb dX3_noteSet_4 rfl (lv_at hl 0 rfl) ?_
      refine lv_bipush (v := nI 8) hx hb dX3_noteSet_5 (by decide) ?_
      refine xn_icmp_ge hx hb (by omega) (by omega) (tgt := 44) dX3_noteSet_7 (by decide) (fun kc7 => ?_) (fun kc7 => ?_)
      · refine lv_iload_n hx hb dX3_noteSet_44 rfl (lv_at hl 1 rfl) ?_
        exact xr_i hx hb hr hlocks dX3_noteSet_45 (congrArg nI (by rw [show i = 8 by omega]))
      · have hsb := sndN_lt (V := V) (r := r) (t := i)
        have hni := hnt (k := i) (by omega)
        refine lv_aload_n hx hb dX3_noteSet_10 rfl (lv_at hl 2 rfl) ?_
        refine va_get (D := D) (ci := 3) (v := .ref (h 0)) (C := RX3) (T := TX3) (N := 1) hx hb hts hin_X3 hown hK.1 hP 0 rfl rfl 0 (by decide) f_9 (fun _ h9 => h9) rfl dX3_noteSet_11 ?_
        refine lv_iload_n hx hb dX3_noteSet_14 rfl (lv_at hl 3 rfl) ?_
        refine lv_iload_n hx hb dX3_noteSet_15 rfl (lv_at hl 0 rfl) ?_
        refine xc_V (As := [.int (nI r), .int (nI i)]) (rest := []) ⟨hx, hb, hml, hown, hts⟩ (c_X2_soundsAt_n l D y h V q hR hI r (by omega) i (by omega)) (cwV 2 hts gX3_noteSet_X2_soundsAt rfl rfl rfl hd_X2_soundsAt ⟨Nat.le_of_ble_eq_true rfl, Nat.le_of_ble_eq_true rfl⟩) (xpv_r hK hP [1, 2, 3, 4, 5] 1 rfl rfl rfl) rfl hl.1 rfl (Nat.le_of_ble_eq_true rfl) dX3_noteSet_16 ⟨Nat.zero_le _, Nat.zero_le _⟩ (fun r1 hr1 => ?_)
        subst hr1
        refine xn_if_eq hx hb (by omega) (tgt := 38) dX3_noteSet_19 (by decide) (fun kc19 => ?_) (fun kc19 => ?_)
        · refine lv_iinc (v := nI (i + 1)) (lv' := [(3, .int (nI (i + 1))), (2, .int (nI (nsA V r i))), (0, .ref g), (1, .int (nI r))]) hx hb dX3_noteSet_38 hl (k := 0) rfl (nI_add i 1) (by decide) rfl (fun ls hl => ?_)
          refine lv_goto (tgt := 4) hx hb dX3_noteSet_41 (by decide) ?_
          have e2 : (nsA V r i) = (nsA V r (i + 1)) := by rw [nsA]; first | rw [if_pos (show sndN V r i = 1 by omega)] | rw [if_neg (show ¬ sndN V r i = 1 by omega)]
          exact ih4 (i + 1) (by omega) (by omega) ls (xl_eq (b := [(3, .int (nI (i + 1))), (2, .int (nI (nsA V r (i + 1)))), (0, .ref g), (1, .int (nI r))]) (lv_sub (l' := [(3, .int (nI (i + 1))), (2, .int (nI (nsA V r i))), (0, .ref g), (1, .int (nI r))]) hl [0, 1, 2, 3] rfl) (xk rfl (xk (congrArg (fun z : Nat => Value.int (nI z)) e2) (xk rfl (xk rfl (rfl : ([] : List (Nat × Value)) = []))))))
        · refine lv_iload_n hx hb dX3_noteSet_22 rfl (lv_at hl 1 rfl) ?_
          refine lv_iconst (v := nI 1) hx hb dX3_noteSet_23 (by decide) ?_
          refine lv_aload_n hx hb dX3_noteSet_24 rfl (lv_at hl 2 rfl) ?_
          refine va_get (D := D) (ci := 3) (v := .ref (h 0)) (C := RX3) (T := TX3) (N := 1) hx hb hts hin_X3 hown hK.1 hP 0 rfl rfl 0 (by decide) f_9 (fun _ h9 => h9) rfl dX3_noteSet_25 ?_
          refine lv_iload_n hx hb dX3_noteSet_28 rfl (lv_at hl 0 rfl) ?_
          refine xc_V (As := [.int (nI i)]) (rest := [.int (nI 1), .int (nI (nsA V r i))]) ⟨hx, hb, hml, hown, hts⟩ (c_X2_noteAt l D y h V q hR hI i (by omega)) (cwV 1 hts gX3_noteSet_X2_noteAt rfl rfl rfl hd_X2_noteAt ⟨Nat.le_of_ble_eq_true rfl, Nat.le_of_ble_eq_true rfl⟩) (xpv_r hK hP [1, 2, 3, 4, 5] 1 rfl rfl rfl) rfl hl.1 rfl (Nat.le_of_ble_eq_true rfl) dX3_noteSet_29 ⟨Nat.zero_le _, Nat.zero_le _⟩ (fun r3 hr3 => ?_)
          subst hr3
          refine lv_bipush (v := nI 12) hx hb dX3_noteSet_32 (by decide) ?_
          refine xn_rem hx hb (r := ((V i) % 12)) (by omega) (by omega) (by omega) rfl dX3_noteSet_34 ?_
          refine xn_shl hx hb (r := (1 * 2 ^ ((V i) % 12))) (by omega) (by have : 2 ^ (V i % 12) ≤ 2 ^ 12 := Nat.pow_le_pow_right (by decide) (by omega); omega) rfl dX3_noteSet_35 ?_
          refine xn_or hx hb (r := ((nsA V r i) ||| (1 * 2 ^ ((V i) % 12)))) rfl dX3_noteSet_36 ?_
          refine lv_istore_n (lv' := [(2, .int (nI ((nsA V r i) ||| (1 * 2 ^ ((V i) % 12))))), (3, .int (nI i)), (0, .ref g), (1, .int (nI r))]) hx hb dX3_noteSet_37 rfl hl (by decide) rfl (fun ls hl => ?_)
          refine lv_iinc (v := nI (i + 1)) (lv' := [(3, .int (nI (i + 1))), (2, .int (nI ((nsA V r i) ||| (1 * 2 ^ ((V i) % 12))))), (0, .ref g), (1, .int (nI r))]) hx hb dX3_noteSet_38 hl (k := 1) rfl (nI_add i 1) (by decide) rfl (fun ls hl => ?_)
          refine lv_goto (tgt := 4) hx hb dX3_noteSet_41 (by decide) ?_
          have e4 : ((nsA V r i) ||| (1 * 2 ^ ((V i) % 12))) = (nsA V r (i + 1)) := by rw [nsA]; first | rw [if_pos (show sndN V r i = 1 by omega)] | rw [if_neg (show ¬ sndN V r i = 1 by omega)]
          exact ih4 (i + 1) (by omega) (by omega) ls (xl_eq (b := [(3, .int (nI (i + 1))), (2, .int (nI (nsA V r (i + 1)))), (0, .ref g), (1, .int (nI r))]) (lv_sub (l' := [(3, .int (nI (i + 1))), (2, .int (nI ((nsA V r i) ||| (1 * 2 ^ ((V i) % 12))))), (0, .ref g), (1, .int (nI r))]) hl [0, 1, 2, 3] rfl) (xk rfl (xk (congrArg (fun z : Nat => Value.int (nI z)) e4) (xk rfl (xk rfl (rfl : ([] : List (Nat × Value)) = []))))))
  have e5 : 0 = (nsA V r 0) := rfl
  exact lp4 ((8 - 0) + 1) 0 (Nat.lt_succ_self _) (by omega) ls (xl_eq (b := [(3, .int (nI 0)), (2, .int (nI (nsA V r 0))), (0, .ref g), (1, .int (nI r))]) (lv_sub (l' := [(3, .int (nI 0)), (2, .int (nI 0)), (0, .ref g), (1, .int (nI r))]) hl [0, 1, 2, 3] rfl) (xk rfl (xk (congrArg (fun z : Nat => Value.int (nI z)) e5) (xk rfl (xk rfl (rfl : ([] : List (Nat × Value)) = []))))))
set_option maxHeartbeats 8000000 in
set_option maxRecDepth 100000 in
theorem c_X3_highest (l : Launch) (D : va_G) (y : Nat → ClassId) (g : Nat) (h : Nat → Nat) (V : Nat → Nat) (q : Nat → Nat → Int32) (hR : RepC V q) (hI : Inv V) (r : Nat) (hr0 : r < 2 ^ 31) : Met l yX3_highest wsX3_highest ({ frames := 2, cells := 0, slots := 0, locals := 43 }) (va_Pc [.ref g, .int (nI r)] (xPr D y [(g, .inr (3, [.ref (h 0)])), (h 0, .inr (2, [.ref (h 1), .ref (h 2), .ref (h 3), .ref (h 4), .int (nI (V 16)), .int (nI (V 67)), .int (rmb V), .int (nI (V 66))])), (h 1, .inl (y 1, 8, .inl (q 0))), (h 2, .inl (y 1, 8, .inl (q 1))), (h 3, .inl (y 1, 24, .inl (q 2))), (h 4, .inl (y 1, 4, .inl (q 3)))])) (vp_Si (fun rz => rz = hiA V r 8)) 0 0 (fun _ => False) := by
  refine Met.ofW (cc := cX3_highest) (maxL := 4) (ret := (some .int)) (by decide) rfl ?_
  intro p e s m args below meth c s₁ B hml hv
  obtain ⟨rfl, hP, hK⟩ := hv
  have hx := B.exec
  have hb := B.bytes
  have hr := B.returns
  have hts := atoms_spec (ws := wsX3_highest) B.pre
  have hown : s.vm.findClass RX3 = some m.cls := findClass_of_methodNamed B.named
  have hlocks := B.notSynchronized
  have f_35 := hts (.constant RX3 35 (-1000004)) (by decide +kernel)
  have f_9 := hts (.fieldLink RX3 9 "LoomTunes$Rows" "register" "LLoomTunes$Register;") (by decide +kernel)
  have hin_X3 : ∀ w ∈ wsX30, w ∈ wsX3_highest := by decide +kernel
  have mc_36 := hts (.code Lib.Math.max.name Lib.Math.max.code 2 (some .int)) (by decide +kernel)
  have mi_36 := hts (.initialized "java/lang/Math") (by decide +kernel)
  have ml_36 := hts (.methodLink RX3 36 Lib.Math.max.name) (by decide +kernel)
  have ms_36 := hts (.static Lib.Math.max.name) (by decide +kernel)
  have hP : va_P D vwCl [(g, .inr (3, [.ref (h 0)])), (h 0, .inr (2, [.ref (h 1), .ref (h 2), .ref (h 3), .ref (h 4), .int (nI (V 16)), .int (nI (V 67)), .int (rmb V), .int (nI (V 66))])), (h 1, .inl (y 1, 8, .inl (q 0))), (h 2, .inl (y 1, 8, .inl (q 1))), (h 3, .inl (y 1, 24, .inl (q 2))), (h 4, .inl (y 1, 4, .inl (q 3)))] s.heap := hP
  have hl := lv_entry ([.ref g, .int (nI r)]) (n := 4) (Nat.le_of_ble_eq_true rfl)
  rw [lg_entry_eq]
  generalize (lg_sl ([.ref g, .int (nI r)]) ++ List.replicate (4 - (lg_sl ([.ref g, .int (nI r)])).length) Slot.unset).toArray = ls at hl ⊢
  have hl : lv_has ls 4 [(0, .ref g), (1, .int (nI r))] := hl
  refine lv_ldc hx hb hown f_35 dX3_highest_0 ?_
  refine lv_istore_n (lv' := [(2, .int (-1000004)), (0, .ref g), (1, .int (nI r))]) hx hb dX3_highest_2 rfl hl (by decide) rfl (fun ls hl => ?_)
  refine lv_iconst (v := nI 0) hx hb dX3_highest_3 (by decide) ?_
  refine lv_istore_n (lv' := [(3, .int (nI 0)), (2, .int (-1000004)), (0, .ref g), (1, .int (nI r))]) hx hb dX3_highest_4 rfl hl (by decide) rfl (fun ls hl => ?_)
  have lp5 : ∀ (n : Nat) (i : Nat), 8 - i < n → (i ≤ 8) → ∀ ls : Array Slot, lv_has ls 4 [(3, .int (nI i)), (2, .int (hiA V r i)), (0, .ref g), (1, .int (nI r))] → W p l e (headSpec wsX3_highest ({ frames := 2, cells := 0, slots := 0, locals := 43 })).room s m ([.ref g, .int (nI r)] : List Value).toArray below meth c s.heap [] 0 0 (MQ below (vp_Si (fun rz => rz = hiA V r 8)) ([.ref g, .int (nI r)] : List Value).toArray s 0 0 (fun _ => False)) (F0 m 5 ls []) := by
    intro n
    induction n with
    | zero => intro i hm; exact absurd hm (Nat.not_lt_zero _)
    | succ n ih5 =>
      intro i hm hi ls hl
      refine lv_iload_n hx hb dX3_highest_5 rfl (lv_at hl 0 rfl) ?_
      refine lv_bipush (v := nI 8) hx hb dX3_highest_6 (by decide) ?_
      refine xn_icmp_ge hx hb (by omega) (by omega) (tgt := 42) dX3_highest_8 (by decide) (fun kc8 => ?_) (fun kc8 => ?_)
      · refine lv_iload_n hx hb dX3_highest_42 rfl (lv_at hl 1 rfl) ?_
        exact xr_i hx hb hr hlocks dX3_highest_43 (by rw [show i = 8 by omega])
      · have hsb := sndN_lt (V := V) (r := r) (t := i)
        refine lv_aload_n hx hb dX3_highest_11 rfl (lv_at hl 2 rfl) ?_
        refine va_get (D := D) (ci := 3) (v := .ref (h 0)) (C := RX3) (T := TX3) (N := 1) hx hb hts hin_X3 hown hK.1 hP 0 rfl rfl 0 (by decide) f_9 (fun _ h9 => h9) rfl dX3_highest_12 ?_
        refine lv_iload_n hx hb dX3_highest_15 rfl (lv_at hl 3 rfl) ?_
        refine lv_iload_n hx hb dX3_highest_16 rfl (lv_at hl 0 rfl) ?_
        refine xc_V (As := [.int (nI r), .int (nI i)]) (rest := []) ⟨hx, hb, hml, hown, hts⟩ (c_X2_soundsAt_n l D y h V q hR hI r (by omega) i (by omega)) (cwV 2 hts gX3_highest_X2_soundsAt rfl rfl rfl hd_X2_soundsAt ⟨Nat.le_of_ble_eq_true rfl, Nat.le_of_ble_eq_true rfl⟩) (xpv_r hK hP [1, 2, 3, 4, 5] 1 rfl rfl rfl) rfl hl.1 rfl (Nat.le_of_ble_eq_true rfl) dX3_highest_17 ⟨Nat.zero_le _, Nat.zero_le _⟩ (fun r1 hr1 => ?_)
        subst hr1
        refine xn_if_eq hx hb (by omega) (tgt := 36) dX3_highest_20 (by decide) (fun kc20 => ?_) (fun kc20 => ?_)
        · refine lv_iinc (v := nI (i + 1)) (lv' := [(3, .int (nI (i + 1))), (2, .int (hiA V r i)), (0, .ref g), (1, .int (nI r))]) hx hb dX3_highest_36 hl (k := 0) rfl (nI_add i 1) (by decide) rfl (fun ls hl => ?_)
          refine lv_goto (tgt := 5) hx hb dX3_highest_39 (by decide) ?_
          have e2 : (hiA V r i) = (hiA V r (i + 1)) := by rw [hiA]; first | rw [if_pos (show sndN V r i = 1 by omega)] | rw [if_neg (show ¬ sndN V r i = 1 by omega)]
          exact ih5 (i + 1) (by omega) (by omega) ls (xl_eq (b := [(3, .int (nI (i + 1))), (2, .int (hiA V r (i + 1))), (0, .ref g), (1, .int (nI r))]) (lv_sub (l' := [(3, .int (nI (i + 1))), (2, .int (hiA V r i)), (0, .ref g), (1, .int (nI r))]) hl [0, 1, 2, 3] rfl) (xk rfl (xk (congrArg Value.int e2) (xk rfl (xk rfl (rfl : ([] : List (Nat × Value)) = []))))))
        · refine lv_iload_n hx hb dX3_highest_23 rfl (lv_at hl 1 rfl) ?_
          refine lv_aload_n hx hb dX3_highest_24 rfl (lv_at hl 2 rfl) ?_
          refine va_get (D := D) (ci := 3) (v := .ref (h 0)) (C := RX3) (T := TX3) (N := 1) hx hb hts hin_X3 hown hK.1 hP 0 rfl rfl 0 (by decide) f_9 (fun _ h9 => h9) rfl dX3_highest_25 ?_
          refine lv_iload_n hx hb dX3_highest_28 rfl (lv_at hl 0 rfl) ?_
          refine xc_V (As := [.int (nI i)]) (rest := [.int (hiA V r i)]) ⟨hx, hb, hml, hown, hts⟩ (c_X2_noteAt l D y h V q hR hI i (by omega)) (cwV 1 hts gX3_highest_X2_noteAt rfl rfl rfl hd_X2_noteAt ⟨Nat.le_of_ble_eq_true rfl, Nat.le_of_ble_eq_true rfl⟩) (xpv_r hK hP [1, 2, 3, 4, 5] 1 rfl rfl rfl) rfl hl.1 rfl (Nat.le_of_ble_eq_true rfl) dX3_highest_29 ⟨Nat.zero_le _, Nat.zero_le _⟩ (fun r3 hr3 => ?_)
          subst hr3
          refine va_mmax hx hb (hml.trans hl.1.symm) hown ml_36 ms_36 mi_36 mc_36 (Nat.le_of_ble_eq_true rfl) (Nat.le_of_ble_eq_true rfl) (Nat.zero_le _) (Nat.zero_le _) dX3_highest_32 ?_
          refine lv_istore_n (lv' := [(2, .int (if hiA V r i < nI (V i) then nI (V i) else hiA V r i)), (3, .int (nI i)), (0, .ref g), (1, .int (nI r))]) hx hb dX3_highest_35 rfl hl (by decide) rfl (fun ls hl => ?_)
          refine lv_iinc (v := nI (i + 1)) (lv' := [(3, .int (nI (i + 1))), (2, .int (if hiA V r i < nI (V i) then nI (V i) else hiA V r i)), (0, .ref g), (1, .int (nI r))]) hx hb dX3_highest_36 hl (k := 1) rfl (nI_add i 1) (by decide) rfl (fun ls hl => ?_)
          refine lv_goto (tgt := 5) hx hb dX3_highest_39 (by decide) ?_
          have e4 : (if hiA V r i < nI (V i) then nI (V i) else hiA V r i) = (hiA V r (i + 1)) := by rw [hiA]; first | rw [if_pos (show sndN V r i = 1 by omega)] | rw [if_neg (show ¬ sndN V r i = 1 by omega)]
          exact ih5 (i + 1) (by omega) (by omega) ls (xl_eq (b := [(3, .int (nI (i + 1))), (2, .int (hiA V r (i + 1))), (0, .ref g), (1, .int (nI r))]) (lv_sub (l' := [(3, .int (nI (i + 1))), (2, .int (if hiA V r i < nI (V i) then nI (V i) else hiA V r i)), (0, .ref g), (1, .int (nI r))]) hl [0, 1, 2, 3] rfl) (xk rfl (xk (congrArg Value.int e4) (xk rfl (xk rfl (rfl : ([] : List (Nat × Value)) = []))))))
  have e5 : (-1000004) = (hiA V r 0) := rfl
  exact lp5 ((8 - 0) + 1) 0 (Nat.lt_succ_self _) (by omega) ls (xl_eq (b := [(3, .int (nI 0)), (2, .int (hiA V r 0)), (0, .ref g), (1, .int (nI r))]) (lv_sub (l' := [(3, .int (nI 0)), (2, .int (-1000004)), (0, .ref g), (1, .int (nI r))]) hl [0, 1, 2, 3] rfl) (xk rfl (xk (congrArg Value.int e5) (xk rfl (xk rfl (rfl : ([] : List (Nat × Value)) = []))))))
set_option maxHeartbeats 8000000 in
set_option maxRecDepth 100000 in
theorem c_X3_lowest (l : Launch) (D : va_G) (y : Nat → ClassId) (g : Nat) (h : Nat → Nat) (V : Nat → Nat) (q : Nat → Nat → Int32) (hR : RepC V q) (hI : Inv V) (r : Nat) (hr0 : r < 2 ^ 31) : Met l yX3_lowest wsX3_lowest ({ frames := 2, cells := 0, slots := 0, locals := 43 }) (va_Pc [.ref g, .int (nI r)] (xPr D y [(g, .inr (3, [.ref (h 0)])), (h 0, .inr (2, [.ref (h 1), .ref (h 2), .ref (h 3), .ref (h 4), .int (nI (V 16)), .int (nI (V 67)), .int (rmb V), .int (nI (V 66))])), (h 1, .inl (y 1, 8, .inl (q 0))), (h 2, .inl (y 1, 8, .inl (q 1))), (h 3, .inl (y 1, 24, .inl (q 2))), (h 4, .inl (y 1, 4, .inl (q 3)))])) (vp_Si (fun rz => rz = lwI V r)) 0 0 (fun _ => False) := by
  refine Met.ofW (cc := cX3_lowest) (maxL := 4) (ret := (some .int)) (by decide) rfl ?_
  intro p e s m args below meth c s₁ B hml hv
  obtain ⟨rfl, hP, hK⟩ := hv
  have hx := B.exec
  have hb := B.bytes
  have hr := B.returns
  have hts := atoms_spec (ws := wsX3_lowest) B.pre
  have hown : s.vm.findClass RX3 = some m.cls := findClass_of_methodNamed B.named
  have hlocks := B.notSynchronized
  have f_35 := hts (.constant RX3 35 (-1000004)) (by decide +kernel)
  have f_9 := hts (.fieldLink RX3 9 "LoomTunes$Rows" "register" "LLoomTunes$Register;") (by decide +kernel)
  have hin_X3 : ∀ w ∈ wsX30, w ∈ wsX3_lowest := by decide +kernel
  have mc_42 := hts (.code Lib.Math.min.name Lib.Math.min.code 2 (some .int)) (by decide +kernel)
  have mi_42 := hts (.initialized "java/lang/Math") (by decide +kernel)
  have ml_42 := hts (.methodLink RX3 42 Lib.Math.min.name) (by decide +kernel)
  have ms_42 := hts (.static Lib.Math.min.name) (by decide +kernel)
  have hP : va_P D vwCl [(g, .inr (3, [.ref (h 0)])), (h 0, .inr (2, [.ref (h 1), .ref (h 2), .ref (h 3), .ref (h 4), .int (nI (V 16)), .int (nI (V 67)), .int (rmb V), .int (nI (V 66))])), (h 1, .inl (y 1, 8, .inl (q 0))), (h 2, .inl (y 1, 8, .inl (q 1))), (h 3, .inl (y 1, 24, .inl (q 2))), (h 4, .inl (y 1, 4, .inl (q 3)))] s.heap := hP
  have hl := lv_entry ([.ref g, .int (nI r)]) (n := 4) (Nat.le_of_ble_eq_true rfl)
  rw [lg_entry_eq]
  generalize (lg_sl ([.ref g, .int (nI r)]) ++ List.replicate (4 - (lg_sl ([.ref g, .int (nI r)])).length) Slot.unset).toArray = ls at hl ⊢
  have hl : lv_has ls 4 [(0, .ref g), (1, .int (nI r))] := hl
  have hnt : ∀ {k : Nat}, k < 8 → V k < 48 := fun hk => hI.nt hk
  refine lv_bipush (v := nI 48) hx hb dX3_lowest_0 (by decide) ?_
  refine lv_istore_n (lv' := [(2, .int (nI 48)), (0, .ref g), (1, .int (nI r))]) hx hb dX3_lowest_2 rfl hl (by decide) rfl (fun ls hl => ?_)
  refine lv_iconst (v := nI 0) hx hb dX3_lowest_3 (by decide) ?_
  refine lv_istore_n (lv' := [(3, .int (nI 0)), (2, .int (nI 48)), (0, .ref g), (1, .int (nI r))]) hx hb dX3_lowest_4 rfl hl (by decide) rfl (fun ls hl => ?_)
  have lp5 : ∀ (n : Nat) (i : Nat), 8 - i < n → (i ≤ 8) → ∀ ls : Array Slot, lv_has ls 4 [(3, .int (nI i)), (2, .int (nI (lwA V r i))), (0, .ref g), (1, .int (nI r))] → W p l e (headSpec wsX3_lowest ({ frames := 2, cells := 0, slots := 0, locals := 43 })).room s m ([.ref g, .int (nI r)] : List Value).toArray below meth c s.heap [] 0 0 (MQ below (vp_Si (fun rz => rz = lwI V r)) ([.ref g, .int (nI r)] : List Value).toArray s 0 0 (fun _ => False)) (F0 m 5 ls []) := by
    intro n
    induction n with
    | zero => intro i hm; exact absurd hm (Nat.not_lt_zero _)
    | succ n ih5 =>
      intro i hm hi ls hl
      refine lv_iload_n hx hb dX3_lowest_5 rfl (lv_at hl 0 rfl) ?_
      refine lv_bipush (v := nI 8) hx hb dX3_lowest_6 (by decide) ?_
      refine xn_icmp_ge hx hb (by omega) (by omega) (tgt := 42) dX3_lowest_8 (by decide) (fun kc8 => ?_) (fun kc8 => ?_)
      · have hlw := lwA_le (V := V) (r := r) i
        refine lv_iload_n hx hb dX3_lowest_42 rfl (lv_at hl 1 rfl) ?_
        refine lv_bipush (v := nI 48) hx hb dX3_lowest_43 (by decide) ?_
        refine xn_icmp_ne hx hb (by omega) (by omega) (tgt := 53) dX3_lowest_45 (by decide) (fun kc45 => ?_) (fun kc45 => ?_)
        · refine lv_iload_n hx hb dX3_lowest_53 rfl (lv_at hl 1 rfl) ?_
          exact xr_i hx hb hr hlocks dX3_lowest_54 (by (have e8 : i = 8 := (by omega)); subst e8; unfold lwI; first | rw [if_pos kc45] | rw [if_neg kc45])
        · refine lv_ldc hx hb hown f_35 dX3_lowest_48 ?_
          refine lv_goto (tgt := 54) hx hb dX3_lowest_50 (by decide) ?_
          exact xr_i hx hb hr hlocks dX3_lowest_54 (by (have e8 : i = 8 := (by omega)); subst e8; unfold lwI; first | rw [if_pos kc45] | rw [if_neg kc45])
      · have hsb := sndN_lt (V := V) (r := r) (t := i)
        have hni := hnt (k := i) (by omega)
        have hlw := lwA_le (V := V) (r := r) i
        refine lv_aload_n hx hb dX3_lowest_11 rfl (lv_at hl 2 rfl) ?_
        refine va_get (D := D) (ci := 3) (v := .ref (h 0)) (C := RX3) (T := TX3) (N := 1) hx hb hts hin_X3 hown hK.1 hP 0 rfl rfl 0 (by decide) f_9 (fun _ h9 => h9) rfl dX3_lowest_12 ?_
        refine lv_iload_n hx hb dX3_lowest_15 rfl (lv_at hl 3 rfl) ?_
        refine lv_iload_n hx hb dX3_lowest_16 rfl (lv_at hl 0 rfl) ?_
        refine xc_V (As := [.int (nI r), .int (nI i)]) (rest := []) ⟨hx, hb, hml, hown, hts⟩ (c_X2_soundsAt_n l D y h V q hR hI r (by omega) i (by omega)) (cwV 2 hts gX3_lowest_X2_soundsAt rfl rfl rfl hd_X2_soundsAt ⟨Nat.le_of_ble_eq_true rfl, Nat.le_of_ble_eq_true rfl⟩) (xpv_r hK hP [1, 2, 3, 4, 5] 1 rfl rfl rfl) rfl hl.1 rfl (Nat.le_of_ble_eq_true rfl) dX3_lowest_17 ⟨Nat.zero_le _, Nat.zero_le _⟩ (fun r1 hr1 => ?_)
        subst hr1
        refine xn_if_eq hx hb (by omega) (tgt := 36) dX3_lowest_20 (by decide) (fun kc20 => ?_) (fun kc20 => ?_)
        · refine lv_iinc (v := nI (i + 1)) (lv' := [(3, .int (nI (i + 1))), (2, .int (nI (lwA V r i))), (0, .ref g), (1, .int (nI r))]) hx hb dX3_lowest_36 hl (k := 0) rfl (nI_add i 1) (by decide) rfl (fun ls hl => ?_)
          refine lv_goto (tgt := 5) hx hb dX3_lowest_39 (by decide) ?_
          have e2 : (lwA V r i) = (lwA V r (i + 1)) := by rw [lwA]; first | rw [if_pos (show sndN V r i = 1 by omega)] | rw [if_neg (show ¬ sndN V r i = 1 by omega)]
          exact ih5 (i + 1) (by omega) (by omega) ls (xl_eq (b := [(3, .int (nI (i + 1))), (2, .int (nI (lwA V r (i + 1)))), (0, .ref g), (1, .int (nI r))]) (lv_sub (l' := [(3, .int (nI (i + 1))), (2, .int (nI (lwA V r i))), (0, .ref g), (1, .int (nI r))]) hl [0, 1, 2, 3] rfl) (xk rfl (xk (congrArg (fun z : Nat => Value.int (nI z)) e2) (xk rfl (xk rfl (rfl : ([] : List (Nat × Value)) = []))))))
        · refine lv_iload_n hx hb dX3_lowest_23 rfl (lv_at hl 1 rfl) ?_
          refine lv_aload_n hx hb dX3_lowest_24 rfl (lv_at hl 2 rfl) ?_
          refine va_get (D := D) (ci := 3) (v := .ref (h 0)) (C := RX3) (T := TX3) (N := 1) hx hb hts hin_X3 hown hK.1 hP 0 rfl rfl 0 (by decide) f_9 (fun _ h9 => h9) rfl dX3_lowest_25 ?_
          refine lv_iload_n hx hb dX3_lowest_28 rfl (lv_at hl 0 rfl) ?_
          refine xc_V (As := [.int (nI i)]) (rest := [.int (nI (lwA V r i))]) ⟨hx, hb, hml, hown, hts⟩ (c_X2_noteAt l D y h V q hR hI i (by omega)) (cwV 1 hts gX3_lowest_X2_noteAt rfl rfl rfl hd_X2_noteAt ⟨Nat.le_of_ble_eq_true rfl, Nat.le_of_ble_eq_true rfl⟩) (xpv_r hK hP [1, 2, 3, 4, 5] 1 rfl rfl rfl) rfl hl.1 rfl (Nat.le_of_ble_eq_true rfl) dX3_lowest_29 ⟨Nat.zero_le _, Nat.zero_le _⟩ (fun r3 hr3 => ?_)
          subst hr3
          refine va_mmin hx hb (hml.trans hl.1.symm) hown ml_42 ms_42 mi_42 mc_42 (Nat.le_of_ble_eq_true rfl) (Nat.le_of_ble_eq_true rfl) (Nat.zero_le _) (Nat.zero_le _) dX3_lowest_32 ?_
          refine xv (xi_min (by omega) (by omega)) ?_
          refine lv_istore_n (lv' := [(2, .int (nI (if V i < lwA V r i then V i else lwA V r i))), (3, .int (nI i)), (0, .ref g), (1, .int (nI r))]) hx hb dX3_lowest_35 rfl hl (by decide) rfl (fun ls hl => ?_)
          refine lv_iinc (v := nI (i + 1)) (lv' := [(3, .int (nI (i + 1))), (2, .int (nI (if V i < lwA V r i then V i else lwA V r i))), (0, .ref g), (1, .int (nI r))]) hx hb dX3_lowest_36 hl (k := 1) rfl (nI_add i 1) (by decide) rfl (fun ls hl => ?_)
          refine lv_goto (tgt := 5) hx hb dX3_lowest_39 (by decide) ?_
          have e4 : (if V i < lwA V r i then V i else lwA V r i) = (lwA V r (i + 1)) := by rw [lwA]; first | rw [if_pos (show sndN V r i = 1 by omega)] | rw [if_neg (show ¬ sndN V r i = 1 by omega)]
          exact ih5 (i + 1) (by omega) (by omega) ls (xl_eq (b := [(3, .int (nI (i + 1))), (2, .int (nI (lwA V r (i + 1)))), (0, .ref g), (1, .int (nI r))]) (lv_sub (l' := [(3, .int (nI (i + 1))), (2, .int (nI (if V i < lwA V r i then V i else lwA V r i))), (0, .ref g), (1, .int (nI r))]) hl [0, 1, 2, 3] rfl) (xk rfl (xk (congrArg (fun z : Nat => Value.int (nI z)) e4) (xk rfl (xk rfl (rfl : ([] : List (Nat × Value)) = []))))))
  have e5 : 48 = (lwA V r 0) := rfl
  exact lp5 ((8 - 0) + 1) 0 (Nat.lt_succ_self _) (by omega) ls (xl_eq (b := [(3, .int (nI 0)), (2, .int (nI (lwA V r 0))), (0, .ref g), (1, .int (nI r))]) (lv_sub (l' := [(3, .int (nI 0)), (2, .int (nI 48)), (0, .ref g), (1, .int (nI r))]) hl [0, 1, 2, 3] rfl) (xk rfl (xk (congrArg (fun z : Nat => Value.int (nI z)) e5) (xk rfl (xk rfl (rfl : ([] : List (Nat × Value)) = []))))))
set_option maxHeartbeats 8000000 in
set_option maxRecDepth 100000 in
theorem c_X3_aboveWith (l : Launch) (D : va_G) (y : Nat → ClassId) (g : Nat) (h : Nat → Nat) (V : Nat → Nat) (q : Nat → Nat → Int32) (hR : RepC V q) (hI : Inv V) (r : Nat) (hr0 : r < 2 ^ 31) (n0 : Nat) (hc0 : n0 < 2 ^ 31) : Met l yX3_aboveWith wsX3_aboveWith ({ frames := 2, cells := 0, slots := 0, locals := 43 }) (va_Pc [.ref g, .int (nI r), .int (nI n0)] (xPr D y [(g, .inr (3, [.ref (h 0)])), (h 0, .inr (2, [.ref (h 1), .ref (h 2), .ref (h 3), .ref (h 4), .int (nI (V 16)), .int (nI (V 67)), .int (rmb V), .int (nI (V 66))])), (h 1, .inl (y 1, 8, .inl (q 0))), (h 2, .inl (y 1, 8, .inl (q 1))), (h 3, .inl (y 1, 24, .inl (q 2))), (h 4, .inl (y 1, 4, .inl (q 3)))])) (vp_Si (fun rz => rz = nI (abC V r n0))) 0 0 (fun _ => False) := by
  refine Met.ofW (cc := cX3_aboveWith) (maxL := 5) (ret := (some .int)) (by decide) rfl ?_
  intro p e s m args below meth c s₁ B hml hv
  obtain ⟨rfl, hP, hK⟩ := hv
  have hx := B.exec
  have hb := B.bytes
  have hr := B.returns
  have hts := atoms_spec (ws := wsX3_aboveWith) B.pre
  have hown : s.vm.findClass RX3 = some m.cls := findClass_of_methodNamed B.named
  have hlocks := B.notSynchronized
  have f_9 := hts (.fieldLink RX3 9 "LoomTunes$Rows" "register" "LLoomTunes$Register;") (by decide +kernel)
  have hin_X3 : ∀ w ∈ wsX30, w ∈ wsX3_aboveWith := by decide +kernel
  have hP : va_P D vwCl [(g, .inr (3, [.ref (h 0)])), (h 0, .inr (2, [.ref (h 1), .ref (h 2), .ref (h 3), .ref (h 4), .int (nI (V 16)), .int (nI (V 67)), .int (rmb V), .int (nI (V 66))])), (h 1, .inl (y 1, 8, .inl (q 0))), (h 2, .inl (y 1, 8, .inl (q 1))), (h 3, .inl (y 1, 24, .inl (q 2))), (h 4, .inl (y 1, 4, .inl (q 3)))] s.heap := hP
  have hl := lv_entry ([.ref g, .int (nI r), .int (nI n0)]) (n := 5) (Nat.le_of_ble_eq_true rfl)
  rw [lg_entry_eq]
  generalize (lg_sl ([.ref g, .int (nI r), .int (nI n0)]) ++ List.replicate (5 - (lg_sl ([.ref g, .int (nI r), .int (nI n0)])).length) Slot.unset).toArray = ls at hl ⊢
  have hl : lv_has ls 5 [(0, .ref g), (1, .int (nI r)), (2, .int (nI n0))] := hl
  have hct : ∀ {k : Nat}, k < 8 → V (8 + k) < 4 := fun hk => hI.co hk
  refine lv_iconst (v := nI 0) hx hb dX3_aboveWith_0 (by decide) ?_
  refine lv_istore_n (lv' := [(3, .int (nI 0)), (0, .ref g), (1, .int (nI r)), (2, .int (nI n0))]) hx hb dX3_aboveWith_1 rfl hl (by decide) rfl (fun ls hl => ?_)
  refine lv_iconst (v := nI 0) hx hb dX3_aboveWith_2 (by decide) ?_
  refine lv_istore (lv' := [(4, .int (nI 0)), (3, .int (nI 0)), (0, .ref g), (1, .int (nI r)), (2, .int (nI n0))]) hx hb dX3_aboveWith_3 hl (by decide) rfl (fun ls hl => ?_)
  have lp5 : ∀ (n : Nat) (i : Nat), 8 - i < n → (i ≤ 8) → ∀ ls : Array Slot, lv_has ls 5 [(4, .int (nI i)), (3, .int (nI (sN (fun t => if sndN V r t = 1 ∧ V (8 + t) = n0 then 1 else 0) i))), (0, .ref g), (1, .int (nI r)), (2, .int (nI n0))] → W p l e (headSpec wsX3_aboveWith ({ frames := 2, cells := 0, slots := 0, locals := 43 })).room s m ([.ref g, .int (nI r), .int (nI n0)] : List Value).toArray below meth c s.heap [] 0 0 (MQ below (vp_Si (fun rz => rz = nI (abC V r n0))) ([.ref g, .int (nI r), .int (nI n0)] : List Value).toArray s 0 0 (fun _ => False)) (F0 m 5 ls []) := by
    intro n
    induction n with
    | zero => intro i hm; exact absurd hm (Nat.not_lt_zero _)
    | succ n ih5 =>
      intro i hm hi ls hl
      refine lv_iload hx hb dX3_aboveWith_5 (lv_at hl 0 rfl) ?_
      refine lv_bipush (v := nI 8) hx hb dX3_aboveWith_7 (by decide) ?_
      refine xn_icmp_ge hx hb (by omega) (by omega) (tgt := 47) dX3_aboveWith_9 (by decide) (fun kc9 => ?_) (fun kc9 => ?_)
      · refine lv_iload_n hx hb dX3_aboveWith_47 rfl (lv_at hl 1 rfl) ?_
        exact xr_i hx hb hr hlocks dX3_aboveWith_48 (congrArg nI (by rw [show i = 8 by omega]))
      · have hsb := sndN_lt (V := V) (r := r) (t := i)
        have hni := hct (k := i) (by omega)
        refine lv_aload_n hx hb dX3_aboveWith_12 rfl (lv_at hl 2 rfl) ?_
        refine va_get (D := D) (ci := 3) (v := .ref (h 0)) (C := RX3) (T := TX3) (N := 1) hx hb hts hin_X3 hown hK.1 hP 0 rfl rfl 0 (by decide) f_9 (fun _ h9 => h9) rfl dX3_aboveWith_13 ?_
        refine lv_iload_n hx hb dX3_aboveWith_16 rfl (lv_at hl 3 rfl) ?_
        refine lv_iload hx hb dX3_aboveWith_17 (lv_at hl 0 rfl) ?_
        refine xc_V (As := [.int (nI r), .int (nI i)]) (rest := []) ⟨hx, hb, hml, hown, hts⟩ (c_X2_soundsAt_n l D y h V q hR hI r (by omega) i (by omega)) (cwV 2 hts gX3_aboveWith_X2_soundsAt rfl rfl rfl hd_X2_soundsAt ⟨Nat.le_of_ble_eq_true rfl, Nat.le_of_ble_eq_true rfl⟩) (xpv_r hK hP [1, 2, 3, 4, 5] 1 rfl rfl rfl) rfl hl.1 rfl (Nat.le_of_ble_eq_true rfl) dX3_aboveWith_19 ⟨Nat.zero_le _, Nat.zero_le _⟩ (fun r1 hr1 => ?_)
        subst hr1
        refine xn_if_eq hx hb (by omega) (tgt := 41) dX3_aboveWith_22 (by decide) (fun kc22 => ?_) (fun kc22 => ?_)
        · refine lv_iinc (v := nI (i + 1)) (lv' := [(4, .int (nI (i + 1))), (3, .int (nI (sN (fun t => if sndN V r t = 1 ∧ V (8 + t) = n0 then 1 else 0) i))), (0, .ref g), (1, .int (nI r)), (2, .int (nI n0))]) hx hb dX3_aboveWith_41 hl (k := 0) rfl (nI_add i 1) (by decide) rfl (fun ls hl => ?_)
          refine lv_goto (tgt := 5) hx hb dX3_aboveWith_44 (by decide) ?_
          have e2 : (sN (fun t => if sndN V r t = 1 ∧ V (8 + t) = n0 then 1 else 0) i) = (sN (fun t => if sndN V r t = 1 ∧ V (8 + t) = n0 then 1 else 0) (i + 1)) := by first | exact sN_t (if_pos ⟨by omega, kc35⟩) | exact sN_f (if_neg (by omega))
          exact ih5 (i + 1) (by omega) (by omega) ls (xl_eq (b := [(4, .int (nI (i + 1))), (3, .int (nI (sN (fun t => if sndN V r t = 1 ∧ V (8 + t) = n0 then 1 else 0) (i + 1)))), (0, .ref g), (1, .int (nI r)), (2, .int (nI n0))]) (lv_sub (l' := [(4, .int (nI (i + 1))), (3, .int (nI (sN (fun t => if sndN V r t = 1 ∧ V (8 + t) = n0 then 1 else 0) i))), (0, .ref g), (1, .int (nI r)), (2, .int (nI n0))]) hl [0, 1, 2, 3, 4] rfl) (xk rfl (xk (congrArg (fun z : Nat => Value.int (nI z)) e2) (xk rfl (xk rfl (xk rfl (rfl : ([] : List (Nat × Value)) = [])))))))
        · refine lv_aload_n hx hb dX3_aboveWith_25 rfl (lv_at hl 2 rfl) ?_
          refine va_get (D := D) (ci := 3) (v := .ref (h 0)) (C := RX3) (T := TX3) (N := 1) hx hb hts hin_X3 hown hK.1 hP 0 rfl rfl 0 (by decide) f_9 (fun _ h9 => h9) rfl dX3_aboveWith_26 ?_
          refine lv_iload hx hb dX3_aboveWith_29 (lv_at hl 0 rfl) ?_
          refine xc_V (As := [.int (nI i)]) (rest := []) ⟨hx, hb, hml, hown, hts⟩ (c_X2_colourAt l D y h V q hR hI i (by omega)) (cwV 1 hts gX3_aboveWith_X2_colourAt rfl rfl rfl hd_X2_colourAt ⟨Nat.le_of_ble_eq_true rfl, Nat.le_of_ble_eq_true rfl⟩) (xpv_r hK hP [1, 2, 3, 4, 5] 1 rfl rfl rfl) rfl hl.1 rfl (Nat.le_of_ble_eq_true rfl) dX3_aboveWith_31 ⟨Nat.zero_le _, Nat.zero_le _⟩ (fun r3 hr3 => ?_)
          subst hr3
          refine lv_iload_n hx hb dX3_aboveWith_34 rfl (lv_at hl 4 rfl) ?_
          refine xn_icmp_ne hx hb (by omega) (by omega) (tgt := 41) dX3_aboveWith_35 (by decide) (fun kc35 => ?_) (fun kc35 => ?_)
          · refine lv_iinc (v := nI (i + 1)) (lv' := [(4, .int (nI (i + 1))), (3, .int (nI (sN (fun t => if sndN V r t = 1 ∧ V (8 + t) = n0 then 1 else 0) i))), (0, .ref g), (1, .int (nI r)), (2, .int (nI n0))]) hx hb dX3_aboveWith_41 hl (k := 0) rfl (nI_add i 1) (by decide) rfl (fun ls hl => ?_)
            refine lv_goto (tgt := 5) hx hb dX3_aboveWith_44 (by decide) ?_
            have e4 : (sN (fun t => if sndN V r t = 1 ∧ V (8 + t) = n0 then 1 else 0) i) = (sN (fun t => if sndN V r t = 1 ∧ V (8 + t) = n0 then 1 else 0) (i + 1)) := by first | exact sN_t (if_pos ⟨by omega, kc35⟩) | exact sN_f (if_neg (by omega))
            exact ih5 (i + 1) (by omega) (by omega) ls (xl_eq (b := [(4, .int (nI (i + 1))), (3, .int (nI (sN (fun t => if sndN V r t = 1 ∧ V (8 + t) = n0 then 1 else 0) (i + 1)))), (0, .ref g), (1, .int (nI r)), (2, .int (nI n0))]) (lv_sub (l' := [(4, .int (nI (i + 1))), (3, .int (nI (sN (fun t => if sndN V r t = 1 ∧ V (8 + t) = n0 then 1 else 0) i))), (0, .ref g), (1, .int (nI r)), (2, .int (nI n0))]) hl [0, 1, 2, 3, 4] rfl) (xk rfl (xk (congrArg (fun z : Nat => Value.int (nI z)) e4) (xk rfl (xk rfl (xk rfl (rfl : ([] : List (Nat × Value)) = [])))))))
          · refine lv_iinc (v := nI (sN (fun t => if sndN V r t = 1 ∧ V (8 + t) = n0 then 1 else 0) i + 1)) (lv' := [(3, .int (nI (sN (fun t => if sndN V r t = 1 ∧ V (8 + t) = n0 then 1 else 0) i + 1))), (4, .int (nI i)), (0, .ref g), (1, .int (nI r)), (2, .int (nI n0))]) hx hb dX3_aboveWith_38 hl (k := 1) rfl (nI_add (sN (fun t => if sndN V r t = 1 ∧ V (8 + t) = n0 then 1 else 0) i) 1) (by decide) rfl (fun ls hl => ?_)
            refine lv_iinc (v := nI (i + 1)) (lv' := [(4, .int (nI (i + 1))), (3, .int (nI (sN (fun t => if sndN V r t = 1 ∧ V (8 + t) = n0 then 1 else 0) i + 1))), (0, .ref g), (1, .int (nI r)), (2, .int (nI n0))]) hx hb dX3_aboveWith_41 hl (k := 1) rfl (nI_add i 1) (by decide) rfl (fun ls hl => ?_)
            refine lv_goto (tgt := 5) hx hb dX3_aboveWith_44 (by decide) ?_
            have e5 : (sN (fun t => if sndN V r t = 1 ∧ V (8 + t) = n0 then 1 else 0) i + 1) = (sN (fun t => if sndN V r t = 1 ∧ V (8 + t) = n0 then 1 else 0) (i + 1)) := by first | exact sN_t (if_pos ⟨by omega, kc35⟩) | exact sN_f (if_neg (by omega))
            exact ih5 (i + 1) (by omega) (by omega) ls (xl_eq (b := [(4, .int (nI (i + 1))), (3, .int (nI (sN (fun t => if sndN V r t = 1 ∧ V (8 + t) = n0 then 1 else 0) (i + 1)))), (0, .ref g), (1, .int (nI r)), (2, .int (nI n0))]) (lv_sub (l' := [(4, .int (nI (i + 1))), (3, .int (nI (sN (fun t => if sndN V r t = 1 ∧ V (8 + t) = n0 then 1 else 0) i + 1))), (0, .ref g), (1, .int (nI r)), (2, .int (nI n0))]) hl [0, 1, 2, 3, 4] rfl) (xk rfl (xk (congrArg (fun z : Nat => Value.int (nI z)) e5) (xk rfl (xk rfl (xk rfl (rfl : ([] : List (Nat × Value)) = [])))))))
  have e6 : 0 = (sN (fun t => if sndN V r t = 1 ∧ V (8 + t) = n0 then 1 else 0) 0) := rfl
  exact lp5 ((8 - 0) + 1) 0 (Nat.lt_succ_self _) (by omega) ls (xl_eq (b := [(4, .int (nI 0)), (3, .int (nI (sN (fun t => if sndN V r t = 1 ∧ V (8 + t) = n0 then 1 else 0) 0))), (0, .ref g), (1, .int (nI r)), (2, .int (nI n0))]) (lv_sub (l' := [(4, .int (nI 0)), (3, .int (nI 0)), (0, .ref g), (1, .int (nI r)), (2, .int (nI n0))]) hl [0, 1, 2, 3, 4] rfl) (xk rfl (xk (congrArg (fun z : Nat => Value.int (nI z)) e6) (xk rfl (xk rfl (xk rfl (rfl : ([] : List (Nat × Value)) = [])))))))
set_option maxHeartbeats 8000000 in
set_option maxRecDepth 100000 in
theorem c_X3_howOften (l : Launch) (D : va_G) (y : Nat → ClassId) (g : Nat) (h : Nat → Nat) (V : Nat → Nat) (q : Nat → Nat → Int32) (hR : RepC V q) (hI : Inv V) (r : Nat) (hr0 : r < 2 ^ 31) (n0 : Nat) (hc0 : n0 < 2 ^ 31) : Met l yX3_howOften wsX3_howOften ({ frames := 2, cells := 0, slots := 0, locals := 43 }) (va_Pc [.ref g, .int (nI r), .int (nI n0)] (xPr D y [(g, .inr (3, [.ref (h 0)])), (h 0, .inr (2, [.ref (h 1), .ref (h 2), .ref (h 3), .ref (h 4), .int (nI (V 16)), .int (nI (V 67)), .int (rmb V), .int (nI (V 66))])), (h 1, .inl (y 1, 8, .inl (q 0))), (h 2, .inl (y 1, 8, .inl (q 1))), (h 3, .inl (y 1, 24, .inl (q 2))), (h 4, .inl (y 1, 4, .inl (q 3)))])) (vp_Si (fun rz => rz = nI (hwO V r n0))) 0 0 (fun _ => False) := by
  refine Met.ofW (cc := cX3_howOften) (maxL := 5) (ret := (some .int)) (by decide) rfl ?_
  intro p e s m args below meth c s₁ B hml hv
  obtain ⟨rfl, hP, hK⟩ := hv
  have hx := B.exec
  have hb := B.bytes
  have hr := B.returns
  have hts := atoms_spec (ws := wsX3_howOften) B.pre
  have hown : s.vm.findClass RX3 = some m.cls := findClass_of_methodNamed B.named
  have hlocks := B.notSynchronized
  have f_9 := hts (.fieldLink RX3 9 "LoomTunes$Rows" "register" "LLoomTunes$Register;") (by decide +kernel)
  have hin_X3 : ∀ w ∈ wsX30, w ∈ wsX3_howOften := by decide +kernel
  have hP : va_P D vwCl [(g, .inr (3, [.ref (h 0)])), (h 0, .inr (2, [.ref (h 1), .ref (h 2), .ref (h 3), .ref (h 4), .int (nI (V 16)), .int (nI (V 67)), .int (rmb V), .int (nI (V 66))])), (h 1, .inl (y 1, 8, .inl (q 0))), (h 2, .inl (y 1, 8, .inl (q 1))), (h 3, .inl (y 1, 24, .inl (q 2))), (h 4, .inl (y 1, 4, .inl (q 3)))] s.heap := hP
  have hl := lv_entry ([.ref g, .int (nI r), .int (nI n0)]) (n := 5) (Nat.le_of_ble_eq_true rfl)
  rw [lg_entry_eq]
  generalize (lg_sl ([.ref g, .int (nI r), .int (nI n0)]) ++ List.replicate (5 - (lg_sl ([.ref g, .int (nI r), .int (nI n0)])).length) Slot.unset).toArray = ls at hl ⊢
  have hl : lv_has ls 5 [(0, .ref g), (1, .int (nI r)), (2, .int (nI n0))] := hl
  have hct : ∀ {k : Nat}, k < 8 → V k < 48 := fun hk => hI.nt hk
  refine lv_iconst (v := nI 0) hx hb dX3_howOften_0 (by decide) ?_
  refine lv_istore_n (lv' := [(3, .int (nI 0)), (0, .ref g), (1, .int (nI r)), (2, .int (nI n0))]) hx hb dX3_howOften_1 rfl hl (by decide) rfl (fun ls hl => ?_)
  refine lv_iconst (v := nI 0) hx hb dX3_howOften_2 (by decide) ?_
  refine lv_istore (lv' := [(4, .int (nI 0)), (3, .int (nI 0)), (0, .ref g), (1, .int (nI r)), (2, .int (nI n0))]) hx hb dX3_howOften_3 hl (by decide) rfl (fun ls hl => ?_)
  have lp5 : ∀ (n : Nat) (i : Nat), 8 - i < n → (i ≤ 8) → ∀ ls : Array Slot, lv_has ls 5 [(4, .int (nI i)), (3, .int (nI (sN (fun t => if sndN V r t = 1 ∧ V t = n0 then 1 else 0) i))), (0, .ref g), (1, .int (nI r)), (2, .int (nI n0))] → W p l e (headSpec wsX3_howOften ({ frames := 2, cells := 0, slots := 0, locals := 43 })).room s m ([.ref g, .int (nI r), .int (nI n0)] : List Value).toArray below meth c s.heap [] 0 0 (MQ below (vp_Si (fun rz => rz = nI (hwO V r n0))) ([.ref g, .int (nI r), .int (nI n0)] : List Value).toArray s 0 0 (fun _ => False)) (F0 m 5 ls []) := by
    intro n
    induction n with
    | zero => intro i hm; exact absurd hm (Nat.not_lt_zero _)
    | succ n ih5 =>
      intro i hm hi ls hl
      refine lv_iload hx hb dX3_howOften_5 (lv_at hl 0 rfl) ?_
      refine lv_bipush (v := nI 8) hx hb dX3_howOften_7 (by decide) ?_
      refine xn_icmp_ge hx hb (by omega) (by omega) (tgt := 47) dX3_howOften_9 (by decide) (fun kc9 => ?_) (fun kc9 => ?_)
      · refine lv_iload_n hx hb dX3_howOften_47 rfl (lv_at hl 1 rfl) ?_
        exact xr_i hx hb hr hlocks dX3_howOften_48 (congrArg nI (by rw [show i = 8 by omega]))
      · have hsb := sndN_lt (V := V) (r := r) (t := i)
        have hni := hct (k := i) (by omega)
        refine lv_aload_n hx hb dX3_howOften_12 rfl (lv_at hl 2 rfl) ?_
        refine va_get (D := D) (ci := 3) (v := .ref (h 0)) (C := RX3) (T := TX3) (N := 1) hx hb hts hin_X3 hown hK.1 hP 0 rfl rfl 0 (by decide) f_9 (fun _ h9 => h9) rfl dX3_howOften_13 ?_
        refine lv_iload_n hx hb dX3_howOften_16 rfl (lv_at hl 3 rfl) ?_
        refine lv_iload hx hb dX3_howOften_17 (lv_at hl 0 rfl) ?_
        refine xc_V (As := [.int (nI r), .int (nI i)]) (rest := []) ⟨hx, hb, hml, hown, hts⟩ (c_X2_soundsAt_n l D y h V q hR hI r (by omega) i (by omega)) (cwV 2 hts gX3_howOften_X2_soundsAt rfl rfl rfl hd_X2_soundsAt ⟨Nat.le_of_ble_eq_true rfl, Nat.le_of_ble_eq_true rfl⟩) (xpv_r hK hP [1, 2, 3, 4, 5] 1 rfl rfl rfl) rfl hl.1 rfl (Nat.le_of_ble_eq_true rfl) dX3_howOften_19 ⟨Nat.zero_le _, Nat.zero_le _⟩ (fun r1 hr1 => ?_)
        subst hr1
        refine xn_if_eq hx hb (by omega) (tgt := 41) dX3_howOften_22 (by decide) (fun kc22 => ?_) (fun kc22 => ?_)
        · refine lv_iinc (v := nI (i + 1)) (lv' := [(4, .int (nI (i + 1))), (3, .int (nI (sN (fun t => if sndN V r t = 1 ∧ V t = n0 then 1 else 0) i))), (0, .ref g), (1, .int (nI r)), (2, .int (nI n0))]) hx hb dX3_howOften_41 hl (k := 0) rfl (nI_add i 1) (by decide) rfl (fun ls hl => ?_)
          refine lv_goto (tgt := 5) hx hb dX3_howOften_44 (by decide) ?_
          have e2 : (sN (fun t => if sndN V r t = 1 ∧ V t = n0 then 1 else 0) i) = (sN (fun t => if sndN V r t = 1 ∧ V t = n0 then 1 else 0) (i + 1)) := by first | exact sN_t (if_pos ⟨by omega, kc35⟩) | exact sN_f (if_neg (by omega))
          exact ih5 (i + 1) (by omega) (by omega) ls (xl_eq (b := [(4, .int (nI (i + 1))), (3, .int (nI (sN (fun t => if sndN V r t = 1 ∧ V t = n0 then 1 else 0) (i + 1)))), (0, .ref g), (1, .int (nI r)), (2, .int (nI n0))]) (lv_sub (l' := [(4, .int (nI (i + 1))), (3, .int (nI (sN (fun t => if sndN V r t = 1 ∧ V t = n0 then 1 else 0) i))), (0, .ref g), (1, .int (nI r)), (2, .int (nI n0))]) hl [0, 1, 2, 3, 4] rfl) (xk rfl (xk (congrArg (fun z : Nat => Value.int (nI z)) e2) (xk rfl (xk rfl (xk rfl (rfl : ([] : List (Nat × Value)) = [])))))))
        · refine lv_aload_n hx hb dX3_howOften_25 rfl (lv_at hl 2 rfl) ?_
          refine va_get (D := D) (ci := 3) (v := .ref (h 0)) (C := RX3) (T := TX3) (N := 1) hx hb hts hin_X3 hown hK.1 hP 0 rfl rfl 0 (by decide) f_9 (fun _ h9 => h9) rfl dX3_howOften_26 ?_
          refine lv_iload hx hb dX3_howOften_29 (lv_at hl 0 rfl) ?_
          refine xc_V (As := [.int (nI i)]) (rest := []) ⟨hx, hb, hml, hown, hts⟩ (c_X2_noteAt l D y h V q hR hI i (by omega)) (cwV 1 hts gX3_howOften_X2_noteAt rfl rfl rfl hd_X2_noteAt ⟨Nat.le_of_ble_eq_true rfl, Nat.le_of_ble_eq_true rfl⟩) (xpv_r hK hP [1, 2, 3, 4, 5] 1 rfl rfl rfl) rfl hl.1 rfl (Nat.le_of_ble_eq_true rfl) dX3_howOften_31 ⟨Nat.zero_le _, Nat.zero_le _⟩ (fun r3 hr3 => ?_)
          subst hr3
          refine lv_iload_n hx hb dX3_howOften_34 rfl (lv_at hl 4 rfl) ?_
          refine xn_icmp_ne hx hb (by omega) (by omega) (tgt := 41) dX3_howOften_35 (by decide) (fun kc35 => ?_) (fun kc35 => ?_)
          · refine lv_iinc (v := nI (i + 1)) (lv' := [(4, .int (nI (i + 1))), (3, .int (nI (sN (fun t => if sndN V r t = 1 ∧ V t = n0 then 1 else 0) i))), (0, .ref g), (1, .int (nI r)), (2, .int (nI n0))]) hx hb dX3_howOften_41 hl (k := 0) rfl (nI_add i 1) (by decide) rfl (fun ls hl => ?_)
            refine lv_goto (tgt := 5) hx hb dX3_howOften_44 (by decide) ?_
            have e4 : (sN (fun t => if sndN V r t = 1 ∧ V t = n0 then 1 else 0) i) = (sN (fun t => if sndN V r t = 1 ∧ V t = n0 then 1 else 0) (i + 1)) := by first | exact sN_t (if_pos ⟨by omega, kc35⟩) | exact sN_f (if_neg (by omega))
            exact ih5 (i + 1) (by omega) (by omega) ls (xl_eq (b := [(4, .int (nI (i + 1))), (3, .int (nI (sN (fun t => if sndN V r t = 1 ∧ V t = n0 then 1 else 0) (i + 1)))), (0, .ref g), (1, .int (nI r)), (2, .int (nI n0))]) (lv_sub (l' := [(4, .int (nI (i + 1))), (3, .int (nI (sN (fun t => if sndN V r t = 1 ∧ V t = n0 then 1 else 0) i))), (0, .ref g), (1, .int (nI r)), (2, .int (nI n0))]) hl [0, 1, 2, 3, 4] rfl) (xk rfl (xk (congrArg (fun z : Nat => Value.int (nI z)) e4) (xk rfl (xk rfl (xk rfl (rfl : ([] : List (Nat × Value)) = [])))))))
          · refine lv_iinc (v := nI (sN (fun t => if sndN V r t = 1 ∧ V t = n0 then 1 else 0) i + 1)) (lv' := [(3, .int (nI (sN (fun t => if sndN V r t = 1 ∧ V t = n0 then 1 else 0) i + 1))), (4, .int (nI i)), (0, .ref g), (1, .int (nI r)), (2, .int (nI n0))]) hx hb dX3_howOften_38 hl (k := 1) rfl (nI_add (sN (fun t => if sndN V r t = 1 ∧ V t = n0 then 1 else 0) i) 1) (by decide) rfl (fun ls hl => ?_)
            refine lv_iinc (v := nI (i + 1)) (lv' := [(4, .int (nI (i + 1))), (3, .int (nI (sN (fun t => if sndN V r t = 1 ∧ V t = n0 then 1 else 0) i + 1))), (0, .ref g), (1, .int (nI r)), (2, .int (nI n0))]) hx hb dX3_howOften_41 hl (k := 1) rfl (nI_add i 1) (by decide) rfl (fun ls hl => ?_)
            refine lv_goto (tgt := 5) hx hb dX3_howOften_44 (by decide) ?_
            have e5 : (sN (fun t => if sndN V r t = 1 ∧ V t = n0 then 1 else 0) i + 1) = (sN (fun t => if sndN V r t = 1 ∧ V t = n0 then 1 else 0) (i + 1)) := by first | exact sN_t (if_pos ⟨by omega, kc35⟩) | exact sN_f (if_neg (by omega))
            exact ih5 (i + 1) (by omega) (by omega) ls (xl_eq (b := [(4, .int (nI (i + 1))), (3, .int (nI (sN (fun t => if sndN V r t = 1 ∧ V t = n0 then 1 else 0) (i + 1)))), (0, .ref g), (1, .int (nI r)), (2, .int (nI n0))]) (lv_sub (l' := [(4, .int (nI (i + 1))), (3, .int (nI (sN (fun t => if sndN V r t = 1 ∧ V t = n0 then 1 else 0) i + 1))), (0, .ref g), (1, .int (nI r)), (2, .int (nI n0))]) hl [0, 1, 2, 3, 4] rfl) (xk rfl (xk (congrArg (fun z : Nat => Value.int (nI z)) e5) (xk rfl (xk rfl (xk rfl (rfl : ([] : List (Nat × Value)) = [])))))))
  have e6 : 0 = (sN (fun t => if sndN V r t = 1 ∧ V t = n0 then 1 else 0) 0) := rfl
  exact lp5 ((8 - 0) + 1) 0 (Nat.lt_succ_self _) (by omega) ls (xl_eq (b := [(4, .int (nI 0)), (3, .int (nI (sN (fun t => if sndN V r t = 1 ∧ V t = n0 then 1 else 0) 0))), (0, .ref g), (1, .int (nI r)), (2, .int (nI n0))]) (lv_sub (l' := [(4, .int (nI 0)), (3, .int (nI 0)), (0, .ref g), (1, .int (nI r)), (2, .int (nI n0))]) hl [0, 1, 2, 3, 4] rfl) (xk rfl (xk (congrArg (fun z : Nat => Value.int (nI z)) e6) (xk rfl (xk rfl (xk rfl (rfl : ([] : List (Nat × Value)) = [])))))))
set_option maxHeartbeats 8000000 in
set_option maxRecDepth 100000 in
theorem c_X3_aboveByColours (l : Launch) (D : va_G) (y : Nat → ClassId) (g : Nat) (h : Nat → Nat) (V : Nat → Nat) (q : Nat → Nat → Int32) (hR : RepC V q) (hI : Inv V) (r : Nat) (hr0 : r < 2 ^ 31) : Met l yX3_aboveByColours wsX3_aboveByColours ({ frames := 3, cells := 0, slots := 0, locals := 67 }) (va_Pc [.ref g, .int (nI r)] (xPr D y [(g, .inr (3, [.ref (h 0)])), (h 0, .inr (2, [.ref (h 1), .ref (h 2), .ref (h 3), .ref (h 4), .int (nI (V 16)), .int (nI (V 67)), .int (rmb V), .int (nI (V 66))])), (h 1, .inl (y 1, 8, .inl (q 0))), (h 2, .inl (y 1, 8, .inl (q 1))), (h 3, .inl (y 1, 24, .inl (q 2))), (h 4, .inl (y 1, 4, .inl (q 3)))])) (vp_Si (fun rz => rz = nI (abA V r))) 0 0 (fun _ => False) := by
  refine Met.ofW (cc := cX3_aboveByColours) (maxL := 5) (ret := (some .int)) (by decide) rfl ?_
  intro p e s m args below meth c s₁ B hml hv
  obtain ⟨rfl, hP, hK⟩ := hv
  have hx := B.exec
  have hb := B.bytes
  have hr := B.returns
  have hts := atoms_spec (ws := wsX3_aboveByColours) B.pre
  have hown : s.vm.findClass RX3 = some m.cls := findClass_of_methodNamed B.named
  have hlocks := B.notSynchronized
  have hP : va_P D vwCl [(g, .inr (3, [.ref (h 0)])), (h 0, .inr (2, [.ref (h 1), .ref (h 2), .ref (h 3), .ref (h 4), .int (nI (V 16)), .int (nI (V 67)), .int (rmb V), .int (nI (V 66))])), (h 1, .inl (y 1, 8, .inl (q 0))), (h 2, .inl (y 1, 8, .inl (q 1))), (h 3, .inl (y 1, 24, .inl (q 2))), (h 4, .inl (y 1, 4, .inl (q 3)))] s.heap := hP
  have hl := lv_entry ([.ref g, .int (nI r)]) (n := 5) (Nat.le_of_ble_eq_true rfl)
  rw [lg_entry_eq]
  generalize (lg_sl ([.ref g, .int (nI r)]) ++ List.replicate (5 - (lg_sl ([.ref g, .int (nI r)])).length) Slot.unset).toArray = ls at hl ⊢
  have hl : lv_has ls 5 [(0, .ref g), (1, .int (nI r))] := hl
  refine lv_iconst (v := nI 0) hx hb dX3_aboveByColours_0 (by decide) ?_
  refine lv_istore_n (lv' := [(2, .int (nI 0)), (0, .ref g), (1, .int (nI r))]) hx hb dX3_aboveByColours_1 rfl hl (by decide) rfl (fun ls hl => ?_)
  refine lv_sipush (v := nI 1000) hx hb dX3_aboveByColours_2 (by decide) ?_
  refine lv_istore_n (lv' := [(3, .int (nI 1000)), (2, .int (nI 0)), (0, .ref g), (1, .int (nI r))]) hx hb dX3_aboveByColours_5 rfl hl (by decide) rfl (fun ls hl => ?_)
  refine lv_iconst (v := nI 0) hx hb dX3_aboveByColours_6 (by decide) ?_
  refine lv_istore (lv' := [(4, .int (nI 0)), (3, .int (nI 1000)), (2, .int (nI 0)), (0, .ref g), (1, .int (nI r))]) hx hb dX3_aboveByColours_7 hl (by decide) rfl (fun ls hl => ?_)
  have lp9 : ∀ (n : Nat) (i : Nat), 4 - i < n → (i ≤ 4) → ∀ ls : Array Slot, lv_has ls 5 [(4, .int (nI i)), (3, .int (nI (1000 / 10 ^ i))), (2, .int (nI (sN (fun c => 1000 / 10 ^ c * abC V r c) i))), (0, .ref g), (1, .int (nI r))] → W p l e (headSpec wsX3_aboveByColours ({ frames := 3, cells := 0, slots := 0, locals := 67 })).room s m ([.ref g, .int (nI r)] : List Value).toArray below meth c s.heap [] 0 0 (MQ below (vp_Si (fun rz => rz = nI (abA V r))) ([.ref g, .int (nI r)] : List Value).toArray s 0 0 (fun _ => False)) (F0 m 9 ls []) := by
    intro n
    induction n with
    | zero => intro i hm; exact absurd hm (Nat.not_lt_zero _)
    | succ n ih9 =>
      intro i hm hi ls hl
      refine lv_iload hx hb dX3_aboveByColours_9 (lv_at hl 0 rfl) ?_
      refine lv_iconst (v := nI 4) hx hb dX3_aboveByColours_11 (by decide) ?_
      refine xn_icmp_ge hx hb (by omega) (by omega) (tgt := 38) dX3_aboveByColours_12 (by decide) (fun kc12 => ?_) (fun kc12 => ?_)
      · refine lv_iload_n hx hb dX3_aboveByColours_38 rfl (lv_at hl 2 rfl) ?_
        exact xr_i hx hb hr hlocks dX3_aboveByColours_39 (congrArg nI (by rw [show i = 4 by omega]))
      · have hpw : 1000 / 10 ^ i < 2 ^ 31 := Nat.lt_of_le_of_lt (Nat.div_le_self _ _) (by decide)
        refine lv_iload_n hx hb dX3_aboveByColours_15 rfl (lv_at hl 2 rfl) ?_
        refine lv_iload_n hx hb dX3_aboveByColours_16 rfl (lv_at hl 1 rfl) ?_
        refine lv_aload_n hx hb dX3_aboveByColours_17 rfl (lv_at hl 3 rfl) ?_
        refine lv_iload_n hx hb dX3_aboveByColours_18 rfl (lv_at hl 4 rfl) ?_
        refine lv_iload hx hb dX3_aboveByColours_19 (lv_at hl 0 rfl) ?_
        refine xc_V (As := [.int (nI r), .int (nI i)]) (rest := [.int (nI (1000 / 10 ^ i)), .int (nI (sN (fun c => 1000 / 10 ^ c * abC V r c) i))]) ⟨hx, hb, hml, hown, hts⟩ (c_X3_aboveWith l D y g h V q hR hI r (by omega) i (by omega)) (cwV 2 hts gX3_aboveByColours_X3_aboveWith rfl rfl rfl hd_X3_aboveWith ⟨Nat.le_of_ble_eq_true rfl, Nat.le_of_ble_eq_true rfl⟩) (xpv_r hK hP [0, 1, 2, 3, 4, 5] 0 rfl rfl rfl) rfl hl.1 rfl (Nat.le_of_ble_eq_true rfl) dX3_aboveByColours_21 ⟨Nat.zero_le _, Nat.zero_le _⟩ (fun r1 hr1 => ?_)
        subst hr1
        refine xn_mul hx hb (r := ((1000 / 10 ^ i) * (abC V r i))) rfl dX3_aboveByColours_24 ?_
        refine xn_add hx hb (r := ((sN (fun c => 1000 / 10 ^ c * abC V r c) i) + ((1000 / 10 ^ i) * (abC V r i)))) rfl dX3_aboveByColours_25 ?_
        refine lv_istore_n (lv' := [(2, .int (nI ((sN (fun c => 1000 / 10 ^ c * abC V r c) i) + ((1000 / 10 ^ i) * (abC V r i))))), (4, .int (nI i)), (3, .int (nI (1000 / 10 ^ i))), (0, .ref g), (1, .int (nI r))]) hx hb dX3_aboveByColours_26 rfl hl (by decide) rfl (fun ls hl => ?_)
        refine lv_iload_n hx hb dX3_aboveByColours_27 rfl (lv_at hl 2 rfl) ?_
        refine lv_bipush (v := nI 10) hx hb dX3_aboveByColours_28 (by decide) ?_
        refine xn_div hx hb (r := ((1000 / 10 ^ i) / 10)) (by omega) (by omega) (by omega) rfl dX3_aboveByColours_30 ?_
        refine lv_istore_n (lv' := [(3, .int (nI ((1000 / 10 ^ i) / 10))), (2, .int (nI ((sN (fun c => 1000 / 10 ^ c * abC V r c) i) + ((1000 / 10 ^ i) * (abC V r i))))), (4, .int (nI i)), (0, .ref g), (1, .int (nI r))]) hx hb dX3_aboveByColours_31 rfl hl (by decide) rfl (fun ls hl => ?_)
        refine lv_iinc (v := nI (i + 1)) (lv' := [(4, .int (nI (i + 1))), (3, .int (nI ((1000 / 10 ^ i) / 10))), (2, .int (nI ((sN (fun c => 1000 / 10 ^ c * abC V r c) i) + ((1000 / 10 ^ i) * (abC V r i))))), (0, .ref g), (1, .int (nI r))]) hx hb dX3_aboveByColours_32 hl (k := 2) rfl (nI_add i 1) (by decide) rfl (fun ls hl => ?_)
        refine lv_goto (tgt := 9) hx hb dX3_aboveByColours_35 (by decide) ?_
        have e2 : ((1000 / 10 ^ i) / 10) = (1000 / 10 ^ (i + 1)) := by rcases (show i = 0 ∨ i = 1 ∨ i = 2 ∨ i = 3 by omega) with rfl | rfl | rfl | rfl <;> rfl
        have e3 : ((sN (fun c => 1000 / 10 ^ c * abC V r c) i) + ((1000 / 10 ^ i) * (abC V r i))) = (sN (fun c => 1000 / 10 ^ c * abC V r c) (i + 1)) := rfl
        exact ih9 (i + 1) (by omega) (by omega) ls (xl_eq (b := [(4, .int (nI (i + 1))), (3, .int (nI (1000 / 10 ^ (i + 1)))), (2, .int (nI (sN (fun c => 1000 / 10 ^ c * abC V r c) (i + 1)))), (0, .ref g), (1, .int (nI r))]) (lv_sub (l' := [(4, .int (nI (i + 1))), (3, .int (nI ((1000 / 10 ^ i) / 10))), (2, .int (nI ((sN (fun c => 1000 / 10 ^ c * abC V r c) i) + ((1000 / 10 ^ i) * (abC V r i))))), (0, .ref g), (1, .int (nI r))]) hl [0, 1, 2, 3, 4] rfl) (xk rfl (xk (congrArg (fun z : Nat => Value.int (nI z)) e2) (xk (congrArg (fun z : Nat => Value.int (nI z)) e3) (xk rfl (xk rfl (rfl : ([] : List (Nat × Value)) = [])))))))
  have e4 : 1000 = (1000 / 10 ^ 0) := rfl
  have e5 : 0 = (sN (fun c => 1000 / 10 ^ c * abC V r c) 0) := rfl
  exact lp9 ((4 - 0) + 1) 0 (Nat.lt_succ_self _) (by omega) ls (xl_eq (b := [(4, .int (nI 0)), (3, .int (nI (1000 / 10 ^ 0))), (2, .int (nI (sN (fun c => 1000 / 10 ^ c * abC V r c) 0))), (0, .ref g), (1, .int (nI r))]) (lv_sub (l' := [(4, .int (nI 0)), (3, .int (nI 1000)), (2, .int (nI 0)), (0, .ref g), (1, .int (nI r))]) hl [0, 1, 2, 3, 4] rfl) (xk rfl (xk (congrArg (fun z : Nat => Value.int (nI z)) e4) (xk (congrArg (fun z : Nat => Value.int (nI z)) e5) (xk rfl (xk rfl (rfl : ([] : List (Nat × Value)) = [])))))))
set_option maxHeartbeats 8000000 in
set_option maxRecDepth 100000 in
theorem c_X3_soundTheSame (l : Launch) (D : va_G) (y : Nat → ClassId) (g : Nat) (h : Nat → Nat) (V : Nat → Nat) (q : Nat → Nat → Int32) (hR : RepC V q) (hI : Inv V) (a b : Nat) (ha0 : a < 2 ^ 31) (hb0 : b < 2 ^ 31) : Met l yX3_soundTheSame wsX3_soundTheSame ({ frames := 3, cells := 0, slots := 0, locals := 67 }) (va_Pc [.ref g, .int (nI a), .int (nI b)] (xPr D y [(g, .inr (3, [.ref (h 0)])), (h 0, .inr (2, [.ref (h 1), .ref (h 2), .ref (h 3), .ref (h 4), .int (nI (V 16)), .int (nI (V 67)), .int (rmb V), .int (nI (V 66))])), (h 1, .inl (y 1, 8, .inl (q 0))), (h 2, .inl (y 1, 8, .inl (q 1))), (h 3, .inl (y 1, 24, .inl (q 2))), (h 4, .inl (y 1, 4, .inl (q 3)))])) (vp_Si (fun rz => rz = nI (smN V a b 8))) 0 0 (fun _ => False) := by
  refine Met.ofW (cc := cX3_soundTheSame) (maxL := 6) (ret := (some .boolean)) (by decide) rfl ?_
  intro p e s m args below meth c s₁ B hml hv
  obtain ⟨rfl, hP, hK⟩ := hv
  have hx := B.exec
  have hb := B.bytes
  have hr := B.returns
  have hts := atoms_spec (ws := wsX3_soundTheSame) B.pre
  have hown : s.vm.findClass RX3 = some m.cls := findClass_of_methodNamed B.named
  have hlocks := B.notSynchronized
  have f_9 := hts (.fieldLink RX3 9 "LoomTunes$Rows" "register" "LLoomTunes$Register;") (by decide +kernel)
  have hin_X3 : ∀ w ∈ wsX30, w ∈ wsX3_soundTheSame := by decide +kernel
  have hP : va_P D vwCl [(g, .inr (3, [.ref (h 0)])), (h 0, .inr (2, [.ref (h 1), .ref (h 2), .ref (h 3), .ref (h 4), .int (nI (V 16)), .int (nI (V 67)), .int (rmb V), .int (nI (V 66))])), (h 1, .inl (y 1, 8, .inl (q 0))), (h 2, .inl (y 1, 8, .inl (q 1))), (h 3, .inl (y 1, 24, .inl (q 2))), (h 4, .inl (y 1, 4, .inl (q 3)))] s.heap := hP
  have hl := lv_entry ([.ref g, .int (nI a), .int (nI b)]) (n := 6) (Nat.le_of_ble_eq_true rfl)
  rw [lg_entry_eq]
  generalize (lg_sl ([.ref g, .int (nI a), .int (nI b)]) ++ List.replicate (6 - (lg_sl ([.ref g, .int (nI a), .int (nI b)])).length) Slot.unset).toArray = ls at hl ⊢
  have hl : lv_has ls 6 [(0, .ref g), (1, .int (nI a)), (2, .int (nI b))] := hl
  have hha := hol_lt hI (r := a)
  have hhb := hol_lt hI (r := b)
  have hpa := pop_le (h := hol V a)
  have hpb := pop_le (h := hol V b)
  have hnt : ∀ {k : Nat}, k < 8 → V k < 48 := fun hk => hI.nt hk
  refine lv_aload_n hx hb dX3_soundTheSame_0 rfl (lv_at hl 0 rfl) ?_
  refine va_get (D := D) (ci := 3) (v := .ref (h 0)) (C := RX3) (T := TX3) (N := 1) hx hb hts hin_X3 hown hK.1 hP 0 rfl rfl 0 (by decide) f_9 (fun _ h9 => h9) rfl dX3_soundTheSame_1 ?_
  refine lv_iload_n hx hb dX3_soundTheSame_4 rfl (lv_at hl 1 rfl) ?_
  refine xc_V (As := [.int (nI a)]) (rest := []) ⟨hx, hb, hml, hown, hts⟩ (c_X2_holesAt_n l D y h V q hR hI a (by omega)) (cwV 1 hts gX3_soundTheSame_X2_holesAt rfl rfl rfl hd_X2_holesAt ⟨Nat.le_of_ble_eq_true rfl, Nat.le_of_ble_eq_true rfl⟩) (xpv_r hK hP [1, 2, 3, 4, 5] 1 rfl rfl rfl) rfl hl.1 rfl (Nat.le_of_ble_eq_true rfl) dX3_soundTheSame_5 ⟨Nat.zero_le _, Nat.zero_le _⟩ (fun r1 hr1 => ?_)
  subst hr1
  refine xc_S (As := [.int (nI (hol V a))]) (rest := []) ⟨hx, hb, hml, hown, hts⟩ (c_J6_bitCount_0f7a4 l (hol V a) (by omega)) (va_cwS 1 hts gX3_soundTheSame_J6_bitCount_0f7a4 rfl rfl rfl hd_J6_bitCount_0f7a4.2 ⟨Nat.le_of_ble_eq_true rfl, Nat.le_of_ble_eq_true rfl⟩) xps_0 rfl hl.1 rfl (Nat.le_of_ble_eq_true rfl) dX3_soundTheSame_8 ⟨Nat.zero_le _, Nat.zero_le _⟩ (fun r2 hr2 => ?_)
  subst hr2
  refine lv_aload_n hx hb dX3_soundTheSame_11 rfl (lv_at hl 0 rfl) ?_
  refine va_get (D := D) (ci := 3) (v := .ref (h 0)) (C := RX3) (T := TX3) (N := 1) hx hb hts hin_X3 hown hK.1 hP 0 rfl rfl 0 (by decide) f_9 (fun _ h9 => h9) rfl dX3_soundTheSame_12 ?_
  refine lv_iload_n hx hb dX3_soundTheSame_15 rfl (lv_at hl 2 rfl) ?_
  refine xc_V (As := [.int (nI b)]) (rest := [.int (nI (pop (hol V a)))]) ⟨hx, hb, hml, hown, hts⟩ (c_X2_holesAt_n l D y h V q hR hI b (by omega)) (cwV 1 hts gX3_soundTheSame_X2_holesAt rfl rfl rfl hd_X2_holesAt ⟨Nat.le_of_ble_eq_true rfl, Nat.le_of_ble_eq_true rfl⟩) (xpv_r hK hP [1, 2, 3, 4, 5] 1 rfl rfl rfl) rfl hl.1 rfl (Nat.le_of_ble_eq_true rfl) dX3_soundTheSame_16 ⟨Nat.zero_le _, Nat.zero_le _⟩ (fun r3 hr3 => ?_)
  subst hr3
  refine xc_S (As := [.int (nI (hol V b))]) (rest := [.int (nI (pop (hol V a)))]) ⟨hx, hb, hml, hown, hts⟩ (c_J6_bitCount_0f7a4 l (hol V b) (by omega)) (va_cwS 1 hts gX3_soundTheSame_J6_bitCount_0f7a4 rfl rfl rfl hd_J6_bitCount_0f7a4.2 ⟨Nat.le_of_ble_eq_true rfl, Nat.le_of_ble_eq_true rfl⟩) xps_0 rfl hl.1 rfl (Nat.le_of_ble_eq_true rfl) dX3_soundTheSame_19 ⟨Nat.zero_le _, Nat.zero_le _⟩ (fun r4 hr4 => ?_)
  subst hr4
  refine xn_icmp_ne hx hb (by omega) (by omega) (tgt := 29) dX3_soundTheSame_22 (by decide) (fun kc22 => ?_) (fun kc22 => ?_)
  · refine lv_iconst (v := nI 0) hx hb dX3_soundTheSame_29 (by decide) ?_
    refine lv_istore_n (lv' := [(3, .int (nI 0)), (0, .ref g), (1, .int (nI a)), (2, .int (nI b))]) hx hb dX3_soundTheSame_30 rfl hl (by decide) rfl (fun ls hl => ?_)
    refine lv_iconst (v := nI 0) hx hb dX3_soundTheSame_31 (by decide) ?_
    refine lv_istore (lv' := [(4, .int (nI 0)), (3, .int (nI 0)), (0, .ref g), (1, .int (nI a)), (2, .int (nI b))]) hx hb dX3_soundTheSame_32 hl (by decide) rfl (fun ls hl => ?_)
    have lp34 : ∀ (n : Nat) (i : Nat), 8 - i < n → (i ≤ 8) → ∀ ls : Array Slot, lv_has ls 6 [(4, .int (nI i)), (3, .int (nI (smN V a b i))), (0, .ref g), (1, .int (nI a)), (2, .int (nI b))] → W p l e (headSpec wsX3_soundTheSame ({ frames := 3, cells := 0, slots := 0, locals := 67 })).room s m ([.ref g, .int (nI a), .int (nI b)] : List Value).toArray below meth c s.heap [] 0 0 (MQ below (vp_Si (fun rz => rz = nI (smN V a b 8))) ([.ref g, .int (nI a), .int (nI b)] : List Value).toArray s 0 0 (fun _ => False)) (F0 m 34 ls []) := by
      intro n
      induction n with
      | zero => intro i hm; exact absurd hm (Nat.not_lt_zero _)
      | succ n ih34 =>
        intro i hm hi ls hl
        refine lv_iload hx hb dX3_soundTheSame_34 (lv_at hl 0 rfl) ?_
        refine lv_bipush (v := nI 8) hx hb dX3_soundTheSame_36 (by decide) ?_
        refine xn_icmp_ge hx hb (by omega) (by omega) (tgt := 98) dX3_soundTheSame_38 (by decide) (fun kc38 => ?_) (fun kc38 => ?_)
        · refine lv_iload_n hx hb dX3_soundTheSame_98 rfl (lv_at hl 1 rfl) ?_
          exact xr_z hx hb hr hlocks dX3_soundTheSame_99 (smN_lt i) (congrArg nI (by first | rw [show i = 8 by omega] | (have q := smN_z kc42 (8 - i); rw [show i + (8 - i) = 8 by omega] at q; rw [q, kc42])))
        · have hsb := sndN_lt (V := V) (r := a) (t := i)
          have hni := hnt (k := i) (by omega)
          have hsm := smN_lt (V := V) (a := a) (b := b) i
          have hw1 := hwO_le (V := V) (r := a) (c := V i)
          have hw2 := hwO_le (V := V) (r := b) (c := V i)
          refine lv_iload_n hx hb dX3_soundTheSame_41 rfl (lv_at hl 1 rfl) ?_
          refine xn_if_eq hx hb (by omega) (tgt := 98) dX3_soundTheSame_42 (by decide) (fun kc42 => ?_) (fun kc42 => ?_)
          · refine lv_iload_n hx hb dX3_soundTheSame_98 rfl (lv_at hl 1 rfl) ?_
            exact xr_z hx hb hr hlocks dX3_soundTheSame_99 (smN_lt i) (congrArg nI (by first | rw [show i = 8 by omega] | (have q := smN_z kc42 (8 - i); rw [show i + (8 - i) = 8 by omega] at q; rw [q, kc42])))
          · refine lv_aload_n hx hb dX3_soundTheSame_45 rfl (lv_at hl 2 rfl) ?_
            refine va_get (D := D) (ci := 3) (v := .ref (h 0)) (C := RX3) (T := TX3) (N := 1) hx hb hts hin_X3 hown hK.1 hP 0 rfl rfl 0 (by decide) f_9 (fun _ h9 => h9) rfl dX3_soundTheSame_46 ?_
            refine lv_iload hx hb dX3_soundTheSame_49 (lv_at hl 0 rfl) ?_
            refine xc_V (As := [.int (nI i)]) (rest := []) ⟨hx, hb, hml, hown, hts⟩ (c_X2_noteAt l D y h V q hR hI i (by omega)) (cwV 1 hts gX3_soundTheSame_X2_noteAt rfl rfl rfl hd_X2_noteAt ⟨Nat.le_of_ble_eq_true rfl, Nat.le_of_ble_eq_true rfl⟩) (xpv_r hK hP [1, 2, 3, 4, 5] 1 rfl rfl rfl) rfl hl.1 rfl (Nat.le_of_ble_eq_true rfl) dX3_soundTheSame_51 ⟨Nat.zero_le _, Nat.zero_le _⟩ (fun r5 hr5 => ?_)
            subst hr5
            refine lv_istore (lv' := [(5, .int (nI (V i))), (4, .int (nI i)), (3, .int (nI (smN V a b i))), (0, .ref g), (1, .int (nI a)), (2, .int (nI b))]) hx hb dX3_soundTheSame_54 hl (by decide) rfl (fun ls hl => ?_)
            refine lv_aload_n hx hb dX3_soundTheSame_56 rfl (lv_at hl 3 rfl) ?_
            refine va_get (D := D) (ci := 3) (v := .ref (h 0)) (C := RX3) (T := TX3) (N := 1) hx hb hts hin_X3 hown hK.1 hP 0 rfl rfl 0 (by decide) f_9 (fun _ h9 => h9) rfl dX3_soundTheSame_57 ?_
            refine lv_iload_n hx hb dX3_soundTheSame_60 rfl (lv_at hl 4 rfl) ?_
            refine lv_iload hx hb dX3_soundTheSame_61 (lv_at hl 1 rfl) ?_
            refine xc_V (As := [.int (nI a), .int (nI i)]) (rest := []) ⟨hx, hb, hml, hown, hts⟩ (c_X2_soundsAt_n l D y h V q hR hI a (by omega) i (by omega)) (cwV 2 hts gX3_soundTheSame_X2_soundsAt rfl rfl rfl hd_X2_soundsAt ⟨Nat.le_of_ble_eq_true rfl, Nat.le_of_ble_eq_true rfl⟩) (xpv_r hK hP [1, 2, 3, 4, 5] 1 rfl rfl rfl) rfl hl.1 rfl (Nat.le_of_ble_eq_true rfl) dX3_soundTheSame_63 ⟨Nat.zero_le _, Nat.zero_le _⟩ (fun r6 hr6 => ?_)
            subst hr6
            refine xn_if_eq hx hb (by omega) (tgt := 86) dX3_soundTheSame_66 (by decide) (fun kc66 => ?_) (fun kc66 => ?_)
            · refine lv_iconst (v := nI 1) hx hb dX3_soundTheSame_86 (by decide) ?_
              refine lv_goto (tgt := 91) hx hb dX3_soundTheSame_87 (by decide) ?_
              refine lv_istore_n (lv' := [(3, .int (nI 1)), (5, .int (nI (V i))), (4, .int (nI i)), (0, .ref g), (1, .int (nI a)), (2, .int (nI b))]) hx hb dX3_soundTheSame_91 rfl hl (by decide) rfl (fun ls hl => ?_)
              refine lv_iinc (v := nI (i + 1)) (lv' := [(4, .int (nI (i + 1))), (3, .int (nI 1)), (5, .int (nI (V i))), (0, .ref g), (1, .int (nI a)), (2, .int (nI b))]) hx hb dX3_soundTheSame_92 hl (k := 2) rfl (nI_add i 1) (by decide) rfl (fun ls hl => ?_)
              refine lv_goto (tgt := 34) hx hb dX3_soundTheSame_95 (by decide) ?_
              have e7 : 1 = (smN V a b (i + 1)) := by rw [smN]; first | rw [if_pos ⟨by omega, by omega⟩] | rw [if_neg (by omega)]
              exact ih34 (i + 1) (by omega) (by omega) ls (xl_eq (b := [(4, .int (nI (i + 1))), (3, .int (nI (smN V a b (i + 1)))), (0, .ref g), (1, .int (nI a)), (2, .int (nI b))]) (lv_sub (l' := [(4, .int (nI (i + 1))), (3, .int (nI 1)), (0, .ref g), (1, .int (nI a)), (2, .int (nI b))]) hl [0, 1, 3, 4, 5] rfl) (xk rfl (xk (congrArg (fun z : Nat => Value.int (nI z)) e7) (xk rfl (xk rfl (xk rfl (rfl : ([] : List (Nat × Value)) = [])))))))
            · refine lv_aload_n hx hb dX3_soundTheSame_69 rfl (lv_at hl 3 rfl) ?_
              refine lv_iload_n hx hb dX3_soundTheSame_70 rfl (lv_at hl 4 rfl) ?_
              refine lv_iload hx hb dX3_soundTheSame_71 (lv_at hl 0 rfl) ?_
              refine xc_V (As := [.int (nI a), .int (nI (V i))]) (rest := []) ⟨hx, hb, hml, hown, hts⟩ (c_X3_howOften l D y g h V q hR hI a (by omega) (V i) (by omega)) (cwV 2 hts gX3_soundTheSame_X3_howOften rfl rfl rfl hd_X3_howOften ⟨Nat.le_of_ble_eq_true rfl, Nat.le_of_ble_eq_true rfl⟩) (xpv_r hK hP [0, 1, 2, 3, 4, 5] 0 rfl rfl rfl) rfl hl.1 rfl (Nat.le_of_ble_eq_true rfl) dX3_soundTheSame_73 ⟨Nat.zero_le _, Nat.zero_le _⟩ (fun r8 hr8 => ?_)
              subst hr8
              refine lv_aload_n hx hb dX3_soundTheSame_76 rfl (lv_at hl 3 rfl) ?_
              refine lv_iload_n hx hb dX3_soundTheSame_77 rfl (lv_at hl 5 rfl) ?_
              refine lv_iload hx hb dX3_soundTheSame_78 (lv_at hl 0 rfl) ?_
              refine xc_V (As := [.int (nI b), .int (nI (V i))]) (rest := [.int (nI (hwO V a (V i)))]) ⟨hx, hb, hml, hown, hts⟩ (c_X3_howOften l D y g h V q hR hI b (by omega) (V i) (by omega)) (cwV 2 hts gX3_soundTheSame_X3_howOften rfl rfl rfl hd_X3_howOften ⟨Nat.le_of_ble_eq_true rfl, Nat.le_of_ble_eq_true rfl⟩) (xpv_r hK hP [0, 1, 2, 3, 4, 5] 0 rfl rfl rfl) rfl hl.1 rfl (Nat.le_of_ble_eq_true rfl) dX3_soundTheSame_80 ⟨Nat.zero_le _, Nat.zero_le _⟩ (fun r9 hr9 => ?_)
              subst hr9
              refine xn_icmp_ne hx hb (by omega) (by omega) (tgt := 90) dX3_soundTheSame_83 (by decide) (fun kc83 => ?_) (fun kc83 => ?_)
              · refine lv_iconst (v := nI 0) hx hb dX3_soundTheSame_90 (by decide) ?_
                refine lv_istore_n (lv' := [(3, .int (nI 0)), (5, .int (nI (V i))), (4, .int (nI i)), (0, .ref g), (1, .int (nI a)), (2, .int (nI b))]) hx hb dX3_soundTheSame_91 rfl hl (by decide) rfl (fun ls hl => ?_)
                refine lv_iinc (v := nI (i + 1)) (lv' := [(4, .int (nI (i + 1))), (3, .int (nI 0)), (5, .int (nI (V i))), (0, .ref g), (1, .int (nI a)), (2, .int (nI b))]) hx hb dX3_soundTheSame_92 hl (k := 2) rfl (nI_add i 1) (by decide) rfl (fun ls hl => ?_)
                refine lv_goto (tgt := 34) hx hb dX3_soundTheSame_95 (by decide) ?_
                have e10 : 0 = (smN V a b (i + 1)) := by rw [smN]; first | rw [if_pos ⟨by omega, by omega⟩] | rw [if_neg (by omega)]
                exact ih34 (i + 1) (by omega) (by omega) ls (xl_eq (b := [(4, .int (nI (i + 1))), (3, .int (nI (smN V a b (i + 1)))), (0, .ref g), (1, .int (nI a)), (2, .int (nI b))]) (lv_sub (l' := [(4, .int (nI (i + 1))), (3, .int (nI 0)), (0, .ref g), (1, .int (nI a)), (2, .int (nI b))]) hl [0, 1, 3, 4, 5] rfl) (xk rfl (xk (congrArg (fun z : Nat => Value.int (nI z)) e10) (xk rfl (xk rfl (xk rfl (rfl : ([] : List (Nat × Value)) = [])))))))
              · refine lv_iconst (v := nI 1) hx hb dX3_soundTheSame_86 (by decide) ?_
                refine lv_goto (tgt := 91) hx hb dX3_soundTheSame_87 (by decide) ?_
                refine lv_istore_n (lv' := [(3, .int (nI 1)), (5, .int (nI (V i))), (4, .int (nI i)), (0, .ref g), (1, .int (nI a)), (2, .int (nI b))]) hx hb dX3_soundTheSame_91 rfl hl (by decide) rfl (fun ls hl => ?_)
                refine lv_iinc (v := nI (i + 1)) (lv' := [(4, .int (nI (i + 1))), (3, .int (nI 1)), (5, .int (nI (V i))), (0, .ref g), (1, .int (nI a)), (2, .int (nI b))]) hx hb dX3_soundTheSame_92 hl (k := 2) rfl (nI_add i 1) (by decide) rfl (fun ls hl => ?_)
                refine lv_goto (tgt := 34) hx hb dX3_soundTheSame_95 (by decide) ?_
                have e11 : 1 = (smN V a b (i + 1)) := by rw [smN]; first | rw [if_pos ⟨by omega, by omega⟩] | rw [if_neg (by omega)]
                exact ih34 (i + 1) (by omega) (by omega) ls (xl_eq (b := [(4, .int (nI (i + 1))), (3, .int (nI (smN V a b (i + 1)))), (0, .ref g), (1, .int (nI a)), (2, .int (nI b))]) (lv_sub (l' := [(4, .int (nI (i + 1))), (3, .int (nI 1)), (0, .ref g), (1, .int (nI a)), (2, .int (nI b))]) hl [0, 1, 3, 4, 5] rfl) (xk rfl (xk (congrArg (fun z : Nat => Value.int (nI z)) e11) (xk rfl (xk rfl (xk rfl (rfl : ([] : List (Nat × Value)) = [])))))))
    have e12 : 0 = (smN V a b 0) := by first | exact (bN_t kc22).symm | exact (bN_f kc22).symm
    exact lp34 ((8 - 0) + 1) 0 (Nat.lt_succ_self _) (by omega) ls (xl_eq (b := [(4, .int (nI 0)), (3, .int (nI (smN V a b 0))), (0, .ref g), (1, .int (nI a)), (2, .int (nI b))]) (lv_sub (l' := [(4, .int (nI 0)), (3, .int (nI 0)), (0, .ref g), (1, .int (nI a)), (2, .int (nI b))]) hl [0, 1, 2, 3, 4] rfl) (xk rfl (xk (congrArg (fun z : Nat => Value.int (nI z)) e12) (xk rfl (xk rfl (xk rfl (rfl : ([] : List (Nat × Value)) = [])))))))
  · refine lv_iconst (v := nI 1) hx hb dX3_soundTheSame_25 (by decide) ?_
    refine lv_goto (tgt := 30) hx hb dX3_soundTheSame_26 (by decide) ?_
    refine lv_istore_n (lv' := [(3, .int (nI 1)), (0, .ref g), (1, .int (nI a)), (2, .int (nI b))]) hx hb dX3_soundTheSame_30 rfl hl (by decide) rfl (fun ls hl => ?_)
    refine lv_iconst (v := nI 0) hx hb dX3_soundTheSame_31 (by decide) ?_
    refine lv_istore (lv' := [(4, .int (nI 0)), (3, .int (nI 1)), (0, .ref g), (1, .int (nI a)), (2, .int (nI b))]) hx hb dX3_soundTheSame_32 hl (by decide) rfl (fun ls hl => ?_)
    have lp34 : ∀ (n : Nat) (i : Nat), 8 - i < n → (i ≤ 8) → ∀ ls : Array Slot, lv_has ls 6 [(4, .int (nI i)), (3, .int (nI (smN V a b i))), (0, .ref g), (1, .int (nI a)), (2, .int (nI b))] → W p l e (headSpec wsX3_soundTheSame ({ frames := 3, cells := 0, slots := 0, locals := 67 })).room s m ([.ref g, .int (nI a), .int (nI b)] : List Value).toArray below meth c s.heap [] 0 0 (MQ below (vp_Si (fun rz => rz = nI (smN V a b 8))) ([.ref g, .int (nI a), .int (nI b)] : List Value).toArray s 0 0 (fun _ => False)) (F0 m 34 ls []) := by
      intro n
      induction n with
      | zero => intro i hm; exact absurd hm (Nat.not_lt_zero _)
      | succ n ih34 =>
        intro i hm hi ls hl
        refine lv_iload hx hb dX3_soundTheSame_34 (lv_at hl 0 rfl) ?_
        refine lv_bipush (v := nI 8) hx hb dX3_soundTheSame_36 (by decide) ?_
        refine xn_icmp_ge hx hb (by omega) (by omega) (tgt := 98) dX3_soundTheSame_38 (by decide) (fun kc38 => ?_) (fun kc38 => ?_)
        · refine lv_iload_n hx hb dX3_soundTheSame_98 rfl (lv_at hl 1 rfl) ?_
          exact xr_z hx hb hr hlocks dX3_soundTheSame_99 (smN_lt i) (congrArg nI (by first | rw [show i = 8 by omega] | (have q := smN_z kc42 (8 - i); rw [show i + (8 - i) = 8 by omega] at q; rw [q, kc42])))
        · have hsb := sndN_lt (V := V) (r := a) (t := i)
          have hni := hnt (k := i) (by omega)
          have hsm := smN_lt (V := V) (a := a) (b := b) i
          have hw1 := hwO_le (V := V) (r := a) (c := V i)
          have hw2 := hwO_le (V := V) (r := b) (c := V i)
          refine lv_iload_n hx hb dX3_soundTheSame_41 rfl (lv_at hl 1 rfl) ?_
          refine xn_if_eq hx hb (by omega) (tgt := 98) dX3_soundTheSame_42 (by decide) (fun kc42 => ?_) (fun kc42 => ?_)
          · refine lv_iload_n hx hb dX3_soundTheSame_98 rfl (lv_at hl 1 rfl) ?_
            exact xr_z hx hb hr hlocks dX3_soundTheSame_99 (smN_lt i) (congrArg nI (by first | rw [show i = 8 by omega] | (have q := smN_z kc42 (8 - i); rw [show i + (8 - i) = 8 by omega] at q; rw [q, kc42])))
          · refine lv_aload_n hx hb dX3_soundTheSame_45 rfl (lv_at hl 2 rfl) ?_
            refine va_get (D := D) (ci := 3) (v := .ref (h 0)) (C := RX3) (T := TX3) (N := 1) hx hb hts hin_X3 hown hK.1 hP 0 rfl rfl 0 (by decide) f_9 (fun _ h9 => h9) rfl dX3_soundTheSame_46 ?_
            refine lv_iload hx hb dX3_soundTheSame_49 (lv_at hl 0 rfl) ?_
            refine xc_V (As := [.int (nI i)]) (rest := []) ⟨hx, hb, hml, hown, hts⟩ (c_X2_noteAt l D y h V q hR hI i (by omega)) (cwV 1 hts gX3_soundTheSame_X2_noteAt rfl rfl rfl hd_X2_noteAt ⟨Nat.le_of_ble_eq_true rfl, Nat.le_of_ble_eq_true rfl⟩) (xpv_r hK hP [1, 2, 3, 4, 5] 1 rfl rfl rfl) rfl hl.1 rfl (Nat.le_of_ble_eq_true rfl) dX3_soundTheSame_51 ⟨Nat.zero_le _, Nat.zero_le _⟩ (fun r13 hr13 => ?_)
            subst hr13
            refine lv_istore (lv' := [(5, .int (nI (V i))), (4, .int (nI i)), (3, .int (nI (smN V a b i))), (0, .ref g), (1, .int (nI a)), (2, .int (nI b))]) hx hb dX3_soundTheSame_54 hl (by decide) rfl (fun ls hl => ?_)
            refine lv_aload_n hx hb dX3_soundTheSame_56 rfl (lv_at hl 3 rfl) ?_
            refine va_get (D := D) (ci := 3) (v := .ref (h 0)) (C := RX3) (T := TX3) (N := 1) hx hb hts hin_X3 hown hK.1 hP 0 rfl rfl 0 (by decide) f_9 (fun _ h9 => h9) rfl dX3_soundTheSame_57 ?_
            refine lv_iload_n hx hb dX3_soundTheSame_60 rfl (lv_at hl 4 rfl) ?_
            refine lv_iload hx hb dX3_soundTheSame_61 (lv_at hl 1 rfl) ?_
            refine xc_V (As := [.int (nI a), .int (nI i)]) (rest := []) ⟨hx, hb, hml, hown, hts⟩ (c_X2_soundsAt_n l D y h V q hR hI a (by omega) i (by omega)) (cwV 2 hts gX3_soundTheSame_X2_soundsAt rfl rfl rfl hd_X2_soundsAt ⟨Nat.le_of_ble_eq_true rfl, Nat.le_of_ble_eq_true rfl⟩) (xpv_r hK hP [1, 2, 3, 4, 5] 1 rfl rfl rfl) rfl hl.1 rfl (Nat.le_of_ble_eq_true rfl) dX3_soundTheSame_63 ⟨Nat.zero_le _, Nat.zero_le _⟩ (fun r14 hr14 => ?_)
            subst hr14
            refine xn_if_eq hx hb (by omega) (tgt := 86) dX3_soundTheSame_66 (by decide) (fun kc66 => ?_) (fun kc66 => ?_)
            · refine lv_iconst (v := nI 1) hx hb dX3_soundTheSame_86 (by decide) ?_
              refine lv_goto (tgt := 91) hx hb dX3_soundTheSame_87 (by decide) ?_
              refine lv_istore_n (lv' := [(3, .int (nI 1)), (5, .int (nI (V i))), (4, .int (nI i)), (0, .ref g), (1, .int (nI a)), (2, .int (nI b))]) hx hb dX3_soundTheSame_91 rfl hl (by decide) rfl (fun ls hl => ?_)
              refine lv_iinc (v := nI (i + 1)) (lv' := [(4, .int (nI (i + 1))), (3, .int (nI 1)), (5, .int (nI (V i))), (0, .ref g), (1, .int (nI a)), (2, .int (nI b))]) hx hb dX3_soundTheSame_92 hl (k := 2) rfl (nI_add i 1) (by decide) rfl (fun ls hl => ?_)
              refine lv_goto (tgt := 34) hx hb dX3_soundTheSame_95 (by decide) ?_
              have e15 : 1 = (smN V a b (i + 1)) := by rw [smN]; first | rw [if_pos ⟨by omega, by omega⟩] | rw [if_neg (by omega)]
              exact ih34 (i + 1) (by omega) (by omega) ls (xl_eq (b := [(4, .int (nI (i + 1))), (3, .int (nI (smN V a b (i + 1)))), (0, .ref g), (1, .int (nI a)), (2, .int (nI b))]) (lv_sub (l' := [(4, .int (nI (i + 1))), (3, .int (nI 1)), (0, .ref g), (1, .int (nI a)), (2, .int (nI b))]) hl [0, 1, 3, 4, 5] rfl) (xk rfl (xk (congrArg (fun z : Nat => Value.int (nI z)) e15) (xk rfl (xk rfl (xk rfl (rfl : ([] : List (Nat × Value)) = [])))))))
            · refine lv_aload_n hx hb dX3_soundTheSame_69 rfl (lv_at hl 3 rfl) ?_
              refine lv_iload_n hx hb dX3_soundTheSame_70 rfl (lv_at hl 4 rfl) ?_
              refine lv_iload hx hb dX3_soundTheSame_71 (lv_at hl 0 rfl) ?_
              refine xc_V (As := [.int (nI a), .int (nI (V i))]) (rest := []) ⟨hx, hb, hml, hown, hts⟩ (c_X3_howOften l D y g h V q hR hI a (by omega) (V i) (by omega)) (cwV 2 hts gX3_soundTheSame_X3_howOften rfl rfl rfl hd_X3_howOften ⟨Nat.le_of_ble_eq_true rfl, Nat.le_of_ble_eq_true rfl⟩) (xpv_r hK hP [0, 1, 2, 3, 4, 5] 0 rfl rfl rfl) rfl hl.1 rfl (Nat.le_of_ble_eq_true rfl) dX3_soundTheSame_73 ⟨Nat.zero_le _, Nat.zero_le _⟩ (fun r16 hr16 => ?_)
              subst hr16
              refine lv_aload_n hx hb dX3_soundTheSame_76 rfl (lv_at hl 3 rfl) ?_
              refine lv_iload_n hx hb dX3_soundTheSame_77 rfl (lv_at hl 5 rfl) ?_
              refine lv_iload hx hb dX3_soundTheSame_78 (lv_at hl 0 rfl) ?_
              refine xc_V (As := [.int (nI b), .int (nI (V i))]) (rest := [.int (nI (hwO V a (V i)))]) ⟨hx, hb, hml, hown, hts⟩ (c_X3_howOften l D y g h V q hR hI b (by omega) (V i) (by omega)) (cwV 2 hts gX3_soundTheSame_X3_howOften rfl rfl rfl hd_X3_howOften ⟨Nat.le_of_ble_eq_true rfl, Nat.le_of_ble_eq_true rfl⟩) (xpv_r hK hP [0, 1, 2, 3, 4, 5] 0 rfl rfl rfl) rfl hl.1 rfl (Nat.le_of_ble_eq_true rfl) dX3_soundTheSame_80 ⟨Nat.zero_le _, Nat.zero_le _⟩ (fun r17 hr17 => ?_)
              subst hr17
              refine xn_icmp_ne hx hb (by omega) (by omega) (tgt := 90) dX3_soundTheSame_83 (by decide) (fun kc83 => ?_) (fun kc83 => ?_)
              · refine lv_iconst (v := nI 0) hx hb dX3_soundTheSame_90 (by decide) ?_
                refine lv_istore_n (lv' := [(3, .int (nI 0)), (5, .int (nI (V i))), (4, .int (nI i)), (0, .ref g), (1, .int (nI a)), (2, .int (nI b))]) hx hb dX3_soundTheSame_91 rfl hl (by decide) rfl (fun ls hl => ?_)
                refine lv_iinc (v := nI (i + 1)) (lv' := [(4, .int (nI (i + 1))), (3, .int (nI 0)), (5, .int (nI (V i))), (0, .ref g), (1, .int (nI a)), (2, .int (nI b))]) hx hb dX3_soundTheSame_92 hl (k := 2) rfl (nI_add i 1) (by decide) rfl (fun ls hl => ?_)
                refine lv_goto (tgt := 34) hx hb dX3_soundTheSame_95 (by decide) ?_
                have e18 : 0 = (smN V a b (i + 1)) := by rw [smN]; first | rw [if_pos ⟨by omega, by omega⟩] | rw [if_neg (by omega)]
                exact ih34 (i + 1) (by omega) (by omega) ls (xl_eq (b := [(4, .int (nI (i + 1))), (3, .int (nI (smN V a b (i + 1)))), (0, .ref g), (1, .int (nI a)), (2, .int (nI b))]) (lv_sub (l' := [(4, .int (nI (i + 1))), (3, .int (nI 0)), (0, .ref g), (1, .int (nI a)), (2, .int (nI b))]) hl [0, 1, 3, 4, 5] rfl) (xk rfl (xk (congrArg (fun z : Nat => Value.int (nI z)) e18) (xk rfl (xk rfl (xk rfl (rfl : ([] : List (Nat × Value)) = [])))))))
              · refine lv_iconst (v := nI 1) hx hb dX3_soundTheSame_86 (by decide) ?_
                refine lv_goto (tgt := 91) hx hb dX3_soundTheSame_87 (by decide) ?_
                refine lv_istore_n (lv' := [(3, .int (nI 1)), (5, .int (nI (V i))), (4, .int (nI i)), (0, .ref g), (1, .int (nI a)), (2, .int (nI b))]) hx hb dX3_soundTheSame_91 rfl hl (by decide) rfl (fun ls hl => ?_)
                refine lv_iinc (v := nI (i + 1)) (lv' := [(4, .int (nI (i + 1))), (3, .int (nI 1)), (5, .int (nI (V i))), (0, .ref g), (1, .int (nI a)), (2, .int (nI b))]) hx hb dX3_soundTheSame_92 hl (k := 2) rfl (nI_add i 1) (by decide) rfl (fun ls hl => ?_)
                refine lv_goto (tgt := 34) hx hb dX3_soundTheSame_95 (by decide) ?_
                have e19 : 1 = (smN V a b (i + 1)) := by rw [smN]; first | rw [if_pos ⟨by omega, by omega⟩] | rw [if_neg (by omega)]
                exact ih34 (i + 1) (by omega) (by omega) ls (xl_eq (b := [(4, .int (nI (i + 1))), (3, .int (nI (smN V a b (i + 1)))), (0, .ref g), (1, .int (nI a)), (2, .int (nI b))]) (lv_sub (l' := [(4, .int (nI (i + 1))), (3, .int (nI 1)), (0, .ref g), (1, .int (nI a)), (2, .int (nI b))]) hl [0, 1, 3, 4, 5] rfl) (xk rfl (xk (congrArg (fun z : Nat => Value.int (nI z)) e19) (xk rfl (xk rfl (xk rfl (rfl : ([] : List (Nat × Value)) = [])))))))
    have e20 : 1 = (smN V a b 0) := by first | exact (bN_t kc22).symm | exact (bN_f kc22).symm
    exact lp34 ((8 - 0) + 1) 0 (Nat.lt_succ_self _) (by omega) ls (xl_eq (b := [(4, .int (nI 0)), (3, .int (nI (smN V a b 0))), (0, .ref g), (1, .int (nI a)), (2, .int (nI b))]) (lv_sub (l' := [(4, .int (nI 0)), (3, .int (nI 1)), (0, .ref g), (1, .int (nI a)), (2, .int (nI b))]) hl [0, 1, 2, 3, 4] rfl) (xk rfl (xk (congrArg (fun z : Nat => Value.int (nI z)) e20) (xk rfl (xk rfl (xk rfl (rfl : ([] : List (Nat × Value)) = [])))))))
set_option maxHeartbeats 8000000 in
set_option maxRecDepth 100000 in
theorem c_X3_soundingRows (l : Launch) (D : va_G) (y : Nat → ClassId) (g : Nat) (h : Nat → Nat) (V : Nat → Nat) (q : Nat → Nat → Int32) (hR : RepC V q) (hI : Inv V) (t : Nat) (ht : t < 8) : Met l yX3_soundingRows wsX3_soundingRows ({ frames := 2, cells := 0, slots := 0, locals := 43 }) (va_Pc [.ref g, .int (nI t)] (xPr D y [(g, .inr (3, [.ref (h 0)])), (h 0, .inr (2, [.ref (h 1), .ref (h 2), .ref (h 3), .ref (h 4), .int (nI (V 16)), .int (nI (V 67)), .int (rmb V), .int (nI (V 66))])), (h 1, .inl (y 1, 8, .inl (q 0))), (h 2, .inl (y 1, 8, .inl (q 1))), (h 3, .inl (y 1, 24, .inl (q 2))), (h 4, .inl (y 1, 4, .inl (q 3)))])) (vp_Si (fun rz => rz = nI (soR V t))) 0 0 (fun _ => False) := by
  refine Met.ofW (cc := cX3_soundingRows) (maxL := 4) (ret := (some .int)) (by decide) rfl ?_
  intro p e s m args below meth c s₁ B hml hv
  obtain ⟨rfl, hP, hK⟩ := hv
  have hx := B.exec
  have hb := B.bytes
  have hr := B.returns
  have hts := atoms_spec (ws := wsX3_soundingRows) B.pre
  have hown : s.vm.findClass RX3 = some m.cls := findClass_of_methodNamed B.named
  have hlocks := B.notSynchronized
  have f_21 := hts (.fieldLink RX3 21 "LoomTunes$Register" "size" "I") (by decide +kernel)
  have f_9 := hts (.fieldLink RX3 9 "LoomTunes$Rows" "register" "LLoomTunes$Register;") (by decide +kernel)
  have hin_X2 : ∀ w ∈ wsX20, w ∈ wsX3_soundingRows := by decide +kernel
  have hin_X3 : ∀ w ∈ wsX30, w ∈ wsX3_soundingRows := by decide +kernel
  have hP : va_P D vwCl [(g, .inr (3, [.ref (h 0)])), (h 0, .inr (2, [.ref (h 1), .ref (h 2), .ref (h 3), .ref (h 4), .int (nI (V 16)), .int (nI (V 67)), .int (rmb V), .int (nI (V 66))])), (h 1, .inl (y 1, 8, .inl (q 0))), (h 2, .inl (y 1, 8, .inl (q 1))), (h 3, .inl (y 1, 24, .inl (q 2))), (h 4, .inl (y 1, 4, .inl (q 3)))] s.heap := hP
  have hl := lv_entry ([.ref g, .int (nI t)]) (n := 4) (Nat.le_of_ble_eq_true rfl)
  rw [lg_entry_eq]
  generalize (lg_sl ([.ref g, .int (nI t)]) ++ List.replicate (4 - (lg_sl ([.ref g, .int (nI t)])).length) Slot.unset).toArray = ls at hl ⊢
  have hl : lv_has ls 4 [(0, .ref g), (1, .int (nI t))] := hl
  have hsz := hI.sz
  refine lv_iconst (v := nI 0) hx hb dX3_soundingRows_0 (by decide) ?_
  refine lv_istore_n (lv' := [(2, .int (nI 0)), (0, .ref g), (1, .int (nI t))]) hx hb dX3_soundingRows_1 rfl hl (by decide) rfl (fun ls hl => ?_)
  refine lv_iconst (v := nI 0) hx hb dX3_soundingRows_2 (by decide) ?_
  refine lv_istore_n (lv' := [(3, .int (nI 0)), (2, .int (nI 0)), (0, .ref g), (1, .int (nI t))]) hx hb dX3_soundingRows_3 rfl hl (by decide) rfl (fun ls hl => ?_)
  have lp4 : ∀ (n : Nat) (i : Nat), V 16 - i < n → (i ≤ V 16) → ∀ ls : Array Slot, lv_has ls 4 [(3, .int (nI i)), (2, .int (nI (sN (fun r => sndN V r t) i))), (0, .ref g), (1, .int (nI t))] → W p l e (headSpec wsX3_soundingRows ({ frames := 2, cells := 0, slots := 0, locals := 43 })).room s m ([.ref g, .int (nI t)] : List Value).toArray below meth c s.heap [] 0 0 (MQ below (vp_Si (fun rz => rz = nI (soR V t))) ([.ref g, .int (nI t)] : List Value).toArray s 0 0 (fun _ => False)) (F0 m 4 ls []) := by
    intro n
    induction n with
    | zero => intro i hm; exact absurd hm (Nat.not_lt_zero _)
    | succ n ih4 =>
      intro i hm hi ls hl
      refine lv_iload_n hx hb dX3_soundingRows_4 rfl (lv_at hl 0 rfl) ?_
      refine lv_aload_n hx hb dX3_soundingRows_5 rfl (lv_at hl 2 rfl) ?_
      refine va_get (D := D) (ci := 3) (v := .ref (h 0)) (C := RX3) (T := TX3) (N := 1) hx hb hts hin_X3 hown hK.1 hP 0 rfl rfl 0 (by decide) f_9 (fun _ h9 => h9) rfl dX3_soundingRows_6 ?_
      refine va_get (D := D) (ci := 2) (v := .int (nI (V 16))) (C := RX2) (T := TX2) (N := 8) hx hb hts hin_X2 hown hK.1 hP 1 rfl rfl 4 (by decide) f_21 (fun _ h9 => h9) rfl dX3_soundingRows_9 ?_
      refine xn_icmp_ge hx hb (by omega) (by omega) (tgt := 36) dX3_soundingRows_12 (by decide) (fun kc12 => ?_) (fun kc12 => ?_)
      · refine lv_iload_n hx hb dX3_soundingRows_36 rfl (lv_at hl 1 rfl) ?_
        exact xr_i hx hb hr hlocks dX3_soundingRows_37 (congrArg nI (by rw [show i = V 16 by omega]))
      · have hsb := sndN_lt (V := V) (r := i) (t := t)
        refine lv_aload_n hx hb dX3_soundingRows_15 rfl (lv_at hl 2 rfl) ?_
        refine va_get (D := D) (ci := 3) (v := .ref (h 0)) (C := RX3) (T := TX3) (N := 1) hx hb hts hin_X3 hown hK.1 hP 0 rfl rfl 0 (by decide) f_9 (fun _ h9 => h9) rfl dX3_soundingRows_16 ?_
        refine lv_iload_n hx hb dX3_soundingRows_19 rfl (lv_at hl 0 rfl) ?_
        refine lv_iload_n hx hb dX3_soundingRows_20 rfl (lv_at hl 3 rfl) ?_
        refine xc_V (As := [.int (nI i), .int (nI t)]) (rest := []) ⟨hx, hb, hml, hown, hts⟩ (c_X2_soundsAt_n l D y h V q hR hI i (by omega) t (by omega)) (cwV 2 hts gX3_soundingRows_X2_soundsAt rfl rfl rfl hd_X2_soundsAt ⟨Nat.le_of_ble_eq_true rfl, Nat.le_of_ble_eq_true rfl⟩) (xpv_r hK hP [1, 2, 3, 4, 5] 1 rfl rfl rfl) rfl hl.1 rfl (Nat.le_of_ble_eq_true rfl) dX3_soundingRows_21 ⟨Nat.zero_le _, Nat.zero_le _⟩ (fun r1 hr1 => ?_)
        subst hr1
        refine xn_if_eq hx hb (by omega) (tgt := 30) dX3_soundingRows_24 (by decide) (fun kc24 => ?_) (fun kc24 => ?_)
        · refine lv_iinc (v := nI (i + 1)) (lv' := [(3, .int (nI (i + 1))), (2, .int (nI (sN (fun r => sndN V r t) i))), (0, .ref g), (1, .int (nI t))]) hx hb dX3_soundingRows_30 hl (k := 0) rfl (nI_add i 1) (by decide) rfl (fun ls hl => ?_)
          refine lv_goto (tgt := 4) hx hb dX3_soundingRows_33 (by decide) ?_
          have e2 : (sN (fun r => sndN V r t) i) = (sN (fun r => sndN V r t) (i + 1)) := by show _ = sN _ _ + sndN V i t; omega
          exact ih4 (i + 1) (by omega) (by omega) ls (xl_eq (b := [(3, .int (nI (i + 1))), (2, .int (nI (sN (fun r => sndN V r t) (i + 1)))), (0, .ref g), (1, .int (nI t))]) (lv_sub (l' := [(3, .int (nI (i + 1))), (2, .int (nI (sN (fun r => sndN V r t) i))), (0, .ref g), (1, .int (nI t))]) hl [0, 1, 2, 3] rfl) (xk rfl (xk (congrArg (fun z : Nat => Value.int (nI z)) e2) (xk rfl (xk rfl (rfl : ([] : List (Nat × Value)) = []))))))
        · refine lv_iinc (v := nI (sN (fun r => sndN V r t) i + 1)) (lv' := [(2, .int (nI (sN (fun r => sndN V r t) i + 1))), (3, .int (nI i)), (0, .ref g), (1, .int (nI t))]) hx hb dX3_soundingRows_27 hl (k := 1) rfl (nI_add (sN (fun r => sndN V r t) i) 1) (by decide) rfl (fun ls hl => ?_)
          refine lv_iinc (v := nI (i + 1)) (lv' := [(3, .int (nI (i + 1))), (2, .int (nI (sN (fun r => sndN V r t) i + 1))), (0, .ref g), (1, .int (nI t))]) hx hb dX3_soundingRows_30 hl (k := 1) rfl (nI_add i 1) (by decide) rfl (fun ls hl => ?_)
          refine lv_goto (tgt := 4) hx hb dX3_soundingRows_33 (by decide) ?_
          have e3 : (sN (fun r => sndN V r t) i + 1) = (sN (fun r => sndN V r t) (i + 1)) := by show _ = sN _ _ + sndN V i t; omega
          exact ih4 (i + 1) (by omega) (by omega) ls (xl_eq (b := [(3, .int (nI (i + 1))), (2, .int (nI (sN (fun r => sndN V r t) (i + 1)))), (0, .ref g), (1, .int (nI t))]) (lv_sub (l' := [(3, .int (nI (i + 1))), (2, .int (nI (sN (fun r => sndN V r t) i + 1))), (0, .ref g), (1, .int (nI t))]) hl [0, 1, 2, 3] rfl) (xk rfl (xk (congrArg (fun z : Nat => Value.int (nI z)) e3) (xk rfl (xk rfl (rfl : ([] : List (Nat × Value)) = []))))))
  have e4 : 0 = (sN (fun r => sndN V r t) 0) := rfl
  exact lp4 ((V 16 - 0) + 1) 0 (Nat.lt_succ_self _) (by omega) ls (xl_eq (b := [(3, .int (nI 0)), (2, .int (nI (sN (fun r => sndN V r t) 0))), (0, .ref g), (1, .int (nI t))]) (lv_sub (l' := [(3, .int (nI 0)), (2, .int (nI 0)), (0, .ref g), (1, .int (nI t))]) hl [0, 1, 2, 3] rfl) (xk rfl (xk (congrArg (fun z : Nat => Value.int (nI z)) e4) (xk rfl (xk rfl (rfl : ([] : List (Nat × Value)) = []))))))
set_option maxHeartbeats 8000000 in
set_option maxRecDepth 100000 in
theorem c_X3_soundingThreads (l : Launch) (D : va_G) (y : Nat → ClassId) (g : Nat) (h : Nat → Nat) (V : Nat → Nat) (q : Nat → Nat → Int32) (hR : RepC V q) (hI : Inv V) : Met l yX3_soundingThreads wsX3_soundingThreads ({ frames := 1, cells := 0, slots := 0, locals := 21 }) (va_Pc [.ref g] (xPr D y [(g, .inr (3, [.ref (h 0)])), (h 0, .inr (2, [.ref (h 1), .ref (h 2), .ref (h 3), .ref (h 4), .int (nI (V 16)), .int (nI (V 67)), .int (rmb V), .int (nI (V 66))])), (h 1, .inl (y 1, 8, .inl (q 0))), (h 2, .inl (y 1, 8, .inl (q 1))), (h 3, .inl (y 1, 24, .inl (q 2))), (h 4, .inl (y 1, 4, .inl (q 3)))])) (vp_Si (fun rz => rz = nI (alP V))) 0 0 (fun _ => False) := by
  refine Met.ofW (cc := cX3_soundingThreads) (maxL := 3) (ret := (some .int)) (by decide) rfl ?_
  intro p e s m args below meth c s₁ B hml hv
  obtain ⟨rfl, hP, hK⟩ := hv
  have hx := B.exec
  have hb := B.bytes
  have hr := B.returns
  have hts := atoms_spec (ws := wsX3_soundingThreads) B.pre
  have hown : s.vm.findClass RX3 = some m.cls := findClass_of_methodNamed B.named
  have hlocks := B.notSynchronized
  have f_21 := hts (.fieldLink RX3 21 "LoomTunes$Register" "size" "I") (by decide +kernel)
  have f_9 := hts (.fieldLink RX3 9 "LoomTunes$Rows" "register" "LLoomTunes$Register;") (by decide +kernel)
  have hin_X2 : ∀ w ∈ wsX20, w ∈ wsX3_soundingThreads := by decide +kernel
  have hin_X3 : ∀ w ∈ wsX30, w ∈ wsX3_soundingThreads := by decide +kernel
  have hP : va_P D vwCl [(g, .inr (3, [.ref (h 0)])), (h 0, .inr (2, [.ref (h 1), .ref (h 2), .ref (h 3), .ref (h 4), .int (nI (V 16)), .int (nI (V 67)), .int (rmb V), .int (nI (V 66))])), (h 1, .inl (y 1, 8, .inl (q 0))), (h 2, .inl (y 1, 8, .inl (q 1))), (h 3, .inl (y 1, 24, .inl (q 2))), (h 4, .inl (y 1, 4, .inl (q 3)))] s.heap := hP
  have hl := lv_entry ([.ref g]) (n := 3) (Nat.le_of_ble_eq_true rfl)
  rw [lg_entry_eq]
  generalize (lg_sl ([.ref g]) ++ List.replicate (3 - (lg_sl ([.ref g])).length) Slot.unset).toArray = ls at hl ⊢
  have hl : lv_has ls 3 [(0, .ref g)] := hl
  have hsz := hI.sz
  refine lv_iconst (v := nI 0) hx hb dX3_soundingThreads_0 (by decide) ?_
  refine lv_istore_n (lv' := [(1, .int (nI 0)), (0, .ref g)]) hx hb dX3_soundingThreads_1 rfl hl (by decide) rfl (fun ls hl => ?_)
  refine lv_iconst (v := nI 0) hx hb dX3_soundingThreads_2 (by decide) ?_
  refine lv_istore_n (lv' := [(2, .int (nI 0)), (1, .int (nI 0)), (0, .ref g)]) hx hb dX3_soundingThreads_3 rfl hl (by decide) rfl (fun ls hl => ?_)
  have lp4 : ∀ (n : Nat) (i : Nat), V 16 - i < n → (i ≤ V 16) → ∀ ls : Array Slot, lv_has ls 3 [(2, .int (nI i)), (1, .int (nI (sN (fun r => pop (hol V r)) i))), (0, .ref g)] → W p l e (headSpec wsX3_soundingThreads ({ frames := 1, cells := 0, slots := 0, locals := 21 })).room s m ([.ref g] : List Value).toArray below meth c s.heap [] 0 0 (MQ below (vp_Si (fun rz => rz = nI (alP V))) ([.ref g] : List Value).toArray s 0 0 (fun _ => False)) (F0 m 4 ls []) := by
    intro n
    induction n with
    | zero => intro i hm; exact absurd hm (Nat.not_lt_zero _)
    | succ n ih4 =>
      intro i hm hi ls hl
      refine lv_iload_n hx hb dX3_soundingThreads_4 rfl (lv_at hl 0 rfl) ?_
      refine lv_aload_n hx hb dX3_soundingThreads_5 rfl (lv_at hl 2 rfl) ?_
      refine va_get (D := D) (ci := 3) (v := .ref (h 0)) (C := RX3) (T := TX3) (N := 1) hx hb hts hin_X3 hown hK.1 hP 0 rfl rfl 0 (by decide) f_9 (fun _ h9 => h9) rfl dX3_soundingThreads_6 ?_
      refine va_get (D := D) (ci := 2) (v := .int (nI (V 16))) (C := RX2) (T := TX2) (N := 8) hx hb hts hin_X2 hown hK.1 hP 1 rfl rfl 4 (by decide) f_21 (fun _ h9 => h9) rfl dX3_soundingThreads_9 ?_
      refine xn_icmp_ge hx hb (by omega) (by omega) (tgt := 35) dX3_soundingThreads_12 (by decide) (fun kc12 => ?_) (fun kc12 => ?_)
      · refine lv_iload_n hx hb dX3_soundingThreads_35 rfl (lv_at hl 1 rfl) ?_
        exact xr_i hx hb hr hlocks dX3_soundingThreads_36 (congrArg nI (by rw [show i = V 16 by omega]))
      · refine lv_iload_n hx hb dX3_soundingThreads_15 rfl (lv_at hl 1 rfl) ?_
        refine lv_aload_n hx hb dX3_soundingThreads_16 rfl (lv_at hl 2 rfl) ?_
        refine va_get (D := D) (ci := 3) (v := .ref (h 0)) (C := RX3) (T := TX3) (N := 1) hx hb hts hin_X3 hown hK.1 hP 0 rfl rfl 0 (by decide) f_9 (fun _ h9 => h9) rfl dX3_soundingThreads_17 ?_
        refine lv_iload_n hx hb dX3_soundingThreads_20 rfl (lv_at hl 0 rfl) ?_
        refine xc_V (As := [.int (nI i)]) (rest := [.int (nI (sN (fun r => pop (hol V r)) i))]) ⟨hx, hb, hml, hown, hts⟩ (c_X2_holesAt_n l D y h V q hR hI i (by omega)) (cwV 1 hts gX3_soundingThreads_X2_holesAt rfl rfl rfl hd_X2_holesAt ⟨Nat.le_of_ble_eq_true rfl, Nat.le_of_ble_eq_true rfl⟩) (xpv_r hK hP [1, 2, 3, 4, 5] 1 rfl rfl rfl) rfl hl.1 rfl (Nat.le_of_ble_eq_true rfl) dX3_soundingThreads_21 ⟨Nat.zero_le _, Nat.zero_le _⟩ (fun r1 hr1 => ?_)
        subst hr1
        refine xc_S (As := [.int (nI (hol V i))]) (rest := [.int (nI (sN (fun r => pop (hol V r)) i))]) ⟨hx, hb, hml, hown, hts⟩ (c_J6_bitCount_0f7a4 l (hol V i) (hol_lt hI)) (va_cwS 1 hts gX3_soundingThreads_J6_bitCount_0f7a4 rfl rfl rfl hd_J6_bitCount_0f7a4.2 ⟨Nat.le_of_ble_eq_true rfl, Nat.le_of_ble_eq_true rfl⟩) xps_0 rfl hl.1 rfl (Nat.le_of_ble_eq_true rfl) dX3_soundingThreads_24 ⟨Nat.zero_le _, Nat.zero_le _⟩ (fun r2 hr2 => ?_)
        subst hr2
        refine xn_add hx hb (r := ((sN (fun r => pop (hol V r)) i) + (pop (hol V i)))) rfl dX3_soundingThreads_27 ?_
        refine lv_istore_n (lv' := [(1, .int (nI ((sN (fun r => pop (hol V r)) i) + (pop (hol V i))))), (2, .int (nI i)), (0, .ref g)]) hx hb dX3_soundingThreads_28 rfl hl (by decide) rfl (fun ls hl => ?_)
        refine lv_iinc (v := nI (i + 1)) (lv' := [(2, .int (nI (i + 1))), (1, .int (nI ((sN (fun r => pop (hol V r)) i) + (pop (hol V i))))), (0, .ref g)]) hx hb dX3_soundingThreads_29 hl (k := 1) rfl (nI_add i 1) (by decide) rfl (fun ls hl => ?_)
        refine lv_goto (tgt := 4) hx hb dX3_soundingThreads_32 (by decide) ?_
        have e3 : ((sN (fun r => pop (hol V r)) i) + (pop (hol V i))) = (sN (fun r => pop (hol V r)) (i + 1)) := rfl
        exact ih4 (i + 1) (by omega) (by omega) ls (xl_eq (b := [(2, .int (nI (i + 1))), (1, .int (nI (sN (fun r => pop (hol V r)) (i + 1)))), (0, .ref g)]) (lv_sub (l' := [(2, .int (nI (i + 1))), (1, .int (nI ((sN (fun r => pop (hol V r)) i) + (pop (hol V i))))), (0, .ref g)]) hl [0, 1, 2] rfl) (xk rfl (xk (congrArg (fun z : Nat => Value.int (nI z)) e3) (xk rfl (rfl : ([] : List (Nat × Value)) = [])))))
  have e4 : 0 = (sN (fun r => pop (hol V r)) 0) := rfl
  exact lp4 ((V 16 - 0) + 1) 0 (Nat.lt_succ_self _) (by omega) ls (xl_eq (b := [(2, .int (nI 0)), (1, .int (nI (sN (fun r => pop (hol V r)) 0))), (0, .ref g)]) (lv_sub (l' := [(2, .int (nI 0)), (1, .int (nI 0)), (0, .ref g)]) hl [0, 1, 2] rfl) (xk rfl (xk (congrArg (fun z : Nat => Value.int (nI z)) e4) (xk rfl (rfl : ([] : List (Nat × Value)) = [])))))
set_option maxHeartbeats 8000000 in
set_option maxRecDepth 100000 in
theorem c_X3_stamped (l : Launch) (D : va_G) (y : Nat → ClassId) (g : Nat) (h : Nat → Nat) (V : Nat → Nat) (q : Nat → Nat → Int32) (hR : RepC V q) (hI : Inv V) : Met l yX3_stamped wsX3_stamped ({ frames := 2, cells := 0, slots := 0, locals := 42 }) (va_Pc [.ref g] (xPr D y [(g, .inr (3, [.ref (h 0)])), (h 0, .inr (2, [.ref (h 1), .ref (h 2), .ref (h 3), .ref (h 4), .int (nI (V 16)), .int (nI (V 67)), .int (rmb V), .int (nI (V 66))])), (h 1, .inl (y 1, 8, .inl (q 0))), (h 2, .inl (y 1, 8, .inl (q 1))), (h 3, .inl (y 1, 24, .inl (q 2))), (h 4, .inl (y 1, 4, .inl (q 3)))])) (vp_Si (fun rz => rz = nI (alS V))) 0 0 (fun _ => False) := by
  refine Met.ofW (cc := cX3_stamped) (maxL := 3) (ret := (some .int)) (by decide) rfl ?_
  intro p e s m args below meth c s₁ B hml hv
  obtain ⟨rfl, hP, hK⟩ := hv
  have hx := B.exec
  have hb := B.bytes
  have hr := B.returns
  have hts := atoms_spec (ws := wsX3_stamped) B.pre
  have hown : s.vm.findClass RX3 = some m.cls := findClass_of_methodNamed B.named
  have hlocks := B.notSynchronized
  have f_21 := hts (.fieldLink RX3 21 "LoomTunes$Register" "size" "I") (by decide +kernel)
  have f_9 := hts (.fieldLink RX3 9 "LoomTunes$Rows" "register" "LLoomTunes$Register;") (by decide +kernel)
  have hin_X2 : ∀ w ∈ wsX20, w ∈ wsX3_stamped := by decide +kernel
  have hin_X3 : ∀ w ∈ wsX30, w ∈ wsX3_stamped := by decide +kernel
  have hP : va_P D vwCl [(g, .inr (3, [.ref (h 0)])), (h 0, .inr (2, [.ref (h 1), .ref (h 2), .ref (h 3), .ref (h 4), .int (nI (V 16)), .int (nI (V 67)), .int (rmb V), .int (nI (V 66))])), (h 1, .inl (y 1, 8, .inl (q 0))), (h 2, .inl (y 1, 8, .inl (q 1))), (h 3, .inl (y 1, 24, .inl (q 2))), (h 4, .inl (y 1, 4, .inl (q 3)))] s.heap := hP
  have hl := lv_entry ([.ref g]) (n := 3) (Nat.le_of_ble_eq_true rfl)
  rw [lg_entry_eq]
  generalize (lg_sl ([.ref g]) ++ List.replicate (3 - (lg_sl ([.ref g])).length) Slot.unset).toArray = ls at hl ⊢
  have hl : lv_has ls 3 [(0, .ref g)] := hl
  have hsz := hI.sz
  refine lv_iconst (v := nI 0) hx hb dX3_stamped_0 (by decide) ?_
  refine lv_istore_n (lv' := [(1, .int (nI 0)), (0, .ref g)]) hx hb dX3_stamped_1 rfl hl (by decide) rfl (fun ls hl => ?_)
  refine lv_iconst (v := nI 0) hx hb dX3_stamped_2 (by decide) ?_
  refine lv_istore_n (lv' := [(2, .int (nI 0)), (1, .int (nI 0)), (0, .ref g)]) hx hb dX3_stamped_3 rfl hl (by decide) rfl (fun ls hl => ?_)
  have lp4 : ∀ (n : Nat) (i : Nat), V 16 - i < n → (i ≤ V 16) → ∀ ls : Array Slot, lv_has ls 3 [(2, .int (nI i)), (1, .int (nI (sN (fun r => V (41 + r)) i))), (0, .ref g)] → W p l e (headSpec wsX3_stamped ({ frames := 2, cells := 0, slots := 0, locals := 42 })).room s m ([.ref g] : List Value).toArray below meth c s.heap [] 0 0 (MQ below (vp_Si (fun rz => rz = nI (alS V))) ([.ref g] : List Value).toArray s 0 0 (fun _ => False)) (F0 m 4 ls []) := by
    intro n
    induction n with
    | zero => intro i hm; exact absurd hm (Nat.not_lt_zero _)
    | succ n ih4 =>
      intro i hm hi ls hl
      refine lv_iload_n hx hb dX3_stamped_4 rfl (lv_at hl 0 rfl) ?_
      refine lv_aload_n hx hb dX3_stamped_5 rfl (lv_at hl 2 rfl) ?_
      refine va_get (D := D) (ci := 3) (v := .ref (h 0)) (C := RX3) (T := TX3) (N := 1) hx hb hts hin_X3 hown hK.1 hP 0 rfl rfl 0 (by decide) f_9 (fun _ h9 => h9) rfl dX3_stamped_6 ?_
      refine va_get (D := D) (ci := 2) (v := .int (nI (V 16))) (C := RX2) (T := TX2) (N := 8) hx hb hts hin_X2 hown hK.1 hP 1 rfl rfl 4 (by decide) f_21 (fun _ h9 => h9) rfl dX3_stamped_9 ?_
      refine xn_icmp_ge hx hb (by omega) (by omega) (tgt := 32) dX3_stamped_12 (by decide) (fun kc12 => ?_) (fun kc12 => ?_)
      · refine lv_iload_n hx hb dX3_stamped_32 rfl (lv_at hl 1 rfl) ?_
        exact xr_i hx hb hr hlocks dX3_stamped_33 (congrArg nI (by rw [show i = V 16 by omega]))
      · refine lv_iload_n hx hb dX3_stamped_15 rfl (lv_at hl 1 rfl) ?_
        refine lv_aload_n hx hb dX3_stamped_16 rfl (lv_at hl 2 rfl) ?_
        refine va_get (D := D) (ci := 3) (v := .ref (h 0)) (C := RX3) (T := TX3) (N := 1) hx hb hts hin_X3 hown hK.1 hP 0 rfl rfl 0 (by decide) f_9 (fun _ h9 => h9) rfl dX3_stamped_17 ?_
        refine lv_iload_n hx hb dX3_stamped_20 rfl (lv_at hl 0 rfl) ?_
        refine xc_V (As := [.int (nI i)]) (rest := [.int (nI (sN (fun r => V (41 + r)) i))]) ⟨hx, hb, hml, hown, hts⟩ (c_X2_stampsAt l D y h V q hR hI i (by omega)) (cwV 1 hts gX3_stamped_X2_stampsAt rfl rfl rfl hd_X2_stampsAt ⟨Nat.le_of_ble_eq_true rfl, Nat.le_of_ble_eq_true rfl⟩) (xpv_r hK hP [1, 2, 3, 4, 5] 1 rfl rfl rfl) rfl hl.1 rfl (Nat.le_of_ble_eq_true rfl) dX3_stamped_21 ⟨Nat.zero_le _, Nat.zero_le _⟩ (fun r1 hr1 => ?_)
        subst hr1
        refine xn_add hx hb (r := ((sN (fun r => V (41 + r)) i) + (V (41 + i)))) rfl dX3_stamped_24 ?_
        refine lv_istore_n (lv' := [(1, .int (nI ((sN (fun r => V (41 + r)) i) + (V (41 + i))))), (2, .int (nI i)), (0, .ref g)]) hx hb dX3_stamped_25 rfl hl (by decide) rfl (fun ls hl => ?_)
        refine lv_iinc (v := nI (i + 1)) (lv' := [(2, .int (nI (i + 1))), (1, .int (nI ((sN (fun r => V (41 + r)) i) + (V (41 + i))))), (0, .ref g)]) hx hb dX3_stamped_26 hl (k := 1) rfl (nI_add i 1) (by decide) rfl (fun ls hl => ?_)
        refine lv_goto (tgt := 4) hx hb dX3_stamped_29 (by decide) ?_
        have e2 : ((sN (fun r => V (41 + r)) i) + (V (41 + i))) = (sN (fun r => V (41 + r)) (i + 1)) := rfl
        exact ih4 (i + 1) (by omega) (by omega) ls (xl_eq (b := [(2, .int (nI (i + 1))), (1, .int (nI (sN (fun r => V (41 + r)) (i + 1)))), (0, .ref g)]) (lv_sub (l' := [(2, .int (nI (i + 1))), (1, .int (nI ((sN (fun r => V (41 + r)) i) + (V (41 + i))))), (0, .ref g)]) hl [0, 1, 2] rfl) (xk rfl (xk (congrArg (fun z : Nat => Value.int (nI z)) e2) (xk rfl (rfl : ([] : List (Nat × Value)) = [])))))
  have e3 : 0 = (sN (fun r => V (41 + r)) 0) := rfl
  exact lp4 ((V 16 - 0) + 1) 0 (Nat.lt_succ_self _) (by omega) ls (xl_eq (b := [(2, .int (nI 0)), (1, .int (nI (sN (fun r => V (41 + r)) 0))), (0, .ref g)]) (lv_sub (l' := [(2, .int (nI 0)), (1, .int (nI 0)), (0, .ref g)]) hl [0, 1, 2] rfl) (xk rfl (xk (congrArg (fun z : Nat => Value.int (nI z)) e3) (xk rfl (rfl : ([] : List (Nat × Value)) = [])))))
set_option maxHeartbeats 8000000 in
set_option maxRecDepth 100000 in
theorem c_X3_clashes (l : Launch) (D : va_G) (y : Nat → ClassId) (g : Nat) (h : Nat → Nat) (V : Nat → Nat) (q : Nat → Nat → Int32) (hR : RepC V q) (hI : Inv V) : Met l yX3_clashes wsX3_clashes ({ frames := 1, cells := 0, slots := 0, locals := 25 }) (va_Pc [.ref g] (xPr D y [(g, .inr (3, [.ref (h 0)])), (h 0, .inr (2, [.ref (h 1), .ref (h 2), .ref (h 3), .ref (h 4), .int (nI (V 16)), .int (nI (V 67)), .int (rmb V), .int (nI (V 66))])), (h 1, .inl (y 1, 8, .inl (q 0))), (h 2, .inl (y 1, 8, .inl (q 1))), (h 3, .inl (y 1, 24, .inl (q 2))), (h 4, .inl (y 1, 4, .inl (q 3)))])) (vp_Si (fun rz => rz = nI (alC V))) 0 0 (fun _ => False) := by
  refine Met.ofW (cc := cX3_clashes) (maxL := 3) (ret := (some .int)) (by decide) rfl ?_
  intro p e s m args below meth c s₁ B hml hv
  obtain ⟨rfl, hP, hK⟩ := hv
  have hx := B.exec
  have hb := B.bytes
  have hr := B.returns
  have hts := atoms_spec (ws := wsX3_clashes) B.pre
  have hown : s.vm.findClass RX3 = some m.cls := findClass_of_methodNamed B.named
  have hlocks := B.notSynchronized
  have f_21 := hts (.fieldLink RX3 21 "LoomTunes$Register" "size" "I") (by decide +kernel)
  have f_9 := hts (.fieldLink RX3 9 "LoomTunes$Rows" "register" "LLoomTunes$Register;") (by decide +kernel)
  have hin_X2 : ∀ w ∈ wsX20, w ∈ wsX3_clashes := by decide +kernel
  have hin_X3 : ∀ w ∈ wsX30, w ∈ wsX3_clashes := by decide +kernel
  have hP : va_P D vwCl [(g, .inr (3, [.ref (h 0)])), (h 0, .inr (2, [.ref (h 1), .ref (h 2), .ref (h 3), .ref (h 4), .int (nI (V 16)), .int (nI (V 67)), .int (rmb V), .int (nI (V 66))])), (h 1, .inl (y 1, 8, .inl (q 0))), (h 2, .inl (y 1, 8, .inl (q 1))), (h 3, .inl (y 1, 24, .inl (q 2))), (h 4, .inl (y 1, 4, .inl (q 3)))] s.heap := hP
  have hl := lv_entry ([.ref g]) (n := 3) (Nat.le_of_ble_eq_true rfl)
  rw [lg_entry_eq]
  generalize (lg_sl ([.ref g]) ++ List.replicate (3 - (lg_sl ([.ref g])).length) Slot.unset).toArray = ls at hl ⊢
  have hl : lv_has ls 3 [(0, .ref g)] := hl
  have hsz := hI.sz
  refine lv_iconst (v := nI 0) hx hb dX3_clashes_0 (by decide) ?_
  refine lv_istore_n (lv' := [(1, .int (nI 0)), (0, .ref g)]) hx hb dX3_clashes_1 rfl hl (by decide) rfl (fun ls hl => ?_)
  refine lv_iconst (v := nI 0) hx hb dX3_clashes_2 (by decide) ?_
  refine lv_istore_n (lv' := [(2, .int (nI 0)), (1, .int (nI 0)), (0, .ref g)]) hx hb dX3_clashes_3 rfl hl (by decide) rfl (fun ls hl => ?_)
  have lp4 : ∀ (n : Nat) (i : Nat), V 16 - i < n → (i ≤ V 16) → ∀ ls : Array Slot, lv_has ls 3 [(2, .int (nI i)), (1, .int (nI (sN (fun r => cls V (hol V r)) i))), (0, .ref g)] → W p l e (headSpec wsX3_clashes ({ frames := 1, cells := 0, slots := 0, locals := 25 })).room s m ([.ref g] : List Value).toArray below meth c s.heap [] 0 0 (MQ below (vp_Si (fun rz => rz = nI (alC V))) ([.ref g] : List Value).toArray s 0 0 (fun _ => False)) (F0 m 4 ls []) := by
    intro n
    induction n with
    | zero => intro i hm; exact absurd hm (Nat.not_lt_zero _)
    | succ n ih4 =>
      intro i hm hi ls hl
      refine lv_iload_n hx hb dX3_clashes_4 rfl (lv_at hl 0 rfl) ?_
      refine lv_aload_n hx hb dX3_clashes_5 rfl (lv_at hl 2 rfl) ?_
      refine va_get (D := D) (ci := 3) (v := .ref (h 0)) (C := RX3) (T := TX3) (N := 1) hx hb hts hin_X3 hown hK.1 hP 0 rfl rfl 0 (by decide) f_9 (fun _ h9 => h9) rfl dX3_clashes_6 ?_
      refine va_get (D := D) (ci := 2) (v := .int (nI (V 16))) (C := RX2) (T := TX2) (N := 8) hx hb hts hin_X2 hown hK.1 hP 1 rfl rfl 4 (by decide) f_21 (fun _ h9 => h9) rfl dX3_clashes_9 ?_
      refine xn_icmp_ge hx hb (by omega) (by omega) (tgt := 39) dX3_clashes_12 (by decide) (fun kc12 => ?_) (fun kc12 => ?_)
      · refine lv_iload_n hx hb dX3_clashes_39 rfl (lv_at hl 1 rfl) ?_
        exact xr_i hx hb hr hlocks dX3_clashes_40 (congrArg nI (by rw [show i = V 16 by omega]))
      · refine lv_iload_n hx hb dX3_clashes_15 rfl (lv_at hl 1 rfl) ?_
        refine lv_aload_n hx hb dX3_clashes_16 rfl (lv_at hl 2 rfl) ?_
        refine va_get (D := D) (ci := 3) (v := .ref (h 0)) (C := RX3) (T := TX3) (N := 1) hx hb hts hin_X3 hown hK.1 hP 0 rfl rfl 0 (by decide) f_9 (fun _ h9 => h9) rfl dX3_clashes_17 ?_
        refine lv_aload_n hx hb dX3_clashes_20 rfl (lv_at hl 2 rfl) ?_
        refine va_get (D := D) (ci := 3) (v := .ref (h 0)) (C := RX3) (T := TX3) (N := 1) hx hb hts hin_X3 hown hK.1 hP 0 rfl rfl 0 (by decide) f_9 (fun _ h9 => h9) rfl dX3_clashes_21 ?_
        refine lv_iload_n hx hb dX3_clashes_24 rfl (lv_at hl 0 rfl) ?_
        refine xc_V (As := [.int (nI i)]) (rest := [.ref (h 0), .int (nI (sN (fun r => cls V (hol V r)) i))]) ⟨hx, hb, hml, hown, hts⟩ (c_X2_holesAt_n l D y h V q hR hI i (by omega)) (cwV 1 hts gX3_clashes_X2_holesAt rfl rfl rfl hd_X2_holesAt ⟨Nat.le_of_ble_eq_true rfl, Nat.le_of_ble_eq_true rfl⟩) (xpv_r hK hP [1, 2, 3, 4, 5] 1 rfl rfl rfl) rfl hl.1 rfl (Nat.le_of_ble_eq_true rfl) dX3_clashes_25 ⟨Nat.zero_le _, Nat.zero_le _⟩ (fun r1 hr1 => ?_)
        subst hr1
        refine xc_V (As := [.int (nI (hol V i))]) (rest := [.int (nI (sN (fun r => cls V (hol V r)) i))]) ⟨hx, hb, hml, hown, hts⟩ (c_X2_clashesOf l D y h V q hR hI (hol V i) (by first | omega | exact hol_lt hI)) (cwV 1 hts gX3_clashes_X2_clashesOf rfl rfl rfl hd_X2_clashesOf ⟨Nat.le_of_ble_eq_true rfl, Nat.le_of_ble_eq_true rfl⟩) (xpv_r hK hP [1, 2, 3, 4, 5] 1 rfl rfl rfl) rfl hl.1 rfl (Nat.le_of_ble_eq_true rfl) dX3_clashes_28 ⟨Nat.zero_le _, Nat.zero_le _⟩ (fun r2 hr2 => ?_)
        subst hr2
        refine xn_add hx hb (r := ((sN (fun r => cls V (hol V r)) i) + (cls V (hol V i)))) rfl dX3_clashes_31 ?_
        refine lv_istore_n (lv' := [(1, .int (nI ((sN (fun r => cls V (hol V r)) i) + (cls V (hol V i))))), (2, .int (nI i)), (0, .ref g)]) hx hb dX3_clashes_32 rfl hl (by decide) rfl (fun ls hl => ?_)
        refine lv_iinc (v := nI (i + 1)) (lv' := [(2, .int (nI (i + 1))), (1, .int (nI ((sN (fun r => cls V (hol V r)) i) + (cls V (hol V i))))), (0, .ref g)]) hx hb dX3_clashes_33 hl (k := 1) rfl (nI_add i 1) (by decide) rfl (fun ls hl => ?_)
        refine lv_goto (tgt := 4) hx hb dX3_clashes_36 (by decide) ?_
        have e3 : ((sN (fun r => cls V (hol V r)) i) + (cls V (hol V i))) = (sN (fun r => cls V (hol V r)) (i + 1)) := rfl
        exact ih4 (i + 1) (by omega) (by omega) ls (xl_eq (b := [(2, .int (nI (i + 1))), (1, .int (nI (sN (fun r => cls V (hol V r)) (i + 1)))), (0, .ref g)]) (lv_sub (l' := [(2, .int (nI (i + 1))), (1, .int (nI ((sN (fun r => cls V (hol V r)) i) + (cls V (hol V i))))), (0, .ref g)]) hl [0, 1, 2] rfl) (xk rfl (xk (congrArg (fun z : Nat => Value.int (nI z)) e3) (xk rfl (rfl : ([] : List (Nat × Value)) = [])))))
  have e4 : 0 = (sN (fun r => cls V (hol V r)) 0) := rfl
  exact lp4 ((V 16 - 0) + 1) 0 (Nat.lt_succ_self _) (by omega) ls (xl_eq (b := [(2, .int (nI 0)), (1, .int (nI (sN (fun r => cls V (hol V r)) 0))), (0, .ref g)]) (lv_sub (l' := [(2, .int (nI 0)), (1, .int (nI 0)), (0, .ref g)]) hl [0, 1, 2] rfl) (xk rfl (xk (congrArg (fun z : Nat => Value.int (nI z)) e4) (xk rfl (rfl : ([] : List (Nat × Value)) = [])))))
set_option maxHeartbeats 8000000 in
set_option maxRecDepth 100000 in
theorem c_X5_beginsAt (l : Launch) (D : va_G) (y : Nat → ClassId) (g : Nat) (h : Nat → Nat) (V : Nat → Nat) (q : Nat → Nat → Int32) (hR : RepC V q) (hI : Inv V) (r t : Nat) (hr0 : r < 2 ^ 31) (ht : t < 8) : Met l yX5_beginsAt wsX5_beginsAt ({ frames := 2, cells := 0, slots := 0, locals := 43 }) (va_Pc [.ref g, .int (nI r), .int (nI t)] (xPr D y [(g, .inr (5, [.ref (h 0)])), (h 0, .inr (2, [.ref (h 1), .ref (h 2), .ref (h 3), .ref (h 4), .int (nI (V 16)), .int (nI (V 67)), .int (rmb V), .int (nI (V 66))])), (h 1, .inl (y 1, 8, .inl (q 0))), (h 2, .inl (y 1, 8, .inl (q 1))), (h 3, .inl (y 1, 24, .inl (q 2))), (h 4, .inl (y 1, 4, .inl (q 3)))])) (vp_Si (fun rz => rz = nI (begN V r t))) 0 0 (fun _ => False) := by
  refine Met.ofW (cc := cX5_beginsAt) (maxL := 3) (ret := (some .boolean)) (by decide) rfl ?_
  intro p e s m args below meth c s₁ B hml hv
  obtain ⟨rfl, hP, hK⟩ := hv
  have hx := B.exec
  have hb := B.bytes
  have hr := B.returns
  have hts := atoms_spec (ws := wsX5_beginsAt) B.pre
  have hown : s.vm.findClass RX5 = some m.cls := findClass_of_methodNamed B.named
  have hlocks := B.notSynchronized
  have f_9 := hts (.fieldLink RX5 9 "LoomTunes$Tones" "register" "LLoomTunes$Register;") (by decide +kernel)
  have hin_X5 : ∀ w ∈ wsX50, w ∈ wsX5_beginsAt := by decide +kernel
  have hP : va_P D vwCl [(g, .inr (5, [.ref (h 0)])), (h 0, .inr (2, [.ref (h 1), .ref (h 2), .ref (h 3), .ref (h 4), .int (nI (V 16)), .int (nI (V 67)), .int (rmb V), .int (nI (V 66))])), (h 1, .inl (y 1, 8, .inl (q 0))), (h 2, .inl (y 1, 8, .inl (q 1))), (h 3, .inl (y 1, 24, .inl (q 2))), (h 4, .inl (y 1, 4, .inl (q 3)))] s.heap := hP
  have hl := lv_entry ([.ref g, .int (nI r), .int (nI t)]) (n := 3) (Nat.le_of_ble_eq_true rfl)
  rw [lg_entry_eq]
  generalize (lg_sl ([.ref g, .int (nI r), .int (nI t)]) ++ List.replicate (3 - (lg_sl ([.ref g, .int (nI r), .int (nI t)])).length) Slot.unset).toArray = ls at hl ⊢
  have hl : lv_has ls 3 [(0, .ref g), (1, .int (nI r)), (2, .int (nI t))] := hl
  have hsb := sndN_lt (V := V) (r := r) (t := t)
  have hbb := bv_lt (h := holI V (nI r - nI 1)) (k := t)
  refine lv_aload_n hx hb dX5_beginsAt_0 rfl (lv_at hl 0 rfl) ?_
  refine va_get (D := D) (ci := 5) (v := .ref (h 0)) (C := RX5) (T := TX5) (N := 1) hx hb hts hin_X5 hown hK.1 hP 0 rfl rfl 0 (by decide) f_9 (fun _ h9 => h9) rfl dX5_beginsAt_1 ?_
  refine lv_iload_n hx hb dX5_beginsAt_4 rfl (lv_at hl 1 rfl) ?_
  refine lv_iload_n hx hb dX5_beginsAt_5 rfl (lv_at hl 2 rfl) ?_
  refine xc_V (As := [.int (nI r), .int (nI t)]) (rest := []) ⟨hx, hb, hml, hown, hts⟩ (c_X2_soundsAt_n l D y h V q hR hI r (by omega) t (by omega)) (cwV 2 hts gX5_beginsAt_X2_soundsAt rfl rfl rfl hd_X2_soundsAt ⟨Nat.le_of_ble_eq_true rfl, Nat.le_of_ble_eq_true rfl⟩) (xpv_r hK hP [1, 2, 3, 4, 5] 1 rfl rfl rfl) rfl hl.1 rfl (Nat.le_of_ble_eq_true rfl) dX5_beginsAt_6 ⟨Nat.zero_le _, Nat.zero_le _⟩ (fun r1 hr1 => ?_)
  subst hr1
  refine xn_if_eq hx hb (by omega) (tgt := 30) dX5_beginsAt_9 (by decide) (fun kc9 => ?_) (fun kc9 => ?_)
  · refine lv_iconst (v := nI 0) hx hb dX5_beginsAt_30 (by decide) ?_
    exact xr_z hx hb hr hlocks dX5_beginsAt_31 (by omega) (congrArg nI (by first | exact begN_1 hr0 kc9 kc23 | exact begN_0 kc9 | exact begN_0' hr0 kc23))
  · refine lv_aload_n hx hb dX5_beginsAt_12 rfl (lv_at hl 0 rfl) ?_
    refine va_get (D := D) (ci := 5) (v := .ref (h 0)) (C := RX5) (T := TX5) (N := 1) hx hb hts hin_X5 hown hK.1 hP 0 rfl rfl 0 (by decide) f_9 (fun _ h9 => h9) rfl dX5_beginsAt_13 ?_
    refine lv_iload_n hx hb dX5_beginsAt_16 rfl (lv_at hl 1 rfl) ?_
    refine lv_iconst (v := nI 1) hx hb dX5_beginsAt_17 (by decide) ?_
    refine lv_isub hx hb dX5_beginsAt_18 ?_
    refine lv_iload_n hx hb dX5_beginsAt_19 rfl (lv_at hl 2 rfl) ?_
    refine xc_V (As := [.int ((nI r) - (nI 1)), .int (nI t)]) (rest := []) ⟨hx, hb, hml, hown, hts⟩ (c_X2_soundsAt l D y h V q hR hI ((nI r) - (nI 1)) t (by omega)) (cwV 2 hts gX5_beginsAt_X2_soundsAt rfl rfl rfl hd_X2_soundsAt ⟨Nat.le_of_ble_eq_true rfl, Nat.le_of_ble_eq_true rfl⟩) (xpv_r hK hP [1, 2, 3, 4, 5] 1 rfl rfl rfl) rfl hl.1 rfl (Nat.le_of_ble_eq_true rfl) dX5_beginsAt_20 ⟨Nat.zero_le _, Nat.zero_le _⟩ (fun r2 hr2 => ?_)
    subst hr2
    refine xn_if_ne hx hb (by omega) (tgt := 30) dX5_beginsAt_23 (by decide) (fun kc23 => ?_) (fun kc23 => ?_)
    · refine lv_iconst (v := nI 0) hx hb dX5_beginsAt_30 (by decide) ?_
      exact xr_z hx hb hr hlocks dX5_beginsAt_31 (by omega) (congrArg nI (by first | exact begN_1 hr0 kc9 kc23 | exact begN_0 kc9 | exact begN_0' hr0 kc23))
    · refine lv_iconst (v := nI 1) hx hb dX5_beginsAt_26 (by decide) ?_
      refine lv_goto (tgt := 31) hx hb dX5_beginsAt_27 (by decide) ?_
      exact xr_z hx hb hr hlocks dX5_beginsAt_31 (by omega) (congrArg nI (by first | exact begN_1 hr0 kc9 kc23 | exact begN_0 kc9 | exact begN_0' hr0 kc23))
set_option maxHeartbeats 8000000 in
set_option maxRecDepth 100000 in
theorem c_X5_beginningAt (l : Launch) (D : va_G) (y : Nat → ClassId) (g : Nat) (h : Nat → Nat) (V : Nat → Nat) (q : Nat → Nat → Int32) (hR : RepC V q) (hI : Inv V) (r : Nat) (hr0 : r < 2 ^ 31) : Met l yX5_beginningAt wsX5_beginningAt ({ frames := 1, cells := 0, slots := 0, locals := 21 }) (va_Pc [.ref g, .int (nI r)] (xPr D y [(g, .inr (5, [.ref (h 0)])), (h 0, .inr (2, [.ref (h 1), .ref (h 2), .ref (h 3), .ref (h 4), .int (nI (V 16)), .int (nI (V 67)), .int (rmb V), .int (nI (V 66))])), (h 1, .inl (y 1, 8, .inl (q 0))), (h 2, .inl (y 1, 8, .inl (q 1))), (h 3, .inl (y 1, 24, .inl (q 2))), (h 4, .inl (y 1, 4, .inl (q 3)))])) (vp_Si (fun rz => rz = nI (roT V r))) 0 0 (fun _ => False) := by
  refine Met.ofW (cc := cX5_beginningAt) (maxL := 2) (ret := (some .int)) (by decide) rfl ?_
  intro p e s m args below meth c s₁ B hml hv
  obtain ⟨rfl, hP, hK⟩ := hv
  have hx := B.exec
  have hb := B.bytes
  have hr := B.returns
  have hts := atoms_spec (ws := wsX5_beginningAt) B.pre
  have hown : s.vm.findClass RX5 = some m.cls := findClass_of_methodNamed B.named
  have hlocks := B.notSynchronized
  have f_9 := hts (.fieldLink RX5 9 "LoomTunes$Tones" "register" "LLoomTunes$Register;") (by decide +kernel)
  have hin_X5 : ∀ w ∈ wsX50, w ∈ wsX5_beginningAt := by decide +kernel
  have hP : va_P D vwCl [(g, .inr (5, [.ref (h 0)])), (h 0, .inr (2, [.ref (h 1), .ref (h 2), .ref (h 3), .ref (h 4), .int (nI (V 16)), .int (nI (V 67)), .int (rmb V), .int (nI (V 66))])), (h 1, .inl (y 1, 8, .inl (q 0))), (h 2, .inl (y 1, 8, .inl (q 1))), (h 3, .inl (y 1, 24, .inl (q 2))), (h 4, .inl (y 1, 4, .inl (q 3)))] s.heap := hP
  have hl := lv_entry ([.ref g, .int (nI r)]) (n := 2) (Nat.le_of_ble_eq_true rfl)
  rw [lg_entry_eq]
  generalize (lg_sl ([.ref g, .int (nI r)]) ++ List.replicate (2 - (lg_sl ([.ref g, .int (nI r)])).length) Slot.unset).toArray = ls at hl ⊢
  have hl : lv_has ls 2 [(0, .ref g), (1, .int (nI r))] := hl
  have hh1 := hol_lt hI (r := r)
  have hh2 := holI_lt hI (x := nI r - nI 1)
  refine lv_aload_n hx hb dX5_beginningAt_0 rfl (lv_at hl 0 rfl) ?_
  refine va_get (D := D) (ci := 5) (v := .ref (h 0)) (C := RX5) (T := TX5) (N := 1) hx hb hts hin_X5 hown hK.1 hP 0 rfl rfl 0 (by decide) f_9 (fun _ h9 => h9) rfl dX5_beginningAt_1 ?_
  refine lv_iload_n hx hb dX5_beginningAt_4 rfl (lv_at hl 1 rfl) ?_
  refine xc_V (As := [.int (nI r)]) (rest := []) ⟨hx, hb, hml, hown, hts⟩ (c_X2_holesAt_n l D y h V q hR hI r (by omega)) (cwV 1 hts gX5_beginningAt_X2_holesAt rfl rfl rfl hd_X2_holesAt ⟨Nat.le_of_ble_eq_true rfl, Nat.le_of_ble_eq_true rfl⟩) (xpv_r hK hP [1, 2, 3, 4, 5] 1 rfl rfl rfl) rfl hl.1 rfl (Nat.le_of_ble_eq_true rfl) dX5_beginningAt_5 ⟨Nat.zero_le _, Nat.zero_le _⟩ (fun r1 hr1 => ?_)
  subst hr1
  refine lv_aload_n hx hb dX5_beginningAt_8 rfl (lv_at hl 0 rfl) ?_
  refine va_get (D := D) (ci := 5) (v := .ref (h 0)) (C := RX5) (T := TX5) (N := 1) hx hb hts hin_X5 hown hK.1 hP 0 rfl rfl 0 (by decide) f_9 (fun _ h9 => h9) rfl dX5_beginningAt_9 ?_
  refine lv_iload_n hx hb dX5_beginningAt_12 rfl (lv_at hl 1 rfl) ?_
  refine lv_iconst (v := nI 1) hx hb dX5_beginningAt_13 (by decide) ?_
  refine lv_isub hx hb dX5_beginningAt_14 ?_
  refine xc_V (As := [.int ((nI r) - (nI 1))]) (rest := [.int (nI (hol V r))]) ⟨hx, hb, hml, hown, hts⟩ (c_X2_holesAt l D y h V q hR hI ((nI r) - (nI 1))) (cwV 1 hts gX5_beginningAt_X2_holesAt rfl rfl rfl hd_X2_holesAt ⟨Nat.le_of_ble_eq_true rfl, Nat.le_of_ble_eq_true rfl⟩) (xpv_r hK hP [1, 2, 3, 4, 5] 1 rfl rfl rfl) rfl hl.1 rfl (Nat.le_of_ble_eq_true rfl) dX5_beginningAt_15 ⟨Nat.zero_le _, Nat.zero_le _⟩ (fun r2 hr2 => ?_)
  subst hr2
  refine lv_iconst (v := (-1)) hx hb dX5_beginningAt_18 (by decide) ?_
  refine lv_ixor hx hb dX5_beginningAt_19 ?_
  refine lv_iand hx hb dX5_beginningAt_20 ?_
  refine xv (xbeg hh1 hh2) ?_
  refine xc_S (As := [.int (nI (hol V r &&& (255 - holI V (nI r - nI 1))))]) (rest := []) ⟨hx, hb, hml, hown, hts⟩ (c_J6_bitCount_0f7a4 l (hol V r &&& (255 - holI V (nI r - nI 1))) (Nat.lt_of_le_of_lt Nat.and_le_left hh1)) (va_cwS 1 hts gX5_beginningAt_J6_bitCount_0f7a4 rfl rfl rfl hd_J6_bitCount_0f7a4.2 ⟨Nat.le_of_ble_eq_true rfl, Nat.le_of_ble_eq_true rfl⟩) xps_0 rfl hl.1 rfl (Nat.le_of_ble_eq_true rfl) dX5_beginningAt_21 ⟨Nat.zero_le _, Nat.zero_le _⟩ (fun r3 hr3 => ?_)
  subst hr3
  exact xr_i hx hb hr hlocks dX5_beginningAt_24 (congrArg nI (pop_beg hI hr0))
set_option maxHeartbeats 8000000 in
set_option maxRecDepth 100000 in
theorem c_X5_ofThread (l : Launch) (D : va_G) (y : Nat → ClassId) (g : Nat) (h : Nat → Nat) (V : Nat → Nat) (q : Nat → Nat → Int32) (hR : RepC V q) (hI : Inv V) (t : Nat) (ht : t < 8) : Met l yX5_ofThread wsX5_ofThread ({ frames := 3, cells := 0, slots := 0, locals := 65 }) (va_Pc [.ref g, .int (nI t)] (xPr D y [(g, .inr (5, [.ref (h 0)])), (h 0, .inr (2, [.ref (h 1), .ref (h 2), .ref (h 3), .ref (h 4), .int (nI (V 16)), .int (nI (V 67)), .int (rmb V), .int (nI (V 66))])), (h 1, .inl (y 1, 8, .inl (q 0))), (h 2, .inl (y 1, 8, .inl (q 1))), (h 3, .inl (y 1, 24, .inl (q 2))), (h 4, .inl (y 1, 4, .inl (q 3)))])) (vp_Si (fun rz => rz = nI (toT V t))) 0 0 (fun _ => False) := by
  refine Met.ofW (cc := cX5_ofThread) (maxL := 4) (ret := (some .int)) (by decide) rfl ?_
  intro p e s m args below meth c s₁ B hml hv
  obtain ⟨rfl, hP, hK⟩ := hv
  have hx := B.exec
  have hb := B.bytes
  have hr := B.returns
  have hts := atoms_spec (ws := wsX5_ofThread) B.pre
  have hown : s.vm.findClass RX5 = some m.cls := findClass_of_methodNamed B.named
  have hlocks := B.notSynchronized
  have f_30 := hts (.fieldLink RX5 30 "LoomTunes$Register" "size" "I") (by decide +kernel)
  have f_9 := hts (.fieldLink RX5 9 "LoomTunes$Tones" "register" "LLoomTunes$Register;") (by decide +kernel)
  have hin_X2 : ∀ w ∈ wsX20, w ∈ wsX5_ofThread := by decide +kernel
  have hin_X5 : ∀ w ∈ wsX50, w ∈ wsX5_ofThread := by decide +kernel
  have hP : va_P D vwCl [(g, .inr (5, [.ref (h 0)])), (h 0, .inr (2, [.ref (h 1), .ref (h 2), .ref (h 3), .ref (h 4), .int (nI (V 16)), .int (nI (V 67)), .int (rmb V), .int (nI (V 66))])), (h 1, .inl (y 1, 8, .inl (q 0))), (h 2, .inl (y 1, 8, .inl (q 1))), (h 3, .inl (y 1, 24, .inl (q 2))), (h 4, .inl (y 1, 4, .inl (q 3)))] s.heap := hP
  have hl := lv_entry ([.ref g, .int (nI t)]) (n := 4) (Nat.le_of_ble_eq_true rfl)
  rw [lg_entry_eq]
  generalize (lg_sl ([.ref g, .int (nI t)]) ++ List.replicate (4 - (lg_sl ([.ref g, .int (nI t)])).length) Slot.unset).toArray = ls at hl ⊢
  have hl : lv_has ls 4 [(0, .ref g), (1, .int (nI t))] := hl
  have hsz := hI.sz
  refine lv_iconst (v := nI 0) hx hb dX5_ofThread_0 (by decide) ?_
  refine lv_istore_n (lv' := [(2, .int (nI 0)), (0, .ref g), (1, .int (nI t))]) hx hb dX5_ofThread_1 rfl hl (by decide) rfl (fun ls hl => ?_)
  refine lv_iconst (v := nI 0) hx hb dX5_ofThread_2 (by decide) ?_
  refine lv_istore_n (lv' := [(3, .int (nI 0)), (2, .int (nI 0)), (0, .ref g), (1, .int (nI t))]) hx hb dX5_ofThread_3 rfl hl (by decide) rfl (fun ls hl => ?_)
  have lp4 : ∀ (n : Nat) (i : Nat), V 16 - i < n → (i ≤ V 16) → ∀ ls : Array Slot, lv_has ls 4 [(3, .int (nI i)), (2, .int (nI (sN (fun r => begN V r t) i))), (0, .ref g), (1, .int (nI t))] → W p l e (headSpec wsX5_ofThread ({ frames := 3, cells := 0, slots := 0, locals := 65 })).room s m ([.ref g, .int (nI t)] : List Value).toArray below meth c s.heap [] 0 0 (MQ below (vp_Si (fun rz => rz = nI (toT V t))) ([.ref g, .int (nI t)] : List Value).toArray s 0 0 (fun _ => False)) (F0 m 4 ls []) := by
    intro n
    induction n with
    | zero => intro i hm; exact absurd hm (Nat.not_lt_zero _)
    | succ n ih4 =>
      intro i hm hi ls hl
      refine lv_iload_n hx hb dX5_ofThread_4 rfl (lv_at hl 0 rfl) ?_
      refine lv_aload_n hx hb dX5_ofThread_5 rfl (lv_at hl 2 rfl) ?_
      refine va_get (D := D) (ci := 5) (v := .ref (h 0)) (C := RX5) (T := TX5) (N := 1) hx hb hts hin_X5 hown hK.1 hP 0 rfl rfl 0 (by decide) f_9 (fun _ h9 => h9) rfl dX5_ofThread_6 ?_
      refine va_get (D := D) (ci := 2) (v := .int (nI (V 16))) (C := RX2) (T := TX2) (N := 8) hx hb hts hin_X2 hown hK.1 hP 1 rfl rfl 4 (by decide) f_30 (fun _ h9 => h9) rfl dX5_ofThread_9 ?_
      refine xn_icmp_ge hx hb (by omega) (by omega) (tgt := 33) dX5_ofThread_12 (by decide) (fun kc12 => ?_) (fun kc12 => ?_)
      · refine lv_iload_n hx hb dX5_ofThread_33 rfl (lv_at hl 1 rfl) ?_
        exact xr_i hx hb hr hlocks dX5_ofThread_34 (congrArg nI (by rw [show i = V 16 by omega]))
      · have hsb := begN_lt (V := V) (r := i) (t := t)
        refine lv_aload_n hx hb dX5_ofThread_15 rfl (lv_at hl 2 rfl) ?_
        refine lv_iload_n hx hb dX5_ofThread_16 rfl (lv_at hl 0 rfl) ?_
        refine lv_iload_n hx hb dX5_ofThread_17 rfl (lv_at hl 3 rfl) ?_
        refine xc_V (As := [.int (nI i), .int (nI t)]) (rest := []) ⟨hx, hb, hml, hown, hts⟩ (c_X5_beginsAt l D y g h V q hR hI i t (by omega) (by omega)) (cwV 2 hts gX5_ofThread_X5_beginsAt rfl rfl rfl hd_X5_beginsAt ⟨Nat.le_of_ble_eq_true rfl, Nat.le_of_ble_eq_true rfl⟩) (xpv_r hK hP [0, 1, 2, 3, 4, 5] 0 rfl rfl rfl) rfl hl.1 rfl (Nat.le_of_ble_eq_true rfl) dX5_ofThread_18 ⟨Nat.zero_le _, Nat.zero_le _⟩ (fun r1 hr1 => ?_)
        subst hr1
        refine xn_if_eq hx hb (by omega) (tgt := 27) dX5_ofThread_21 (by decide) (fun kc21 => ?_) (fun kc21 => ?_)
        · refine lv_iinc (v := nI (i + 1)) (lv' := [(3, .int (nI (i + 1))), (2, .int (nI (sN (fun r => begN V r t) i))), (0, .ref g), (1, .int (nI t))]) hx hb dX5_ofThread_27 hl (k := 0) rfl (nI_add i 1) (by decide) rfl (fun ls hl => ?_)
          refine lv_goto (tgt := 4) hx hb dX5_ofThread_30 (by decide) ?_
          have e2 : (sN (fun r => begN V r t) i) = (sN (fun r => begN V r t) (i + 1)) := by show _ = sN _ _ + begN V i t; omega
          exact ih4 (i + 1) (by omega) (by omega) ls (xl_eq (b := [(3, .int (nI (i + 1))), (2, .int (nI (sN (fun r => begN V r t) (i + 1)))), (0, .ref g), (1, .int (nI t))]) (lv_sub (l' := [(3, .int (nI (i + 1))), (2, .int (nI (sN (fun r => begN V r t) i))), (0, .ref g), (1, .int (nI t))]) hl [0, 1, 2, 3] rfl) (xk rfl (xk (congrArg (fun z : Nat => Value.int (nI z)) e2) (xk rfl (xk rfl (rfl : ([] : List (Nat × Value)) = []))))))
        · refine lv_iinc (v := nI (sN (fun r => begN V r t) i + 1)) (lv' := [(2, .int (nI (sN (fun r => begN V r t) i + 1))), (3, .int (nI i)), (0, .ref g), (1, .int (nI t))]) hx hb dX5_ofThread_24 hl (k := 1) rfl (nI_add (sN (fun r => begN V r t) i) 1) (by decide) rfl (fun ls hl => ?_)
          refine lv_iinc (v := nI (i + 1)) (lv' := [(3, .int (nI (i + 1))), (2, .int (nI (sN (fun r => begN V r t) i + 1))), (0, .ref g), (1, .int (nI t))]) hx hb dX5_ofThread_27 hl (k := 1) rfl (nI_add i 1) (by decide) rfl (fun ls hl => ?_)
          refine lv_goto (tgt := 4) hx hb dX5_ofThread_30 (by decide) ?_
          have e3 : (sN (fun r => begN V r t) i + 1) = (sN (fun r => begN V r t) (i + 1)) := by show _ = sN _ _ + begN V i t; omega
          exact ih4 (i + 1) (by omega) (by omega) ls (xl_eq (b := [(3, .int (nI (i + 1))), (2, .int (nI (sN (fun r => begN V r t) (i + 1)))), (0, .ref g), (1, .int (nI t))]) (lv_sub (l' := [(3, .int (nI (i + 1))), (2, .int (nI (sN (fun r => begN V r t) i + 1))), (0, .ref g), (1, .int (nI t))]) hl [0, 1, 2, 3] rfl) (xk rfl (xk (congrArg (fun z : Nat => Value.int (nI z)) e3) (xk rfl (xk rfl (rfl : ([] : List (Nat × Value)) = []))))))
  have e4 : 0 = (sN (fun r => begN V r t) 0) := rfl
  exact lp4 ((V 16 - 0) + 1) 0 (Nat.lt_succ_self _) (by omega) ls (xl_eq (b := [(3, .int (nI 0)), (2, .int (nI (sN (fun r => begN V r t) 0))), (0, .ref g), (1, .int (nI t))]) (lv_sub (l' := [(3, .int (nI 0)), (2, .int (nI 0)), (0, .ref g), (1, .int (nI t))]) hl [0, 1, 2, 3] rfl) (xk rfl (xk (congrArg (fun z : Nat => Value.int (nI z)) e4) (xk rfl (xk rfl (rfl : ([] : List (Nat × Value)) = []))))))
set_option maxHeartbeats 8000000 in
set_option maxRecDepth 100000 in
theorem c_X5_inAll (l : Launch) (D : va_G) (y : Nat → ClassId) (g : Nat) (h : Nat → Nat) (V : Nat → Nat) (q : Nat → Nat → Int32) (hR : RepC V q) (hI : Inv V) : Met l yX5_inAll wsX5_inAll ({ frames := 2, cells := 0, slots := 0, locals := 42 }) (va_Pc [.ref g] (xPr D y [(g, .inr (5, [.ref (h 0)])), (h 0, .inr (2, [.ref (h 1), .ref (h 2), .ref (h 3), .ref (h 4), .int (nI (V 16)), .int (nI (V 67)), .int (rmb V), .int (nI (V 66))])), (h 1, .inl (y 1, 8, .inl (q 0))), (h 2, .inl (y 1, 8, .inl (q 1))), (h 3, .inl (y 1, 24, .inl (q 2))), (h 4, .inl (y 1, 4, .inl (q 3)))])) (vp_Si (fun rz => rz = nI (alT V))) 0 0 (fun _ => False) := by
  refine Met.ofW (cc := cX5_inAll) (maxL := 3) (ret := (some .int)) (by decide) rfl ?_
  intro p e s m args below meth c s₁ B hml hv
  obtain ⟨rfl, hP, hK⟩ := hv
  have hx := B.exec
  have hb := B.bytes
  have hr := B.returns
  have hts := atoms_spec (ws := wsX5_inAll) B.pre
  have hown : s.vm.findClass RX5 = some m.cls := findClass_of_methodNamed B.named
  have hlocks := B.notSynchronized
  have f_30 := hts (.fieldLink RX5 30 "LoomTunes$Register" "size" "I") (by decide +kernel)
  have f_9 := hts (.fieldLink RX5 9 "LoomTunes$Tones" "register" "LLoomTunes$Register;") (by decide +kernel)
  have hin_X2 : ∀ w ∈ wsX20, w ∈ wsX5_inAll := by decide +kernel
  have hin_X5 : ∀ w ∈ wsX50, w ∈ wsX5_inAll := by decide +kernel
  have hP : va_P D vwCl [(g, .inr (5, [.ref (h 0)])), (h 0, .inr (2, [.ref (h 1), .ref (h 2), .ref (h 3), .ref (h 4), .int (nI (V 16)), .int (nI (V 67)), .int (rmb V), .int (nI (V 66))])), (h 1, .inl (y 1, 8, .inl (q 0))), (h 2, .inl (y 1, 8, .inl (q 1))), (h 3, .inl (y 1, 24, .inl (q 2))), (h 4, .inl (y 1, 4, .inl (q 3)))] s.heap := hP
  have hl := lv_entry ([.ref g]) (n := 3) (Nat.le_of_ble_eq_true rfl)
  rw [lg_entry_eq]
  generalize (lg_sl ([.ref g]) ++ List.replicate (3 - (lg_sl ([.ref g])).length) Slot.unset).toArray = ls at hl ⊢
  have hl : lv_has ls 3 [(0, .ref g)] := hl
  have hsz := hI.sz
  refine lv_iconst (v := nI 0) hx hb dX5_inAll_0 (by decide) ?_
  refine lv_istore_n (lv' := [(1, .int (nI 0)), (0, .ref g)]) hx hb dX5_inAll_1 rfl hl (by decide) rfl (fun ls hl => ?_)
  refine lv_iconst (v := nI 0) hx hb dX5_inAll_2 (by decide) ?_
  refine lv_istore_n (lv' := [(2, .int (nI 0)), (1, .int (nI 0)), (0, .ref g)]) hx hb dX5_inAll_3 rfl hl (by decide) rfl (fun ls hl => ?_)
  have lp4 : ∀ (n : Nat) (i : Nat), V 16 - i < n → (i ≤ V 16) → ∀ ls : Array Slot, lv_has ls 3 [(2, .int (nI i)), (1, .int (nI (sN (roT V) i))), (0, .ref g)] → W p l e (headSpec wsX5_inAll ({ frames := 2, cells := 0, slots := 0, locals := 42 })).room s m ([.ref g] : List Value).toArray below meth c s.heap [] 0 0 (MQ below (vp_Si (fun rz => rz = nI (alT V))) ([.ref g] : List Value).toArray s 0 0 (fun _ => False)) (F0 m 4 ls []) := by
    intro n
    induction n with
    | zero => intro i hm; exact absurd hm (Nat.not_lt_zero _)
    | succ n ih4 =>
      intro i hm hi ls hl
      refine lv_iload_n hx hb dX5_inAll_4 rfl (lv_at hl 0 rfl) ?_
      refine lv_aload_n hx hb dX5_inAll_5 rfl (lv_at hl 2 rfl) ?_
      refine va_get (D := D) (ci := 5) (v := .ref (h 0)) (C := RX5) (T := TX5) (N := 1) hx hb hts hin_X5 hown hK.1 hP 0 rfl rfl 0 (by decide) f_9 (fun _ h9 => h9) rfl dX5_inAll_6 ?_
      refine va_get (D := D) (ci := 2) (v := .int (nI (V 16))) (C := RX2) (T := TX2) (N := 8) hx hb hts hin_X2 hown hK.1 hP 1 rfl rfl 4 (by decide) f_30 (fun _ h9 => h9) rfl dX5_inAll_9 ?_
      refine xn_icmp_ge hx hb (by omega) (by omega) (tgt := 29) dX5_inAll_12 (by decide) (fun kc12 => ?_) (fun kc12 => ?_)
      · refine lv_iload_n hx hb dX5_inAll_29 rfl (lv_at hl 1 rfl) ?_
        exact xr_i hx hb hr hlocks dX5_inAll_30 (congrArg nI (by rw [show i = V 16 by omega]))
      · refine lv_iload_n hx hb dX5_inAll_15 rfl (lv_at hl 1 rfl) ?_
        refine lv_aload_n hx hb dX5_inAll_16 rfl (lv_at hl 2 rfl) ?_
        refine lv_iload_n hx hb dX5_inAll_17 rfl (lv_at hl 0 rfl) ?_
        refine xc_V (As := [.int (nI i)]) (rest := [.int (nI (sN (roT V) i))]) ⟨hx, hb, hml, hown, hts⟩ (c_X5_beginningAt l D y g h V q hR hI i (by omega)) (cwV 1 hts gX5_inAll_X5_beginningAt rfl rfl rfl hd_X5_beginningAt ⟨Nat.le_of_ble_eq_true rfl, Nat.le_of_ble_eq_true rfl⟩) (xpv_r hK hP [0, 1, 2, 3, 4, 5] 0 rfl rfl rfl) rfl hl.1 rfl (Nat.le_of_ble_eq_true rfl) dX5_inAll_18 ⟨Nat.zero_le _, Nat.zero_le _⟩ (fun r1 hr1 => ?_)
        subst hr1
        refine xn_add hx hb (r := ((sN (roT V) i) + (roT V i))) rfl dX5_inAll_21 ?_
        refine lv_istore_n (lv' := [(1, .int (nI ((sN (roT V) i) + (roT V i)))), (2, .int (nI i)), (0, .ref g)]) hx hb dX5_inAll_22 rfl hl (by decide) rfl (fun ls hl => ?_)
        refine lv_iinc (v := nI (i + 1)) (lv' := [(2, .int (nI (i + 1))), (1, .int (nI ((sN (roT V) i) + (roT V i)))), (0, .ref g)]) hx hb dX5_inAll_23 hl (k := 1) rfl (nI_add i 1) (by decide) rfl (fun ls hl => ?_)
        refine lv_goto (tgt := 4) hx hb dX5_inAll_26 (by decide) ?_
        have e2 : ((sN (roT V) i) + (roT V i)) = (sN (roT V) (i + 1)) := rfl
        exact ih4 (i + 1) (by omega) (by omega) ls (xl_eq (b := [(2, .int (nI (i + 1))), (1, .int (nI (sN (roT V) (i + 1)))), (0, .ref g)]) (lv_sub (l' := [(2, .int (nI (i + 1))), (1, .int (nI ((sN (roT V) i) + (roT V i)))), (0, .ref g)]) hl [0, 1, 2] rfl) (xk rfl (xk (congrArg (fun z : Nat => Value.int (nI z)) e2) (xk rfl (rfl : ([] : List (Nat × Value)) = [])))))
  have e3 : 0 = (sN (roT V) 0) := rfl
  exact lp4 ((V 16 - 0) + 1) 0 (Nat.lt_succ_self _) (by omega) ls (xl_eq (b := [(2, .int (nI 0)), (1, .int (nI (sN (roT V) 0))), (0, .ref g)]) (lv_sub (l' := [(2, .int (nI 0)), (1, .int (nI 0)), (0, .ref g)]) hl [0, 1, 2] rfl) (xk rfl (xk (congrArg (fun z : Nat => Value.int (nI z)) e3) (xk rfl (rfl : ([] : List (Nat × Value)) = [])))))
set_option maxHeartbeats 8000000 in
set_option maxRecDepth 100000 in
theorem c_X5_placeOf (l : Launch) (D : va_G) (y : Nat → ClassId) (g : Nat) (h : Nat → Nat) (V : Nat → Nat) (q : Nat → Nat → Int32) (hR : RepC V q) (hI : Inv V) (k : Nat) (hk0 : k < 2 ^ 31) : Met l yX5_placeOf wsX5_placeOf ({ frames := 3, cells := 0, slots := 0, locals := 65 }) (va_Pc [.ref g, .int (nI k)] (xPr D y [(g, .inr (5, [.ref (h 0)])), (h 0, .inr (2, [.ref (h 1), .ref (h 2), .ref (h 3), .ref (h 4), .int (nI (V 16)), .int (nI (V 67)), .int (rmb V), .int (nI (V 66))])), (h 1, .inl (y 1, 8, .inl (q 0))), (h 2, .inl (y 1, 8, .inl (q 1))), (h 3, .inl (y 1, 24, .inl (q 2))), (h 4, .inl (y 1, 4, .inl (q 3)))])) (vp_Si (fun rz => rz = plI V k)) 0 0 (fun _ => False) := by
  refine Met.ofW (cc := cX5_placeOf) (maxL := 4) (ret := (some .int)) (by decide) rfl ?_
  intro p e s m args below meth c s₁ B hml hv
  obtain ⟨rfl, hP, hK⟩ := hv
  have hx := B.exec
  have hb := B.bytes
  have hr := B.returns
  have hts := atoms_spec (ws := wsX5_placeOf) B.pre
  have hown : s.vm.findClass RX5 = some m.cls := findClass_of_methodNamed B.named
  have hlocks := B.notSynchronized
  have f_30 := hts (.fieldLink RX5 30 "LoomTunes$Register" "size" "I") (by decide +kernel)
  have f_40 := hts (.constant RX5 40 (-1000004)) (by decide +kernel)
  have f_9 := hts (.fieldLink RX5 9 "LoomTunes$Tones" "register" "LLoomTunes$Register;") (by decide +kernel)
  have hin_X2 : ∀ w ∈ wsX20, w ∈ wsX5_placeOf := by decide +kernel
  have hin_X5 : ∀ w ∈ wsX50, w ∈ wsX5_placeOf := by decide +kernel
  have hP : va_P D vwCl [(g, .inr (5, [.ref (h 0)])), (h 0, .inr (2, [.ref (h 1), .ref (h 2), .ref (h 3), .ref (h 4), .int (nI (V 16)), .int (nI (V 67)), .int (rmb V), .int (nI (V 66))])), (h 1, .inl (y 1, 8, .inl (q 0))), (h 2, .inl (y 1, 8, .inl (q 1))), (h 3, .inl (y 1, 24, .inl (q 2))), (h 4, .inl (y 1, 4, .inl (q 3)))] s.heap := hP
  have hl := lv_entry ([.ref g, .int (nI k)]) (n := 4) (Nat.le_of_ble_eq_true rfl)
  rw [lg_entry_eq]
  generalize (lg_sl ([.ref g, .int (nI k)]) ++ List.replicate (4 - (lg_sl ([.ref g, .int (nI k)])).length) Slot.unset).toArray = ls at hl ⊢
  have hl : lv_has ls 4 [(0, .ref g), (1, .int (nI k))] := hl
  have hsz := hI.sz
  refine lv_iconst (v := nI 0) hx hb dX5_placeOf_0 (by decide) ?_
  refine lv_istore_n (lv' := [(2, .int (nI 0)), (0, .ref g), (1, .int (nI k))]) hx hb dX5_placeOf_1 rfl hl (by decide) rfl (fun ls hl => ?_)
  refine lv_iconst (v := nI 0) hx hb dX5_placeOf_2 (by decide) ?_
  refine lv_istore_n (lv' := [(3, .int (nI 0)), (2, .int (nI 0)), (0, .ref g), (1, .int (nI k))]) hx hb dX5_placeOf_3 rfl hl (by decide) rfl (fun ls hl => ?_)
  have lp4 : ∀ (n : Nat) (i : Nat), 8 * V 16 - i < n → (i ≤ 8 * V 16) → (fnd V k (8 * V 16 - i) i = plN V k) → ∀ ls : Array Slot, lv_has ls 4 [(3, .int (nI i)), (2, .int (nI (cnP V i))), (0, .ref g), (1, .int (nI k))] → W p l e (headSpec wsX5_placeOf ({ frames := 3, cells := 0, slots := 0, locals := 65 })).room s m ([.ref g, .int (nI k)] : List Value).toArray below meth c s.heap [] 0 0 (MQ below (vp_Si (fun rz => rz = plI V k)) ([.ref g, .int (nI k)] : List Value).toArray s 0 0 (fun _ => False)) (F0 m 4 ls []) := by
    intro n
    induction n with
    | zero => intro i hm; exact absurd hm (Nat.not_lt_zero _)
    | succ n ih4 =>
      intro i hm hi hf ls hl
      refine lv_iload_n hx hb dX5_placeOf_4 rfl (lv_at hl 0 rfl) ?_
      refine lv_aload_n hx hb dX5_placeOf_5 rfl (lv_at hl 2 rfl) ?_
      refine va_get (D := D) (ci := 5) (v := .ref (h 0)) (C := RX5) (T := TX5) (N := 1) hx hb hts hin_X5 hown hK.1 hP 0 rfl rfl 0 (by decide) f_9 (fun _ h9 => h9) rfl dX5_placeOf_6 ?_
      refine va_get (D := D) (ci := 2) (v := .int (nI (V 16))) (C := RX2) (T := TX2) (N := 8) hx hb hts hin_X2 hown hK.1 hP 1 rfl rfl 4 (by decide) f_30 (fun _ h9 => h9) rfl dX5_placeOf_9 ?_
      refine lv_bipush (v := nI 8) hx hb dX5_placeOf_12 (by decide) ?_
      refine xn_mul hx hb (r := ((V 16) * 8)) rfl dX5_placeOf_14 ?_
      refine xn_icmp_ge hx hb (by omega) (by omega) (tgt := 49) dX5_placeOf_15 (by decide) (fun kc15 => ?_) (fun kc15 => ?_)
      · refine lv_ldc hx hb hown f_40 dX5_placeOf_49 ?_
        exact xr_i hx hb hr hlocks dX5_placeOf_51 (plI_e (by rw [← hf, show i = 8 * V 16 by omega, Nat.sub_self]; rfl))
      · have hsb := begN_lt (V := V) (r := i / 8) (t := i % 8)
        have hcn := cnP_le (V := V) i
        refine lv_aload_n hx hb dX5_placeOf_18 rfl (lv_at hl 2 rfl) ?_
        refine lv_iload_n hx hb dX5_placeOf_19 rfl (lv_at hl 0 rfl) ?_
        refine lv_bipush (v := nI 8) hx hb dX5_placeOf_20 (by decide) ?_
        refine xn_div hx hb (r := (i / 8)) (by omega) (by omega) (by omega) rfl dX5_placeOf_22 ?_
        refine lv_iload_n hx hb dX5_placeOf_23 rfl (lv_at hl 0 rfl) ?_
        refine lv_bipush (v := nI 8) hx hb dX5_placeOf_24 (by decide) ?_
        refine xn_rem hx hb (r := (i % 8)) (by omega) (by omega) (by omega) rfl dX5_placeOf_26 ?_
        refine xc_V (As := [.int (nI (i / 8)), .int (nI (i % 8))]) (rest := []) ⟨hx, hb, hml, hown, hts⟩ (c_X5_beginsAt l D y g h V q hR hI (i / 8) (i % 8) (by omega) (by omega)) (cwV 2 hts gX5_placeOf_X5_beginsAt rfl rfl rfl hd_X5_beginsAt ⟨Nat.le_of_ble_eq_true rfl, Nat.le_of_ble_eq_true rfl⟩) (xpv_r hK hP [0, 1, 2, 3, 4, 5] 0 rfl rfl rfl) rfl hl.1 rfl (Nat.le_of_ble_eq_true rfl) dX5_placeOf_27 ⟨Nat.zero_le _, Nat.zero_le _⟩ (fun r1 hr1 => ?_)
        subst hr1
        refine xn_if_eq hx hb (by omega) (tgt := 43) dX5_placeOf_30 (by decide) (fun kc30 => ?_) (fun kc30 => ?_)
        · refine lv_iinc (v := nI (i + 1)) (lv' := [(3, .int (nI (i + 1))), (2, .int (nI (cnP V i))), (0, .ref g), (1, .int (nI k))]) hx hb dX5_placeOf_43 hl (k := 0) rfl (nI_add i 1) (by decide) rfl (fun ls hl => ?_)
          refine lv_goto (tgt := 4) hx hb dX5_placeOf_46 (by decide) ?_
          have e2 : (cnP V i) = (cnP V (i + 1)) := by first | exact sN_f kc30 | exact sN_t (show begN V (i / 8) (i % 8) = 1 by omega)
          exact ih4 (i + 1) (by omega) (by omega) (by rw [← hf]; exact (fnd_s (by omega) (fun hh => by have hz1 : begN V (i / 8) (i % 8) = 1 := hh.1; have hz2 : cnP V i = k := hh.2; omega)).symm) ls (xl_eq (b := [(3, .int (nI (i + 1))), (2, .int (nI (cnP V (i + 1)))), (0, .ref g), (1, .int (nI k))]) (lv_sub (l' := [(3, .int (nI (i + 1))), (2, .int (nI (cnP V i))), (0, .ref g), (1, .int (nI k))]) hl [0, 1, 2, 3] rfl) (xk rfl (xk (congrArg (fun z : Nat => Value.int (nI z)) e2) (xk rfl (xk rfl (rfl : ([] : List (Nat × Value)) = []))))))
        · refine lv_iload_n hx hb dX5_placeOf_33 rfl (lv_at hl 1 rfl) ?_
          refine lv_iload_n hx hb dX5_placeOf_34 rfl (lv_at hl 3 rfl) ?_
          refine xn_icmp_ne hx hb (by omega) (by omega) (tgt := 40) dX5_placeOf_35 (by decide) (fun kc35 => ?_) (fun kc35 => ?_)
          · refine lv_iinc (v := nI (cnP V i + 1)) (lv' := [(2, .int (nI (cnP V i + 1))), (3, .int (nI i)), (0, .ref g), (1, .int (nI k))]) hx hb dX5_placeOf_40 hl (k := 1) rfl (nI_add (cnP V i) 1) (by decide) rfl (fun ls hl => ?_)
            refine lv_iinc (v := nI (i + 1)) (lv' := [(3, .int (nI (i + 1))), (2, .int (nI (cnP V i + 1))), (0, .ref g), (1, .int (nI k))]) hx hb dX5_placeOf_43 hl (k := 1) rfl (nI_add i 1) (by decide) rfl (fun ls hl => ?_)
            refine lv_goto (tgt := 4) hx hb dX5_placeOf_46 (by decide) ?_
            have e3 : (cnP V i + 1) = (cnP V (i + 1)) := by first | exact sN_f kc30 | exact sN_t (show begN V (i / 8) (i % 8) = 1 by omega)
            exact ih4 (i + 1) (by omega) (by omega) (by rw [← hf]; exact (fnd_s (by omega) (fun hh => by have hz1 : begN V (i / 8) (i % 8) = 1 := hh.1; have hz2 : cnP V i = k := hh.2; omega)).symm) ls (xl_eq (b := [(3, .int (nI (i + 1))), (2, .int (nI (cnP V (i + 1)))), (0, .ref g), (1, .int (nI k))]) (lv_sub (l' := [(3, .int (nI (i + 1))), (2, .int (nI (cnP V i + 1))), (0, .ref g), (1, .int (nI k))]) hl [0, 1, 2, 3] rfl) (xk rfl (xk (congrArg (fun z : Nat => Value.int (nI z)) e3) (xk rfl (xk rfl (rfl : ([] : List (Nat × Value)) = []))))))
          · refine lv_iload_n hx hb dX5_placeOf_38 rfl (lv_at hl 0 rfl) ?_
            exact xr_i hx hb hr hlocks dX5_placeOf_39 (by have e := fnd_h (V := V) (k := k) (N := 8 * V 16) (p := i) (by omega) ⟨by show begN V (i / 8) (i % 8) = 1; omega, kc35⟩; rw [hf] at e; unfold plI; rw [e, if_pos (by omega)])
  have e4 : 0 = (cnP V 0) := rfl
  exact lp4 ((8 * V 16 - 0) + 1) 0 (Nat.lt_succ_self _) (by omega) (rfl) ls (xl_eq (b := [(3, .int (nI 0)), (2, .int (nI (cnP V 0))), (0, .ref g), (1, .int (nI k))]) (lv_sub (l' := [(3, .int (nI 0)), (2, .int (nI 0)), (0, .ref g), (1, .int (nI k))]) hl [0, 1, 2, 3] rfl) (xk rfl (xk (congrArg (fun z : Nat => Value.int (nI z)) e4) (xk rfl (xk rfl (rfl : ([] : List (Nat × Value)) = []))))))
set_option maxHeartbeats 8000000 in
set_option maxRecDepth 100000 in
theorem c_X5_lengthFrom (l : Launch) (D : va_G) (y : Nat → ClassId) (g : Nat) (h : Nat → Nat) (V : Nat → Nat) (q : Nat → Nat → Int32) (hR : RepC V q) (hI : Inv V) (r t : Nat) (hr0 : r ≤ V 16) (ht : t < 8) : Met l yX5_lengthFrom wsX5_lengthFrom ({ frames := 2, cells := 0, slots := 0, locals := 43 }) (va_Pc [.ref g, .int (nI r), .int (nI t)] (xPr D y [(g, .inr (5, [.ref (h 0)])), (h 0, .inr (2, [.ref (h 1), .ref (h 2), .ref (h 3), .ref (h 4), .int (nI (V 16)), .int (nI (V 67)), .int (rmb V), .int (nI (V 66))])), (h 1, .inl (y 1, 8, .inl (q 0))), (h 2, .inl (y 1, 8, .inl (q 1))), (h 3, .inl (y 1, 24, .inl (q 2))), (h 4, .inl (y 1, 4, .inl (q 3)))])) (vp_Si (fun rz => rz = nI (lnR V r t))) 0 0 (fun _ => False) := by
  refine Met.ofW (cc := cX5_lengthFrom) (maxL := 5) (ret := (some .int)) (by decide) rfl ?_
  intro p e s m args below meth c s₁ B hml hv
  obtain ⟨rfl, hP, hK⟩ := hv
  have hx := B.exec
  have hb := B.bytes
  have hr := B.returns
  have hts := atoms_spec (ws := wsX5_lengthFrom) B.pre
  have hown : s.vm.findClass RX5 = some m.cls := findClass_of_methodNamed B.named
  have hlocks := B.notSynchronized
  have f_30 := hts (.fieldLink RX5 30 "LoomTunes$Register" "size" "I") (by decide +kernel)
  have f_9 := hts (.fieldLink RX5 9 "LoomTunes$Tones" "register" "LLoomTunes$Register;") (by decide +kernel)
  have hin_X2 : ∀ w ∈ wsX20, w ∈ wsX5_lengthFrom := by decide +kernel
  have hin_X5 : ∀ w ∈ wsX50, w ∈ wsX5_lengthFrom := by decide +kernel
  have hP : va_P D vwCl [(g, .inr (5, [.ref (h 0)])), (h 0, .inr (2, [.ref (h 1), .ref (h 2), .ref (h 3), .ref (h 4), .int (nI (V 16)), .int (nI (V 67)), .int (rmb V), .int (nI (V 66))])), (h 1, .inl (y 1, 8, .inl (q 0))), (h 2, .inl (y 1, 8, .inl (q 1))), (h 3, .inl (y 1, 24, .inl (q 2))), (h 4, .inl (y 1, 4, .inl (q 3)))] s.heap := hP
  have hl := lv_entry ([.ref g, .int (nI r), .int (nI t)]) (n := 5) (Nat.le_of_ble_eq_true rfl)
  rw [lg_entry_eq]
  generalize (lg_sl ([.ref g, .int (nI r), .int (nI t)]) ++ List.replicate (5 - (lg_sl ([.ref g, .int (nI r), .int (nI t)])).length) Slot.unset).toArray = ls at hl ⊢
  have hl : lv_has ls 5 [(0, .ref g), (1, .int (nI r)), (2, .int (nI t))] := hl
  have hsz := hI.sz
  refine lv_iconst (v := nI 0) hx hb dX5_lengthFrom_0 (by decide) ?_
  refine lv_istore_n (lv' := [(3, .int (nI 0)), (0, .ref g), (1, .int (nI r)), (2, .int (nI t))]) hx hb dX5_lengthFrom_1 rfl hl (by decide) rfl (fun ls hl => ?_)
  refine lv_iload_n hx hb dX5_lengthFrom_2 rfl (lv_at hl 2 rfl) ?_
  refine lv_istore (lv' := [(4, .int (nI r)), (3, .int (nI 0)), (0, .ref g), (1, .int (nI r)), (2, .int (nI t))]) hx hb dX5_lengthFrom_3 hl (by decide) rfl (fun ls hl => ?_)
  have lp5 : ∀ (n : Nat) (i : Nat), V 16 - i < n → (r ≤ i) → (i ≤ V 16) → (i - r + lnR V i t = lnR V r t) → ∀ ls : Array Slot, lv_has ls 5 [(4, .int (nI i)), (3, .int (nI (i - r))), (0, .ref g), (1, .int (nI r)), (2, .int (nI t))] → W p l e (headSpec wsX5_lengthFrom ({ frames := 2, cells := 0, slots := 0, locals := 43 })).room s m ([.ref g, .int (nI r), .int (nI t)] : List Value).toArray below meth c s.heap [] 0 0 (MQ below (vp_Si (fun rz => rz = nI (lnR V r t))) ([.ref g, .int (nI r), .int (nI t)] : List Value).toArray s 0 0 (fun _ => False)) (F0 m 5 ls []) := by
    intro n
    induction n with
    | zero => intro i hm; exact absurd hm (Nat.not_lt_zero _)
    | succ n ih5 =>
      intro i hm h0 hi hf ls hl
      refine lv_iload hx hb dX5_lengthFrom_5 (lv_at hl 0 rfl) ?_
      refine lv_aload_n hx hb dX5_lengthFrom_7 rfl (lv_at hl 2 rfl) ?_
      refine va_get (D := D) (ci := 5) (v := .ref (h 0)) (C := RX5) (T := TX5) (N := 1) hx hb hts hin_X5 hown hK.1 hP 0 rfl rfl 0 (by decide) f_9 (fun _ h9 => h9) rfl dX5_lengthFrom_8 ?_
      refine va_get (D := D) (ci := 2) (v := .int (nI (V 16))) (C := RX2) (T := TX2) (N := 8) hx hb hts hin_X2 hown hK.1 hP 1 rfl rfl 4 (by decide) f_30 (fun _ h9 => h9) rfl dX5_lengthFrom_11 ?_
      refine xn_icmp_ge hx hb (by omega) (by omega) (tgt := 39) dX5_lengthFrom_14 (by decide) (fun kc14 => ?_) (fun kc14 => ?_)
      · refine lv_iload_n hx hb dX5_lengthFrom_39 rfl (lv_at hl 1 rfl) ?_
        exact xr_i hx hb hr hlocks dX5_lengthFrom_40 (congrArg nI (by first | (have q := lnF_0 (V := V) (t := t) (r := i) (by omega) kc27; omega) | (have q := lnF_e (V := V) (t := t) (r := i) kc14; omega)))
      · have hsb := sndN_lt (V := V) (r := i) (t := t)
        refine lv_aload_n hx hb dX5_lengthFrom_17 rfl (lv_at hl 2 rfl) ?_
        refine va_get (D := D) (ci := 5) (v := .ref (h 0)) (C := RX5) (T := TX5) (N := 1) hx hb hts hin_X5 hown hK.1 hP 0 rfl rfl 0 (by decide) f_9 (fun _ h9 => h9) rfl dX5_lengthFrom_18 ?_
        refine lv_iload hx hb dX5_lengthFrom_21 (lv_at hl 0 rfl) ?_
        refine lv_iload_n hx hb dX5_lengthFrom_23 rfl (lv_at hl 4 rfl) ?_
        refine xc_V (As := [.int (nI i), .int (nI t)]) (rest := []) ⟨hx, hb, hml, hown, hts⟩ (c_X2_soundsAt_n l D y h V q hR hI i (by omega) t (by omega)) (cwV 2 hts gX5_lengthFrom_X2_soundsAt rfl rfl rfl hd_X2_soundsAt ⟨Nat.le_of_ble_eq_true rfl, Nat.le_of_ble_eq_true rfl⟩) (xpv_r hK hP [1, 2, 3, 4, 5] 1 rfl rfl rfl) rfl hl.1 rfl (Nat.le_of_ble_eq_true rfl) dX5_lengthFrom_24 ⟨Nat.zero_le _, Nat.zero_le _⟩ (fun r1 hr1 => ?_)
        subst hr1
        refine xn_if_eq hx hb (by omega) (tgt := 39) dX5_lengthFrom_27 (by decide) (fun kc27 => ?_) (fun kc27 => ?_)
        · refine lv_iload_n hx hb dX5_lengthFrom_39 rfl (lv_at hl 1 rfl) ?_
          exact xr_i hx hb hr hlocks dX5_lengthFrom_40 (congrArg nI (by first | (have q := lnF_0 (V := V) (t := t) (r := i) (by omega) kc27; omega) | (have q := lnF_e (V := V) (t := t) (r := i) kc14; omega)))
        · refine lv_iinc (v := nI (i - r + 1)) (lv' := [(3, .int (nI (i - r + 1))), (4, .int (nI i)), (0, .ref g), (1, .int (nI r)), (2, .int (nI t))]) hx hb dX5_lengthFrom_30 hl (k := 1) rfl (nI_add (i - r) 1) (by decide) rfl (fun ls hl => ?_)
          refine lv_iinc (v := nI (i + 1)) (lv' := [(4, .int (nI (i + 1))), (3, .int (nI (i - r + 1))), (0, .ref g), (1, .int (nI r)), (2, .int (nI t))]) hx hb dX5_lengthFrom_33 hl (k := 1) rfl (nI_add i 1) (by decide) rfl (fun ls hl => ?_)
          refine lv_goto (tgt := 5) hx hb dX5_lengthFrom_36 (by decide) ?_
          have e2 : (i - r + 1) = ((i + 1) - r) := by omega
          exact ih5 (i + 1) (by omega) (by omega) (by omega) (by have q := lnF_s (V := V) (t := t) (r := i) (by omega) (by omega); omega) ls (xl_eq (b := [(4, .int (nI (i + 1))), (3, .int (nI ((i + 1) - r))), (0, .ref g), (1, .int (nI r)), (2, .int (nI t))]) (lv_sub (l' := [(4, .int (nI (i + 1))), (3, .int (nI (i - r + 1))), (0, .ref g), (1, .int (nI r)), (2, .int (nI t))]) hl [0, 1, 2, 3, 4] rfl) (xk rfl (xk (congrArg (fun z : Nat => Value.int (nI z)) e2) (xk rfl (xk rfl (xk rfl (rfl : ([] : List (Nat × Value)) = [])))))))
  have e3 : 0 = (r - r) := by omega
  exact lp5 ((V 16 - r) + 1) r (Nat.lt_succ_self _) (by omega) (by omega) (by omega) ls (xl_eq (b := [(4, .int (nI r)), (3, .int (nI (r - r))), (0, .ref g), (1, .int (nI r)), (2, .int (nI t))]) (lv_sub (l' := [(4, .int (nI r)), (3, .int (nI 0)), (0, .ref g), (1, .int (nI r)), (2, .int (nI t))]) hl [0, 1, 2, 3, 4] rfl) (xk rfl (xk (congrArg (fun z : Nat => Value.int (nI z)) e3) (xk rfl (xk rfl (xk rfl (rfl : ([] : List (Nat × Value)) = [])))))))
set_option maxHeartbeats 8000000 in
set_option maxRecDepth 100000 in
theorem c_X5_inKey (l : Launch) (D : va_G) (y : Nat → ClassId) (g : Nat) (h : Nat → Nat) (V : Nat → Nat) (q : Nat → Nat → Int32) (hR : RepC V q) (hI : Inv V) (k : Nat) (hk0 : k < 12) : Met l yX5_inKey wsX5_inKey ({ frames := 4, cells := 0, slots := 0, locals := 88 }) (va_Pc [.ref g, .int (nI k)] (xPr D y [(g, .inr (5, [.ref (h 0)])), (h 0, .inr (2, [.ref (h 1), .ref (h 2), .ref (h 3), .ref (h 4), .int (nI (V 16)), .int (nI (V 67)), .int (rmb V), .int (nI (V 66))])), (h 1, .inl (y 1, 8, .inl (q 0))), (h 2, .inl (y 1, 8, .inl (q 1))), (h 3, .inl (y 1, 24, .inl (q 2))), (h 4, .inl (y 1, 4, .inl (q 3)))])) (vp_Si (fun rz => rz = nI (keN V k))) 0 0 (fun _ => False) := by
  refine Met.ofW (cc := cX5_inKey) (maxL := 5) (ret := (some .int)) (by decide) rfl ?_
  intro p e s m args below meth c s₁ B hml hv
  obtain ⟨rfl, hP, hK⟩ := hv
  have hx := B.exec
  have hb := B.bytes
  have hr := B.returns
  have hts := atoms_spec (ws := wsX5_inKey) B.pre
  have hown : s.vm.findClass RX5 = some m.cls := findClass_of_methodNamed B.named
  have hlocks := B.notSynchronized
  have f_9 := hts (.fieldLink RX5 9 "LoomTunes$Tones" "register" "LLoomTunes$Register;") (by decide +kernel)
  have hin_X5 : ∀ w ∈ wsX50, w ∈ wsX5_inKey := by decide +kernel
  have hP : va_P D vwCl [(g, .inr (5, [.ref (h 0)])), (h 0, .inr (2, [.ref (h 1), .ref (h 2), .ref (h 3), .ref (h 4), .int (nI (V 16)), .int (nI (V 67)), .int (rmb V), .int (nI (V 66))])), (h 1, .inl (y 1, 8, .inl (q 0))), (h 2, .inl (y 1, 8, .inl (q 1))), (h 3, .inl (y 1, 24, .inl (q 2))), (h 4, .inl (y 1, 4, .inl (q 3)))] s.heap := hP
  have hl := lv_entry ([.ref g, .int (nI k)]) (n := 5) (Nat.le_of_ble_eq_true rfl)
  rw [lg_entry_eq]
  generalize (lg_sl ([.ref g, .int (nI k)]) ++ List.replicate (5 - (lg_sl ([.ref g, .int (nI k)])).length) Slot.unset).toArray = ls at hl ⊢
  have hl : lv_has ls 5 [(0, .ref g), (1, .int (nI k))] := hl
  have hnt : ∀ {k : Nat}, k < 8 → V k < 48 := fun hk => hI.nt hk
  refine lv_iconst (v := nI 0) hx hb dX5_inKey_0 (by decide) ?_
  refine lv_istore_n (lv' := [(2, .int (nI 0)), (0, .ref g), (1, .int (nI k))]) hx hb dX5_inKey_1 rfl hl (by decide) rfl (fun ls hl => ?_)
  refine lv_iconst (v := nI 0) hx hb dX5_inKey_2 (by decide) ?_
  refine lv_istore_n (lv' := [(3, .int (nI 0)), (2, .int (nI 0)), (0, .ref g), (1, .int (nI k))]) hx hb dX5_inKey_3 rfl hl (by decide) rfl (fun ls hl => ?_)
  have lp4 : ∀ (n : Nat) (i : Nat), 8 - i < n → (i ≤ 8) → ∀ ls : Array Slot, lv_has ls 5 [(3, .int (nI i)), (2, .int (nI (sN (fun t => bv 2741 ((V t + 12 - k) % 12) * toT V t) i))), (0, .ref g), (1, .int (nI k))] → W p l e (headSpec wsX5_inKey ({ frames := 4, cells := 0, slots := 0, locals := 88 })).room s m ([.ref g, .int (nI k)] : List Value).toArray below meth c s.heap [] 0 0 (MQ below (vp_Si (fun rz => rz = nI (keN V k))) ([.ref g, .int (nI k)] : List Value).toArray s 0 0 (fun _ => False)) (F0 m 4 ls []) := by
    intro n
    induction n with
    | zero => intro i hm; exact absurd hm (Nat.not_lt_zero _)
    | succ n ih4 =>
      intro i hm hi ls hl
      refine lv_iload_n hx hb dX5_inKey_4 rfl (lv_at hl 0 rfl) ?_
      refine lv_bipush (v := nI 8) hx hb dX5_inKey_5 (by decide) ?_
      refine xn_icmp_ge hx hb (by omega) (by omega) (tgt := 53) dX5_inKey_7 (by decide) (fun kc7 => ?_) (fun kc7 => ?_)
      · refine lv_iload_n hx hb dX5_inKey_53 rfl (lv_at hl 1 rfl) ?_
        exact xr_i hx hb hr hlocks dX5_inKey_54 (congrArg nI (by rw [show i = 8 by omega]))
      · have hni := hnt (k := i) (by omega)
        have hbb := bv_lt (h := 2741) (k := (V i + 12 - k) % 12)
        refine lv_aload_n hx hb dX5_inKey_10 rfl (lv_at hl 2 rfl) ?_
        refine va_get (D := D) (ci := 5) (v := .ref (h 0)) (C := RX5) (T := TX5) (N := 1) hx hb hts hin_X5 hown hK.1 hP 0 rfl rfl 0 (by decide) f_9 (fun _ h9 => h9) rfl dX5_inKey_11 ?_
        refine lv_iload_n hx hb dX5_inKey_14 rfl (lv_at hl 0 rfl) ?_
        refine xc_V (As := [.int (nI i)]) (rest := []) ⟨hx, hb, hml, hown, hts⟩ (c_X2_noteAt l D y h V q hR hI i (by omega)) (cwV 1 hts gX5_inKey_X2_noteAt rfl rfl rfl hd_X2_noteAt ⟨Nat.le_of_ble_eq_true rfl, Nat.le_of_ble_eq_true rfl⟩) (xpv_r hK hP [1, 2, 3, 4, 5] 1 rfl rfl rfl) rfl hl.1 rfl (Nat.le_of_ble_eq_true rfl) dX5_inKey_15 ⟨Nat.zero_le _, Nat.zero_le _⟩ (fun r1 hr1 => ?_)
        subst hr1
        refine lv_bipush (v := nI 12) hx hb dX5_inKey_18 (by decide) ?_
        refine xn_add hx hb (r := ((V i) + 12)) rfl dX5_inKey_20 ?_
        refine lv_iload_n hx hb dX5_inKey_21 rfl (lv_at hl 3 rfl) ?_
        refine xn_sub hx hb (r := (((V i) + 12) - k)) (by omega) rfl dX5_inKey_22 ?_
        refine lv_bipush (v := nI 12) hx hb dX5_inKey_23 (by decide) ?_
        refine xn_rem hx hb (r := ((((V i) + 12) - k) % 12)) (by omega) (by omega) (by omega) rfl dX5_inKey_25 ?_
        refine lv_istore (lv' := [(4, .int (nI ((((V i) + 12) - k) % 12))), (3, .int (nI i)), (2, .int (nI (sN (fun t => bv 2741 ((V t + 12 - k) % 12) * toT V t) i))), (0, .ref g), (1, .int (nI k))]) hx hb dX5_inKey_26 hl (by decide) rfl (fun ls hl => ?_)
        refine lv_sipush (v := nI 2741) hx hb dX5_inKey_28 (by decide) ?_
        refine lv_iload hx hb dX5_inKey_31 (lv_at hl 0 rfl) ?_
        refine xc_SN (As := [.int (nI 2741), .int (nI ((((V i) + 12) - k) % 12))]) (rest := []) ⟨hx, hb, hml, hown, hts⟩ (c_X6_isIn l 2741 ((((V i) + 12) - k) % 12) (by omega) (by omega)) ⟨va_cnB 2 hts gX5_inKey_X6_isIn_n44 rfl rfl rfl hK.2.2.2 (hts (.initialized RX6) (by decide +kernel)) hd_X6_isIn.2 ⟨Nat.le_of_ble_eq_true rfl, Nat.le_of_ble_eq_true rfl⟩, hts (.static yX6_isIn) (by decide +kernel), trivial⟩ xps_0 rfl hl.1 rfl (Nat.le_of_ble_eq_true rfl) dX5_inKey_33 ⟨Nat.zero_le _, Nat.zero_le _⟩ (fun r2 hr2 => ?_)
        subst hr2
        refine xn_if_eq hx hb (by omega) (tgt := 47) dX5_inKey_36 (by decide) (fun kc36 => ?_) (fun kc36 => ?_)
        · refine lv_iinc (v := nI (i + 1)) (lv' := [(3, .int (nI (i + 1))), (4, .int (nI ((((V i) + 12) - k) % 12))), (2, .int (nI (sN (fun t => bv 2741 ((V t + 12 - k) % 12) * toT V t) i))), (0, .ref g), (1, .int (nI k))]) hx hb dX5_inKey_47 hl (k := 1) rfl (nI_add i 1) (by decide) rfl (fun ls hl => ?_)
          refine lv_goto (tgt := 4) hx hb dX5_inKey_50 (by decide) ?_
          have e3 : (sN (fun t => bv 2741 ((V t + 12 - k) % 12) * toT V t) i) = (sN (fun t => bv 2741 ((V t + 12 - k) % 12) * toT V t) (i + 1)) := by rw [sN_s]; first | rw [kc36, Nat.zero_mul, Nat.add_zero] | rw [show bv 2741 ((V i + 12 - k) % 12) = 1 by omega, Nat.one_mul]
          exact ih4 (i + 1) (by omega) (by omega) ls (xl_eq (b := [(3, .int (nI (i + 1))), (2, .int (nI (sN (fun t => bv 2741 ((V t + 12 - k) % 12) * toT V t) (i + 1)))), (0, .ref g), (1, .int (nI k))]) (lv_sub (l' := [(3, .int (nI (i + 1))), (2, .int (nI (sN (fun t => bv 2741 ((V t + 12 - k) % 12) * toT V t) i))), (0, .ref g), (1, .int (nI k))]) hl [0, 2, 3, 4] rfl) (xk rfl (xk (congrArg (fun z : Nat => Value.int (nI z)) e3) (xk rfl (xk rfl (rfl : ([] : List (Nat × Value)) = []))))))
        · refine lv_iload_n hx hb dX5_inKey_39 rfl (lv_at hl 2 rfl) ?_
          refine lv_aload_n hx hb dX5_inKey_40 rfl (lv_at hl 3 rfl) ?_
          refine lv_iload_n hx hb dX5_inKey_41 rfl (lv_at hl 1 rfl) ?_
          refine xc_V (As := [.int (nI i)]) (rest := [.int (nI (sN (fun t => bv 2741 ((V t + 12 - k) % 12) * toT V t) i))]) ⟨hx, hb, hml, hown, hts⟩ (c_X5_ofThread l D y g h V q hR hI i (by omega)) (cwV 1 hts gX5_inKey_X5_ofThread rfl rfl rfl hd_X5_ofThread ⟨Nat.le_of_ble_eq_true rfl, Nat.le_of_ble_eq_true rfl⟩) (xpv_r hK hP [0, 1, 2, 3, 4, 5] 0 rfl rfl rfl) rfl hl.1 rfl (Nat.le_of_ble_eq_true rfl) dX5_inKey_42 ⟨Nat.zero_le _, Nat.zero_le _⟩ (fun r4 hr4 => ?_)
          subst hr4
          refine xn_add hx hb (r := ((sN (fun t => bv 2741 ((V t + 12 - k) % 12) * toT V t) i) + (toT V i))) rfl dX5_inKey_45 ?_
          refine lv_istore_n (lv' := [(2, .int (nI ((sN (fun t => bv 2741 ((V t + 12 - k) % 12) * toT V t) i) + (toT V i)))), (4, .int (nI ((((V i) + 12) - k) % 12))), (3, .int (nI i)), (0, .ref g), (1, .int (nI k))]) hx hb dX5_inKey_46 rfl hl (by decide) rfl (fun ls hl => ?_)
          refine lv_iinc (v := nI (i + 1)) (lv' := [(3, .int (nI (i + 1))), (2, .int (nI ((sN (fun t => bv 2741 ((V t + 12 - k) % 12) * toT V t) i) + (toT V i)))), (4, .int (nI ((((V i) + 12) - k) % 12))), (0, .ref g), (1, .int (nI k))]) hx hb dX5_inKey_47 hl (k := 2) rfl (nI_add i 1) (by decide) rfl (fun ls hl => ?_)
          refine lv_goto (tgt := 4) hx hb dX5_inKey_50 (by decide) ?_
          have e5 : ((sN (fun t => bv 2741 ((V t + 12 - k) % 12) * toT V t) i) + (toT V i)) = (sN (fun t => bv 2741 ((V t + 12 - k) % 12) * toT V t) (i + 1)) := by rw [sN_s]; first | rw [kc36, Nat.zero_mul, Nat.add_zero] | rw [show bv 2741 ((V i + 12 - k) % 12) = 1 by omega, Nat.one_mul]
          exact ih4 (i + 1) (by omega) (by omega) ls (xl_eq (b := [(3, .int (nI (i + 1))), (2, .int (nI (sN (fun t => bv 2741 ((V t + 12 - k) % 12) * toT V t) (i + 1)))), (0, .ref g), (1, .int (nI k))]) (lv_sub (l' := [(3, .int (nI (i + 1))), (2, .int (nI ((sN (fun t => bv 2741 ((V t + 12 - k) % 12) * toT V t) i) + (toT V i)))), (0, .ref g), (1, .int (nI k))]) hl [0, 1, 3, 4] rfl) (xk rfl (xk (congrArg (fun z : Nat => Value.int (nI z)) e5) (xk rfl (xk rfl (rfl : ([] : List (Nat × Value)) = []))))))
  have e6 : 0 = (sN (fun t => bv 2741 ((V t + 12 - k) % 12) * toT V t) 0) := rfl
  exact lp4 ((8 - 0) + 1) 0 (Nat.lt_succ_self _) (by omega) ls (xl_eq (b := [(3, .int (nI 0)), (2, .int (nI (sN (fun t => bv 2741 ((V t + 12 - k) % 12) * toT V t) 0))), (0, .ref g), (1, .int (nI k))]) (lv_sub (l' := [(3, .int (nI 0)), (2, .int (nI 0)), (0, .ref g), (1, .int (nI k))]) hl [0, 1, 2, 3] rfl) (xk rfl (xk (congrArg (fun z : Nat => Value.int (nI z)) e6) (xk rfl (xk rfl (rfl : ([] : List (Nat × Value)) = []))))))
