set_option maxHeartbeats 8000000 in
set_option maxRecDepth 100000 in
theorem c_X6_isIn (l : Launch) (h k : Nat) (hh : h < 2 ^ 31) (hk : k < 32) : Met l yX6_isIn wsX6_isIn ({ frames := 0, cells := 0, slots := 0, locals := 0 }) (va_Pc [.int (nI h), .int (nI k)] (fun _ => True)) (vp_Si (fun rz => rz = nI (bv h k))) 0 0 (fun _ => False) := by
  refine Met.ofW (cc := cX6_isIn) (maxL := 2) (ret := (some .boolean)) (by decide) rfl ?_
  intro p e s m args below meth c s₁ B hml hv
  obtain ⟨rfl, -⟩ := hv
  have hx := B.exec
  have hb := B.bytes
  have hr := B.returns
  have hts := atoms_spec (ws := wsX6_isIn) B.pre
  have hown : s.vm.findClass RX6 = some m.cls := findClass_of_methodNamed B.named
  have hlocks := B.notSynchronized
  have hl := lv_entry ([.int (nI h), .int (nI k)]) (n := 2) (Nat.le_of_ble_eq_true rfl)
  rw [lg_entry_eq]
  generalize (lg_sl ([.int (nI h), .int (nI k)]) ++ List.replicate (2 - (lg_sl ([.int (nI h), .int (nI k)])).length) Slot.unset).toArray = ls at hl ⊢
  have hl : lv_has ls 2 [(0, .int (nI h)), (1, .int (nI k))] := hl
  refine lv_iload_n hx hb dX6_isIn_0 rfl (lv_at hl 0 rfl) ?_
  refine lv_iload_n hx hb dX6_isIn_1 rfl (lv_at hl 1 rfl) ?_
  refine xn_shr hx hb (r := (h / 2 ^ k)) (by omega) (by omega) rfl dX6_isIn_2 ?_
  refine lv_iconst (v := nI 1) hx hb dX6_isIn_3 (by decide) ?_
  refine xn_and hx hb (r := ((h / 2 ^ k) % 2)) (Nat.and_one_is_mod _) dX6_isIn_4 ?_
  refine lv_iconst (v := nI 1) hx hb dX6_isIn_5 (by decide) ?_
  refine xn_icmp_ne hx hb (by omega) (by omega) (tgt := 13) dX6_isIn_6 (by decide) (fun kc6 => ?_) (fun kc6 => ?_)
  · refine lv_iconst (v := nI 0) hx hb dX6_isIn_13 (by decide) ?_
    exact xr_z hx hb hr hlocks dX6_isIn_14 (by omega) (congrArg nI (by unfold bv; omega))
  · refine lv_iconst (v := nI 1) hx hb dX6_isIn_9 (by decide) ?_
    refine lv_goto (tgt := 14) hx hb dX6_isIn_10 (by decide) ?_
    exact xr_z hx hb hr hlocks dX6_isIn_14 (by omega) (congrArg nI (by unfold bv; omega))
set_option maxHeartbeats 8000000 in
set_option maxRecDepth 100000 in
theorem c_X6_mirrored (l : Launch) (h : Nat) (hh : h < 256) : Met l yX6_mirrored wsX6_mirrored ({ frames := 1, cells := 0, slots := 0, locals := 21 }) (va_Pc [.int (nI h)] (fun _ => True)) (vp_Si (fun rz => rz = nI (mir h))) 0 0 (fun _ => False) := by
  refine Met.ofW (cc := cX6_mirrored) (maxL := 3) (ret := (some .int)) (by decide) rfl ?_
  intro p e s m args below meth c s₁ B hml hv
  obtain ⟨rfl, -⟩ := hv
  have hx := B.exec
  have hb := B.bytes
  have hr := B.returns
  have hts := atoms_spec (ws := wsX6_mirrored) B.pre
  have hown : s.vm.findClass RX6 = some m.cls := findClass_of_methodNamed B.named
  have hlocks := B.notSynchronized
  have hl := lv_entry ([.int (nI h)]) (n := 3) (Nat.le_of_ble_eq_true rfl)
  rw [lg_entry_eq]
  generalize (lg_sl ([.int (nI h)]) ++ List.replicate (3 - (lg_sl ([.int (nI h)])).length) Slot.unset).toArray = ls at hl ⊢
  have hl : lv_has ls 3 [(0, .int (nI h))] := hl
  refine lv_iconst (v := nI 0) hx hb dX6_mirrored_0 (by decide) ?_
  refine lv_istore_n (lv' := [(1, .int (nI 0)), (0, .int (nI h))]) hx hb dX6_mirrored_1 rfl hl (by decide) rfl (fun ls hl => ?_)
  refine lv_iconst (v := nI 0) hx hb dX6_mirrored_2 (by decide) ?_
  refine lv_istore_n (lv' := [(2, .int (nI 0)), (1, .int (nI 0)), (0, .int (nI h))]) hx hb dX6_mirrored_3 rfl hl (by decide) rfl (fun ls hl => ?_)
  have lp4 : ∀ (n : Nat) (i : Nat), 8 - i < n → (i ≤ 8) → ∀ ls : Array Slot, lv_has ls 3 [(2, .int (nI i)), (1, .int (nI (mirA h i))), (0, .int (nI h))] → W p l e (headSpec wsX6_mirrored ({ frames := 1, cells := 0, slots := 0, locals := 21 })).room s m ([.int (nI h)] : List Value).toArray below meth c s.heap [] 0 0 (MQ below (vp_Si (fun rz => rz = nI (mir h))) ([.int (nI h)] : List Value).toArray s 0 0 (fun _ => False)) (F0 m 4 ls []) := by
    intro n
    induction n with
    | zero => intro i hm; exact absurd hm (Nat.not_lt_zero _)
    | succ n ih4 =>
      intro i hm hi ls hl
      refine lv_iload_n hx hb dX6_mirrored_4 rfl (lv_at hl 0 rfl) ?_
      refine lv_bipush (v := nI 8) hx hb dX6_mirrored_5 (by decide) ?_
      refine xn_icmp_ge hx hb (by omega) (by omega) (tgt := 33) dX6_mirrored_7 (by decide) (fun kc7 => ?_) (fun kc7 => ?_)
      · refine lv_iload_n hx hb dX6_mirrored_33 rfl (lv_at hl 1 rfl) ?_
        exact xr_i hx hb hr hlocks dX6_mirrored_34 (by rw [show i = 8 by omega]; rfl)
      · refine lv_iload_n hx hb dX6_mirrored_10 rfl (lv_at hl 2 rfl) ?_
        refine lv_iload_n hx hb dX6_mirrored_11 rfl (lv_at hl 0 rfl) ?_
        refine xc_S (As := [.int (nI h), .int (nI i)]) (rest := []) ⟨hx, hb, hml, hown, hts⟩ (c_X6_isIn l h i (by omega) (by omega)) (va_cwS 2 hts gX6_mirrored_X6_isIn rfl rfl rfl hd_X6_isIn.2 ⟨Nat.le_of_ble_eq_true rfl, Nat.le_of_ble_eq_true rfl⟩) xps_0 rfl hl.1 rfl (Nat.le_of_ble_eq_true rfl) dX6_mirrored_12 ⟨Nat.zero_le _, Nat.zero_le _⟩ (fun r1 hr1 => ?_)
        subst hr1
        refine xn_if_eq hx hb (by have := bv_lt (h := h) (k := i); omega) (tgt := 27) dX6_mirrored_15 (by decide) (fun kc15 => ?_) (fun kc15 => ?_)
        · refine lv_iinc (v := nI (i + 1)) (lv' := [(2, .int (nI (i + 1))), (1, .int (nI (mirA h i))), (0, .int (nI h))]) hx hb dX6_mirrored_27 hl (k := 0) rfl (nI_add i 1) (by decide) rfl (fun ls hl => ?_)
          refine lv_goto (tgt := 4) hx hb dX6_mirrored_30 (by decide) ?_
          have e2 : (mirA h i) = (mirA h (i + 1)) := by have := bv_or (h := h) (k := i); simp only [mirA]; split <;> first | rfl | omega
          exact ih4 (i + 1) (by omega) (by omega) ls (xl_eq (b := [(2, .int (nI (i + 1))), (1, .int (nI (mirA h (i + 1)))), (0, .int (nI h))]) (lv_sub (l' := [(2, .int (nI (i + 1))), (1, .int (nI (mirA h i))), (0, .int (nI h))]) hl [0, 1, 2] rfl) (xk rfl (xk (congrArg (fun z : Nat => Value.int (nI z)) e2) (xk rfl (rfl : ([] : List (Nat × Value)) = [])))))
        · refine lv_iload_n hx hb dX6_mirrored_18 rfl (lv_at hl 1 rfl) ?_
          refine lv_iconst (v := nI 1) hx hb dX6_mirrored_19 (by decide) ?_
          refine lv_bipush (v := nI 7) hx hb dX6_mirrored_20 (by decide) ?_
          refine lv_iload_n hx hb dX6_mirrored_22 rfl (lv_at hl 0 rfl) ?_
          refine xn_sub hx hb (r := (7 - i)) (by omega) rfl dX6_mirrored_23 ?_
          refine xn_shl hx hb (r := (1 * 2 ^ (7 - i))) (by omega) (by have : 2 ^ (7 - i) ≤ 2 ^ 7 := Nat.pow_le_pow_right (by decide) (by omega); omega) rfl dX6_mirrored_24 ?_
          refine xn_or hx hb (r := ((mirA h i) ||| (1 * 2 ^ (7 - i)))) rfl dX6_mirrored_25 ?_
          refine lv_istore_n (lv' := [(1, .int (nI ((mirA h i) ||| (1 * 2 ^ (7 - i))))), (2, .int (nI i)), (0, .int (nI h))]) hx hb dX6_mirrored_26 rfl hl (by decide) rfl (fun ls hl => ?_)
          refine lv_iinc (v := nI (i + 1)) (lv' := [(2, .int (nI (i + 1))), (1, .int (nI ((mirA h i) ||| (1 * 2 ^ (7 - i))))), (0, .int (nI h))]) hx hb dX6_mirrored_27 hl (k := 1) rfl (nI_add i 1) (by decide) rfl (fun ls hl => ?_)
          refine lv_goto (tgt := 4) hx hb dX6_mirrored_30 (by decide) ?_
          have e3 : ((mirA h i) ||| (1 * 2 ^ (7 - i))) = (mirA h (i + 1)) := by have := bv_or (h := h) (k := i); simp only [mirA]; split <;> first | rfl | omega
          exact ih4 (i + 1) (by omega) (by omega) ls (xl_eq (b := [(2, .int (nI (i + 1))), (1, .int (nI (mirA h (i + 1)))), (0, .int (nI h))]) (lv_sub (l' := [(2, .int (nI (i + 1))), (1, .int (nI ((mirA h i) ||| (1 * 2 ^ (7 - i))))), (0, .int (nI h))]) hl [0, 1, 2] rfl) (xk rfl (xk (congrArg (fun z : Nat => Value.int (nI z)) e3) (xk rfl (rfl : ([] : List (Nat × Value)) = [])))))
  have e4 : 0 = (mirA h 0) := rfl
  exact lp4 ((8 - 0) + 1) 0 (Nat.lt_succ_self _) (by omega) ls (xl_eq (b := [(2, .int (nI 0)), (1, .int (nI (mirA h 0))), (0, .int (nI h))]) (lv_sub (l' := [(2, .int (nI 0)), (1, .int (nI 0)), (0, .int (nI h))]) hl [0, 1, 2] rfl) (xk rfl (xk (congrArg (fun z : Nat => Value.int (nI z)) e4) (xk rfl (rfl : ([] : List (Nat × Value)) = [])))))
set_option maxHeartbeats 8000000 in
set_option maxRecDepth 100000 in
theorem c_J6_bitCount_0f7a4 (l : Launch) (h : Nat) (hh : h < 256) : Met l yJ6_bitCount_0f7a4 wsJ6_bitCount_0f7a4 ({ frames := 0, cells := 0, slots := 0, locals := 0 }) (va_Pc [.int (nI h)] (fun _ => True)) (vp_Si (fun rz => rz = nI (pop h))) 0 0 (fun _ => False) := by
  refine Met.ofW (cc := cJ6_bitCount_0f7a4) (maxL := 1) (ret := (some .int)) (by decide) rfl ?_
  intro p e s m args below meth c s₁ B hml hv
  obtain ⟨rfl, -⟩ := hv
  have hx := B.exec
  have hb := B.bytes
  have hr := B.returns
  have hts := atoms_spec (ws := wsJ6_bitCount_0f7a4) B.pre
  have hown : s.vm.findClass RJ6 = some m.cls := findClass_of_methodNamed B.named
  have hlocks := B.notSynchronized
  have f_265 := hts (.constant RJ6 265 (1431655765)) (by decide +kernel)
  have f_266 := hts (.constant RJ6 266 (858993459)) (by decide +kernel)
  have f_267 := hts (.constant RJ6 267 (252645135)) (by decide +kernel)
  have hl := lv_entry ([.int (nI h)]) (n := 1) (Nat.le_of_ble_eq_true rfl)
  rw [lg_entry_eq]
  generalize (lg_sl ([.int (nI h)]) ++ List.replicate (1 - (lg_sl ([.int (nI h)])).length) Slot.unset).toArray = ls at hl ⊢
  have hl : lv_has ls 1 [(0, .int (nI h))] := hl
  refine lv_iload_n hx hb dJ6_bitCount_0f7a4_0 rfl (lv_at hl 0 rfl) ?_
  refine lv_iload_n hx hb dJ6_bitCount_0f7a4_1 rfl (lv_at hl 0 rfl) ?_
  refine lv_iconst (v := nI 1) hx hb dJ6_bitCount_0f7a4_2 (by decide) ?_
  refine lv_iushr hx hb dJ6_bitCount_0f7a4_3 rfl ?_
  refine lv_ldcw hx hb hown f_265 dJ6_bitCount_0f7a4_4 ?_
  refine lv_iand hx hb dJ6_bitCount_0f7a4_7 ?_
  refine lv_isub hx hb dJ6_bitCount_0f7a4_8 ?_
  refine lv_istore_n (lv' := [(0, .int ((nI h) - ((((nI h).toUInt32 >>> ((nI 1).toUInt32 &&& Int32.toUInt32 31)).toInt32) &&& 1431655765)))]) hx hb dJ6_bitCount_0f7a4_9 rfl hl (by decide) rfl (fun ls hl => ?_)
  refine lv_iload_n hx hb dJ6_bitCount_0f7a4_10 rfl (lv_at hl 0 rfl) ?_
  refine lv_ldcw hx hb hown f_266 dJ6_bitCount_0f7a4_11 ?_
  refine lv_iand hx hb dJ6_bitCount_0f7a4_14 ?_
  refine lv_iload_n hx hb dJ6_bitCount_0f7a4_15 rfl (lv_at hl 0 rfl) ?_
  refine lv_iconst (v := nI 2) hx hb dJ6_bitCount_0f7a4_16 (by decide) ?_
  refine lv_iushr hx hb dJ6_bitCount_0f7a4_17 rfl ?_
  refine lv_ldcw hx hb hown f_266 dJ6_bitCount_0f7a4_18 ?_
  refine lv_iand hx hb dJ6_bitCount_0f7a4_21 ?_
  refine lv_iadd hx hb dJ6_bitCount_0f7a4_22 ?_
  refine lv_istore_n (lv' := [(0, .int ((((nI h) - ((((nI h).toUInt32 >>> ((nI 1).toUInt32 &&& Int32.toUInt32 31)).toInt32) &&& 1431655765)) &&& 858993459) + (((((nI h) - ((((nI h).toUInt32 >>> ((nI 1).toUInt32 &&& Int32.toUInt32 31)).toInt32) &&& 1431655765)).toUInt32 >>> ((nI 2).toUInt32 &&& Int32.toUInt32 31)).toInt32) &&& 858993459)))]) hx hb dJ6_bitCount_0f7a4_23 rfl hl (by decide) rfl (fun ls hl => ?_)
  refine lv_iload_n hx hb dJ6_bitCount_0f7a4_24 rfl (lv_at hl 0 rfl) ?_
  refine lv_iload_n hx hb dJ6_bitCount_0f7a4_25 rfl (lv_at hl 0 rfl) ?_
  refine lv_iconst (v := nI 4) hx hb dJ6_bitCount_0f7a4_26 (by decide) ?_
  refine lv_iushr hx hb dJ6_bitCount_0f7a4_27 rfl ?_
  refine lv_iadd hx hb dJ6_bitCount_0f7a4_28 ?_
  refine lv_ldcw hx hb hown f_267 dJ6_bitCount_0f7a4_29 ?_
  refine lv_iand hx hb dJ6_bitCount_0f7a4_32 ?_
  refine lv_istore_n (lv' := [(0, .int ((((((nI h) - ((((nI h).toUInt32 >>> ((nI 1).toUInt32 &&& Int32.toUInt32 31)).toInt32) &&& 1431655765)) &&& 858993459) + (((((nI h) - ((((nI h).toUInt32 >>> ((nI 1).toUInt32 &&& Int32.toUInt32 31)).toInt32) &&& 1431655765)).toUInt32 >>> ((nI 2).toUInt32 &&& Int32.toUInt32 31)).toInt32) &&& 858993459)) + ((((((nI h) - ((((nI h).toUInt32 >>> ((nI 1).toUInt32 &&& Int32.toUInt32 31)).toInt32) &&& 1431655765)) &&& 858993459) + (((((nI h) - ((((nI h).toUInt32 >>> ((nI 1).toUInt32 &&& Int32.toUInt32 31)).toInt32) &&& 1431655765)).toUInt32 >>> ((nI 2).toUInt32 &&& Int32.toUInt32 31)).toInt32) &&& 858993459)).toUInt32 >>> ((nI 4).toUInt32 &&& Int32.toUInt32 31)).toInt32)) &&& 252645135))]) hx hb dJ6_bitCount_0f7a4_33 rfl hl (by decide) rfl (fun ls hl => ?_)
  refine lv_iload_n hx hb dJ6_bitCount_0f7a4_34 rfl (lv_at hl 0 rfl) ?_
  refine lv_iload_n hx hb dJ6_bitCount_0f7a4_35 rfl (lv_at hl 0 rfl) ?_
  refine lv_bipush (v := nI 8) hx hb dJ6_bitCount_0f7a4_36 (by decide) ?_
  refine lv_iushr hx hb dJ6_bitCount_0f7a4_38 rfl ?_
  refine lv_iadd hx hb dJ6_bitCount_0f7a4_39 ?_
  refine lv_istore_n (lv' := [(0, .int (((((((nI h) - ((((nI h).toUInt32 >>> ((nI 1).toUInt32 &&& Int32.toUInt32 31)).toInt32) &&& 1431655765)) &&& 858993459) + (((((nI h) - ((((nI h).toUInt32 >>> ((nI 1).toUInt32 &&& Int32.toUInt32 31)).toInt32) &&& 1431655765)).toUInt32 >>> ((nI 2).toUInt32 &&& Int32.toUInt32 31)).toInt32) &&& 858993459)) + ((((((nI h) - ((((nI h).toUInt32 >>> ((nI 1).toUInt32 &&& Int32.toUInt32 31)).toInt32) &&& 1431655765)) &&& 858993459) + (((((nI h) - ((((nI h).toUInt32 >>> ((nI 1).toUInt32 &&& Int32.toUInt32 31)).toInt32) &&& 1431655765)).toUInt32 >>> ((nI 2).toUInt32 &&& Int32.toUInt32 31)).toInt32) &&& 858993459)).toUInt32 >>> ((nI 4).toUInt32 &&& Int32.toUInt32 31)).toInt32)) &&& 252645135) + ((((((((nI h) - ((((nI h).toUInt32 >>> ((nI 1).toUInt32 &&& Int32.toUInt32 31)).toInt32) &&& 1431655765)) &&& 858993459) + (((((nI h) - ((((nI h).toUInt32 >>> ((nI 1).toUInt32 &&& Int32.toUInt32 31)).toInt32) &&& 1431655765)).toUInt32 >>> ((nI 2).toUInt32 &&& Int32.toUInt32 31)).toInt32) &&& 858993459)) + ((((((nI h) - ((((nI h).toUInt32 >>> ((nI 1).toUInt32 &&& Int32.toUInt32 31)).toInt32) &&& 1431655765)) &&& 858993459) + (((((nI h) - ((((nI h).toUInt32 >>> ((nI 1).toUInt32 &&& Int32.toUInt32 31)).toInt32) &&& 1431655765)).toUInt32 >>> ((nI 2).toUInt32 &&& Int32.toUInt32 31)).toInt32) &&& 858993459)).toUInt32 >>> ((nI 4).toUInt32 &&& Int32.toUInt32 31)).toInt32)) &&& 252645135).toUInt32 >>> ((nI 8).toUInt32 &&& Int32.toUInt32 31)).toInt32)))]) hx hb dJ6_bitCount_0f7a4_40 rfl hl (by decide) rfl (fun ls hl => ?_)
  refine lv_iload_n hx hb dJ6_bitCount_0f7a4_41 rfl (lv_at hl 0 rfl) ?_
  refine lv_iload_n hx hb dJ6_bitCount_0f7a4_42 rfl (lv_at hl 0 rfl) ?_
  refine lv_bipush (v := nI 16) hx hb dJ6_bitCount_0f7a4_43 (by decide) ?_
  refine lv_iushr hx hb dJ6_bitCount_0f7a4_45 rfl ?_
  refine lv_iadd hx hb dJ6_bitCount_0f7a4_46 ?_
  refine lv_istore_n (lv' := [(0, .int ((((((((nI h) - ((((nI h).toUInt32 >>> ((nI 1).toUInt32 &&& Int32.toUInt32 31)).toInt32) &&& 1431655765)) &&& 858993459) + (((((nI h) - ((((nI h).toUInt32 >>> ((nI 1).toUInt32 &&& Int32.toUInt32 31)).toInt32) &&& 1431655765)).toUInt32 >>> ((nI 2).toUInt32 &&& Int32.toUInt32 31)).toInt32) &&& 858993459)) + ((((((nI h) - ((((nI h).toUInt32 >>> ((nI 1).toUInt32 &&& Int32.toUInt32 31)).toInt32) &&& 1431655765)) &&& 858993459) + (((((nI h) - ((((nI h).toUInt32 >>> ((nI 1).toUInt32 &&& Int32.toUInt32 31)).toInt32) &&& 1431655765)).toUInt32 >>> ((nI 2).toUInt32 &&& Int32.toUInt32 31)).toInt32) &&& 858993459)).toUInt32 >>> ((nI 4).toUInt32 &&& Int32.toUInt32 31)).toInt32)) &&& 252645135) + ((((((((nI h) - ((((nI h).toUInt32 >>> ((nI 1).toUInt32 &&& Int32.toUInt32 31)).toInt32) &&& 1431655765)) &&& 858993459) + (((((nI h) - ((((nI h).toUInt32 >>> ((nI 1).toUInt32 &&& Int32.toUInt32 31)).toInt32) &&& 1431655765)).toUInt32 >>> ((nI 2).toUInt32 &&& Int32.toUInt32 31)).toInt32) &&& 858993459)) + ((((((nI h) - ((((nI h).toUInt32 >>> ((nI 1).toUInt32 &&& Int32.toUInt32 31)).toInt32) &&& 1431655765)) &&& 858993459) + (((((nI h) - ((((nI h).toUInt32 >>> ((nI 1).toUInt32 &&& Int32.toUInt32 31)).toInt32) &&& 1431655765)).toUInt32 >>> ((nI 2).toUInt32 &&& Int32.toUInt32 31)).toInt32) &&& 858993459)).toUInt32 >>> ((nI 4).toUInt32 &&& Int32.toUInt32 31)).toInt32)) &&& 252645135).toUInt32 >>> ((nI 8).toUInt32 &&& Int32.toUInt32 31)).toInt32)) + (((((((((nI h) - ((((nI h).toUInt32 >>> ((nI 1).toUInt32 &&& Int32.toUInt32 31)).toInt32) &&& 1431655765)) &&& 858993459) + (((((nI h) - ((((nI h).toUInt32 >>> ((nI 1).toUInt32 &&& Int32.toUInt32 31)).toInt32) &&& 1431655765)).toUInt32 >>> ((nI 2).toUInt32 &&& Int32.toUInt32 31)).toInt32) &&& 858993459)) + ((((((nI h) - ((((nI h).toUInt32 >>> ((nI 1).toUInt32 &&& Int32.toUInt32 31)).toInt32) &&& 1431655765)) &&& 858993459) + (((((nI h) - ((((nI h).toUInt32 >>> ((nI 1).toUInt32 &&& Int32.toUInt32 31)).toInt32) &&& 1431655765)).toUInt32 >>> ((nI 2).toUInt32 &&& Int32.toUInt32 31)).toInt32) &&& 858993459)).toUInt32 >>> ((nI 4).toUInt32 &&& Int32.toUInt32 31)).toInt32)) &&& 252645135) + ((((((((nI h) - ((((nI h).toUInt32 >>> ((nI 1).toUInt32 &&& Int32.toUInt32 31)).toInt32) &&& 1431655765)) &&& 858993459) + (((((nI h) - ((((nI h).toUInt32 >>> ((nI 1).toUInt32 &&& Int32.toUInt32 31)).toInt32) &&& 1431655765)).toUInt32 >>> ((nI 2).toUInt32 &&& Int32.toUInt32 31)).toInt32) &&& 858993459)) + ((((((nI h) - ((((nI h).toUInt32 >>> ((nI 1).toUInt32 &&& Int32.toUInt32 31)).toInt32) &&& 1431655765)) &&& 858993459) + (((((nI h) - ((((nI h).toUInt32 >>> ((nI 1).toUInt32 &&& Int32.toUInt32 31)).toInt32) &&& 1431655765)).toUInt32 >>> ((nI 2).toUInt32 &&& Int32.toUInt32 31)).toInt32) &&& 858993459)).toUInt32 >>> ((nI 4).toUInt32 &&& Int32.toUInt32 31)).toInt32)) &&& 252645135).toUInt32 >>> ((nI 8).toUInt32 &&& Int32.toUInt32 31)).toInt32)).toUInt32 >>> ((nI 16).toUInt32 &&& Int32.toUInt32 31)).toInt32)))]) hx hb dJ6_bitCount_0f7a4_47 rfl hl (by decide) rfl (fun ls hl => ?_)
  refine lv_iload_n hx hb dJ6_bitCount_0f7a4_48 rfl (lv_at hl 0 rfl) ?_
  refine lv_bipush (v := nI 63) hx hb dJ6_bitCount_0f7a4_49 (by decide) ?_
  refine lv_iand hx hb dJ6_bitCount_0f7a4_51 ?_
  exact xr_i hx hb hr hlocks dJ6_bitCount_0f7a4_52 (xbc h hh)
set_option maxHeartbeats 8000000 in
set_option maxRecDepth 100000 in
theorem c_X2_holesAt (l : Launch) (D : va_G) (y : Nat → ClassId) (h : Nat → Nat) (V : Nat → Nat) (q : Nat → Nat → Int32) (hR : RepC V q) (hI : Inv V) (x : Int32) : Met l yX2_holesAt wsX2_holesAt ({ frames := 0, cells := 0, slots := 0, locals := 0 }) (va_Pc [.ref (h 0), .int x] (xPr D y [(h 0, .inr (2, [.ref (h 1), .ref (h 2), .ref (h 3), .ref (h 4), .int (nI (V 16)), .int (nI (V 67)), .int (rmb V), .int (nI (V 66))])), (h 1, .inl (y 1, 8, .inl (q 0))), (h 2, .inl (y 1, 8, .inl (q 1))), (h 3, .inl (y 1, 24, .inl (q 2))), (h 4, .inl (y 1, 4, .inl (q 3)))])) (vp_Si (fun rz => rz = nI (holI V x))) 0 0 (fun _ => False) := by
  refine Met.ofW (cc := cX2_holesAt) (maxL := 2) (ret := (some .int)) (by decide) rfl ?_
  intro p e s m args below meth c s₁ B hml hv
  obtain ⟨rfl, hP, hK⟩ := hv
  have hx := B.exec
  have hb := B.bytes
  have hr := B.returns
  have hts := atoms_spec (ws := wsX2_holesAt) B.pre
  have hown : s.vm.findClass RX2 = some m.cls := findClass_of_methodNamed B.named
  have hlocks := B.notSynchronized
  have f_18 := hts (.fieldLink RX2 18 "LoomTunes$Register" "cards" "[I") (by decide +kernel)
  have f_24 := hts (.fieldLink RX2 24 "LoomTunes$Register" "size" "I") (by decide +kernel)
  have hin_X2 : ∀ w ∈ wsX20, w ∈ wsX2_holesAt := by decide +kernel
  have hP : va_P D vwCl [(h 0, .inr (2, [.ref (h 1), .ref (h 2), .ref (h 3), .ref (h 4), .int (nI (V 16)), .int (nI (V 67)), .int (rmb V), .int (nI (V 66))])), (h 1, .inl (y 1, 8, .inl (q 0))), (h 2, .inl (y 1, 8, .inl (q 1))), (h 3, .inl (y 1, 24, .inl (q 2))), (h 4, .inl (y 1, 4, .inl (q 3)))] s.heap := hP
  have hl := lv_entry ([.ref (h 0), .int x]) (n := 2) (Nat.le_of_ble_eq_true rfl)
  rw [lg_entry_eq]
  generalize (lg_sl ([.ref (h 0), .int x]) ++ List.replicate (2 - (lg_sl ([.ref (h 0), .int x])).length) Slot.unset).toArray = ls at hl ⊢
  have hl : lv_has ls 2 [(0, .ref (h 0)), (1, .int x)] := hl
  refine lv_iload_n hx hb dX2_holesAt_0 rfl (lv_at hl 1 rfl) ?_
  refine lv_if_lt (tgt := 34) hx hb dX2_holesAt_1 (by decide) (fun kc1 => ?_) (fun kc1 => ?_)
  · refine lv_iconst (v := nI 0) hx hb dX2_holesAt_34 (by decide) ?_
    exact xr_i hx hb hr hlocks dX2_holesAt_35 (congrArg nI (by first | exact (holI_z1 kc1).symm | exact (holI_z2 hI kc9).symm | exact (holI_z3 hI kc18).symm))
  · refine lv_iload_n hx hb dX2_holesAt_4 rfl (lv_at hl 1 rfl) ?_
    refine lv_aload_n hx hb dX2_holesAt_5 rfl (lv_at hl 0 rfl) ?_
    refine va_get (D := D) (ci := 2) (v := .int (nI (V 16))) (C := RX2) (T := TX2) (N := 8) hx hb hts hin_X2 hown hK.1 hP 0 rfl rfl 4 (by decide) f_24 (fun _ h9 => h9) rfl dX2_holesAt_6 ?_
    refine lv_icmp_ge (tgt := 34) hx hb dX2_holesAt_9 (by decide) (fun kc9 => ?_) (fun kc9 => ?_)
    · refine lv_iconst (v := nI 0) hx hb dX2_holesAt_34 (by decide) ?_
      exact xr_i hx hb hr hlocks dX2_holesAt_35 (congrArg nI (by first | exact (holI_z1 kc1).symm | exact (holI_z2 hI kc9).symm | exact (holI_z3 hI kc18).symm))
    · refine lv_iload_n hx hb dX2_holesAt_12 rfl (lv_at hl 1 rfl) ?_
      refine lv_aload_n hx hb dX2_holesAt_13 rfl (lv_at hl 0 rfl) ?_
      refine va_get (D := D) (ci := 2) (v := .ref (h 3)) (C := RX2) (T := TX2) (N := 8) hx hb hts hin_X2 hown hK.1 hP 0 rfl rfl 2 (by decide) f_18 (fun _ h9 => h9) rfl dX2_holesAt_14 ?_
      refine xn_alen hx hb hK hP 3 1 rfl rfl rfl dX2_holesAt_17 ?_
      refine lv_icmp_ge (tgt := 34) hx hb dX2_holesAt_18 (by decide) (fun kc18 => ?_) (fun kc18 => ?_)
      · refine lv_iconst (v := nI 0) hx hb dX2_holesAt_34 (by decide) ?_
        exact xr_i hx hb hr hlocks dX2_holesAt_35 (congrArg nI (by first | exact (holI_z1 kc1).symm | exact (holI_z2 hI kc9).symm | exact (holI_z3 hI kc18).symm))
      · obtain ⟨k, hk, rfl⟩ := ((pk_ix x (n := V 16) (by have := hI.sz; omega)).resolve_left kc1).resolve_left kc9
        refine lv_aload_n hx hb dX2_holesAt_21 rfl (lv_at hl 0 rfl) ?_
        refine va_get (D := D) (ci := 2) (v := .ref (h 3)) (C := RX2) (T := TX2) (N := 8) hx hb hts hin_X2 hown hK.1 hP 0 rfl rfl 2 (by decide) f_18 (fun _ h9 => h9) rfl dX2_holesAt_22 ?_
        refine lv_iload_n hx hb dX2_holesAt_25 rfl (lv_at hl 1 rfl) ?_
        refine xn_iald hx hb hK hP 3 rfl (by have := hI.sz; omega) (by first | decide | omega) (v := nI (V (17 + k) + 256 * V (41 + k))) (hR.2.2.1 k hk) dX2_holesAt_26 ?_
        refine lv_sipush (v := nI 255) hx hb dX2_holesAt_27 (by decide) ?_
        refine xn_and hx hb (r := ((V (17 + k) + 256 * V (41 + k)) &&& 255)) rfl dX2_holesAt_30 ?_
        refine lv_goto (tgt := 35) hx hb dX2_holesAt_31 (by decide) ?_
        exact xr_i hx hb hr hlocks dX2_holesAt_35 (congrArg nI (holI_a hI hk))
theorem c_X2_holesAt_n (l : Launch) (D : va_G) (y : Nat → ClassId) (h : Nat → Nat) (V : Nat → Nat) (q : Nat → Nat → Int32) (hR : RepC V q) (hI : Inv V) (k : Nat) (hk : k < 2 ^ 31) : Met l yX2_holesAt wsX2_holesAt ({ frames := 0, cells := 0, slots := 0, locals := 0 }) (va_Pc [.ref (h 0), .int (nI k)] (xPr D y (reg y h V q))) (vp_Si (fun r => r = nI (hol V k))) 0 0 (fun _ => False) := by
  have := c_X2_holesAt l D y h V q hR hI (nI k)
  rw [holI_n hk] at this
  exact this
set_option maxHeartbeats 8000000 in
set_option maxRecDepth 100000 in
theorem c_X2_soundsAt (l : Launch) (D : va_G) (y : Nat → ClassId) (h : Nat → Nat) (V : Nat → Nat) (q : Nat → Nat → Int32) (hR : RepC V q) (hI : Inv V) (x : Int32) (t : Nat) (ht : t < 8) : Met l yX2_soundsAt wsX2_soundsAt ({ frames := 1, cells := 0, slots := 0, locals := 21 }) (va_Pc [.ref (h 0), .int x, .int (nI t)] (xPr D y [(h 0, .inr (2, [.ref (h 1), .ref (h 2), .ref (h 3), .ref (h 4), .int (nI (V 16)), .int (nI (V 67)), .int (rmb V), .int (nI (V 66))])), (h 1, .inl (y 1, 8, .inl (q 0))), (h 2, .inl (y 1, 8, .inl (q 1))), (h 3, .inl (y 1, 24, .inl (q 2))), (h 4, .inl (y 1, 4, .inl (q 3)))])) (vp_Si (fun rz => rz = nI (bv (holI V x) t))) 0 0 (fun _ => False) := by
  refine Met.ofW (cc := cX2_soundsAt) (maxL := 3) (ret := (some .boolean)) (by decide) rfl ?_
  intro p e s m args below meth c s₁ B hml hv
  obtain ⟨rfl, hP, hK⟩ := hv
  have hx := B.exec
  have hb := B.bytes
  have hr := B.returns
  have hts := atoms_spec (ws := wsX2_soundsAt) B.pre
  have hown : s.vm.findClass RX2 = some m.cls := findClass_of_methodNamed B.named
  have hlocks := B.notSynchronized
  have hP : va_P D vwCl [(h 0, .inr (2, [.ref (h 1), .ref (h 2), .ref (h 3), .ref (h 4), .int (nI (V 16)), .int (nI (V 67)), .int (rmb V), .int (nI (V 66))])), (h 1, .inl (y 1, 8, .inl (q 0))), (h 2, .inl (y 1, 8, .inl (q 1))), (h 3, .inl (y 1, 24, .inl (q 2))), (h 4, .inl (y 1, 4, .inl (q 3)))] s.heap := hP
  have hl := lv_entry ([.ref (h 0), .int x, .int (nI t)]) (n := 3) (Nat.le_of_ble_eq_true rfl)
  rw [lg_entry_eq]
  generalize (lg_sl ([.ref (h 0), .int x, .int (nI t)]) ++ List.replicate (3 - (lg_sl ([.ref (h 0), .int x, .int (nI t)])).length) Slot.unset).toArray = ls at hl ⊢
  have hl : lv_has ls 3 [(0, .ref (h 0)), (1, .int x), (2, .int (nI t))] := hl
  have hlt := holI_lt hI (x := x)
  refine lv_aload_n hx hb dX2_soundsAt_0 rfl (lv_at hl 0 rfl) ?_
  refine lv_iload_n hx hb dX2_soundsAt_1 rfl (lv_at hl 1 rfl) ?_
  refine xc_V (As := [.int x]) (rest := []) ⟨hx, hb, hml, hown, hts⟩ (c_X2_holesAt l D y h V q hR hI x) (cwV 1 hts gX2_soundsAt_X2_holesAt rfl rfl rfl hd_X2_holesAt ⟨Nat.le_of_ble_eq_true rfl, Nat.le_of_ble_eq_true rfl⟩) (xpv_r hK hP [0, 1, 2, 3, 4] 0 rfl rfl rfl) rfl hl.1 rfl (Nat.le_of_ble_eq_true rfl) dX2_soundsAt_2 ⟨Nat.zero_le _, Nat.zero_le _⟩ (fun r1 hr1 => ?_)
  subst hr1
  refine lv_iload_n hx hb dX2_soundsAt_5 rfl (lv_at hl 2 rfl) ?_
  refine xc_SN (As := [.int (nI (holI V x)), .int (nI t)]) (rest := []) ⟨hx, hb, hml, hown, hts⟩ (c_X6_isIn l (holI V x) t (by omega) (by omega)) ⟨va_cnB 2 hts gX2_soundsAt_X6_isIn_n48 rfl rfl rfl hK.2.1 (hts (.initialized RX6) (by decide +kernel)) hd_X6_isIn.2 ⟨Nat.le_of_ble_eq_true rfl, Nat.le_of_ble_eq_true rfl⟩, hts (.static yX6_isIn) (by decide +kernel), trivial⟩ xps_0 rfl hl.1 rfl (Nat.le_of_ble_eq_true rfl) dX2_soundsAt_6 ⟨Nat.zero_le _, Nat.zero_le _⟩ (fun r2 hr2 => ?_)
  subst hr2
  exact xr_z hx hb hr hlocks dX2_soundsAt_9 (bv_lt) (rfl)
theorem c_X2_soundsAt_n (l : Launch) (D : va_G) (y : Nat → ClassId) (h : Nat → Nat) (V : Nat → Nat) (q : Nat → Nat → Int32) (hR : RepC V q) (hI : Inv V) (k : Nat) (hk : k < 2 ^ 31) (t : Nat) (ht : t < 8) : Met l yX2_soundsAt wsX2_soundsAt ({ frames := 1, cells := 0, slots := 0, locals := 21 }) (va_Pc [.ref (h 0), .int (nI k), .int (nI t)] (xPr D y (reg y h V q))) (vp_Si (fun r => r = nI (sndN V k t))) 0 0 (fun _ => False) := by
  have := c_X2_soundsAt l D y h V q hR hI (nI k) t ht
  rw [holI_n hk] at this
  exact this
set_option maxHeartbeats 8000000 in
set_option maxRecDepth 100000 in
theorem c_X2_cardAt (l : Launch) (D : va_G) (y : Nat → ClassId) (h : Nat → Nat) (V : Nat → Nat) (q : Nat → Nat → Int32) (hR : RepC V q) (hI : Inv V) (k : Nat) (hk : k < V 16) : Met l yX2_cardAt wsX2_cardAt ({ frames := 0, cells := 0, slots := 0, locals := 0 }) (va_Pc [.ref (h 0), .int (nI k)] (xPr D y [(h 0, .inr (2, [.ref (h 1), .ref (h 2), .ref (h 3), .ref (h 4), .int (nI (V 16)), .int (nI (V 67)), .int (rmb V), .int (nI (V 66))])), (h 1, .inl (y 1, 8, .inl (q 0))), (h 2, .inl (y 1, 8, .inl (q 1))), (h 3, .inl (y 1, 24, .inl (q 2))), (h 4, .inl (y 1, 4, .inl (q 3)))])) (vp_Si (fun rz => rz = nI (V (17 + k) + 256 * V (41 + k)))) 0 0 (fun _ => False) := by
  refine Met.ofW (cc := cX2_cardAt) (maxL := 2) (ret := (some .int)) (by decide) rfl ?_
  intro p e s m args below meth c s₁ B hml hv
  obtain ⟨rfl, hP, hK⟩ := hv
  have hx := B.exec
  have hb := B.bytes
  have hr := B.returns
  have hts := atoms_spec (ws := wsX2_cardAt) B.pre
  have hown : s.vm.findClass RX2 = some m.cls := findClass_of_methodNamed B.named
  have hlocks := B.notSynchronized
  have f_18 := hts (.fieldLink RX2 18 "LoomTunes$Register" "cards" "[I") (by decide +kernel)
  have f_24 := hts (.fieldLink RX2 24 "LoomTunes$Register" "size" "I") (by decide +kernel)
  have hin_X2 : ∀ w ∈ wsX20, w ∈ wsX2_cardAt := by decide +kernel
  have hP : va_P D vwCl [(h 0, .inr (2, [.ref (h 1), .ref (h 2), .ref (h 3), .ref (h 4), .int (nI (V 16)), .int (nI (V 67)), .int (rmb V), .int (nI (V 66))])), (h 1, .inl (y 1, 8, .inl (q 0))), (h 2, .inl (y 1, 8, .inl (q 1))), (h 3, .inl (y 1, 24, .inl (q 2))), (h 4, .inl (y 1, 4, .inl (q 3)))] s.heap := hP
  have hl := lv_entry ([.ref (h 0), .int (nI k)]) (n := 2) (Nat.le_of_ble_eq_true rfl)
  rw [lg_entry_eq]
  generalize (lg_sl ([.ref (h 0), .int (nI k)]) ++ List.replicate (2 - (lg_sl ([.ref (h 0), .int (nI k)])).length) Slot.unset).toArray = ls at hl ⊢
  have hl : lv_has ls 2 [(0, .ref (h 0)), (1, .int (nI k))] := hl
  have hsz := hI.sz
  refine lv_iload_n hx hb dX2_cardAt_0 rfl (lv_at hl 1 rfl) ?_
  refine xn_if_lt hx hb (by omega) (tgt := 30) dX2_cardAt_1 (by decide) ?_
  refine lv_iload_n hx hb dX2_cardAt_4 rfl (lv_at hl 1 rfl) ?_
  refine lv_aload_n hx hb dX2_cardAt_5 rfl (lv_at hl 0 rfl) ?_
  refine va_get (D := D) (ci := 2) (v := .int (nI (V 16))) (C := RX2) (T := TX2) (N := 8) hx hb hts hin_X2 hown hK.1 hP 0 rfl rfl 4 (by decide) f_24 (fun _ h9 => h9) rfl dX2_cardAt_6 ?_
  refine xn_icmp_ge hx hb (by omega) (by omega) (tgt := 30) dX2_cardAt_9 (by decide) (fun h => absurd h (by omega)) (fun kc9 => ?_)
  refine lv_iload_n hx hb dX2_cardAt_12 rfl (lv_at hl 1 rfl) ?_
  refine lv_aload_n hx hb dX2_cardAt_13 rfl (lv_at hl 0 rfl) ?_
  refine va_get (D := D) (ci := 2) (v := .ref (h 3)) (C := RX2) (T := TX2) (N := 8) hx hb hts hin_X2 hown hK.1 hP 0 rfl rfl 2 (by decide) f_18 (fun _ h9 => h9) rfl dX2_cardAt_14 ?_
  refine xn_alen hx hb hK hP 3 1 rfl rfl rfl dX2_cardAt_17 ?_
  refine xn_icmp_ge hx hb (by omega) (by omega) (tgt := 30) dX2_cardAt_18 (by decide) (fun h => absurd h (by omega)) (fun kc18 => ?_)
  refine lv_aload_n hx hb dX2_cardAt_21 rfl (lv_at hl 0 rfl) ?_
  refine va_get (D := D) (ci := 2) (v := .ref (h 3)) (C := RX2) (T := TX2) (N := 8) hx hb hts hin_X2 hown hK.1 hP 0 rfl rfl 2 (by decide) f_18 (fun _ h9 => h9) rfl dX2_cardAt_22 ?_
  refine lv_iload_n hx hb dX2_cardAt_25 rfl (lv_at hl 1 rfl) ?_
  refine xn_iald hx hb hK hP 3 rfl (by omega) (by first | decide | omega) (v := nI (V (17 + k) + 256 * V (41 + k))) (hR.2.2.1 k hk) dX2_cardAt_26 ?_
  refine lv_goto (tgt := 31) hx hb dX2_cardAt_27 (by decide) ?_
  exact xr_i hx hb hr hlocks dX2_cardAt_31 (rfl)
set_option maxHeartbeats 8000000 in
set_option maxRecDepth 100000 in
theorem c_X2_stampsAt (l : Launch) (D : va_G) (y : Nat → ClassId) (h : Nat → Nat) (V : Nat → Nat) (q : Nat → Nat → Int32) (hR : RepC V q) (hI : Inv V) (k : Nat) (hk : k < V 16) : Met l yX2_stampsAt wsX2_stampsAt ({ frames := 1, cells := 0, slots := 0, locals := 21 }) (va_Pc [.ref (h 0), .int (nI k)] (xPr D y [(h 0, .inr (2, [.ref (h 1), .ref (h 2), .ref (h 3), .ref (h 4), .int (nI (V 16)), .int (nI (V 67)), .int (rmb V), .int (nI (V 66))])), (h 1, .inl (y 1, 8, .inl (q 0))), (h 2, .inl (y 1, 8, .inl (q 1))), (h 3, .inl (y 1, 24, .inl (q 2))), (h 4, .inl (y 1, 4, .inl (q 3)))])) (vp_Si (fun rz => rz = nI (V (41 + k)))) 0 0 (fun _ => False) := by
  refine Met.ofW (cc := cX2_stampsAt) (maxL := 2) (ret := (some .int)) (by decide) rfl ?_
  intro p e s m args below meth c s₁ B hml hv
  obtain ⟨rfl, hP, hK⟩ := hv
  have hx := B.exec
  have hb := B.bytes
  have hr := B.returns
  have hts := atoms_spec (ws := wsX2_stampsAt) B.pre
  have hown : s.vm.findClass RX2 = some m.cls := findClass_of_methodNamed B.named
  have hlocks := B.notSynchronized
  have hP : va_P D vwCl [(h 0, .inr (2, [.ref (h 1), .ref (h 2), .ref (h 3), .ref (h 4), .int (nI (V 16)), .int (nI (V 67)), .int (rmb V), .int (nI (V 66))])), (h 1, .inl (y 1, 8, .inl (q 0))), (h 2, .inl (y 1, 8, .inl (q 1))), (h 3, .inl (y 1, 24, .inl (q 2))), (h 4, .inl (y 1, 4, .inl (q 3)))] s.heap := hP
  have hl := lv_entry ([.ref (h 0), .int (nI k)]) (n := 2) (Nat.le_of_ble_eq_true rfl)
  rw [lg_entry_eq]
  generalize (lg_sl ([.ref (h 0), .int (nI k)]) ++ List.replicate (2 - (lg_sl ([.ref (h 0), .int (nI k)])).length) Slot.unset).toArray = ls at hl ⊢
  have hl : lv_has ls 2 [(0, .ref (h 0)), (1, .int (nI k))] := hl
  have hsz := hI.sz
  have h1 := hI.ho (k := k) (by omega)
  have h2 := hI.st (k := k) (by omega)
  refine lv_aload_n hx hb dX2_stampsAt_0 rfl (lv_at hl 0 rfl) ?_
  refine lv_iload_n hx hb dX2_stampsAt_1 rfl (lv_at hl 1 rfl) ?_
  refine xc_V (As := [.int (nI k)]) (rest := []) ⟨hx, hb, hml, hown, hts⟩ (c_X2_cardAt l D y h V q hR hI k (by omega)) (cwV 1 hts gX2_stampsAt_X2_cardAt rfl rfl rfl hd_X2_cardAt ⟨Nat.le_of_ble_eq_true rfl, Nat.le_of_ble_eq_true rfl⟩) (xpv_r hK hP [0, 1, 2, 3, 4] 0 rfl rfl rfl) rfl hl.1 rfl (Nat.le_of_ble_eq_true rfl) dX2_stampsAt_2 ⟨Nat.zero_le _, Nat.zero_le _⟩ (fun r1 hr1 => ?_)
  subst hr1
  refine lv_sipush (v := nI 256) hx hb dX2_stampsAt_5 (by decide) ?_
  refine xn_icmp_lt hx hb (by omega) (by omega) (tgt := 15) dX2_stampsAt_8 (by decide) (fun kc8 => ?_) (fun kc8 => ?_)
  · refine lv_iconst (v := nI 0) hx hb dX2_stampsAt_15 (by decide) ?_
    exact xr_i hx hb hr hlocks dX2_stampsAt_16 (congrArg nI (by omega))
  · refine lv_iconst (v := nI 1) hx hb dX2_stampsAt_11 (by decide) ?_
    refine lv_goto (tgt := 16) hx hb dX2_stampsAt_12 (by decide) ?_
    exact xr_i hx hb hr hlocks dX2_stampsAt_16 (congrArg nI (by omega))
set_option maxHeartbeats 8000000 in
set_option maxRecDepth 100000 in
theorem c_X2_noteAt (l : Launch) (D : va_G) (y : Nat → ClassId) (h : Nat → Nat) (V : Nat → Nat) (q : Nat → Nat → Int32) (hR : RepC V q) (hI : Inv V) (t : Nat) (ht : t < 8) : Met l yX2_noteAt wsX2_noteAt ({ frames := 0, cells := 0, slots := 0, locals := 0 }) (va_Pc [.ref (h 0), .int (nI t)] (xPr D y [(h 0, .inr (2, [.ref (h 1), .ref (h 2), .ref (h 3), .ref (h 4), .int (nI (V 16)), .int (nI (V 67)), .int (rmb V), .int (nI (V 66))])), (h 1, .inl (y 1, 8, .inl (q 0))), (h 2, .inl (y 1, 8, .inl (q 1))), (h 3, .inl (y 1, 24, .inl (q 2))), (h 4, .inl (y 1, 4, .inl (q 3)))])) (vp_Si (fun rz => rz = nI (V t))) 0 0 (fun _ => False) := by
  refine Met.ofW (cc := cX2_noteAt) (maxL := 2) (ret := (some .int)) (by decide) rfl ?_
  intro p e s m args below meth c s₁ B hml hv
  obtain ⟨rfl, hP, hK⟩ := hv
  have hx := B.exec
  have hb := B.bytes
  have hr := B.returns
  have hts := atoms_spec (ws := wsX2_noteAt) B.pre
  have hown : s.vm.findClass RX2 = some m.cls := findClass_of_methodNamed B.named
  have hlocks := B.notSynchronized
  have f_9 := hts (.fieldLink RX2 9 "LoomTunes$Register" "notes" "[I") (by decide +kernel)
  have hin_X2 : ∀ w ∈ wsX20, w ∈ wsX2_noteAt := by decide +kernel
  have hP : va_P D vwCl [(h 0, .inr (2, [.ref (h 1), .ref (h 2), .ref (h 3), .ref (h 4), .int (nI (V 16)), .int (nI (V 67)), .int (rmb V), .int (nI (V 66))])), (h 1, .inl (y 1, 8, .inl (q 0))), (h 2, .inl (y 1, 8, .inl (q 1))), (h 3, .inl (y 1, 24, .inl (q 2))), (h 4, .inl (y 1, 4, .inl (q 3)))] s.heap := hP
  have hl := lv_entry ([.ref (h 0), .int (nI t)]) (n := 2) (Nat.le_of_ble_eq_true rfl)
  rw [lg_entry_eq]
  generalize (lg_sl ([.ref (h 0), .int (nI t)]) ++ List.replicate (2 - (lg_sl ([.ref (h 0), .int (nI t)])).length) Slot.unset).toArray = ls at hl ⊢
  have hl : lv_has ls 2 [(0, .ref (h 0)), (1, .int (nI t))] := hl
  refine lv_iload_n hx hb dX2_noteAt_0 rfl (lv_at hl 1 rfl) ?_
  refine xn_if_lt hx hb (by omega) (tgt := 22) dX2_noteAt_1 (by decide) ?_
  refine lv_iload_n hx hb dX2_noteAt_4 rfl (lv_at hl 1 rfl) ?_
  refine lv_aload_n hx hb dX2_noteAt_5 rfl (lv_at hl 0 rfl) ?_
  refine va_get (D := D) (ci := 2) (v := .ref (h 1)) (C := RX2) (T := TX2) (N := 8) hx hb hts hin_X2 hown hK.1 hP 0 rfl rfl 0 (by decide) f_9 (fun _ h9 => h9) rfl dX2_noteAt_6 ?_
  refine xn_alen hx hb hK hP 1 1 rfl rfl rfl dX2_noteAt_9 ?_
  refine xn_icmp_ge hx hb (by omega) (by omega) (tgt := 22) dX2_noteAt_10 (by decide) (fun h => absurd h (by omega)) (fun kc10 => ?_)
  refine lv_aload_n hx hb dX2_noteAt_13 rfl (lv_at hl 0 rfl) ?_
  refine va_get (D := D) (ci := 2) (v := .ref (h 1)) (C := RX2) (T := TX2) (N := 8) hx hb hts hin_X2 hown hK.1 hP 0 rfl rfl 0 (by decide) f_9 (fun _ h9 => h9) rfl dX2_noteAt_14 ?_
  refine lv_iload_n hx hb dX2_noteAt_17 rfl (lv_at hl 1 rfl) ?_
  refine xn_iald hx hb hK hP 1 rfl (by omega) (by first | decide | omega) (v := nI (V t)) (hR.1 t ht) dX2_noteAt_18 ?_
  refine lv_goto (tgt := 23) hx hb dX2_noteAt_19 (by decide) ?_
  exact xr_i hx hb hr hlocks dX2_noteAt_23 (rfl)
set_option maxHeartbeats 8000000 in
set_option maxRecDepth 100000 in
theorem c_X2_colourAt (l : Launch) (D : va_G) (y : Nat → ClassId) (h : Nat → Nat) (V : Nat → Nat) (q : Nat → Nat → Int32) (hR : RepC V q) (hI : Inv V) (t : Nat) (ht : t < 8) : Met l yX2_colourAt wsX2_colourAt ({ frames := 0, cells := 0, slots := 0, locals := 0 }) (va_Pc [.ref (h 0), .int (nI t)] (xPr D y [(h 0, .inr (2, [.ref (h 1), .ref (h 2), .ref (h 3), .ref (h 4), .int (nI (V 16)), .int (nI (V 67)), .int (rmb V), .int (nI (V 66))])), (h 1, .inl (y 1, 8, .inl (q 0))), (h 2, .inl (y 1, 8, .inl (q 1))), (h 3, .inl (y 1, 24, .inl (q 2))), (h 4, .inl (y 1, 4, .inl (q 3)))])) (vp_Si (fun rz => rz = nI (V (8 + t)))) 0 0 (fun _ => False) := by
  refine Met.ofW (cc := cX2_colourAt) (maxL := 2) (ret := (some .int)) (by decide) rfl ?_
  intro p e s m args below meth c s₁ B hml hv
  obtain ⟨rfl, hP, hK⟩ := hv
  have hx := B.exec
  have hb := B.bytes
  have hr := B.returns
  have hts := atoms_spec (ws := wsX2_colourAt) B.pre
  have hown : s.vm.findClass RX2 = some m.cls := findClass_of_methodNamed B.named
  have hlocks := B.notSynchronized
  have f_15 := hts (.fieldLink RX2 15 "LoomTunes$Register" "colours" "[I") (by decide +kernel)
  have hin_X2 : ∀ w ∈ wsX20, w ∈ wsX2_colourAt := by decide +kernel
  have hP : va_P D vwCl [(h 0, .inr (2, [.ref (h 1), .ref (h 2), .ref (h 3), .ref (h 4), .int (nI (V 16)), .int (nI (V 67)), .int (rmb V), .int (nI (V 66))])), (h 1, .inl (y 1, 8, .inl (q 0))), (h 2, .inl (y 1, 8, .inl (q 1))), (h 3, .inl (y 1, 24, .inl (q 2))), (h 4, .inl (y 1, 4, .inl (q 3)))] s.heap := hP
  have hl := lv_entry ([.ref (h 0), .int (nI t)]) (n := 2) (Nat.le_of_ble_eq_true rfl)
  rw [lg_entry_eq]
  generalize (lg_sl ([.ref (h 0), .int (nI t)]) ++ List.replicate (2 - (lg_sl ([.ref (h 0), .int (nI t)])).length) Slot.unset).toArray = ls at hl ⊢
  have hl : lv_has ls 2 [(0, .ref (h 0)), (1, .int (nI t))] := hl
  refine lv_iload_n hx hb dX2_colourAt_0 rfl (lv_at hl 1 rfl) ?_
  refine xn_if_lt hx hb (by omega) (tgt := 22) dX2_colourAt_1 (by decide) ?_
  refine lv_iload_n hx hb dX2_colourAt_4 rfl (lv_at hl 1 rfl) ?_
  refine lv_aload_n hx hb dX2_colourAt_5 rfl (lv_at hl 0 rfl) ?_
  refine va_get (D := D) (ci := 2) (v := .ref (h 2)) (C := RX2) (T := TX2) (N := 8) hx hb hts hin_X2 hown hK.1 hP 0 rfl rfl 1 (by decide) f_15 (fun _ h9 => h9) rfl dX2_colourAt_6 ?_
  refine xn_alen hx hb hK hP 2 1 rfl rfl rfl dX2_colourAt_9 ?_
  refine xn_icmp_ge hx hb (by omega) (by omega) (tgt := 22) dX2_colourAt_10 (by decide) (fun h => absurd h (by omega)) (fun kc10 => ?_)
  refine lv_aload_n hx hb dX2_colourAt_13 rfl (lv_at hl 0 rfl) ?_
  refine va_get (D := D) (ci := 2) (v := .ref (h 2)) (C := RX2) (T := TX2) (N := 8) hx hb hts hin_X2 hown hK.1 hP 0 rfl rfl 1 (by decide) f_15 (fun _ h9 => h9) rfl dX2_colourAt_14 ?_
  refine lv_iload_n hx hb dX2_colourAt_17 rfl (lv_at hl 1 rfl) ?_
  refine xn_iald hx hb hK hP 2 rfl (by omega) (by first | decide | omega) (v := nI (V (8 + t))) (hR.2.1 t ht) dX2_colourAt_18 ?_
  refine lv_goto (tgt := 23) hx hb dX2_colourAt_19 (by decide) ?_
  exact xr_i hx hb hr hlocks dX2_colourAt_23 (rfl)
set_option maxHeartbeats 8000000 in
set_option maxRecDepth 100000 in
theorem c_X2_settingAt (l : Launch) (D : va_G) (y : Nat → ClassId) (h : Nat → Nat) (V : Nat → Nat) (q : Nat → Nat → Int32) (hR : RepC V q) (hI : Inv V) (t : Nat) (ht : t < 4) : Met l yX2_settingAt wsX2_settingAt ({ frames := 0, cells := 0, slots := 0, locals := 0 }) (va_Pc [.ref (h 0), .int (nI t)] (xPr D y [(h 0, .inr (2, [.ref (h 1), .ref (h 2), .ref (h 3), .ref (h 4), .int (nI (V 16)), .int (nI (V 67)), .int (rmb V), .int (nI (V 66))])), (h 1, .inl (y 1, 8, .inl (q 0))), (h 2, .inl (y 1, 8, .inl (q 1))), (h 3, .inl (y 1, 24, .inl (q 2))), (h 4, .inl (y 1, 4, .inl (q 3)))])) (vp_Si (fun rz => rz = nI (V (68 + t)))) 0 0 (fun _ => False) := by
  refine Met.ofW (cc := cX2_settingAt) (maxL := 2) (ret := (some .int)) (by decide) rfl ?_
  intro p e s m args below meth c s₁ B hml hv
  obtain ⟨rfl, hP, hK⟩ := hv
  have hx := B.exec
  have hb := B.bytes
  have hr := B.returns
  have hts := atoms_spec (ws := wsX2_settingAt) B.pre
  have hown : s.vm.findClass RX2 = some m.cls := findClass_of_methodNamed B.named
  have hlocks := B.notSynchronized
  have f_21 := hts (.fieldLink RX2 21 "LoomTunes$Register" "settings" "[I") (by decide +kernel)
  have hin_X2 : ∀ w ∈ wsX20, w ∈ wsX2_settingAt := by decide +kernel
  have hP : va_P D vwCl [(h 0, .inr (2, [.ref (h 1), .ref (h 2), .ref (h 3), .ref (h 4), .int (nI (V 16)), .int (nI (V 67)), .int (rmb V), .int (nI (V 66))])), (h 1, .inl (y 1, 8, .inl (q 0))), (h 2, .inl (y 1, 8, .inl (q 1))), (h 3, .inl (y 1, 24, .inl (q 2))), (h 4, .inl (y 1, 4, .inl (q 3)))] s.heap := hP
  have hl := lv_entry ([.ref (h 0), .int (nI t)]) (n := 2) (Nat.le_of_ble_eq_true rfl)
  rw [lg_entry_eq]
  generalize (lg_sl ([.ref (h 0), .int (nI t)]) ++ List.replicate (2 - (lg_sl ([.ref (h 0), .int (nI t)])).length) Slot.unset).toArray = ls at hl ⊢
  have hl : lv_has ls 2 [(0, .ref (h 0)), (1, .int (nI t))] := hl
  refine lv_iload_n hx hb dX2_settingAt_0 rfl (lv_at hl 1 rfl) ?_
  refine xn_if_lt hx hb (by omega) (tgt := 22) dX2_settingAt_1 (by decide) ?_
  refine lv_iload_n hx hb dX2_settingAt_4 rfl (lv_at hl 1 rfl) ?_
  refine lv_aload_n hx hb dX2_settingAt_5 rfl (lv_at hl 0 rfl) ?_
  refine va_get (D := D) (ci := 2) (v := .ref (h 4)) (C := RX2) (T := TX2) (N := 8) hx hb hts hin_X2 hown hK.1 hP 0 rfl rfl 3 (by decide) f_21 (fun _ h9 => h9) rfl dX2_settingAt_6 ?_
  refine xn_alen hx hb hK hP 4 1 rfl rfl rfl dX2_settingAt_9 ?_
  refine xn_icmp_ge hx hb (by omega) (by omega) (tgt := 22) dX2_settingAt_10 (by decide) (fun h => absurd h (by omega)) (fun kc10 => ?_)
  refine lv_aload_n hx hb dX2_settingAt_13 rfl (lv_at hl 0 rfl) ?_
  refine va_get (D := D) (ci := 2) (v := .ref (h 4)) (C := RX2) (T := TX2) (N := 8) hx hb hts hin_X2 hown hK.1 hP 0 rfl rfl 3 (by decide) f_21 (fun _ h9 => h9) rfl dX2_settingAt_14 ?_
  refine lv_iload_n hx hb dX2_settingAt_17 rfl (lv_at hl 1 rfl) ?_
  refine xn_iald hx hb hK hP 4 rfl (by omega) (by first | decide | omega) (v := nI (V (68 + t))) (hR.2.2.2 t ht) dX2_settingAt_18 ?_
  refine lv_goto (tgt := 23) hx hb dX2_settingAt_19 (by decide) ?_
  exact xr_i hx hb hr hlocks dX2_settingAt_23 (rfl)
set_option maxHeartbeats 8000000 in
set_option maxRecDepth 100000 in
theorem c_X2_isFull (l : Launch) (D : va_G) (y : Nat → ClassId) (h : Nat → Nat) (V : Nat → Nat) (q : Nat → Nat → Int32) (hR : RepC V q) (hI : Inv V) : Met l yX2_isFull wsX2_isFull ({ frames := 0, cells := 0, slots := 0, locals := 0 }) (va_Pc [.ref (h 0)] (xPr D y [(h 0, .inr (2, [.ref (h 1), .ref (h 2), .ref (h 3), .ref (h 4), .int (nI (V 16)), .int (nI (V 67)), .int (rmb V), .int (nI (V 66))])), (h 1, .inl (y 1, 8, .inl (q 0))), (h 2, .inl (y 1, 8, .inl (q 1))), (h 3, .inl (y 1, 24, .inl (q 2))), (h 4, .inl (y 1, 4, .inl (q 3)))])) (vp_Si (fun rz => rz = nI (bN (24 ≤ V 16)))) 0 0 (fun _ => False) := by
  refine Met.ofW (cc := cX2_isFull) (maxL := 1) (ret := (some .boolean)) (by decide) rfl ?_
  intro p e s m args below meth c s₁ B hml hv
  obtain ⟨rfl, hP, hK⟩ := hv
  have hx := B.exec
  have hb := B.bytes
  have hr := B.returns
  have hts := atoms_spec (ws := wsX2_isFull) B.pre
  have hown : s.vm.findClass RX2 = some m.cls := findClass_of_methodNamed B.named
  have hlocks := B.notSynchronized
  have f_24 := hts (.fieldLink RX2 24 "LoomTunes$Register" "size" "I") (by decide +kernel)
  have hin_X2 : ∀ w ∈ wsX20, w ∈ wsX2_isFull := by decide +kernel
  have hP : va_P D vwCl [(h 0, .inr (2, [.ref (h 1), .ref (h 2), .ref (h 3), .ref (h 4), .int (nI (V 16)), .int (nI (V 67)), .int (rmb V), .int (nI (V 66))])), (h 1, .inl (y 1, 8, .inl (q 0))), (h 2, .inl (y 1, 8, .inl (q 1))), (h 3, .inl (y 1, 24, .inl (q 2))), (h 4, .inl (y 1, 4, .inl (q 3)))] s.heap := hP
  have hl := lv_entry ([.ref (h 0)]) (n := 1) (Nat.le_of_ble_eq_true rfl)
  rw [lg_entry_eq]
  generalize (lg_sl ([.ref (h 0)]) ++ List.replicate (1 - (lg_sl ([.ref (h 0)])).length) Slot.unset).toArray = ls at hl ⊢
  have hl : lv_has ls 1 [(0, .ref (h 0))] := hl
  have hsz := hI.sz
  refine lv_aload_n hx hb dX2_isFull_0 rfl (lv_at hl 0 rfl) ?_
  refine va_get (D := D) (ci := 2) (v := .int (nI (V 16))) (C := RX2) (T := TX2) (N := 8) hx hb hts hin_X2 hown hK.1 hP 0 rfl rfl 4 (by decide) f_24 (fun _ h9 => h9) rfl dX2_isFull_1 ?_
  refine lv_bipush (v := nI 24) hx hb dX2_isFull_4 (by decide) ?_
  refine xn_icmp_lt hx hb (by omega) (by omega) (tgt := 13) dX2_isFull_6 (by decide) (fun kc6 => ?_) (fun kc6 => ?_)
  · refine lv_iconst (v := nI 0) hx hb dX2_isFull_13 (by decide) ?_
    exact xr_z hx hb hr hlocks dX2_isFull_14 (by omega) (congrArg nI (by first | exact (bN_t (by omega)).symm | exact (bN_f (by omega)).symm))
  · refine lv_iconst (v := nI 1) hx hb dX2_isFull_9 (by decide) ?_
    refine lv_goto (tgt := 14) hx hb dX2_isFull_10 (by decide) ?_
    exact xr_z hx hb hr hlocks dX2_isFull_14 (by omega) (congrArg nI (by first | exact (bN_t (by omega)).symm | exact (bN_f (by omega)).symm))
set_option maxHeartbeats 8000000 in
set_option maxRecDepth 100000 in
theorem c_X2_hasCard (l : Launch) (D : va_G) (y : Nat → ClassId) (h : Nat → Nat) (V : Nat → Nat) (q : Nat → Nat → Int32) (hR : RepC V q) (hI : Inv V) (x : Int32) : Met l yX2_hasCard wsX2_hasCard ({ frames := 0, cells := 0, slots := 0, locals := 0 }) (va_Pc [.ref (h 0), .int x] (xPr D y [(h 0, .inr (2, [.ref (h 1), .ref (h 2), .ref (h 3), .ref (h 4), .int (nI (V 16)), .int (nI (V 67)), .int (rmb V), .int (nI (V 66))])), (h 1, .inl (y 1, 8, .inl (q 0))), (h 2, .inl (y 1, 8, .inl (q 1))), (h 3, .inl (y 1, 24, .inl (q 2))), (h 4, .inl (y 1, 4, .inl (q 3)))])) (vp_Si (fun rz => rz = nI (bN (inR x (V 16))))) 0 0 (fun _ => False) := by
  refine Met.ofW (cc := cX2_hasCard) (maxL := 2) (ret := (some .boolean)) (by decide) rfl ?_
  intro p e s m args below meth c s₁ B hml hv
  obtain ⟨rfl, hP, hK⟩ := hv
  have hx := B.exec
  have hb := B.bytes
  have hr := B.returns
  have hts := atoms_spec (ws := wsX2_hasCard) B.pre
  have hown : s.vm.findClass RX2 = some m.cls := findClass_of_methodNamed B.named
  have hlocks := B.notSynchronized
  have f_24 := hts (.fieldLink RX2 24 "LoomTunes$Register" "size" "I") (by decide +kernel)
  have hin_X2 : ∀ w ∈ wsX20, w ∈ wsX2_hasCard := by decide +kernel
  have hP : va_P D vwCl [(h 0, .inr (2, [.ref (h 1), .ref (h 2), .ref (h 3), .ref (h 4), .int (nI (V 16)), .int (nI (V 67)), .int (rmb V), .int (nI (V 66))])), (h 1, .inl (y 1, 8, .inl (q 0))), (h 2, .inl (y 1, 8, .inl (q 1))), (h 3, .inl (y 1, 24, .inl (q 2))), (h 4, .inl (y 1, 4, .inl (q 3)))] s.heap := hP
  have hl := lv_entry ([.ref (h 0), .int x]) (n := 2) (Nat.le_of_ble_eq_true rfl)
  rw [lg_entry_eq]
  generalize (lg_sl ([.ref (h 0), .int x]) ++ List.replicate (2 - (lg_sl ([.ref (h 0), .int x])).length) Slot.unset).toArray = ls at hl ⊢
  have hl : lv_has ls 2 [(0, .ref (h 0)), (1, .int x)] := hl
  refine lv_iload_n hx hb dX2_hasCard_0 rfl (lv_at hl 1 rfl) ?_
  refine lv_if_lt (tgt := 16) hx hb dX2_hasCard_1 (by decide) (fun kc1 => ?_) (fun kc1 => ?_)
  · refine lv_iconst (v := nI 0) hx hb dX2_hasCard_16 (by decide) ?_
    exact xr_z hx hb hr hlocks dX2_hasCard_17 (by omega) (congrArg nI (by first | exact (bN_t (c := inR x (V 16)) ⟨kc1, kc9⟩).symm | exact (bN_f (c := inR x (V 16)) (fun h => h.1 kc1)).symm | exact (bN_f (c := inR x (V 16)) (fun h => h.2 kc9)).symm))
  · refine lv_iload_n hx hb dX2_hasCard_4 rfl (lv_at hl 1 rfl) ?_
    refine lv_aload_n hx hb dX2_hasCard_5 rfl (lv_at hl 0 rfl) ?_
    refine va_get (D := D) (ci := 2) (v := .int (nI (V 16))) (C := RX2) (T := TX2) (N := 8) hx hb hts hin_X2 hown hK.1 hP 0 rfl rfl 4 (by decide) f_24 (fun _ h9 => h9) rfl dX2_hasCard_6 ?_
    refine lv_icmp_ge (tgt := 16) hx hb dX2_hasCard_9 (by decide) (fun kc9 => ?_) (fun kc9 => ?_)
    · refine lv_iconst (v := nI 0) hx hb dX2_hasCard_16 (by decide) ?_
      exact xr_z hx hb hr hlocks dX2_hasCard_17 (by omega) (congrArg nI (by first | exact (bN_t (c := inR x (V 16)) ⟨kc1, kc9⟩).symm | exact (bN_f (c := inR x (V 16)) (fun h => h.1 kc1)).symm | exact (bN_f (c := inR x (V 16)) (fun h => h.2 kc9)).symm))
    · refine lv_iconst (v := nI 1) hx hb dX2_hasCard_12 (by decide) ?_
      refine lv_goto (tgt := 17) hx hb dX2_hasCard_13 (by decide) ?_
      exact xr_z hx hb hr hlocks dX2_hasCard_17 (by omega) (congrArg nI (by first | exact (bN_t (c := inR x (V 16)) ⟨kc1, kc9⟩).symm | exact (bN_f (c := inR x (V 16)) (fun h => h.1 kc1)).symm | exact (bN_f (c := inR x (V 16)) (fun h => h.2 kc9)).symm))
set_option maxHeartbeats 8000000 in
set_option maxRecDepth 100000 in
theorem c_X2_clashesOf (l : Launch) (D : va_G) (y : Nat → ClassId) (h : Nat → Nat) (V : Nat → Nat) (q : Nat → Nat → Int32) (hR : RepC V q) (hI : Inv V) (ho : Nat) (hh : ho < 256) : Met l yX2_clashesOf wsX2_clashesOf ({ frames := 0, cells := 0, slots := 0, locals := 0 }) (va_Pc [.ref (h 0), .int (nI ho)] (xPr D y [(h 0, .inr (2, [.ref (h 1), .ref (h 2), .ref (h 3), .ref (h 4), .int (nI (V 16)), .int (nI (V 67)), .int (rmb V), .int (nI (V 66))])), (h 1, .inl (y 1, 8, .inl (q 0))), (h 2, .inl (y 1, 8, .inl (q 1))), (h 3, .inl (y 1, 24, .inl (q 2))), (h 4, .inl (y 1, 4, .inl (q 3)))])) (vp_Si (fun rz => rz = nI (cls V ho))) 0 0 (fun _ => False) := by
  refine Met.ofW (cc := cX2_clashesOf) (maxL := 6) (ret := (some .int)) (by decide) rfl ?_
  intro p e s m args below meth c s₁ B hml hv
  obtain ⟨rfl, hP, hK⟩ := hv
  have hx := B.exec
  have hb := B.bytes
  have hr := B.returns
  have hts := atoms_spec (ws := wsX2_clashesOf) B.pre
  have hown : s.vm.findClass RX2 = some m.cls := findClass_of_methodNamed B.named
  have hlocks := B.notSynchronized
  have f_9 := hts (.fieldLink RX2 9 "LoomTunes$Register" "notes" "[I") (by decide +kernel)
  have hin_X2 : ∀ w ∈ wsX20, w ∈ wsX2_clashesOf := by decide +kernel
  have hP : va_P D vwCl [(h 0, .inr (2, [.ref (h 1), .ref (h 2), .ref (h 3), .ref (h 4), .int (nI (V 16)), .int (nI (V 67)), .int (rmb V), .int (nI (V 66))])), (h 1, .inl (y 1, 8, .inl (q 0))), (h 2, .inl (y 1, 8, .inl (q 1))), (h 3, .inl (y 1, 24, .inl (q 2))), (h 4, .inl (y 1, 4, .inl (q 3)))] s.heap := hP
  have hl := lv_entry ([.ref (h 0), .int (nI ho)]) (n := 6) (Nat.le_of_ble_eq_true rfl)
  rw [lg_entry_eq]
  generalize (lg_sl ([.ref (h 0), .int (nI ho)]) ++ List.replicate (6 - (lg_sl ([.ref (h 0), .int (nI ho)])).length) Slot.unset).toArray = ls at hl ⊢
  have hl : lv_has ls 6 [(0, .ref (h 0)), (1, .int (nI ho))] := hl
  have hn : ∀ {k : Nat}, k < 8 → V k < 48 := fun hk => hI.nt hk
  refine lv_iconst (v := nI 0) hx hb dX2_clashesOf_0 (by decide) ?_
  refine lv_istore_n (lv' := [(2, .int (nI 0)), (0, .ref (h 0)), (1, .int (nI ho))]) hx hb dX2_clashesOf_1 rfl hl (by decide) rfl (fun ls hl => ?_)
  refine lv_iconst (v := nI 0) hx hb dX2_clashesOf_2 (by decide) ?_
  refine lv_istore_n (lv' := [(3, .int (nI 0)), (2, .int (nI 0)), (0, .ref (h 0)), (1, .int (nI ho))]) hx hb dX2_clashesOf_3 rfl hl (by decide) rfl (fun ls hl => ?_)
  have lp4 : ∀ (n : Nat) (i : Nat), 8 - i < n → (i ≤ 8) → ∀ ls : Array Slot, lv_has ls 6 [(3, .int (nI i)), (2, .int (nI (sN (clsR V ho) i))), (0, .ref (h 0)), (1, .int (nI ho))] → W p l e (headSpec wsX2_clashesOf ({ frames := 0, cells := 0, slots := 0, locals := 0 })).room s m ([.ref (h 0), .int (nI ho)] : List Value).toArray below meth c s.heap [] 0 0 (MQ below (vp_Si (fun rz => rz = nI (cls V ho))) ([.ref (h 0), .int (nI ho)] : List Value).toArray s 0 0 (fun _ => False)) (F0 m 4 ls []) := by
    intro n
    induction n with
    | zero => intro i hm; exact absurd hm (Nat.not_lt_zero _)
    | succ n ih4 =>
      intro i hm hi ls hl
      refine lv_iload_n hx hb dX2_clashesOf_4 rfl (lv_at hl 0 rfl) ?_
      refine lv_aload_n hx hb dX2_clashesOf_5 rfl (lv_at hl 2 rfl) ?_
      refine va_get (D := D) (ci := 2) (v := .ref (h 1)) (C := RX2) (T := TX2) (N := 8) hx hb hts hin_X2 hown hK.1 hP 0 rfl rfl 0 (by decide) f_9 (fun _ h9 => h9) rfl dX2_clashesOf_6 ?_
      refine xn_alen hx hb hK hP 1 1 rfl rfl rfl dX2_clashesOf_9 ?_
      refine xn_icmp_ge hx hb (by omega) (by omega) (tgt := 76) dX2_clashesOf_10 (by decide) (fun kc10 => ?_) (fun kc10 => ?_)
      · refine lv_iload_n hx hb dX2_clashesOf_76 rfl (lv_at hl 1 rfl) ?_
        exact xr_i hx hb hr hlocks dX2_clashesOf_77 (congrArg nI (by rw [show i = 8 by omega]; rfl))
      · have hni := hn (k := i) (by omega)
        refine lv_iconst (v := nI 0) hx hb dX2_clashesOf_13 (by decide) ?_
        refine lv_istore (lv' := [(4, .int (nI 0)), (3, .int (nI i)), (2, .int (nI (sN (clsR V ho) i))), (0, .ref (h 0)), (1, .int (nI ho))]) hx hb dX2_clashesOf_14 hl (by decide) rfl (fun ls hl => ?_)
        have lp16 : ∀ (n : Nat) (j : Nat), i - j < n → (j ≤ i) → ∀ ls : Array Slot, lv_has ls 6 [(4, .int (nI j)), (3, .int (nI i)), (2, .int (nI (sN (clsR V ho) i + sN (clsT V ho i) j))), (0, .ref (h 0)), (1, .int (nI ho))] → W p l e (headSpec wsX2_clashesOf ({ frames := 0, cells := 0, slots := 0, locals := 0 })).room s m ([.ref (h 0), .int (nI ho)] : List Value).toArray below meth c s.heap [] 0 0 (MQ below (vp_Si (fun rz => rz = nI (cls V ho))) ([.ref (h 0), .int (nI ho)] : List Value).toArray s 0 0 (fun _ => False)) (F0 m 16 ls []) := by
          intro n
          induction n with
          | zero => intro j hm; exact absurd hm (Nat.not_lt_zero _)
          | succ n ih16 =>
            intro j hm hj ls hl
            refine lv_iload hx hb dX2_clashesOf_16 (lv_at hl 0 rfl) ?_
            refine lv_iload_n hx hb dX2_clashesOf_18 rfl (lv_at hl 1 rfl) ?_
            refine xn_icmp_ge hx hb (by omega) (by omega) (tgt := 70) dX2_clashesOf_19 (by decide) (fun kc19 => ?_) (fun kc19 => ?_)
            · refine lv_iinc (v := nI (i + 1)) (lv' := [(3, .int (nI (i + 1))), (4, .int (nI j)), (2, .int (nI (sN (clsR V ho) i + sN (clsT V ho i) j))), (0, .ref (h 0)), (1, .int (nI ho))]) hx hb dX2_clashesOf_70 hl (k := 1) rfl (nI_add i 1) (by decide) rfl (fun ls hl => ?_)
              refine lv_goto (tgt := 4) hx hb dX2_clashesOf_73 (by decide) ?_
              have e1 : (sN (clsR V ho) i + sN (clsT V ho i) j) = (sN (clsR V ho) (i + 1)) := by rw [show j = i by omega]; rfl
              exact ih4 (i + 1) (by omega) (by omega) ls (xl_eq (b := [(3, .int (nI (i + 1))), (2, .int (nI (sN (clsR V ho) (i + 1)))), (0, .ref (h 0)), (1, .int (nI ho))]) (lv_sub (l' := [(3, .int (nI (i + 1))), (2, .int (nI (sN (clsR V ho) i + sN (clsT V ho i) j))), (0, .ref (h 0)), (1, .int (nI ho))]) hl [0, 2, 3, 4] rfl) (xk rfl (xk (congrArg (fun z : Nat => Value.int (nI z)) e1) (xk rfl (xk rfl (rfl : ([] : List (Nat × Value)) = []))))))
            · have hnj := hn (k := j) (by omega)
              refine lv_aload_n hx hb dX2_clashesOf_22 rfl (lv_at hl 3 rfl) ?_
              refine va_get (D := D) (ci := 2) (v := .ref (h 1)) (C := RX2) (T := TX2) (N := 8) hx hb hts hin_X2 hown hK.1 hP 0 rfl rfl 0 (by decide) f_9 (fun _ h9 => h9) rfl dX2_clashesOf_23 ?_
              refine lv_iload_n hx hb dX2_clashesOf_26 rfl (lv_at hl 1 rfl) ?_
              refine xn_iald hx hb hK hP 1 rfl (by omega) (by first | decide | omega) (v := nI (V i)) (hR.1 _ (by omega)) dX2_clashesOf_27 ?_
              refine lv_bipush (v := nI 48) hx hb dX2_clashesOf_28 (by decide) ?_
              refine xn_add hx hb (r := ((V i) + 48)) rfl dX2_clashesOf_30 ?_
              refine lv_aload_n hx hb dX2_clashesOf_31 rfl (lv_at hl 3 rfl) ?_
              refine va_get (D := D) (ci := 2) (v := .ref (h 1)) (C := RX2) (T := TX2) (N := 8) hx hb hts hin_X2 hown hK.1 hP 0 rfl rfl 0 (by decide) f_9 (fun _ h9 => h9) rfl dX2_clashesOf_32 ?_
              refine lv_iload hx hb dX2_clashesOf_35 (lv_at hl 0 rfl) ?_
              refine xn_iald hx hb hK hP 1 rfl (by omega) (by first | decide | omega) (v := nI (V j)) (hR.1 _ (by omega)) dX2_clashesOf_37 ?_
              refine xn_sub hx hb (r := (((V i) + 48) - (V j))) (by omega) rfl dX2_clashesOf_38 ?_
              refine lv_bipush (v := nI 12) hx hb dX2_clashesOf_39 (by decide) ?_
              refine xn_rem hx hb (r := ((((V i) + 48) - (V j)) % 12)) (by omega) (by omega) (by omega) rfl dX2_clashesOf_41 ?_
              refine lv_istore (lv' := [(5, .int (nI ((((V i) + 48) - (V j)) % 12))), (4, .int (nI j)), (3, .int (nI i)), (2, .int (nI (sN (clsR V ho) i + sN (clsT V ho i) j))), (0, .ref (h 0)), (1, .int (nI ho))]) hx hb dX2_clashesOf_42 hl (by decide) rfl (fun ls hl => ?_)
              refine lv_iload_n hx hb dX2_clashesOf_44 rfl (lv_at hl 3 rfl) ?_
              refine lv_iload_n hx hb dX2_clashesOf_45 rfl (lv_at hl 5 rfl) ?_
              refine lv_iload_n hx hb dX2_clashesOf_46 rfl (lv_at hl 2 rfl) ?_
              refine xn_shr hx hb (r := (ho / 2 ^ i)) (by omega) (by omega) rfl dX2_clashesOf_47 ?_
              refine lv_iload_n hx hb dX2_clashesOf_48 rfl (lv_at hl 5 rfl) ?_
              refine lv_iload hx hb dX2_clashesOf_49 (lv_at hl 1 rfl) ?_
              refine xn_shr hx hb (r := (ho / 2 ^ j)) (by omega) (by omega) rfl dX2_clashesOf_51 ?_
              refine xn_and hx hb (r := ((ho / 2 ^ i) &&& (ho / 2 ^ j))) rfl dX2_clashesOf_52 ?_
              refine lv_sipush (v := nI 3142) hx hb dX2_clashesOf_53 (by decide) ?_
              refine lv_iload hx hb dX2_clashesOf_56 (lv_at hl 0 rfl) ?_
              refine xn_shr hx hb (r := (3142 / 2 ^ ((((V i) + 48) - (V j)) % 12))) (by omega) (by omega) rfl dX2_clashesOf_58 ?_
              refine xn_and hx hb (r := (((ho / 2 ^ i) &&& (ho / 2 ^ j)) &&& (3142 / 2 ^ ((((V i) + 48) - (V j)) % 12)))) rfl dX2_clashesOf_59 ?_
              refine lv_iconst (v := nI 1) hx hb dX2_clashesOf_60 (by decide) ?_
              refine xn_and hx hb (r := ((((ho / 2 ^ i) &&& (ho / 2 ^ j)) &&& (3142 / 2 ^ ((((V i) + 48) - (V j)) % 12))) % 2)) (Nat.and_one_is_mod _) dX2_clashesOf_61 ?_
              refine xn_add hx hb (r := ((sN (clsR V ho) i + sN (clsT V ho i) j) + ((((ho / 2 ^ i) &&& (ho / 2 ^ j)) &&& (3142 / 2 ^ ((((V i) + 48) - (V j)) % 12))) % 2))) rfl dX2_clashesOf_62 ?_
              refine lv_istore_n (lv' := [(2, .int (nI ((sN (clsR V ho) i + sN (clsT V ho i) j) + ((((ho / 2 ^ i) &&& (ho / 2 ^ j)) &&& (3142 / 2 ^ ((((V i) + 48) - (V j)) % 12))) % 2)))), (5, .int (nI ((((V i) + 48) - (V j)) % 12))), (4, .int (nI j)), (3, .int (nI i)), (0, .ref (h 0)), (1, .int (nI ho))]) hx hb dX2_clashesOf_63 rfl hl (by decide) rfl (fun ls hl => ?_)
              refine lv_iinc (v := nI (j + 1)) (lv' := [(4, .int (nI (j + 1))), (2, .int (nI ((sN (clsR V ho) i + sN (clsT V ho i) j) + ((((ho / 2 ^ i) &&& (ho / 2 ^ j)) &&& (3142 / 2 ^ ((((V i) + 48) - (V j)) % 12))) % 2)))), (5, .int (nI ((((V i) + 48) - (V j)) % 12))), (3, .int (nI i)), (0, .ref (h 0)), (1, .int (nI ho))]) hx hb dX2_clashesOf_64 hl (k := 2) rfl (nI_add j 1) (by decide) rfl (fun ls hl => ?_)
              refine lv_goto (tgt := 16) hx hb dX2_clashesOf_67 (by decide) ?_
              have e2 : ((sN (clsR V ho) i + sN (clsT V ho i) j) + ((((ho / 2 ^ i) &&& (ho / 2 ^ j)) &&& (3142 / 2 ^ ((((V i) + 48) - (V j)) % 12))) % 2)) = (sN (clsR V ho) i + sN (clsT V ho i) (j + 1)) := by rw [clsE, sN_s, Nat.add_assoc]
              exact ih16 (j + 1) (by omega) (by omega) ls (xl_eq (b := [(4, .int (nI (j + 1))), (3, .int (nI i)), (2, .int (nI (sN (clsR V ho) i + sN (clsT V ho i) (j + 1)))), (0, .ref (h 0)), (1, .int (nI ho))]) (lv_sub (l' := [(4, .int (nI (j + 1))), (3, .int (nI i)), (2, .int (nI ((sN (clsR V ho) i + sN (clsT V ho i) j) + ((((ho / 2 ^ i) &&& (ho / 2 ^ j)) &&& (3142 / 2 ^ ((((V i) + 48) - (V j)) % 12))) % 2)))), (0, .ref (h 0)), (1, .int (nI ho))]) hl [0, 3, 1, 4, 5] rfl) (xk rfl (xk rfl (xk (congrArg (fun z : Nat => Value.int (nI z)) e2) (xk rfl (xk rfl (rfl : ([] : List (Nat × Value)) = [])))))))
        have e3 : (sN (clsR V ho) i) = (sN (clsR V ho) i + sN (clsT V ho i) 0) := by rfl
        exact lp16 ((i - 0) + 1) 0 (Nat.lt_succ_self _) (by omega) ls (xl_eq (b := [(4, .int (nI 0)), (3, .int (nI i)), (2, .int (nI (sN (clsR V ho) i + sN (clsT V ho i) 0))), (0, .ref (h 0)), (1, .int (nI ho))]) (lv_sub (l' := [(4, .int (nI 0)), (3, .int (nI i)), (2, .int (nI (sN (clsR V ho) i))), (0, .ref (h 0)), (1, .int (nI ho))]) hl [0, 1, 2, 3, 4] rfl) (xk rfl (xk rfl (xk (congrArg (fun z : Nat => Value.int (nI z)) e3) (xk rfl (xk rfl (rfl : ([] : List (Nat × Value)) = [])))))))
  have e4 : 0 = (sN (clsR V ho) 0) := rfl
  exact lp4 ((8 - 0) + 1) 0 (Nat.lt_succ_self _) (by omega) ls (xl_eq (b := [(3, .int (nI 0)), (2, .int (nI (sN (clsR V ho) 0))), (0, .ref (h 0)), (1, .int (nI ho))]) (lv_sub (l' := [(3, .int (nI 0)), (2, .int (nI 0)), (0, .ref (h 0)), (1, .int (nI ho))]) hl [0, 1, 2, 3] rfl) (xk rfl (xk (congrArg (fun z : Nat => Value.int (nI z)) e4) (xk rfl (xk rfl (rfl : ([] : List (Nat × Value)) = []))))))
set_option maxHeartbeats 8000000 in
set_option maxRecDepth 100000 in
theorem c_X2_inCommonWithLast (l : Launch) (D : va_G) (y : Nat → ClassId) (h : Nat → Nat) (V : Nat → Nat) (q : Nat → Nat → Int32) (hR : RepC V q) (hI : Inv V) (ho : Nat) (hh : ho < 256) : Met l yX2_inCommonWithLast wsX2_inCommonWithLast ({ frames := 1, cells := 0, slots := 0, locals := 21 }) (va_Pc [.ref (h 0), .int (nI ho)] (xPr D y [(h 0, .inr (2, [.ref (h 1), .ref (h 2), .ref (h 3), .ref (h 4), .int (nI (V 16)), .int (nI (V 67)), .int (rmb V), .int (nI (V 66))])), (h 1, .inl (y 1, 8, .inl (q 0))), (h 2, .inl (y 1, 8, .inl (q 1))), (h 3, .inl (y 1, 24, .inl (q 2))), (h 4, .inl (y 1, 4, .inl (q 3)))])) (vp_Si (fun rz => rz = nI (com V ho))) 0 0 (fun _ => False) := by
  refine Met.ofW (cc := cX2_inCommonWithLast) (maxL := 2) (ret := (some .int)) (by decide) rfl ?_
  intro p e s m args below meth c s₁ B hml hv
  obtain ⟨rfl, hP, hK⟩ := hv
  have hx := B.exec
  have hb := B.bytes
  have hr := B.returns
  have hts := atoms_spec (ws := wsX2_inCommonWithLast) B.pre
  have hown : s.vm.findClass RX2 = some m.cls := findClass_of_methodNamed B.named
  have hlocks := B.notSynchronized
  have f_24 := hts (.fieldLink RX2 24 "LoomTunes$Register" "size" "I") (by decide +kernel)
  have hin_X2 : ∀ w ∈ wsX20, w ∈ wsX2_inCommonWithLast := by decide +kernel
  have hP : va_P D vwCl [(h 0, .inr (2, [.ref (h 1), .ref (h 2), .ref (h 3), .ref (h 4), .int (nI (V 16)), .int (nI (V 67)), .int (rmb V), .int (nI (V 66))])), (h 1, .inl (y 1, 8, .inl (q 0))), (h 2, .inl (y 1, 8, .inl (q 1))), (h 3, .inl (y 1, 24, .inl (q 2))), (h 4, .inl (y 1, 4, .inl (q 3)))] s.heap := hP
  have hl := lv_entry ([.ref (h 0), .int (nI ho)]) (n := 2) (Nat.le_of_ble_eq_true rfl)
  rw [lg_entry_eq]
  generalize (lg_sl ([.ref (h 0), .int (nI ho)]) ++ List.replicate (2 - (lg_sl ([.ref (h 0), .int (nI ho)])).length) Slot.unset).toArray = ls at hl ⊢
  have hl : lv_has ls 2 [(0, .ref (h 0)), (1, .int (nI ho))] := hl
  have hsz := hI.sz
  have hlt := holI_lt hI (x := nI (V 16) - nI 1)
  refine lv_iload_n hx hb dX2_inCommonWithLast_0 rfl (lv_at hl 1 rfl) ?_
  refine lv_aload_n hx hb dX2_inCommonWithLast_1 rfl (lv_at hl 0 rfl) ?_
  refine lv_aload_n hx hb dX2_inCommonWithLast_2 rfl (lv_at hl 0 rfl) ?_
  refine va_get (D := D) (ci := 2) (v := .int (nI (V 16))) (C := RX2) (T := TX2) (N := 8) hx hb hts hin_X2 hown hK.1 hP 0 rfl rfl 4 (by decide) f_24 (fun _ h9 => h9) rfl dX2_inCommonWithLast_3 ?_
  refine lv_iconst (v := nI 1) hx hb dX2_inCommonWithLast_6 (by decide) ?_
  refine lv_isub hx hb dX2_inCommonWithLast_7 ?_
  refine xc_V (As := [.int ((nI (V 16)) - (nI 1))]) (rest := [.int (nI ho)]) ⟨hx, hb, hml, hown, hts⟩ (c_X2_holesAt l D y h V q hR hI ((nI (V 16)) - (nI 1))) (cwV 1 hts gX2_inCommonWithLast_X2_holesAt rfl rfl rfl hd_X2_holesAt ⟨Nat.le_of_ble_eq_true rfl, Nat.le_of_ble_eq_true rfl⟩) (xpv_r hK hP [0, 1, 2, 3, 4] 0 rfl rfl rfl) rfl hl.1 rfl (Nat.le_of_ble_eq_true rfl) dX2_inCommonWithLast_8 ⟨Nat.zero_le _, Nat.zero_le _⟩ (fun r1 hr1 => ?_)
  subst hr1
  refine xn_and hx hb (r := (ho &&& (holI V ((nI (V 16)) - (nI 1))))) rfl dX2_inCommonWithLast_11 ?_
  refine xc_S (As := [.int (nI (ho &&& (holI V ((nI (V 16)) - (nI 1)))))]) (rest := []) ⟨hx, hb, hml, hown, hts⟩ (c_J6_bitCount_0f7a4 l (ho &&& (holI V ((nI (V 16)) - (nI 1)))) (Nat.lt_of_le_of_lt Nat.and_le_left hh)) (va_cwS 1 hts gX2_inCommonWithLast_J6_bitCount_0f7a4 rfl rfl rfl hd_J6_bitCount_0f7a4.2 ⟨Nat.le_of_ble_eq_true rfl, Nat.le_of_ble_eq_true rfl⟩) xps_0 rfl hl.1 rfl (Nat.le_of_ble_eq_true rfl) dX2_inCommonWithLast_12 ⟨Nat.zero_le _, Nat.zero_le _⟩ (fun r2 hr2 => ?_)
  subst hr2
  exact xr_i hx hb hr hlocks dX2_inCommonWithLast_15 (congrArg nI (by rw [holI_last hI]; rfl))
set_option maxHeartbeats 8000000 in
set_option maxRecDepth 100000 in
theorem c_X2_reasonAgainst (l : Launch) (D : va_G) (y : Nat → ClassId) (h : Nat → Nat) (V : Nat → Nat) (q : Nat → Nat → Int32) (hR : RepC V q) (hI : Inv V) (ho : Nat) (hh : ho < 256) : Met l yX2_reasonAgainst wsX2_reasonAgainst ({ frames := 1, cells := 0, slots := 0, locals := 25 }) (va_Pc [.ref (h 0), .int (nI ho)] (xPr D y [(h 0, .inr (2, [.ref (h 1), .ref (h 2), .ref (h 3), .ref (h 4), .int (nI (V 16)), .int (nI (V 67)), .int (rmb V), .int (nI (V 66))])), (h 1, .inl (y 1, 8, .inl (q 0))), (h 2, .inl (y 1, 8, .inl (q 1))), (h 3, .inl (y 1, 24, .inl (q 2))), (h 4, .inl (y 1, 4, .inl (q 3)))])) (vp_Si (fun rz => rz = nI (why V ho))) 0 0 (fun _ => False) := by
  refine Met.ofW (cc := cX2_reasonAgainst) (maxL := 2) (ret := (some .int)) (by decide) rfl ?_
  intro p e s m args below meth c s₁ B hml hv
  obtain ⟨rfl, hP, hK⟩ := hv
  have hx := B.exec
  have hb := B.bytes
  have hr := B.returns
  have hts := atoms_spec (ws := wsX2_reasonAgainst) B.pre
  have hown : s.vm.findClass RX2 = some m.cls := findClass_of_methodNamed B.named
  have hlocks := B.notSynchronized
  have f_24 := hts (.fieldLink RX2 24 "LoomTunes$Register" "size" "I") (by decide +kernel)
  have hin_X2 : ∀ w ∈ wsX20, w ∈ wsX2_reasonAgainst := by decide +kernel
  have hP : va_P D vwCl [(h 0, .inr (2, [.ref (h 1), .ref (h 2), .ref (h 3), .ref (h 4), .int (nI (V 16)), .int (nI (V 67)), .int (rmb V), .int (nI (V 66))])), (h 1, .inl (y 1, 8, .inl (q 0))), (h 2, .inl (y 1, 8, .inl (q 1))), (h 3, .inl (y 1, 24, .inl (q 2))), (h 4, .inl (y 1, 4, .inl (q 3)))] s.heap := hP
  have hl := lv_entry ([.ref (h 0), .int (nI ho)]) (n := 2) (Nat.le_of_ble_eq_true rfl)
  rw [lg_entry_eq]
  generalize (lg_sl ([.ref (h 0), .int (nI ho)]) ++ List.replicate (2 - (lg_sl ([.ref (h 0), .int (nI ho)])).length) Slot.unset).toArray = ls at hl ⊢
  have hl : lv_has ls 2 [(0, .ref (h 0)), (1, .int (nI ho))] := hl
  have hsz := hI.sz
  have h1 := hI.s1
  have h2 := hI.s2
  have h3 := pop_le (h := ho)
  have h4 := cls_le (V := V) (h := ho)
  have h5 := hol_lt hI (r := V 16 - 1)
  refine lv_iload_n hx hb dX2_reasonAgainst_0 rfl (lv_at hl 1 rfl) ?_
  refine xc_S (As := [.int (nI ho)]) (rest := []) ⟨hx, hb, hml, hown, hts⟩ (c_J6_bitCount_0f7a4 l ho (by omega)) (va_cwS 1 hts gX2_reasonAgainst_J6_bitCount_0f7a4 rfl rfl rfl hd_J6_bitCount_0f7a4.2 ⟨Nat.le_of_ble_eq_true rfl, Nat.le_of_ble_eq_true rfl⟩) xps_0 rfl hl.1 rfl (Nat.le_of_ble_eq_true rfl) dX2_reasonAgainst_1 ⟨Nat.zero_le _, Nat.zero_le _⟩ (fun r1 hr1 => ?_)
  subst hr1
  refine lv_aload_n hx hb dX2_reasonAgainst_4 rfl (lv_at hl 0 rfl) ?_
  refine lv_iconst (v := nI 1) hx hb dX2_reasonAgainst_5 (by decide) ?_
  refine xc_V (As := [.int (nI 1)]) (rest := [.int (nI (pop ho))]) ⟨hx, hb, hml, hown, hts⟩ (c_X2_settingAt l D y h V q hR hI 1 (by omega)) (cwV 1 hts gX2_reasonAgainst_X2_settingAt rfl rfl rfl hd_X2_settingAt ⟨Nat.le_of_ble_eq_true rfl, Nat.le_of_ble_eq_true rfl⟩) (xpv_r hK hP [0, 1, 2, 3, 4] 0 rfl rfl rfl) rfl hl.1 rfl (Nat.le_of_ble_eq_true rfl) dX2_reasonAgainst_6 ⟨Nat.zero_le _, Nat.zero_le _⟩ (fun r2 hr2 => ?_)
  subst hr2
  refine xv (v := nI (V 69)) rfl ?_
  refine xn_icmp_le hx hb (by omega) (by omega) (tgt := 14) dX2_reasonAgainst_9 (by decide) (fun kc9 => ?_) (fun kc9 => ?_)
  · refine lv_aload_n hx hb dX2_reasonAgainst_14 rfl (lv_at hl 0 rfl) ?_
    refine lv_iload_n hx hb dX2_reasonAgainst_15 rfl (lv_at hl 1 rfl) ?_
    refine xc_V (As := [.int (nI ho)]) (rest := []) ⟨hx, hb, hml, hown, hts⟩ (c_X2_clashesOf l D y h V q hR hI ho (by first | omega | exact hol_lt hI)) (cwV 1 hts gX2_reasonAgainst_X2_clashesOf rfl rfl rfl hd_X2_clashesOf ⟨Nat.le_of_ble_eq_true rfl, Nat.le_of_ble_eq_true rfl⟩) (xpv_r hK hP [0, 1, 2, 3, 4] 0 rfl rfl rfl) rfl hl.1 rfl (Nat.le_of_ble_eq_true rfl) dX2_reasonAgainst_16 ⟨Nat.zero_le _, Nat.zero_le _⟩ (fun r3 hr3 => ?_)
    subst hr3
    refine lv_aload_n hx hb dX2_reasonAgainst_19 rfl (lv_at hl 0 rfl) ?_
    refine lv_iconst (v := nI 2) hx hb dX2_reasonAgainst_20 (by decide) ?_
    refine xc_V (As := [.int (nI 2)]) (rest := [.int (nI (cls V ho))]) ⟨hx, hb, hml, hown, hts⟩ (c_X2_settingAt l D y h V q hR hI 2 (by omega)) (cwV 1 hts gX2_reasonAgainst_X2_settingAt rfl rfl rfl hd_X2_settingAt ⟨Nat.le_of_ble_eq_true rfl, Nat.le_of_ble_eq_true rfl⟩) (xpv_r hK hP [0, 1, 2, 3, 4] 0 rfl rfl rfl) rfl hl.1 rfl (Nat.le_of_ble_eq_true rfl) dX2_reasonAgainst_21 ⟨Nat.zero_le _, Nat.zero_le _⟩ (fun r4 hr4 => ?_)
    subst hr4
    refine xv (v := nI (V 70)) rfl ?_
    refine xn_icmp_le hx hb (by omega) (by omega) (tgt := 29) dX2_reasonAgainst_24 (by decide) (fun kc24 => ?_) (fun kc24 => ?_)
    · refine lv_aload_n hx hb dX2_reasonAgainst_29 rfl (lv_at hl 0 rfl) ?_
      refine va_get (D := D) (ci := 2) (v := .int (nI (V 16))) (C := RX2) (T := TX2) (N := 8) hx hb hts hin_X2 hown hK.1 hP 0 rfl rfl 4 (by decide) f_24 (fun _ h9 => h9) rfl dX2_reasonAgainst_30 ?_
      refine xn_if_le hx hb (by omega) (tgt := 54) dX2_reasonAgainst_33 (by decide) (fun kc33 => ?_) (fun kc33 => ?_)
      · refine lv_iconst (v := nI 0) hx hb dX2_reasonAgainst_54 (by decide) ?_
        exact xr_i hx hb hr hlocks dX2_reasonAgainst_55 (congrArg nI (by unfold why; first | rw [if_pos (by omega)] | rw [if_neg (by omega), if_pos (by omega)] | rw [if_neg (by omega), if_neg (by omega), if_pos (by omega)] | rw [if_neg (by omega), if_neg (by omega), if_neg (by omega)]))
      · refine lv_aload_n hx hb dX2_reasonAgainst_36 rfl (lv_at hl 0 rfl) ?_
        refine lv_aload_n hx hb dX2_reasonAgainst_37 rfl (lv_at hl 0 rfl) ?_
        refine va_get (D := D) (ci := 2) (v := .int (nI (V 16))) (C := RX2) (T := TX2) (N := 8) hx hb hts hin_X2 hown hK.1 hP 0 rfl rfl 4 (by decide) f_24 (fun _ h9 => h9) rfl dX2_reasonAgainst_38 ?_
        refine lv_iconst (v := nI 1) hx hb dX2_reasonAgainst_41 (by decide) ?_
        refine xn_sub hx hb (r := ((V 16) - 1)) (by omega) rfl dX2_reasonAgainst_42 ?_
        refine xc_V (As := [.int (nI ((V 16) - 1))]) (rest := []) ⟨hx, hb, hml, hown, hts⟩ (c_X2_holesAt_n l D y h V q hR hI ((V 16) - 1) (by omega)) (cwV 1 hts gX2_reasonAgainst_X2_holesAt rfl rfl rfl hd_X2_holesAt ⟨Nat.le_of_ble_eq_true rfl, Nat.le_of_ble_eq_true rfl⟩) (xpv_r hK hP [0, 1, 2, 3, 4] 0 rfl rfl rfl) rfl hl.1 rfl (Nat.le_of_ble_eq_true rfl) dX2_reasonAgainst_43 ⟨Nat.zero_le _, Nat.zero_le _⟩ (fun r5 hr5 => ?_)
        subst hr5
        refine lv_iload_n hx hb dX2_reasonAgainst_46 rfl (lv_at hl 1 rfl) ?_
        refine xn_icmp_ne hx hb (by omega) (by omega) (tgt := 54) dX2_reasonAgainst_47 (by decide) (fun kc47 => ?_) (fun kc47 => ?_)
        · refine lv_iconst (v := nI 0) hx hb dX2_reasonAgainst_54 (by decide) ?_
          exact xr_i hx hb hr hlocks dX2_reasonAgainst_55 (congrArg nI (by unfold why; first | rw [if_pos (by omega)] | rw [if_neg (by omega), if_pos (by omega)] | rw [if_neg (by omega), if_neg (by omega), if_pos (by omega)] | rw [if_neg (by omega), if_neg (by omega), if_neg (by omega)]))
        · refine lv_iconst (v := nI 3) hx hb dX2_reasonAgainst_50 (by decide) ?_
          refine lv_goto (tgt := 55) hx hb dX2_reasonAgainst_51 (by decide) ?_
          exact xr_i hx hb hr hlocks dX2_reasonAgainst_55 (congrArg nI (by unfold why; first | rw [if_pos (by omega)] | rw [if_neg (by omega), if_pos (by omega)] | rw [if_neg (by omega), if_neg (by omega), if_pos (by omega)] | rw [if_neg (by omega), if_neg (by omega), if_neg (by omega)]))
    · refine lv_iconst (v := nI 2) hx hb dX2_reasonAgainst_27 (by decide) ?_
      exact xr_i hx hb hr hlocks dX2_reasonAgainst_28 (congrArg nI (by unfold why; first | rw [if_pos (by omega)] | rw [if_neg (by omega), if_pos (by omega)] | rw [if_neg (by omega), if_neg (by omega), if_pos (by omega)] | rw [if_neg (by omega), if_neg (by omega), if_neg (by omega)]))
  · refine lv_iconst (v := nI 1) hx hb dX2_reasonAgainst_12 (by decide) ?_
    exact xr_i hx hb hr hlocks dX2_reasonAgainst_13 (congrArg nI (by unfold why; first | rw [if_pos (by omega)] | rw [if_neg (by omega), if_pos (by omega)] | rw [if_neg (by omega), if_neg (by omega), if_pos (by omega)] | rw [if_neg (by omega), if_neg (by omega), if_neg (by omega)]))
set_option maxHeartbeats 8000000 in
set_option maxRecDepth 100000 in
theorem c_X2_answerTo (l : Launch) (D : va_G) (y : Nat → ClassId) (h : Nat → Nat) (V : Nat → Nat) (q : Nat → Nat → Int32) (hR : RepC V q) (hI : Inv V) (x : Int32) : Met l yX2_answerTo wsX2_answerTo ({ frames := 2, cells := 0, slots := 0, locals := 46 }) (va_Pc [.ref (h 0), .int x] (xPr D y [(h 0, .inr (2, [.ref (h 1), .ref (h 2), .ref (h 3), .ref (h 4), .int (nI (V 16)), .int (nI (V 67)), .int (rmb V), .int (nI (V 66))])), (h 1, .inl (y 1, 8, .inl (q 0))), (h 2, .inl (y 1, 8, .inl (q 1))), (h 3, .inl (y 1, 24, .inl (q 2))), (h 4, .inl (y 1, 4, .inl (q 3)))])) (vp_Si (fun rz => rz = ansI V x)) 0 0 (fun _ => False) := by
  refine Met.ofW (cc := cX2_answerTo) (maxL := 4) (ret := (some .int)) (by decide) rfl ?_
  intro p e s m args below meth c s₁ B hml hv
  obtain ⟨rfl, hP, hK⟩ := hv
  have hx := B.exec
  have hb := B.bytes
  have hr := B.returns
  have hts := atoms_spec (ws := wsX2_answerTo) B.pre
  have hown : s.vm.findClass RX2 = some m.cls := findClass_of_methodNamed B.named
  have hlocks := B.notSynchronized
  have f_31 := hts (.fieldLink RX2 31 "LoomTunes$Register" "refused" "I") (by decide +kernel)
  have f_34 := hts (.fieldLink RX2 34 "LoomTunes$Register" "refusedTimes" "I") (by decide +kernel)
  have f_52 := hts (.constant RX2 52 (-1000001)) (by decide +kernel)
  have f_88 := hts (.constant RX2 88 (-1000003)) (by decide +kernel)
  have hin_X2 : ∀ w ∈ wsX20, w ∈ wsX2_answerTo := by decide +kernel
  have hP : va_P D vwCl [(h 0, .inr (2, [.ref (h 1), .ref (h 2), .ref (h 3), .ref (h 4), .int (nI (V 16)), .int (nI (V 67)), .int (rmb V), .int (nI (V 66))])), (h 1, .inl (y 1, 8, .inl (q 0))), (h 2, .inl (y 1, 8, .inl (q 1))), (h 3, .inl (y 1, 24, .inl (q 2))), (h 4, .inl (y 1, 4, .inl (q 3)))] s.heap := hP
  have hl := lv_entry ([.ref (h 0), .int x]) (n := 4) (Nat.le_of_ble_eq_true rfl)
  rw [lg_entry_eq]
  generalize (lg_sl ([.ref (h 0), .int x]) ++ List.replicate (4 - (lg_sl ([.ref (h 0), .int x])).length) Slot.unset).toArray = ls at hl ⊢
  have hl : lv_has ls 4 [(0, .ref (h 0)), (1, .int x)] := hl
  have hsz := hI.sz
  have ht2 := hI.ti
  have hb18 := bN_lt (c := 24 ≤ V 16)
  refine lv_iload_n hx hb dX2_answerTo_0 rfl (lv_at hl 1 rfl) ?_
  refine lv_if_lt (tgt := 11) hx hb dX2_answerTo_1 (by decide) (fun kc1 => ?_) (fun kc1 => ?_)
  · refine lv_ldc hx hb hown f_52 dX2_answerTo_11 ?_
    exact xr_i hx hb hr hlocks dX2_answerTo_13 (by first | exact (ansI_neg kc1).symm | exact (ansI_big kc8).symm)
  · refine lv_iload_n hx hb dX2_answerTo_4 rfl (lv_at hl 1 rfl) ?_
    refine lv_sipush (v := nI 255) hx hb dX2_answerTo_5 (by decide) ?_
    refine lv_icmp_le (tgt := 14) hx hb dX2_answerTo_8 (by decide) (fun kc8 => ?_) (fun kc8 => ?_)
    · obtain ⟨k, hk, rfl⟩ := inR_k (n := 256) (by decide) ⟨kc1, xle255 kc8⟩
      have hw := why_le (V := V) (h := k)
      refine lv_aload_n hx hb dX2_answerTo_14 rfl (lv_at hl 0 rfl) ?_
      refine xc_V (As := []) (rest := []) ⟨hx, hb, hml, hown, hts⟩ (c_X2_isFull l D y h V q hR hI ) (cwV 0 hts gX2_answerTo_X2_isFull rfl rfl rfl hd_X2_isFull ⟨Nat.le_of_ble_eq_true rfl, Nat.le_of_ble_eq_true rfl⟩) (xpv_r hK hP [0, 1, 2, 3, 4] 0 rfl rfl rfl) rfl hl.1 rfl (Nat.le_of_ble_eq_true rfl) dX2_answerTo_15 ⟨Nat.zero_le _, Nat.zero_le _⟩ (fun r1 hr1 => ?_)
      subst hr1
      refine xn_if_eq hx hb (by omega) (tgt := 24) dX2_answerTo_18 (by decide) (fun kc18 => ?_) (fun kc18 => ?_)
      · refine lv_aload_n hx hb dX2_answerTo_24 rfl (lv_at hl 0 rfl) ?_
        refine lv_iload_n hx hb dX2_answerTo_25 rfl (lv_at hl 1 rfl) ?_
        refine xc_V (As := [.int (nI k)]) (rest := []) ⟨hx, hb, hml, hown, hts⟩ (c_X2_reasonAgainst l D y h V q hR hI k (by omega)) (cwV 1 hts gX2_answerTo_X2_reasonAgainst rfl rfl rfl hd_X2_reasonAgainst ⟨Nat.le_of_ble_eq_true rfl, Nat.le_of_ble_eq_true rfl⟩) (xpv_r hK hP [0, 1, 2, 3, 4] 0 rfl rfl rfl) rfl hl.1 rfl (Nat.le_of_ble_eq_true rfl) dX2_answerTo_26 ⟨Nat.zero_le _, Nat.zero_le _⟩ (fun r2 hr2 => ?_)
        subst hr2
        refine lv_istore_n (lv' := [(2, .int (nI (why V k))), (0, .ref (h 0)), (1, .int (nI k))]) hx hb dX2_answerTo_29 rfl hl (by decide) rfl (fun ls hl => ?_)
        refine lv_aload_n hx hb dX2_answerTo_30 rfl (lv_at hl 1 rfl) ?_
        refine va_get (D := D) (ci := 2) (v := .int (rmb V)) (C := RX2) (T := TX2) (N := 8) hx hb hts hin_X2 hown hK.1 hP 0 rfl rfl 6 (by decide) f_31 (fun _ h9 => h9) rfl dX2_answerTo_31 ?_
        refine lv_iload_n hx hb dX2_answerTo_34 rfl (lv_at hl 2 rfl) ?_
        refine lv_icmp_ne (tgt := 50) hx hb dX2_answerTo_35 (by decide) (fun kc35 => ?_) (fun kc35 => ?_)
        · refine lv_iconst (v := nI 0) hx hb dX2_answerTo_50 (by decide) ?_
          refine lv_istore_n (lv' := [(3, .int (nI 0)), (2, .int (nI (why V k))), (0, .ref (h 0)), (1, .int (nI k))]) hx hb dX2_answerTo_51 rfl hl (by decide) rfl (fun ls hl => ?_)
          refine lv_iload_n hx hb dX2_answerTo_52 rfl (lv_at hl 1 rfl) ?_
          refine xn_if_eq hx hb (by omega) (tgt := 67) dX2_answerTo_53 (by decide) (fun kc53 => ?_) (fun kc53 => ?_)
          · refine lv_iload_n hx hb dX2_answerTo_67 rfl (lv_at hl 1 rfl) ?_
            exact xr_i hx hb hr hlocks dX2_answerTo_68 (by rw [ansI_n hk (bN_0.mp kc18)]; refine congrArg nI ?_; have q := rmb_eq hI (h := k) (by omega); rw [q] at kc35; unfold ans; split <;> omega)
          · refine lv_iload_n hx hb dX2_answerTo_56 rfl (lv_at hl 0 rfl) ?_
            refine lv_if_eq (tgt := 67) hx hb dX2_answerTo_57 (by decide) (fun _ => ?_) (fun h => absurd h (by decide))
            refine lv_iload_n hx hb dX2_answerTo_67 rfl (lv_at hl 1 rfl) ?_
            exact xr_i hx hb hr hlocks dX2_answerTo_68 (by rw [ansI_n hk (bN_0.mp kc18)]; refine congrArg nI ?_; have q := rmb_eq hI (h := k) (by omega); rw [q] at kc35; unfold ans; split <;> omega)
        · refine lv_aload_n hx hb dX2_answerTo_38 rfl (lv_at hl 1 rfl) ?_
          refine va_get (D := D) (ci := 2) (v := .int (nI (V 66))) (C := RX2) (T := TX2) (N := 8) hx hb hts hin_X2 hown hK.1 hP 0 rfl rfl 7 (by decide) f_34 (fun _ h9 => h9) rfl dX2_answerTo_39 ?_
          refine lv_iconst (v := nI 2) hx hb dX2_answerTo_42 (by decide) ?_
          refine xn_icmp_lt hx hb (by omega) (by omega) (tgt := 50) dX2_answerTo_43 (by decide) (fun kc43 => ?_) (fun kc43 => ?_)
          · refine lv_iconst (v := nI 0) hx hb dX2_answerTo_50 (by decide) ?_
            refine lv_istore_n (lv' := [(3, .int (nI 0)), (2, .int (nI (why V k))), (0, .ref (h 0)), (1, .int (nI k))]) hx hb dX2_answerTo_51 rfl hl (by decide) rfl (fun ls hl => ?_)
            refine lv_iload_n hx hb dX2_answerTo_52 rfl (lv_at hl 1 rfl) ?_
            refine xn_if_eq hx hb (by omega) (tgt := 67) dX2_answerTo_53 (by decide) (fun kc53 => ?_) (fun kc53 => ?_)
            · refine lv_iload_n hx hb dX2_answerTo_67 rfl (lv_at hl 1 rfl) ?_
              exact xr_i hx hb hr hlocks dX2_answerTo_68 (by rw [ansI_n hk (bN_0.mp kc18)]; refine congrArg nI ?_; have q := rmb_eq hI (h := k) (by omega); rw [q] at kc35; unfold ans; split <;> omega)
            · refine lv_iload_n hx hb dX2_answerTo_56 rfl (lv_at hl 0 rfl) ?_
              refine lv_if_eq (tgt := 67) hx hb dX2_answerTo_57 (by decide) (fun _ => ?_) (fun h => absurd h (by decide))
              refine lv_iload_n hx hb dX2_answerTo_67 rfl (lv_at hl 1 rfl) ?_
              exact xr_i hx hb hr hlocks dX2_answerTo_68 (by rw [ansI_n hk (bN_0.mp kc18)]; refine congrArg nI ?_; have q := rmb_eq hI (h := k) (by omega); rw [q] at kc35; unfold ans; split <;> omega)
          · refine lv_iconst (v := nI 1) hx hb dX2_answerTo_46 (by decide) ?_
            refine lv_goto (tgt := 51) hx hb dX2_answerTo_47 (by decide) ?_
            refine lv_istore_n (lv' := [(3, .int (nI 1)), (2, .int (nI (why V k))), (0, .ref (h 0)), (1, .int (nI k))]) hx hb dX2_answerTo_51 rfl hl (by decide) rfl (fun ls hl => ?_)
            refine lv_iload_n hx hb dX2_answerTo_52 rfl (lv_at hl 1 rfl) ?_
            refine xn_if_eq hx hb (by omega) (tgt := 67) dX2_answerTo_53 (by decide) (fun kc53 => ?_) (fun kc53 => ?_)
            · refine lv_iload_n hx hb dX2_answerTo_67 rfl (lv_at hl 1 rfl) ?_
              exact xr_i hx hb hr hlocks dX2_answerTo_68 (by rw [ansI_n hk (bN_0.mp kc18)]; refine congrArg nI ?_; have q := rmb_eq hI (h := k) (by omega); rw [q] at kc35; unfold ans; split <;> omega)
            · refine lv_iload_n hx hb dX2_answerTo_56 rfl (lv_at hl 0 rfl) ?_
              refine lv_if_eq (tgt := 67) hx hb dX2_answerTo_57 (by decide) (fun h => absurd h (by decide)) (fun _ => ?_)
              refine lv_bipush (v := nI 10) hx hb dX2_answerTo_60 (by decide) ?_
              refine lv_iload_n hx hb dX2_answerTo_62 rfl (lv_at hl 1 rfl) ?_
              refine xn_add hx hb (r := (10 + (why V k))) rfl dX2_answerTo_63 ?_
              refine lv_goto (tgt := 68) hx hb dX2_answerTo_64 (by decide) ?_
              exact xr_i hx hb hr hlocks dX2_answerTo_68 (by rw [ansI_n hk (bN_0.mp kc18)]; refine congrArg nI ?_; have q := rmb_eq hI (h := k) (by omega); rw [q] at kc35; unfold ans; split <;> omega)
      · refine lv_ldc hx hb hown f_88 dX2_answerTo_21 ?_
        exact xr_i hx hb hr hlocks dX2_answerTo_23 ((ansI_full hk (bN_n0.mp kc18)).symm)
    · refine lv_ldc hx hb hown f_52 dX2_answerTo_11 ?_
      exact xr_i hx hb hr hlocks dX2_answerTo_13 (by first | exact (ansI_neg kc1).symm | exact (ansI_big kc8).symm)
set_option maxHeartbeats 8000000 in
set_option maxRecDepth 100000 in
theorem c_X2_isBetter (l : Launch) (D : va_G) (y : Nat → ClassId) (h : Nat → Nat) (V : Nat → Nat) (q : Nat → Nat → Int32) (hR : RepC V q) (hI : Inv V) (ho b : Nat) (hh : ho < 256) (hb2 : b < 256) : Met l yX2_isBetter wsX2_isBetter ({ frames := 2, cells := 0, slots := 0, locals := 42 }) (va_Pc [.ref (h 0), .int (nI ho), .int (nI b)] (xPr D y [(h 0, .inr (2, [.ref (h 1), .ref (h 2), .ref (h 3), .ref (h 4), .int (nI (V 16)), .int (nI (V 67)), .int (rmb V), .int (nI (V 66))])), (h 1, .inl (y 1, 8, .inl (q 0))), (h 2, .inl (y 1, 8, .inl (q 1))), (h 3, .inl (y 1, 24, .inl (q 2))), (h 4, .inl (y 1, 4, .inl (q 3)))])) (vp_Si (fun rz => rz = nI (bN (bet V ho b)))) 0 0 (fun _ => False) := by
  refine Met.ofW (cc := cX2_isBetter) (maxL := 5) (ret := (some .boolean)) (by decide) rfl ?_
  intro p e s m args below meth c s₁ B hml hv
  obtain ⟨rfl, hP, hK⟩ := hv
  have hx := B.exec
  have hb := B.bytes
  have hr := B.returns
  have hts := atoms_spec (ws := wsX2_isBetter) B.pre
  have hown : s.vm.findClass RX2 = some m.cls := findClass_of_methodNamed B.named
  have hlocks := B.notSynchronized
  have hP : va_P D vwCl [(h 0, .inr (2, [.ref (h 1), .ref (h 2), .ref (h 3), .ref (h 4), .int (nI (V 16)), .int (nI (V 67)), .int (rmb V), .int (nI (V 66))])), (h 1, .inl (y 1, 8, .inl (q 0))), (h 2, .inl (y 1, 8, .inl (q 1))), (h 3, .inl (y 1, 24, .inl (q 2))), (h 4, .inl (y 1, 4, .inl (q 3)))] s.heap := hP
  have hl := lv_entry ([.ref (h 0), .int (nI ho), .int (nI b)]) (n := 5) (Nat.le_of_ble_eq_true rfl)
  rw [lg_entry_eq]
  generalize (lg_sl ([.ref (h 0), .int (nI ho), .int (nI b)]) ++ List.replicate (5 - (lg_sl ([.ref (h 0), .int (nI ho), .int (nI b)])).length) Slot.unset).toArray = ls at hl ⊢
  have hl : lv_has ls 5 [(0, .ref (h 0)), (1, .int (nI ho)), (2, .int (nI b))] := hl
  have h1 := cls_le (V := V) (h := ho)
  have h2 := cls_le (V := V) (h := b)
  have h3 : com V ho ≤ 8 := pop_le
  have h4 : com V b ≤ 8 := pop_le
  refine lv_aload_n hx hb dX2_isBetter_0 rfl (lv_at hl 0 rfl) ?_
  refine lv_iload_n hx hb dX2_isBetter_1 rfl (lv_at hl 1 rfl) ?_
  refine xc_V (As := [.int (nI ho)]) (rest := []) ⟨hx, hb, hml, hown, hts⟩ (c_X2_clashesOf l D y h V q hR hI ho (by first | omega | exact hol_lt hI)) (cwV 1 hts gX2_isBetter_X2_clashesOf rfl rfl rfl hd_X2_clashesOf ⟨Nat.le_of_ble_eq_true rfl, Nat.le_of_ble_eq_true rfl⟩) (xpv_r hK hP [0, 1, 2, 3, 4] 0 rfl rfl rfl) rfl hl.1 rfl (Nat.le_of_ble_eq_true rfl) dX2_isBetter_2 ⟨Nat.zero_le _, Nat.zero_le _⟩ (fun r1 hr1 => ?_)
  subst hr1
  refine lv_istore_n (lv' := [(3, .int (nI (cls V ho))), (0, .ref (h 0)), (1, .int (nI ho)), (2, .int (nI b))]) hx hb dX2_isBetter_5 rfl hl (by decide) rfl (fun ls hl => ?_)
  refine lv_aload_n hx hb dX2_isBetter_6 rfl (lv_at hl 1 rfl) ?_
  refine lv_iload_n hx hb dX2_isBetter_7 rfl (lv_at hl 3 rfl) ?_
  refine xc_V (As := [.int (nI b)]) (rest := []) ⟨hx, hb, hml, hown, hts⟩ (c_X2_clashesOf l D y h V q hR hI b (by first | omega | exact hol_lt hI)) (cwV 1 hts gX2_isBetter_X2_clashesOf rfl rfl rfl hd_X2_clashesOf ⟨Nat.le_of_ble_eq_true rfl, Nat.le_of_ble_eq_true rfl⟩) (xpv_r hK hP [0, 1, 2, 3, 4] 0 rfl rfl rfl) rfl hl.1 rfl (Nat.le_of_ble_eq_true rfl) dX2_isBetter_8 ⟨Nat.zero_le _, Nat.zero_le _⟩ (fun r2 hr2 => ?_)
  subst hr2
  refine lv_istore (lv' := [(4, .int (nI (cls V b))), (3, .int (nI (cls V ho))), (0, .ref (h 0)), (1, .int (nI ho)), (2, .int (nI b))]) hx hb dX2_isBetter_11 hl (by decide) rfl (fun ls hl => ?_)
  refine lv_iload_n hx hb dX2_isBetter_13 rfl (lv_at hl 1 rfl) ?_
  refine lv_iload hx hb dX2_isBetter_14 (lv_at hl 0 rfl) ?_
  refine xn_icmp_eq hx hb (by omega) (by omega) (tgt := 33) dX2_isBetter_16 (by decide) (fun kc16 => ?_) (fun kc16 => ?_)
  · refine lv_aload_n hx hb dX2_isBetter_33 rfl (lv_at hl 2 rfl) ?_
    refine lv_iload_n hx hb dX2_isBetter_34 rfl (lv_at hl 3 rfl) ?_
    refine xc_V (As := [.int (nI ho)]) (rest := []) ⟨hx, hb, hml, hown, hts⟩ (c_X2_inCommonWithLast l D y h V q hR hI ho (by omega)) (cwV 1 hts gX2_isBetter_X2_inCommonWithLast rfl rfl rfl hd_X2_inCommonWithLast ⟨Nat.le_of_ble_eq_true rfl, Nat.le_of_ble_eq_true rfl⟩) (xpv_r hK hP [0, 1, 2, 3, 4] 0 rfl rfl rfl) rfl hl.1 rfl (Nat.le_of_ble_eq_true rfl) dX2_isBetter_35 ⟨Nat.zero_le _, Nat.zero_le _⟩ (fun r3 hr3 => ?_)
    subst hr3
    refine lv_aload_n hx hb dX2_isBetter_38 rfl (lv_at hl 2 rfl) ?_
    refine lv_iload_n hx hb dX2_isBetter_39 rfl (lv_at hl 4 rfl) ?_
    refine xc_V (As := [.int (nI b)]) (rest := [.int (nI (com V ho))]) ⟨hx, hb, hml, hown, hts⟩ (c_X2_inCommonWithLast l D y h V q hR hI b (by omega)) (cwV 1 hts gX2_isBetter_X2_inCommonWithLast rfl rfl rfl hd_X2_inCommonWithLast ⟨Nat.le_of_ble_eq_true rfl, Nat.le_of_ble_eq_true rfl⟩) (xpv_r hK hP [0, 1, 2, 3, 4] 0 rfl rfl rfl) rfl hl.1 rfl (Nat.le_of_ble_eq_true rfl) dX2_isBetter_40 ⟨Nat.zero_le _, Nat.zero_le _⟩ (fun r4 hr4 => ?_)
    subst hr4
    refine xn_icmp_le hx hb (by omega) (by omega) (tgt := 50) dX2_isBetter_43 (by decide) (fun kc43 => ?_) (fun kc43 => ?_)
    · refine lv_iconst (v := nI 0) hx hb dX2_isBetter_50 (by decide) ?_
      exact xr_z hx hb hr hlocks dX2_isBetter_51 (by omega) (congrArg nI (by first | exact (bN_t (by unfold bet; omega)).symm | exact (bN_f (by unfold bet; omega)).symm))
    · refine lv_iconst (v := nI 1) hx hb dX2_isBetter_46 (by decide) ?_
      refine lv_goto (tgt := 51) hx hb dX2_isBetter_47 (by decide) ?_
      exact xr_z hx hb hr hlocks dX2_isBetter_51 (by omega) (congrArg nI (by first | exact (bN_t (by unfold bet; omega)).symm | exact (bN_f (by unfold bet; omega)).symm))
  · refine lv_iload_n hx hb dX2_isBetter_19 rfl (lv_at hl 1 rfl) ?_
    refine lv_iload hx hb dX2_isBetter_20 (lv_at hl 0 rfl) ?_
    refine xn_icmp_ge hx hb (by omega) (by omega) (tgt := 29) dX2_isBetter_22 (by decide) (fun kc22 => ?_) (fun kc22 => ?_)
    · refine lv_iconst (v := nI 0) hx hb dX2_isBetter_29 (by decide) ?_
      refine lv_goto (tgt := 51) hx hb dX2_isBetter_30 (by decide) ?_
      exact xr_z hx hb hr hlocks dX2_isBetter_51 (by omega) (congrArg nI (by first | exact (bN_t (by unfold bet; omega)).symm | exact (bN_f (by unfold bet; omega)).symm))
    · refine lv_iconst (v := nI 1) hx hb dX2_isBetter_25 (by decide) ?_
      refine lv_goto (tgt := 51) hx hb dX2_isBetter_26 (by decide) ?_
      exact xr_z hx hb hr hlocks dX2_isBetter_51 (by omega) (congrArg nI (by first | exact (bN_t (by unfold bet; omega)).symm | exact (bN_f (by unfold bet; omega)).symm))
set_option maxHeartbeats 8000000 in
set_option maxRecDepth 100000 in
theorem c_X2_bestCard (l : Launch) (D : va_G) (y : Nat → ClassId) (h : Nat → Nat) (V : Nat → Nat) (q : Nat → Nat → Int32) (hR : RepC V q) (hI : Inv V) : Met l yX2_bestCard wsX2_bestCard ({ frames := 3, cells := 0, slots := 0, locals := 66 }) (va_Pc [.ref (h 0)] (xPr D y [(h 0, .inr (2, [.ref (h 1), .ref (h 2), .ref (h 3), .ref (h 4), .int (nI (V 16)), .int (nI (V 67)), .int (rmb V), .int (nI (V 66))])), (h 1, .inl (y 1, 8, .inl (q 0))), (h 2, .inl (y 1, 8, .inl (q 1))), (h 3, .inl (y 1, 24, .inl (q 2))), (h 4, .inl (y 1, 4, .inl (q 3)))])) (vp_Si (fun rz => rz = bsI V 256)) 0 0 (fun _ => False) := by
  refine Met.ofW (cc := cX2_bestCard) (maxL := 3) (ret := (some .int)) (by decide) rfl ?_
  intro p e s m args below meth c s₁ B hml hv
  obtain ⟨rfl, hP, hK⟩ := hv
  have hx := B.exec
  have hb := B.bytes
  have hr := B.returns
  have hts := atoms_spec (ws := wsX2_bestCard) B.pre
  have hown : s.vm.findClass RX2 = some m.cls := findClass_of_methodNamed B.named
  have hlocks := B.notSynchronized
  have hP : va_P D vwCl [(h 0, .inr (2, [.ref (h 1), .ref (h 2), .ref (h 3), .ref (h 4), .int (nI (V 16)), .int (nI (V 67)), .int (rmb V), .int (nI (V 66))])), (h 1, .inl (y 1, 8, .inl (q 0))), (h 2, .inl (y 1, 8, .inl (q 1))), (h 3, .inl (y 1, 24, .inl (q 2))), (h 4, .inl (y 1, 4, .inl (q 3)))] s.heap := hP
  have hl := lv_entry ([.ref (h 0)]) (n := 3) (Nat.le_of_ble_eq_true rfl)
  rw [lg_entry_eq]
  generalize (lg_sl ([.ref (h 0)]) ++ List.replicate (3 - (lg_sl ([.ref (h 0)])).length) Slot.unset).toArray = ls at hl ⊢
  have hl : lv_has ls 3 [(0, .ref (h 0))] := hl
  refine lv_iconst (v := (-1)) hx hb dX2_bestCard_0 (by decide) ?_
  refine lv_istore_n (lv' := [(1, .int (-1)), (0, .ref (h 0))]) hx hb dX2_bestCard_1 rfl hl (by decide) rfl (fun ls hl => ?_)
  refine lv_iconst (v := nI 1) hx hb dX2_bestCard_2 (by decide) ?_
  refine lv_istore_n (lv' := [(2, .int (nI 1)), (1, .int (-1)), (0, .ref (h 0))]) hx hb dX2_bestCard_3 rfl hl (by decide) rfl (fun ls hl => ?_)
  have lp4 : ∀ (n : Nat) (i : Nat), 256 - i < n → (1 ≤ i) → (i ≤ 256) → ∀ ls : Array Slot, lv_has ls 3 [(2, .int (nI i)), (1, .int (bsI V i)), (0, .ref (h 0))] → W p l e (headSpec wsX2_bestCard ({ frames := 3, cells := 0, slots := 0, locals := 66 })).room s m ([.ref (h 0)] : List Value).toArray below meth c s.heap [] 0 0 (MQ below (vp_Si (fun rz => rz = bsI V 256)) ([.ref (h 0)] : List Value).toArray s 0 0 (fun _ => False)) (F0 m 4 ls []) := by
    intro n
    induction n with
    | zero => intro i hm; exact absurd hm (Nat.not_lt_zero _)
    | succ n ih4 =>
      intro i hm h0 hi ls hl
      refine lv_iload_n hx hb dX2_bestCard_4 rfl (lv_at hl 0 rfl) ?_
      refine lv_sipush (v := nI 255) hx hb dX2_bestCard_5 (by decide) ?_
      refine xn_icmp_gt hx hb (by omega) (by omega) (tgt := 41) dX2_bestCard_8 (by decide) (fun kc8 => ?_) (fun kc8 => ?_)
      · refine lv_iload_n hx hb dX2_bestCard_41 rfl (lv_at hl 1 rfl) ?_
        exact xr_i hx hb hr hlocks dX2_bestCard_42 (by rw [show i = 256 by omega])
      · have hw := why_le (V := V) (h := i)
        have hbl := bst_le (V := V) i
        refine lv_aload_n hx hb dX2_bestCard_11 rfl (lv_at hl 2 rfl) ?_
        refine lv_iload_n hx hb dX2_bestCard_12 rfl (lv_at hl 0 rfl) ?_
        refine xc_V (As := [.int (nI i)]) (rest := []) ⟨hx, hb, hml, hown, hts⟩ (c_X2_reasonAgainst l D y h V q hR hI i (by omega)) (cwV 1 hts gX2_bestCard_X2_reasonAgainst rfl rfl rfl hd_X2_reasonAgainst ⟨Nat.le_of_ble_eq_true rfl, Nat.le_of_ble_eq_true rfl⟩) (xpv_r hK hP [0, 1, 2, 3, 4] 0 rfl rfl rfl) rfl hl.1 rfl (Nat.le_of_ble_eq_true rfl) dX2_bestCard_13 ⟨Nat.zero_le _, Nat.zero_le _⟩ (fun r1 hr1 => ?_)
        subst hr1
        refine xn_if_ne hx hb (by omega) (tgt := 35) dX2_bestCard_16 (by decide) (fun kc16 => ?_) (fun kc16 => ?_)
        · refine lv_iinc (v := nI (i + 1)) (lv' := [(2, .int (nI (i + 1))), (1, .int (bsI V i)), (0, .ref (h 0))]) hx hb dX2_bestCard_35 hl (k := 0) rfl (nI_add i 1) (by decide) rfl (fun ls hl => ?_)
          refine lv_goto (tgt := 4) hx hb dX2_bestCard_38 (by decide) ?_
          have e2 : (bsI V i) = (bsI V (i + 1)) := by first | exact bsI_t (by omega) (by omega) (Or.inl (bsI_m (by omega) kc21)) | exact bsI_t (by omega) (by omega) (Or.inr (bN_n0.mp kc30)) | exact bsI_f (Or.inl (by omega)) | exact bsI_f (Or.inr ⟨(bsI_n kc21).2, bN_0.mp kc30⟩)
          exact ih4 (i + 1) (by omega) (by omega) (by omega) ls (xl_eq (b := [(2, .int (nI (i + 1))), (1, .int (bsI V (i + 1))), (0, .ref (h 0))]) (lv_sub (l' := [(2, .int (nI (i + 1))), (1, .int (bsI V i)), (0, .ref (h 0))]) hl [0, 1, 2] rfl) (xk rfl (xk (congrArg Value.int e2) (xk rfl (rfl : ([] : List (Nat × Value)) = [])))))
        · refine lv_iload_n hx hb dX2_bestCard_19 rfl (lv_at hl 1 rfl) ?_
          refine lv_iconst (v := (-1)) hx hb dX2_bestCard_20 (by decide) ?_
          refine lv_icmp_eq (tgt := 33) hx hb dX2_bestCard_21 (by decide) (fun kc21 => ?_) (fun kc21 => ?_)
          · refine lv_iload_n hx hb dX2_bestCard_33 rfl (lv_at hl 0 rfl) ?_
            refine lv_istore_n (lv' := [(1, .int (nI i)), (2, .int (nI i)), (0, .ref (h 0))]) hx hb dX2_bestCard_34 rfl hl (by decide) rfl (fun ls hl => ?_)
            refine lv_iinc (v := nI (i + 1)) (lv' := [(2, .int (nI (i + 1))), (1, .int (nI i)), (0, .ref (h 0))]) hx hb dX2_bestCard_35 hl (k := 1) rfl (nI_add i 1) (by decide) rfl (fun ls hl => ?_)
            refine lv_goto (tgt := 4) hx hb dX2_bestCard_38 (by decide) ?_
            have e3 : (nI i) = (bsI V (i + 1)) := by first | exact bsI_t (by omega) (by omega) (Or.inl (bsI_m (by omega) kc21)) | exact bsI_t (by omega) (by omega) (Or.inr (bN_n0.mp kc30)) | exact bsI_f (Or.inl (by omega)) | exact bsI_f (Or.inr ⟨(bsI_n kc21).2, bN_0.mp kc30⟩)
            exact ih4 (i + 1) (by omega) (by omega) (by omega) ls (xl_eq (b := [(2, .int (nI (i + 1))), (1, .int (bsI V (i + 1))), (0, .ref (h 0))]) (lv_sub (l' := [(2, .int (nI (i + 1))), (1, .int (nI i)), (0, .ref (h 0))]) hl [0, 1, 2] rfl) (xk rfl (xk (congrArg Value.int e3) (xk rfl (rfl : ([] : List (Nat × Value)) = [])))))
          · refine lv_aload_n hx hb dX2_bestCard_24 rfl (lv_at hl 2 rfl) ?_
            refine lv_iload_n hx hb dX2_bestCard_25 rfl (lv_at hl 0 rfl) ?_
            refine lv_iload_n hx hb dX2_bestCard_26 rfl (lv_at hl 1 rfl) ?_
            refine xv (bsI_n kc21).1 ?_
            refine xc_V (As := [.int (nI i), .int (nI (bst V i))]) (rest := []) ⟨hx, hb, hml, hown, hts⟩ (c_X2_isBetter l D y h V q hR hI i (bst V i) (by omega) (by omega)) (cwV 2 hts gX2_bestCard_X2_isBetter rfl rfl rfl hd_X2_isBetter ⟨Nat.le_of_ble_eq_true rfl, Nat.le_of_ble_eq_true rfl⟩) (xpv_r hK hP [0, 1, 2, 3, 4] 0 rfl rfl rfl) rfl hl.1 rfl (Nat.le_of_ble_eq_true rfl) dX2_bestCard_27 ⟨Nat.zero_le _, Nat.zero_le _⟩ (fun r4 hr4 => ?_)
            subst hr4
            refine xn_if_eq hx hb (by have := bN_lt (c := bet V i (bst V i)); omega) (tgt := 35) dX2_bestCard_30 (by decide) (fun kc30 => ?_) (fun kc30 => ?_)
            · refine lv_iinc (v := nI (i + 1)) (lv' := [(2, .int (nI (i + 1))), (1, .int (bsI V i)), (0, .ref (h 0))]) hx hb dX2_bestCard_35 hl (k := 0) rfl (nI_add i 1) (by decide) rfl (fun ls hl => ?_)
              refine lv_goto (tgt := 4) hx hb dX2_bestCard_38 (by decide) ?_
              have e5 : (bsI V i) = (bsI V (i + 1)) := by first | exact bsI_t (by omega) (by omega) (Or.inl (bsI_m (by omega) kc21)) | exact bsI_t (by omega) (by omega) (Or.inr (bN_n0.mp kc30)) | exact bsI_f (Or.inl (by omega)) | exact bsI_f (Or.inr ⟨(bsI_n kc21).2, bN_0.mp kc30⟩)
              exact ih4 (i + 1) (by omega) (by omega) (by omega) ls (xl_eq (b := [(2, .int (nI (i + 1))), (1, .int (bsI V (i + 1))), (0, .ref (h 0))]) (lv_sub (l' := [(2, .int (nI (i + 1))), (1, .int (bsI V i)), (0, .ref (h 0))]) hl [0, 1, 2] rfl) (xk rfl (xk (congrArg Value.int e5) (xk rfl (rfl : ([] : List (Nat × Value)) = [])))))
            · refine lv_iload_n hx hb dX2_bestCard_33 rfl (lv_at hl 0 rfl) ?_
              refine lv_istore_n (lv' := [(1, .int (nI i)), (2, .int (nI i)), (0, .ref (h 0))]) hx hb dX2_bestCard_34 rfl hl (by decide) rfl (fun ls hl => ?_)
              refine lv_iinc (v := nI (i + 1)) (lv' := [(2, .int (nI (i + 1))), (1, .int (nI i)), (0, .ref (h 0))]) hx hb dX2_bestCard_35 hl (k := 1) rfl (nI_add i 1) (by decide) rfl (fun ls hl => ?_)
              refine lv_goto (tgt := 4) hx hb dX2_bestCard_38 (by decide) ?_
              have e6 : (nI i) = (bsI V (i + 1)) := by first | exact bsI_t (by omega) (by omega) (Or.inl (bsI_m (by omega) kc21)) | exact bsI_t (by omega) (by omega) (Or.inr (bN_n0.mp kc30)) | exact bsI_f (Or.inl (by omega)) | exact bsI_f (Or.inr ⟨(bsI_n kc21).2, bN_0.mp kc30⟩)
              exact ih4 (i + 1) (by omega) (by omega) (by omega) ls (xl_eq (b := [(2, .int (nI (i + 1))), (1, .int (bsI V (i + 1))), (0, .ref (h 0))]) (lv_sub (l' := [(2, .int (nI (i + 1))), (1, .int (nI i)), (0, .ref (h 0))]) hl [0, 1, 2] rfl) (xk rfl (xk (congrArg Value.int e6) (xk rfl (rfl : ([] : List (Nat × Value)) = [])))))
  have e7 : (-1) = (bsI V 1) := by exact bsI_1.symm
  exact lp4 ((256 - 1) + 1) 1 (Nat.lt_succ_self _) (by omega) (by omega) ls (xl_eq (b := [(2, .int (nI 1)), (1, .int (bsI V 1)), (0, .ref (h 0))]) (lv_sub (l' := [(2, .int (nI 1)), (1, .int (-1)), (0, .ref (h 0))]) hl [0, 1, 2] rfl) (xk rfl (xk (congrArg Value.int e7) (xk rfl (rfl : ([] : List (Nat × Value)) = [])))))
