set_option maxHeartbeats 8000000 in
set_option maxRecDepth 100000 in
theorem c_X7_in (l : Launch) (x lo hi : Int32) : Met l yX7_in wsX7_in ({ frames := 0, cells := 0, slots := 0, locals := 0 }) (va_Pc [.int x, .int lo, .int hi] (fun _ => True)) (vp_Si (fun rz => rz = nI (bN (¬ x < lo ∧ ¬ hi < x)))) 0 0 (fun _ => False) := by
  refine Met.ofW (cc := cX7_in) (maxL := 3) (ret := (some .boolean)) (by decide) rfl ?_
  intro p e s m args below meth c s₁ B hml hv
  obtain ⟨rfl, -⟩ := hv
  have hx := B.exec
  have hb := B.bytes
  have hr := B.returns
  have hts := atoms_spec (ws := wsX7_in) B.pre
  have hown : s.vm.findClass RX7 = some m.cls := findClass_of_methodNamed B.named
  have hlocks := B.notSynchronized
  have hl := lv_entry ([.int x, .int lo, .int hi]) (n := 3) (Nat.le_of_ble_eq_true rfl)
  rw [lg_entry_eq]
  generalize (lg_sl ([.int x, .int lo, .int hi]) ++ List.replicate (3 - (lg_sl ([.int x, .int lo, .int hi])).length) Slot.unset).toArray = ls at hl ⊢
  have hl : lv_has ls 3 [(0, .int x), (1, .int lo), (2, .int hi)] := hl
  refine lv_iload_n hx hb dX7_in_0 rfl (lv_at hl 0 rfl) ?_
  refine lv_iload_n hx hb dX7_in_1 rfl (lv_at hl 1 rfl) ?_
  refine lv_icmp_lt (tgt := 14) hx hb dX7_in_2 (by decide) (fun kc2 => ?_) (fun kc2 => ?_)
  · refine lv_iconst (v := nI 0) hx hb dX7_in_14 (by decide) ?_
    exact xr_z hx hb hr hlocks dX7_in_15 (by omega) (congrArg nI (by first | exact (bN_f (c := ¬ x < lo ∧ ¬ hi < x) (fun q => q.1 kc2)).symm | exact (bN_f (c := ¬ x < lo ∧ ¬ hi < x) (fun q => q.2 kc7)).symm | exact (bN_t (c := ¬ x < lo ∧ ¬ hi < x) ⟨kc2, kc7⟩).symm))
  · refine lv_iload_n hx hb dX7_in_5 rfl (lv_at hl 0 rfl) ?_
    refine lv_iload_n hx hb dX7_in_6 rfl (lv_at hl 2 rfl) ?_
    refine lv_icmp_gt (tgt := 14) hx hb dX7_in_7 (by decide) (fun kc7 => ?_) (fun kc7 => ?_)
    · refine lv_iconst (v := nI 0) hx hb dX7_in_14 (by decide) ?_
      exact xr_z hx hb hr hlocks dX7_in_15 (by omega) (congrArg nI (by first | exact (bN_f (c := ¬ x < lo ∧ ¬ hi < x) (fun q => q.1 kc2)).symm | exact (bN_f (c := ¬ x < lo ∧ ¬ hi < x) (fun q => q.2 kc7)).symm | exact (bN_t (c := ¬ x < lo ∧ ¬ hi < x) ⟨kc2, kc7⟩).symm))
    · refine lv_iconst (v := nI 1) hx hb dX7_in_10 (by decide) ?_
      refine lv_goto (tgt := 15) hx hb dX7_in_11 (by decide) ?_
      exact xr_z hx hb hr hlocks dX7_in_15 (by omega) (congrArg nI (by first | exact (bN_f (c := ¬ x < lo ∧ ¬ hi < x) (fun q => q.1 kc2)).symm | exact (bN_f (c := ¬ x < lo ∧ ¬ hi < x) (fun q => q.2 kc7)).symm | exact (bN_t (c := ¬ x < lo ∧ ¬ hi < x) ⟨kc2, kc7⟩).symm))
set_option maxHeartbeats 8000000 in
set_option maxRecDepth 100000 in
theorem c_X7_has (l : Launch) (h k : Nat) (hh : h < 2 ^ 31) (hk : k < 32) : Met l yX7_has wsX7_has ({ frames := 0, cells := 0, slots := 0, locals := 0 }) (va_Pc [.int (nI h), .int (nI k)] (fun _ => True)) (vp_Si (fun rz => rz = nI (bv h k))) 0 0 (fun _ => False) := by
  refine Met.ofW (cc := cX7_has) (maxL := 2) (ret := (some .boolean)) (by decide) rfl ?_
  intro p e s m args below meth c s₁ B hml hv
  obtain ⟨rfl, -⟩ := hv
  have hx := B.exec
  have hb := B.bytes
  have hr := B.returns
  have hts := atoms_spec (ws := wsX7_has) B.pre
  have hown : s.vm.findClass RX7 = some m.cls := findClass_of_methodNamed B.named
  have hlocks := B.notSynchronized
  have hl := lv_entry ([.int (nI h), .int (nI k)]) (n := 2) (Nat.le_of_ble_eq_true rfl)
  rw [lg_entry_eq]
  generalize (lg_sl ([.int (nI h), .int (nI k)]) ++ List.replicate (2 - (lg_sl ([.int (nI h), .int (nI k)])).length) Slot.unset).toArray = ls at hl ⊢
  have hl : lv_has ls 2 [(0, .int (nI h)), (1, .int (nI k))] := hl
  refine lv_iload_n hx hb dX7_has_0 rfl (lv_at hl 0 rfl) ?_
  refine lv_iload_n hx hb dX7_has_1 rfl (lv_at hl 1 rfl) ?_
  refine xn_shr hx hb (r := (h / 2 ^ k)) (by omega) (by omega) rfl dX7_has_2 ?_
  refine lv_iconst (v := nI 1) hx hb dX7_has_3 (by decide) ?_
  refine xn_and hx hb (r := ((h / 2 ^ k) % 2)) (Nat.and_one_is_mod _) dX7_has_4 ?_
  refine lv_iconst (v := nI 1) hx hb dX7_has_5 (by decide) ?_
  refine xn_icmp_ne hx hb (by omega) (by omega) (tgt := 13) dX7_has_6 (by decide) (fun kc6 => ?_) (fun kc6 => ?_)
  · refine lv_iconst (v := nI 0) hx hb dX7_has_13 (by decide) ?_
    exact xr_z hx hb hr hlocks dX7_has_14 (by omega) (congrArg nI (by unfold bv; omega))
  · refine lv_iconst (v := nI 1) hx hb dX7_has_9 (by decide) ?_
    refine lv_goto (tgt := 14) hx hb dX7_has_10 (by decide) ?_
    exact xr_z hx hb hr hlocks dX7_has_14 (by omega) (congrArg nI (by unfold bv; omega))
set_option maxHeartbeats 8000000 in
set_option maxRecDepth 100000 in
theorem c_X7_bits (l : Launch) (h : Nat) (hh : h < 256) : Met l yX7_bits wsX7_bits ({ frames := 0, cells := 0, slots := 0, locals := 0 }) (va_Pc [.int (nI h)] (fun _ => True)) (vp_Si (fun rz => rz = nI (pop h))) 0 0 (fun _ => False) := by
  refine Met.ofW (cc := cX7_bits) (maxL := 3) (ret := (some .int)) (by decide) rfl ?_
  intro p e s m args below meth c s₁ B hml hv
  obtain ⟨rfl, -⟩ := hv
  have hx := B.exec
  have hb := B.bytes
  have hr := B.returns
  have hts := atoms_spec (ws := wsX7_bits) B.pre
  have hown : s.vm.findClass RX7 = some m.cls := findClass_of_methodNamed B.named
  have hlocks := B.notSynchronized
  have hl := lv_entry ([.int (nI h)]) (n := 3) (Nat.le_of_ble_eq_true rfl)
  rw [lg_entry_eq]
  generalize (lg_sl ([.int (nI h)]) ++ List.replicate (3 - (lg_sl ([.int (nI h)])).length) Slot.unset).toArray = ls at hl ⊢
  have hl : lv_has ls 3 [(0, .int (nI h))] := hl
  refine lv_iconst (v := nI 0) hx hb dX7_bits_0 (by decide) ?_
  refine lv_istore_n (lv' := [(1, .int (nI 0)), (0, .int (nI h))]) hx hb dX7_bits_1 rfl hl (by decide) rfl (fun ls hl => ?_)
  refine lv_iconst (v := nI 0) hx hb dX7_bits_2 (by decide) ?_
  refine lv_istore_n (lv' := [(2, .int (nI 0)), (1, .int (nI 0)), (0, .int (nI h))]) hx hb dX7_bits_3 rfl hl (by decide) rfl (fun ls hl => ?_)
  have lp4 : ∀ (n : Nat) (i : Nat), 12 - i < n → (i ≤ 12) → ∀ ls : Array Slot, lv_has ls 3 [(2, .int (nI i)), (1, .int (nI (sN (bv h) i))), (0, .int (nI h))] → W p l e (headSpec wsX7_bits ({ frames := 0, cells := 0, slots := 0, locals := 0 })).room s m ([.int (nI h)] : List Value).toArray below meth c s.heap [] 0 0 (MQ below (vp_Si (fun rz => rz = nI (pop h))) ([.int (nI h)] : List Value).toArray s 0 0 (fun _ => False)) (F0 m 4 ls []) := by
    intro n
    induction n with
    | zero => intro i hm; exact absurd hm (Nat.not_lt_zero _)
    | succ n ih4 =>
      intro i hm hi ls hl
      refine lv_iload_n hx hb dX7_bits_4 rfl (lv_at hl 0 rfl) ?_
      refine lv_bipush (v := nI 12) hx hb dX7_bits_5 (by decide) ?_
      refine xn_icmp_ge hx hb (by omega) (by omega) (tgt := 24) dX7_bits_7 (by decide) (fun kc7 => ?_) (fun kc7 => ?_)
      · refine lv_iload_n hx hb dX7_bits_24 rfl (lv_at hl 1 rfl) ?_
        exact xr_i hx hb hr hlocks dX7_bits_25 (congrArg nI (by rw [show i = 12 by omega]; exact bits12 h hh))
      · refine lv_iload_n hx hb dX7_bits_10 rfl (lv_at hl 1 rfl) ?_
        refine lv_iload_n hx hb dX7_bits_11 rfl (lv_at hl 2 rfl) ?_
        refine lv_iload_n hx hb dX7_bits_12 rfl (lv_at hl 0 rfl) ?_
        refine xn_shr hx hb (r := (h / 2 ^ i)) (by omega) (by omega) rfl dX7_bits_13 ?_
        refine lv_iconst (v := nI 1) hx hb dX7_bits_14 (by decide) ?_
        refine xn_and hx hb (r := ((h / 2 ^ i) % 2)) (Nat.and_one_is_mod _) dX7_bits_15 ?_
        refine xn_add hx hb (r := ((sN (bv h) i) + ((h / 2 ^ i) % 2))) rfl dX7_bits_16 ?_
        refine lv_istore_n (lv' := [(1, .int (nI ((sN (bv h) i) + ((h / 2 ^ i) % 2)))), (2, .int (nI i)), (0, .int (nI h))]) hx hb dX7_bits_17 rfl hl (by decide) rfl (fun ls hl => ?_)
        refine lv_iinc (v := nI (i + 1)) (lv' := [(2, .int (nI (i + 1))), (1, .int (nI ((sN (bv h) i) + ((h / 2 ^ i) % 2)))), (0, .int (nI h))]) hx hb dX7_bits_18 hl (k := 1) rfl (nI_add i 1) (by decide) rfl (fun ls hl => ?_)
        refine lv_goto (tgt := 4) hx hb dX7_bits_21 (by decide) ?_
        have e1 : ((sN (bv h) i) + ((h / 2 ^ i) % 2)) = (sN (bv h) (i + 1)) := rfl
        exact ih4 (i + 1) (by omega) (by omega) ls (xl_eq (b := [(2, .int (nI (i + 1))), (1, .int (nI (sN (bv h) (i + 1)))), (0, .int (nI h))]) (lv_sub (l' := [(2, .int (nI (i + 1))), (1, .int (nI ((sN (bv h) i) + ((h / 2 ^ i) % 2)))), (0, .int (nI h))]) hl [0, 1, 2] rfl) (xk rfl (xk (congrArg (fun z : Nat => Value.int (nI z)) e1) (xk rfl (rfl : ([] : List (Nat × Value)) = [])))))
  have e2 : 0 = (sN (bv h) 0) := rfl
  exact lp4 ((12 - 0) + 1) 0 (Nat.lt_succ_self _) (by omega) ls (xl_eq (b := [(2, .int (nI 0)), (1, .int (nI (sN (bv h) 0))), (0, .int (nI h))]) (lv_sub (l' := [(2, .int (nI 0)), (1, .int (nI 0)), (0, .int (nI h))]) hl [0, 1, 2] rfl) (xk rfl (xk (congrArg (fun z : Nat => Value.int (nI z)) e2) (xk rfl (rfl : ([] : List (Nat × Value)) = [])))))
set_option maxHeartbeats 8000000 in
set_option maxRecDepth 100000 in
theorem c_X7_mirrored (l : Launch) (h : Nat) (hh : h < 256) : Met l yX7_mirrored wsX7_mirrored ({ frames := 1, cells := 0, slots := 0, locals := 21 }) (va_Pc [.int (nI h)] (fun _ => True)) (vp_Si (fun rz => rz = nI (mir h))) 0 0 (fun _ => False) := by
  refine Met.ofW (cc := cX7_mirrored) (maxL := 3) (ret := (some .int)) (by decide) rfl ?_
  intro p e s m args below meth c s₁ B hml hv
  obtain ⟨rfl, -⟩ := hv
  have hx := B.exec
  have hb := B.bytes
  have hr := B.returns
  have hts := atoms_spec (ws := wsX7_mirrored) B.pre
  have hown : s.vm.findClass RX7 = some m.cls := findClass_of_methodNamed B.named
  have hlocks := B.notSynchronized
  have hl := lv_entry ([.int (nI h)]) (n := 3) (Nat.le_of_ble_eq_true rfl)
  rw [lg_entry_eq]
  generalize (lg_sl ([.int (nI h)]) ++ List.replicate (3 - (lg_sl ([.int (nI h)])).length) Slot.unset).toArray = ls at hl ⊢
  have hl : lv_has ls 3 [(0, .int (nI h))] := hl
  refine lv_iconst (v := nI 0) hx hb dX7_mirrored_0 (by decide) ?_
  refine lv_istore_n (lv' := [(1, .int (nI 0)), (0, .int (nI h))]) hx hb dX7_mirrored_1 rfl hl (by decide) rfl (fun ls hl => ?_)
  refine lv_iconst (v := nI 0) hx hb dX7_mirrored_2 (by decide) ?_
  refine lv_istore_n (lv' := [(2, .int (nI 0)), (1, .int (nI 0)), (0, .int (nI h))]) hx hb dX7_mirrored_3 rfl hl (by decide) rfl (fun ls hl => ?_)
  have lp4 : ∀ (n : Nat) (i : Nat), 8 - i < n → (i ≤ 8) → ∀ ls : Array Slot, lv_has ls 3 [(2, .int (nI i)), (1, .int (nI (mirA h i))), (0, .int (nI h))] → W p l e (headSpec wsX7_mirrored ({ frames := 1, cells := 0, slots := 0, locals := 21 })).room s m ([.int (nI h)] : List Value).toArray below meth c s.heap [] 0 0 (MQ below (vp_Si (fun rz => rz = nI (mir h))) ([.int (nI h)] : List Value).toArray s 0 0 (fun _ => False)) (F0 m 4 ls []) := by
    intro n
    induction n with
    | zero => intro i hm; exact absurd hm (Nat.not_lt_zero _)
    | succ n ih4 =>
      intro i hm hi ls hl
      refine lv_iload_n hx hb dX7_mirrored_4 rfl (lv_at hl 0 rfl) ?_
      refine lv_bipush (v := nI 8) hx hb dX7_mirrored_5 (by decide) ?_
      refine xn_icmp_ge hx hb (by omega) (by omega) (tgt := 37) dX7_mirrored_7 (by decide) (fun kc7 => ?_) (fun kc7 => ?_)
      · refine lv_iload_n hx hb dX7_mirrored_37 rfl (lv_at hl 1 rfl) ?_
        exact xr_i hx hb hr hlocks dX7_mirrored_38 (congrArg nI (by rw [show i = 8 by omega]; rfl))
      · have hbb := bv_lt (h := h) (k := i)
        refine lv_iload_n hx hb dX7_mirrored_10 rfl (lv_at hl 1 rfl) ?_
        refine lv_iload_n hx hb dX7_mirrored_11 rfl (lv_at hl 2 rfl) ?_
        refine lv_iload_n hx hb dX7_mirrored_12 rfl (lv_at hl 0 rfl) ?_
        refine xc_S (As := [.int (nI h), .int (nI i)]) (rest := [.int (nI (mirA h i))]) ⟨hx, hb, hml, hown, hts⟩ (c_X7_has l h i (by omega) (by omega)) (va_cwS 2 hts gX7_mirrored_X7_has rfl rfl rfl hd_X7_has.2 ⟨Nat.le_of_ble_eq_true rfl, Nat.le_of_ble_eq_true rfl⟩) xps_0 rfl hl.1 rfl (Nat.le_of_ble_eq_true rfl) dX7_mirrored_13 ⟨Nat.zero_le _, Nat.zero_le _⟩ (fun r1 hr1 => ?_)
        subst hr1
        refine xn_if_eq hx hb (by omega) (tgt := 28) dX7_mirrored_16 (by decide) (fun kc16 => ?_) (fun kc16 => ?_)
        · refine lv_iconst (v := nI 0) hx hb dX7_mirrored_28 (by decide) ?_
          refine xn_or hx hb (r := ((mirA h i) ||| 0)) rfl dX7_mirrored_29 ?_
          refine lv_istore_n (lv' := [(1, .int (nI ((mirA h i) ||| 0))), (2, .int (nI i)), (0, .int (nI h))]) hx hb dX7_mirrored_30 rfl hl (by decide) rfl (fun ls hl => ?_)
          refine lv_iinc (v := nI (i + 1)) (lv' := [(2, .int (nI (i + 1))), (1, .int (nI ((mirA h i) ||| 0))), (0, .int (nI h))]) hx hb dX7_mirrored_31 hl (k := 1) rfl (nI_add i 1) (by decide) rfl (fun ls hl => ?_)
          refine lv_goto (tgt := 4) hx hb dX7_mirrored_34 (by decide) ?_
          have e2 : ((mirA h i) ||| 0) = (mirA h (i + 1)) := by have := bv_or (h := h) (k := i); simp only [mirA]; split <;> first | rfl | (exact Nat.or_zero _) | omega
          exact ih4 (i + 1) (by omega) (by omega) ls (xl_eq (b := [(2, .int (nI (i + 1))), (1, .int (nI (mirA h (i + 1)))), (0, .int (nI h))]) (lv_sub (l' := [(2, .int (nI (i + 1))), (1, .int (nI ((mirA h i) ||| 0))), (0, .int (nI h))]) hl [0, 1, 2] rfl) (xk rfl (xk (congrArg (fun z : Nat => Value.int (nI z)) e2) (xk rfl (rfl : ([] : List (Nat × Value)) = [])))))
        · refine lv_iconst (v := nI 1) hx hb dX7_mirrored_19 (by decide) ?_
          refine lv_bipush (v := nI 7) hx hb dX7_mirrored_20 (by decide) ?_
          refine lv_iload_n hx hb dX7_mirrored_22 rfl (lv_at hl 0 rfl) ?_
          refine xn_sub hx hb (r := (7 - i)) (by omega) rfl dX7_mirrored_23 ?_
          refine xn_shl hx hb (r := (1 * 2 ^ (7 - i))) (by omega) (by have : 2 ^ (7 - i) ≤ 2 ^ 7 := Nat.pow_le_pow_right (by decide) (by omega); omega) rfl dX7_mirrored_24 ?_
          refine lv_goto (tgt := 29) hx hb dX7_mirrored_25 (by decide) ?_
          refine xn_or hx hb (r := ((mirA h i) ||| (1 * 2 ^ (7 - i)))) rfl dX7_mirrored_29 ?_
          refine lv_istore_n (lv' := [(1, .int (nI ((mirA h i) ||| (1 * 2 ^ (7 - i))))), (2, .int (nI i)), (0, .int (nI h))]) hx hb dX7_mirrored_30 rfl hl (by decide) rfl (fun ls hl => ?_)
          refine lv_iinc (v := nI (i + 1)) (lv' := [(2, .int (nI (i + 1))), (1, .int (nI ((mirA h i) ||| (1 * 2 ^ (7 - i))))), (0, .int (nI h))]) hx hb dX7_mirrored_31 hl (k := 1) rfl (nI_add i 1) (by decide) rfl (fun ls hl => ?_)
          refine lv_goto (tgt := 4) hx hb dX7_mirrored_34 (by decide) ?_
          have e3 : ((mirA h i) ||| (1 * 2 ^ (7 - i))) = (mirA h (i + 1)) := by have := bv_or (h := h) (k := i); simp only [mirA]; split <;> first | rfl | (exact Nat.or_zero _) | omega
          exact ih4 (i + 1) (by omega) (by omega) ls (xl_eq (b := [(2, .int (nI (i + 1))), (1, .int (nI (mirA h (i + 1)))), (0, .int (nI h))]) (lv_sub (l' := [(2, .int (nI (i + 1))), (1, .int (nI ((mirA h i) ||| (1 * 2 ^ (7 - i))))), (0, .int (nI h))]) hl [0, 1, 2] rfl) (xk rfl (xk (congrArg (fun z : Nat => Value.int (nI z)) e3) (xk rfl (rfl : ([] : List (Nat × Value)) = [])))))
  have e4 : 0 = (mirA h 0) := rfl
  exact lp4 ((8 - 0) + 1) 0 (Nat.lt_succ_self _) (by omega) ls (xl_eq (b := [(2, .int (nI 0)), (1, .int (nI (mirA h 0))), (0, .int (nI h))]) (lv_sub (l' := [(2, .int (nI 0)), (1, .int (nI 0)), (0, .int (nI h))]) hl [0, 1, 2] rfl) (xk rfl (xk (congrArg (fun z : Nat => Value.int (nI z)) e4) (xk rfl (rfl : ([] : List (Nat × Value)) = [])))))
set_option maxHeartbeats 8000000 in
set_option maxRecDepth 100000 in
theorem c_X7_isCard (l : Launch) (D : va_G) (y : Nat → ClassId) (g s0 a0 b0 x0 kn L ta wr le : Nat) (o1 o2 : Int32) (po rs : Nat) (ca : Int32) (V : Nat → Nat) (hI : Inv V) (x : Int32) : Met l yX7_isCard wsX7_isCard ({ frames := 1, cells := 0, slots := 0, locals := 22 }) (va_Pc [.ref g, .int x] (xPr D y [(g, .inr (7, [.ref s0, .ref a0, .ref b0, .int (nI kn), .ref x0, .int (nI L), .int (nI ta), .int (nI wr), .int (nI le), .int o1, .int o2, .int (nI po), .int (nI rs), .int ca])), (s0, .inl (y 1, 72, .inl (fun j9 => nI (V j9))))])) (vp_Si (fun rz => rz = nI (bN (inR x (V 16))))) 0 0 (fun _ => False) := by
  refine Met.ofW (cc := cX7_isCard) (maxL := 2) (ret := (some .boolean)) (by decide) rfl ?_
  intro p e s m args below meth c s₁ B hml hv
  obtain ⟨rfl, hP, hK⟩ := hv
  have hx := B.exec
  have hb := B.bytes
  have hr := B.returns
  have hts := atoms_spec (ws := wsX7_isCard) B.pre
  have hown : s.vm.findClass RX7 = some m.cls := findClass_of_methodNamed B.named
  have hlocks := B.notSynchronized
  have f_7 := hts (.fieldLink RX7 7 "LoomTunesModel" "s" "[I") (by decide +kernel)
  have hin_X7 : ∀ w ∈ wsX70, w ∈ wsX7_isCard := by decide +kernel
  have hP : va_P D vwCl [(g, .inr (7, [.ref s0, .ref a0, .ref b0, .int (nI kn), .ref x0, .int (nI L), .int (nI ta), .int (nI wr), .int (nI le), .int o1, .int o2, .int (nI po), .int (nI rs), .int ca])), (s0, .inl (y 1, 72, .inl (fun j9 => nI (V j9))))] s.heap := hP
  have hl := lv_entry ([.ref g, .int x]) (n := 2) (Nat.le_of_ble_eq_true rfl)
  rw [lg_entry_eq]
  generalize (lg_sl ([.ref g, .int x]) ++ List.replicate (2 - (lg_sl ([.ref g, .int x])).length) Slot.unset).toArray = ls at hl ⊢
  have hl : lv_has ls 2 [(0, .ref g), (1, .int x)] := hl
  have hsz := hI.sz
  refine lv_iload_n hx hb dX7_isCard_0 rfl (lv_at hl 1 rfl) ?_
  refine lv_iconst (v := nI 0) hx hb dX7_isCard_1 (by decide) ?_
  refine lv_aload_n hx hb dX7_isCard_2 rfl (lv_at hl 0 rfl) ?_
  refine va_get (D := D) (ci := 7) (v := .ref s0) (C := RX7) (T := TX7) (N := 14) hx hb hts hin_X7 hown hK.1 hP 0 rfl rfl 0 (by decide) f_7 (fun _ h9 => h9) rfl dX7_isCard_3 ?_
  refine lv_bipush (v := nI 16) hx hb dX7_isCard_6 (by decide) ?_
  refine xn_iald hx hb hK hP 1 rfl (by omega) (by first | decide | omega) (v := nI (V 16)) (rfl) dX7_isCard_8 ?_
  refine lv_iconst (v := nI 1) hx hb dX7_isCard_9 (by decide) ?_
  refine lv_isub hx hb dX7_isCard_10 ?_
  refine xc_S (As := [.int x, .int (nI 0), .int ((nI (V 16)) - (nI 1))]) (rest := []) ⟨hx, hb, hml, hown, hts⟩ (c_X7_in l x (nI 0) ((nI (V 16)) - (nI 1))) (va_cwS 3 hts gX7_isCard_X7_in rfl rfl rfl hd_X7_in.2 ⟨Nat.le_of_ble_eq_true rfl, Nat.le_of_ble_eq_true rfl⟩) xps_0 rfl hl.1 rfl (Nat.le_of_ble_eq_true rfl) dX7_isCard_11 ⟨Nat.zero_le _, Nat.zero_le _⟩ (fun r1 hr1 => ?_)
  subst hr1
  exact xr_z hx hb hr hlocks dX7_isCard_14 (bN_lt) (congrArg nI (bN_c (inc (by omega))))
set_option maxHeartbeats 8000000 in
set_option maxRecDepth 100000 in
theorem c_X7_sounds (l : Launch) (D : va_G) (y : Nat → ClassId) (g s0 a0 b0 x0 kn L ta wr le : Nat) (o1 o2 : Int32) (po rs : Nat) (ca : Int32) (V : Nat → Nat) (hI : Inv V) (x : Int32) (t : Nat) (ht : t < 8) : Met l yX7_sounds wsX7_sounds ({ frames := 1, cells := 0, slots := 0, locals := 21 }) (va_Pc [.ref g, .int x, .int (nI t)] (xPr D y [(g, .inr (7, [.ref s0, .ref a0, .ref b0, .int (nI kn), .ref x0, .int (nI L), .int (nI ta), .int (nI wr), .int (nI le), .int o1, .int o2, .int (nI po), .int (nI rs), .int ca])), (s0, .inl (y 1, 72, .inl (fun j9 => nI (V j9))))])) (vp_Si (fun rz => rz = nI (bv (holI V x) t))) 0 0 (fun _ => False) := by
  refine Met.ofW (cc := cX7_sounds) (maxL := 3) (ret := (some .boolean)) (by decide) rfl ?_
  intro p e s m args below meth c s₁ B hml hv
  obtain ⟨rfl, hP, hK⟩ := hv
  have hx := B.exec
  have hb := B.bytes
  have hr := B.returns
  have hts := atoms_spec (ws := wsX7_sounds) B.pre
  have hown : s.vm.findClass RX7 = some m.cls := findClass_of_methodNamed B.named
  have hlocks := B.notSynchronized
  have f_7 := hts (.fieldLink RX7 7 "LoomTunesModel" "s" "[I") (by decide +kernel)
  have hin_X7 : ∀ w ∈ wsX70, w ∈ wsX7_sounds := by decide +kernel
  have hP : va_P D vwCl [(g, .inr (7, [.ref s0, .ref a0, .ref b0, .int (nI kn), .ref x0, .int (nI L), .int (nI ta), .int (nI wr), .int (nI le), .int o1, .int o2, .int (nI po), .int (nI rs), .int ca])), (s0, .inl (y 1, 72, .inl (fun j9 => nI (V j9))))] s.heap := hP
  have hl := lv_entry ([.ref g, .int x, .int (nI t)]) (n := 3) (Nat.le_of_ble_eq_true rfl)
  rw [lg_entry_eq]
  generalize (lg_sl ([.ref g, .int x, .int (nI t)]) ++ List.replicate (3 - (lg_sl ([.ref g, .int x, .int (nI t)])).length) Slot.unset).toArray = ls at hl ⊢
  have hl : lv_has ls 3 [(0, .ref g), (1, .int x), (2, .int (nI t))] := hl
  have hsz := hI.sz
  refine lv_iload_n hx hb dX7_sounds_0 rfl (lv_at hl 1 rfl) ?_
  refine lv_if_lt (tgt := 35) hx hb dX7_sounds_1 (by decide) (fun kc1 => ?_) (fun kc1 => ?_)
  · refine lv_iconst (v := nI 0) hx hb dX7_sounds_35 (by decide) ?_
    exact xr_z hx hb hr hlocks dX7_sounds_36 (by omega) (congrArg nI (by first | rw [holI_z1 kc1, bv_0] | rw [holI_z2 hI kc12, bv_0] | (rw [holI_n (by omega), hol, if_pos hk]; omega)))
  · refine lv_iload_n hx hb dX7_sounds_4 rfl (lv_at hl 1 rfl) ?_
    refine lv_aload_n hx hb dX7_sounds_5 rfl (lv_at hl 0 rfl) ?_
    refine va_get (D := D) (ci := 7) (v := .ref s0) (C := RX7) (T := TX7) (N := 14) hx hb hts hin_X7 hown hK.1 hP 0 rfl rfl 0 (by decide) f_7 (fun _ h9 => h9) rfl dX7_sounds_6 ?_
    refine lv_bipush (v := nI 16) hx hb dX7_sounds_9 (by decide) ?_
    refine xn_iald hx hb hK hP 1 rfl (by omega) (by first | decide | omega) (v := nI (V 16)) (rfl) dX7_sounds_11 ?_
    refine lv_icmp_ge (tgt := 35) hx hb dX7_sounds_12 (by decide) (fun kc12 => ?_) (fun kc12 => ?_)
    · refine lv_iconst (v := nI 0) hx hb dX7_sounds_35 (by decide) ?_
      exact xr_z hx hb hr hlocks dX7_sounds_36 (by omega) (congrArg nI (by first | rw [holI_z1 kc1, bv_0] | rw [holI_z2 hI kc12, bv_0] | (rw [holI_n (by omega), hol, if_pos hk]; omega)))
    · obtain ⟨k, hk, rfl⟩ := ((pk_ix x (n := V 16) (by omega)).resolve_left kc1).resolve_left kc12
      have h1 := hI.ho (k := k) (by omega)
      have hbb := bv_lt (h := V (17 + k)) (k := t)
      refine lv_aload_n hx hb dX7_sounds_15 rfl (lv_at hl 0 rfl) ?_
      refine va_get (D := D) (ci := 7) (v := .ref s0) (C := RX7) (T := TX7) (N := 14) hx hb hts hin_X7 hown hK.1 hP 0 rfl rfl 0 (by decide) f_7 (fun _ h9 => h9) rfl dX7_sounds_16 ?_
      refine lv_bipush (v := nI 17) hx hb dX7_sounds_19 (by decide) ?_
      refine lv_iload_n hx hb dX7_sounds_21 rfl (lv_at hl 1 rfl) ?_
      refine xn_add hx hb (r := (17 + k)) rfl dX7_sounds_22 ?_
      refine xn_iald hx hb hK hP 1 rfl (by omega) (by first | decide | omega) (v := nI (V (17 + k))) (rfl) dX7_sounds_23 ?_
      refine lv_iload_n hx hb dX7_sounds_24 rfl (lv_at hl 2 rfl) ?_
      refine xc_S (As := [.int (nI (V (17 + k))), .int (nI t)]) (rest := []) ⟨hx, hb, hml, hown, hts⟩ (c_X7_has l (V (17 + k)) t (by omega) (by omega)) (va_cwS 2 hts gX7_sounds_X7_has rfl rfl rfl hd_X7_has.2 ⟨Nat.le_of_ble_eq_true rfl, Nat.le_of_ble_eq_true rfl⟩) xps_0 rfl hl.1 rfl (Nat.le_of_ble_eq_true rfl) dX7_sounds_25 ⟨Nat.zero_le _, Nat.zero_le _⟩ (fun r1 hr1 => ?_)
      subst hr1
      refine xn_if_eq hx hb (by omega) (tgt := 35) dX7_sounds_28 (by decide) (fun kc28 => ?_) (fun kc28 => ?_)
      · refine lv_iconst (v := nI 0) hx hb dX7_sounds_35 (by decide) ?_
        exact xr_z hx hb hr hlocks dX7_sounds_36 (by omega) (congrArg nI (by first | rw [holI_z1 kc1, bv_0] | rw [holI_z2 hI kc12, bv_0] | (rw [holI_n (by omega), hol, if_pos hk]; omega)))
      · refine lv_iconst (v := nI 1) hx hb dX7_sounds_31 (by decide) ?_
        refine lv_goto (tgt := 36) hx hb dX7_sounds_32 (by decide) ?_
        exact xr_z hx hb hr hlocks dX7_sounds_36 (by omega) (congrArg nI (by rw [holI_n (by omega), hol, if_pos hk]; omega))
theorem c_X7_sounds_n (l : Launch) (D : va_G) (y : Nat → ClassId) (g s0 a0 b0 x0 kn L ta wr le : Nat) (o1 o2 : Int32) (po rs : Nat) (ca : Int32) (V : Nat → Nat) (hI : Inv V) (k : Nat) (hk : k < 2 ^ 31) (t : Nat) (ht : t < 8) : Met l yX7_sounds wsX7_sounds ({ frames := 1, cells := 0, slots := 0, locals := 21 }) (va_Pc [.ref g, .int (nI k), .int (nI t)] (xPr D y [(g, .inr (7, [.ref s0, .ref a0, .ref b0, .int (nI kn), .ref x0, .int (nI L), .int (nI ta), .int (nI wr), .int (nI le), .int o1, .int o2, .int (nI po), .int (nI rs), .int ca])), (s0, .inl (y 1, 72, .inl (fun j9 => nI (V j9))))])) (vp_Si (fun r => r = nI (sndN V k t))) 0 0 (fun _ => False) := by
  have := c_X7_sounds l D y g s0 a0 b0 x0 kn L ta wr le o1 o2 po rs ca V hI (nI k) t ht
  rw [holI_n hk] at this
  exact this
set_option maxHeartbeats 8000000 in
set_option maxRecDepth 100000 in
theorem c_X7_begins (l : Launch) (D : va_G) (y : Nat → ClassId) (g s0 a0 b0 x0 kn L ta wr le : Nat) (o1 o2 : Int32) (po rs : Nat) (ca : Int32) (V : Nat → Nat) (hI : Inv V) (r : Nat) (hr0 : r < 2 ^ 30) (t : Nat) (ht : t < 8) : Met l yX7_begins wsX7_begins ({ frames := 2, cells := 0, slots := 0, locals := 43 }) (va_Pc [.ref g, .int (nI r), .int (nI t)] (xPr D y [(g, .inr (7, [.ref s0, .ref a0, .ref b0, .int (nI kn), .ref x0, .int (nI L), .int (nI ta), .int (nI wr), .int (nI le), .int o1, .int o2, .int (nI po), .int (nI rs), .int ca])), (s0, .inl (y 1, 72, .inl (fun j9 => nI (V j9))))])) (vp_Si (fun rz => rz = nI (begN V r t))) 0 0 (fun _ => False) := by
  refine Met.ofW (cc := cX7_begins) (maxL := 3) (ret := (some .boolean)) (by decide) rfl ?_
  intro p e s m args below meth c s₁ B hml hv
  obtain ⟨rfl, hP, hK⟩ := hv
  have hx := B.exec
  have hb := B.bytes
  have hr := B.returns
  have hts := atoms_spec (ws := wsX7_begins) B.pre
  have hown : s.vm.findClass RX7 = some m.cls := findClass_of_methodNamed B.named
  have hlocks := B.notSynchronized
  have hP : va_P D vwCl [(g, .inr (7, [.ref s0, .ref a0, .ref b0, .int (nI kn), .ref x0, .int (nI L), .int (nI ta), .int (nI wr), .int (nI le), .int o1, .int o2, .int (nI po), .int (nI rs), .int ca])), (s0, .inl (y 1, 72, .inl (fun j9 => nI (V j9))))] s.heap := hP
  have hl := lv_entry ([.ref g, .int (nI r), .int (nI t)]) (n := 3) (Nat.le_of_ble_eq_true rfl)
  rw [lg_entry_eq]
  generalize (lg_sl ([.ref g, .int (nI r), .int (nI t)]) ++ List.replicate (3 - (lg_sl ([.ref g, .int (nI r), .int (nI t)])).length) Slot.unset).toArray = ls at hl ⊢
  have hl : lv_has ls 3 [(0, .ref g), (1, .int (nI r)), (2, .int (nI t))] := hl
  have hsb := sndN_lt (V := V) (r := r) (t := t)
  have hbb := bv_lt (h := holI V (nI r - nI 1)) (k := t)
  refine lv_aload_n hx hb dX7_begins_0 rfl (lv_at hl 0 rfl) ?_
  refine lv_iload_n hx hb dX7_begins_1 rfl (lv_at hl 1 rfl) ?_
  refine lv_iload_n hx hb dX7_begins_2 rfl (lv_at hl 2 rfl) ?_
  refine xc_V (As := [.int (nI r), .int (nI t)]) (rest := []) ⟨hx, hb, hml, hown, hts⟩ (c_X7_sounds_n l D y g s0 a0 b0 x0 kn L ta wr le o1 o2 po rs ca V hI r (by omega) t (by omega)) (cwV 2 hts gX7_begins_X7_sounds rfl rfl rfl hd_X7_sounds ⟨Nat.le_of_ble_eq_true rfl, Nat.le_of_ble_eq_true rfl⟩) (xpv_r hK hP [0, 1] 0 rfl rfl rfl) rfl hl.1 rfl (Nat.le_of_ble_eq_true rfl) dX7_begins_3 ⟨Nat.zero_le _, Nat.zero_le _⟩ (fun r1 hr1 => ?_)
  subst hr1
  refine xn_if_eq hx hb (by omega) (tgt := 24) dX7_begins_6 (by decide) (fun kc6 => ?_) (fun kc6 => ?_)
  · refine lv_iconst (v := nI 0) hx hb dX7_begins_24 (by decide) ?_
    exact xr_z hx hb hr hlocks dX7_begins_25 (by omega) (congrArg nI (by first | exact begN_1 (by omega) kc6 kc17 | exact begN_0 kc6 | exact begN_0' (by omega) kc17))
  · refine lv_aload_n hx hb dX7_begins_9 rfl (lv_at hl 0 rfl) ?_
    refine lv_iload_n hx hb dX7_begins_10 rfl (lv_at hl 1 rfl) ?_
    refine lv_iconst (v := nI 1) hx hb dX7_begins_11 (by decide) ?_
    refine lv_isub hx hb dX7_begins_12 ?_
    refine lv_iload_n hx hb dX7_begins_13 rfl (lv_at hl 2 rfl) ?_
    refine xc_V (As := [.int ((nI r) - (nI 1)), .int (nI t)]) (rest := []) ⟨hx, hb, hml, hown, hts⟩ (c_X7_sounds l D y g s0 a0 b0 x0 kn L ta wr le o1 o2 po rs ca V hI ((nI r) - (nI 1)) t (by omega)) (cwV 2 hts gX7_begins_X7_sounds rfl rfl rfl hd_X7_sounds ⟨Nat.le_of_ble_eq_true rfl, Nat.le_of_ble_eq_true rfl⟩) (xpv_r hK hP [0, 1] 0 rfl rfl rfl) rfl hl.1 rfl (Nat.le_of_ble_eq_true rfl) dX7_begins_14 ⟨Nat.zero_le _, Nat.zero_le _⟩ (fun r2 hr2 => ?_)
    subst hr2
    refine xn_if_ne hx hb (by omega) (tgt := 24) dX7_begins_17 (by decide) (fun kc17 => ?_) (fun kc17 => ?_)
    · refine lv_iconst (v := nI 0) hx hb dX7_begins_24 (by decide) ?_
      exact xr_z hx hb hr hlocks dX7_begins_25 (by omega) (congrArg nI (by first | exact begN_1 (by omega) kc6 kc17 | exact begN_0 kc6 | exact begN_0' (by omega) kc17))
    · refine lv_iconst (v := nI 1) hx hb dX7_begins_20 (by decide) ?_
      refine lv_goto (tgt := 25) hx hb dX7_begins_21 (by decide) ?_
      exact xr_z hx hb hr hlocks dX7_begins_25 (by omega) (congrArg nI (by first | exact begN_1 (by omega) kc6 kc17 | exact begN_0 kc6 | exact begN_0' (by omega) kc17))
set_option maxHeartbeats 8000000 in
set_option maxRecDepth 100000 in
theorem c_X7_tonesOf (l : Launch) (D : va_G) (y : Nat → ClassId) (g s0 a0 b0 x0 kn L ta wr le : Nat) (o1 o2 : Int32) (po rs : Nat) (ca : Int32) (V : Nat → Nat) (hI : Inv V) (r : Nat) (hr0 : r < 2 ^ 30) : Met l yX7_tonesOf wsX7_tonesOf ({ frames := 3, cells := 0, slots := 0, locals := 65 }) (va_Pc [.ref g, .int (nI r)] (xPr D y [(g, .inr (7, [.ref s0, .ref a0, .ref b0, .int (nI kn), .ref x0, .int (nI L), .int (nI ta), .int (nI wr), .int (nI le), .int o1, .int o2, .int (nI po), .int (nI rs), .int ca])), (s0, .inl (y 1, 72, .inl (fun j9 => nI (V j9))))])) (vp_Si (fun rz => rz = nI (roT V r))) 0 0 (fun _ => False) := by
  refine Met.ofW (cc := cX7_tonesOf) (maxL := 4) (ret := (some .int)) (by decide) rfl ?_
  intro p e s m args below meth c s₁ B hml hv
  obtain ⟨rfl, hP, hK⟩ := hv
  have hx := B.exec
  have hb := B.bytes
  have hr := B.returns
  have hts := atoms_spec (ws := wsX7_tonesOf) B.pre
  have hown : s.vm.findClass RX7 = some m.cls := findClass_of_methodNamed B.named
  have hlocks := B.notSynchronized
  have hP : va_P D vwCl [(g, .inr (7, [.ref s0, .ref a0, .ref b0, .int (nI kn), .ref x0, .int (nI L), .int (nI ta), .int (nI wr), .int (nI le), .int o1, .int o2, .int (nI po), .int (nI rs), .int ca])), (s0, .inl (y 1, 72, .inl (fun j9 => nI (V j9))))] s.heap := hP
  have hl := lv_entry ([.ref g, .int (nI r)]) (n := 4) (Nat.le_of_ble_eq_true rfl)
  rw [lg_entry_eq]
  generalize (lg_sl ([.ref g, .int (nI r)]) ++ List.replicate (4 - (lg_sl ([.ref g, .int (nI r)])).length) Slot.unset).toArray = ls at hl ⊢
  have hl : lv_has ls 4 [(0, .ref g), (1, .int (nI r))] := hl
  refine lv_iconst (v := nI 0) hx hb dX7_tonesOf_0 (by decide) ?_
  refine lv_istore_n (lv' := [(2, .int (nI 0)), (0, .ref g), (1, .int (nI r))]) hx hb dX7_tonesOf_1 rfl hl (by decide) rfl (fun ls hl => ?_)
  refine lv_iconst (v := nI 0) hx hb dX7_tonesOf_2 (by decide) ?_
  refine lv_istore_n (lv' := [(3, .int (nI 0)), (2, .int (nI 0)), (0, .ref g), (1, .int (nI r))]) hx hb dX7_tonesOf_3 rfl hl (by decide) rfl (fun ls hl => ?_)
  have lp4 : ∀ (n : Nat) (i : Nat), 8 - i < n → (i ≤ 8) → ∀ ls : Array Slot, lv_has ls 4 [(3, .int (nI i)), (2, .int (nI (sN (begN V r) i))), (0, .ref g), (1, .int (nI r))] → W p l e (headSpec wsX7_tonesOf ({ frames := 3, cells := 0, slots := 0, locals := 65 })).room s m ([.ref g, .int (nI r)] : List Value).toArray below meth c s.heap [] 0 0 (MQ below (vp_Si (fun rz => rz = nI (roT V r))) ([.ref g, .int (nI r)] : List Value).toArray s 0 0 (fun _ => False)) (F0 m 4 ls []) := by
    intro n
    induction n with
    | zero => intro i hm; exact absurd hm (Nat.not_lt_zero _)
    | succ n ih4 =>
      intro i hm hi ls hl
      refine lv_iload_n hx hb dX7_tonesOf_4 rfl (lv_at hl 0 rfl) ?_
      refine lv_bipush (v := nI 8) hx hb dX7_tonesOf_5 (by decide) ?_
      refine xn_icmp_ge hx hb (by omega) (by omega) (tgt := 33) dX7_tonesOf_7 (by decide) (fun kc7 => ?_) (fun kc7 => ?_)
      · refine lv_iload_n hx hb dX7_tonesOf_33 rfl (lv_at hl 1 rfl) ?_
        exact xr_i hx hb hr hlocks dX7_tonesOf_34 (congrArg nI (by rw [show i = 8 by omega]))
      · have hbb := begN_lt (V := V) (r := r) (t := i)
        refine lv_iload_n hx hb dX7_tonesOf_10 rfl (lv_at hl 1 rfl) ?_
        refine lv_aload_n hx hb dX7_tonesOf_11 rfl (lv_at hl 2 rfl) ?_
        refine lv_iload_n hx hb dX7_tonesOf_12 rfl (lv_at hl 3 rfl) ?_
        refine lv_iload_n hx hb dX7_tonesOf_13 rfl (lv_at hl 0 rfl) ?_
        refine xc_V (As := [.int (nI r), .int (nI i)]) (rest := [.int (nI (sN (begN V r) i))]) ⟨hx, hb, hml, hown, hts⟩ (c_X7_begins l D y g s0 a0 b0 x0 kn L ta wr le o1 o2 po rs ca V hI r (by omega) i (by omega)) (cwV 2 hts gX7_tonesOf_X7_begins rfl rfl rfl hd_X7_begins ⟨Nat.le_of_ble_eq_true rfl, Nat.le_of_ble_eq_true rfl⟩) (xpv_r hK hP [0, 1] 0 rfl rfl rfl) rfl hl.1 rfl (Nat.le_of_ble_eq_true rfl) dX7_tonesOf_14 ⟨Nat.zero_le _, Nat.zero_le _⟩ (fun r1 hr1 => ?_)
        subst hr1
        refine xn_if_eq hx hb (by omega) (tgt := 24) dX7_tonesOf_17 (by decide) (fun kc17 => ?_) (fun kc17 => ?_)
        · refine lv_iconst (v := nI 0) hx hb dX7_tonesOf_24 (by decide) ?_
          refine xn_add hx hb (r := ((sN (begN V r) i) + 0)) rfl dX7_tonesOf_25 ?_
          refine lv_istore_n (lv' := [(2, .int (nI ((sN (begN V r) i) + 0))), (3, .int (nI i)), (0, .ref g), (1, .int (nI r))]) hx hb dX7_tonesOf_26 rfl hl (by decide) rfl (fun ls hl => ?_)
          refine lv_iinc (v := nI (i + 1)) (lv' := [(3, .int (nI (i + 1))), (2, .int (nI ((sN (begN V r) i) + 0))), (0, .ref g), (1, .int (nI r))]) hx hb dX7_tonesOf_27 hl (k := 1) rfl (nI_add i 1) (by decide) rfl (fun ls hl => ?_)
          refine lv_goto (tgt := 4) hx hb dX7_tonesOf_30 (by decide) ?_
          have e2 : ((sN (begN V r) i) + 0) = (sN (begN V r) (i + 1)) := by rw [sN_s]; omega
          exact ih4 (i + 1) (by omega) (by omega) ls (xl_eq (b := [(3, .int (nI (i + 1))), (2, .int (nI (sN (begN V r) (i + 1)))), (0, .ref g), (1, .int (nI r))]) (lv_sub (l' := [(3, .int (nI (i + 1))), (2, .int (nI ((sN (begN V r) i) + 0))), (0, .ref g), (1, .int (nI r))]) hl [0, 1, 2, 3] rfl) (xk rfl (xk (congrArg (fun z : Nat => Value.int (nI z)) e2) (xk rfl (xk rfl (rfl : ([] : List (Nat × Value)) = []))))))
        · refine lv_iconst (v := nI 1) hx hb dX7_tonesOf_20 (by decide) ?_
          refine lv_goto (tgt := 25) hx hb dX7_tonesOf_21 (by decide) ?_
          refine xn_add hx hb (r := ((sN (begN V r) i) + 1)) rfl dX7_tonesOf_25 ?_
          refine lv_istore_n (lv' := [(2, .int (nI ((sN (begN V r) i) + 1))), (3, .int (nI i)), (0, .ref g), (1, .int (nI r))]) hx hb dX7_tonesOf_26 rfl hl (by decide) rfl (fun ls hl => ?_)
          refine lv_iinc (v := nI (i + 1)) (lv' := [(3, .int (nI (i + 1))), (2, .int (nI ((sN (begN V r) i) + 1))), (0, .ref g), (1, .int (nI r))]) hx hb dX7_tonesOf_27 hl (k := 1) rfl (nI_add i 1) (by decide) rfl (fun ls hl => ?_)
          refine lv_goto (tgt := 4) hx hb dX7_tonesOf_30 (by decide) ?_
          have e3 : ((sN (begN V r) i) + 1) = (sN (begN V r) (i + 1)) := by rw [sN_s]; omega
          exact ih4 (i + 1) (by omega) (by omega) ls (xl_eq (b := [(3, .int (nI (i + 1))), (2, .int (nI (sN (begN V r) (i + 1)))), (0, .ref g), (1, .int (nI r))]) (lv_sub (l' := [(3, .int (nI (i + 1))), (2, .int (nI ((sN (begN V r) i) + 1))), (0, .ref g), (1, .int (nI r))]) hl [0, 1, 2, 3] rfl) (xk rfl (xk (congrArg (fun z : Nat => Value.int (nI z)) e3) (xk rfl (xk rfl (rfl : ([] : List (Nat × Value)) = []))))))
  have e4 : 0 = (sN (begN V r) 0) := rfl
  exact lp4 ((8 - 0) + 1) 0 (Nat.lt_succ_self _) (by omega) ls (xl_eq (b := [(3, .int (nI 0)), (2, .int (nI (sN (begN V r) 0))), (0, .ref g), (1, .int (nI r))]) (lv_sub (l' := [(3, .int (nI 0)), (2, .int (nI 0)), (0, .ref g), (1, .int (nI r))]) hl [0, 1, 2, 3] rfl) (xk rfl (xk (congrArg (fun z : Nat => Value.int (nI z)) e4) (xk rfl (xk rfl (rfl : ([] : List (Nat × Value)) = []))))))
set_option maxHeartbeats 8000000 in
set_option maxRecDepth 100000 in
theorem c_X7_tones (l : Launch) (D : va_G) (y : Nat → ClassId) (g s0 a0 b0 x0 kn L ta wr le : Nat) (o1 o2 : Int32) (po rs : Nat) (ca : Int32) (V : Nat → Nat) (hI : Inv V) : Met l yX7_tones wsX7_tones ({ frames := 4, cells := 0, slots := 0, locals := 88 }) (va_Pc [.ref g] (xPr D y [(g, .inr (7, [.ref s0, .ref a0, .ref b0, .int (nI kn), .ref x0, .int (nI L), .int (nI ta), .int (nI wr), .int (nI le), .int o1, .int o2, .int (nI po), .int (nI rs), .int ca])), (s0, .inl (y 1, 72, .inl (fun j9 => nI (V j9))))])) (vp_Si (fun rz => rz = nI (alT V))) 0 0 (fun _ => False) := by
  refine Met.ofW (cc := cX7_tones) (maxL := 3) (ret := (some .int)) (by decide) rfl ?_
  intro p e s m args below meth c s₁ B hml hv
  obtain ⟨rfl, hP, hK⟩ := hv
  have hx := B.exec
  have hb := B.bytes
  have hr := B.returns
  have hts := atoms_spec (ws := wsX7_tones) B.pre
  have hown : s.vm.findClass RX7 = some m.cls := findClass_of_methodNamed B.named
  have hlocks := B.notSynchronized
  have f_7 := hts (.fieldLink RX7 7 "LoomTunesModel" "s" "[I") (by decide +kernel)
  have hin_X7 : ∀ w ∈ wsX70, w ∈ wsX7_tones := by decide +kernel
  have hP : va_P D vwCl [(g, .inr (7, [.ref s0, .ref a0, .ref b0, .int (nI kn), .ref x0, .int (nI L), .int (nI ta), .int (nI wr), .int (nI le), .int o1, .int o2, .int (nI po), .int (nI rs), .int ca])), (s0, .inl (y 1, 72, .inl (fun j9 => nI (V j9))))] s.heap := hP
  have hl := lv_entry ([.ref g]) (n := 3) (Nat.le_of_ble_eq_true rfl)
  rw [lg_entry_eq]
  generalize (lg_sl ([.ref g]) ++ List.replicate (3 - (lg_sl ([.ref g])).length) Slot.unset).toArray = ls at hl ⊢
  have hl : lv_has ls 3 [(0, .ref g)] := hl
  have hsz := hI.sz
  refine lv_iconst (v := nI 0) hx hb dX7_tones_0 (by decide) ?_
  refine lv_istore_n (lv' := [(1, .int (nI 0)), (0, .ref g)]) hx hb dX7_tones_1 rfl hl (by decide) rfl (fun ls hl => ?_)
  refine lv_iconst (v := nI 0) hx hb dX7_tones_2 (by decide) ?_
  refine lv_istore_n (lv' := [(2, .int (nI 0)), (1, .int (nI 0)), (0, .ref g)]) hx hb dX7_tones_3 rfl hl (by decide) rfl (fun ls hl => ?_)
  have lp4 : ∀ (n : Nat) (i : Nat), V 16 - i < n → (i ≤ V 16) → ∀ ls : Array Slot, lv_has ls 3 [(2, .int (nI i)), (1, .int (nI (sN (roT V) i))), (0, .ref g)] → W p l e (headSpec wsX7_tones ({ frames := 4, cells := 0, slots := 0, locals := 88 })).room s m ([.ref g] : List Value).toArray below meth c s.heap [] 0 0 (MQ below (vp_Si (fun rz => rz = nI (alT V))) ([.ref g] : List Value).toArray s 0 0 (fun _ => False)) (F0 m 4 ls []) := by
    intro n
    induction n with
    | zero => intro i hm; exact absurd hm (Nat.not_lt_zero _)
    | succ n ih4 =>
      intro i hm hi ls hl
      refine lv_iload_n hx hb dX7_tones_4 rfl (lv_at hl 0 rfl) ?_
      refine lv_aload_n hx hb dX7_tones_5 rfl (lv_at hl 2 rfl) ?_
      refine va_get (D := D) (ci := 7) (v := .ref s0) (C := RX7) (T := TX7) (N := 14) hx hb hts hin_X7 hown hK.1 hP 0 rfl rfl 0 (by decide) f_7 (fun _ h9 => h9) rfl dX7_tones_6 ?_
      refine lv_bipush (v := nI 16) hx hb dX7_tones_9 (by decide) ?_
      refine xn_iald hx hb hK hP 1 rfl (by omega) (by first | decide | omega) (v := nI (V 16)) (rfl) dX7_tones_11 ?_
      refine xn_icmp_ge hx hb (by omega) (by omega) (tgt := 29) dX7_tones_12 (by decide) (fun kc12 => ?_) (fun kc12 => ?_)
      · refine lv_iload_n hx hb dX7_tones_29 rfl (lv_at hl 1 rfl) ?_
        exact xr_i hx hb hr hlocks dX7_tones_30 (congrArg nI (by rw [show i = V 16 by omega]))
      · refine lv_iload_n hx hb dX7_tones_15 rfl (lv_at hl 1 rfl) ?_
        refine lv_aload_n hx hb dX7_tones_16 rfl (lv_at hl 2 rfl) ?_
        refine lv_iload_n hx hb dX7_tones_17 rfl (lv_at hl 0 rfl) ?_
        refine xc_V (As := [.int (nI i)]) (rest := [.int (nI (sN (roT V) i))]) ⟨hx, hb, hml, hown, hts⟩ (c_X7_tonesOf l D y g s0 a0 b0 x0 kn L ta wr le o1 o2 po rs ca V hI i (by omega)) (cwV 1 hts gX7_tones_X7_tonesOf rfl rfl rfl hd_X7_tonesOf ⟨Nat.le_of_ble_eq_true rfl, Nat.le_of_ble_eq_true rfl⟩) (xpv_r hK hP [0, 1] 0 rfl rfl rfl) rfl hl.1 rfl (Nat.le_of_ble_eq_true rfl) dX7_tones_18 ⟨Nat.zero_le _, Nat.zero_le _⟩ (fun r1 hr1 => ?_)
        subst hr1
        refine xn_add hx hb (r := ((sN (roT V) i) + (roT V i))) rfl dX7_tones_21 ?_
        refine lv_istore_n (lv' := [(1, .int (nI ((sN (roT V) i) + (roT V i)))), (2, .int (nI i)), (0, .ref g)]) hx hb dX7_tones_22 rfl hl (by decide) rfl (fun ls hl => ?_)
        refine lv_iinc (v := nI (i + 1)) (lv' := [(2, .int (nI (i + 1))), (1, .int (nI ((sN (roT V) i) + (roT V i)))), (0, .ref g)]) hx hb dX7_tones_23 hl (k := 1) rfl (nI_add i 1) (by decide) rfl (fun ls hl => ?_)
        refine lv_goto (tgt := 4) hx hb dX7_tones_26 (by decide) ?_
        have e2 : ((sN (roT V) i) + (roT V i)) = (sN (roT V) (i + 1)) := rfl
        exact ih4 (i + 1) (by omega) (by omega) ls (xl_eq (b := [(2, .int (nI (i + 1))), (1, .int (nI (sN (roT V) (i + 1)))), (0, .ref g)]) (lv_sub (l' := [(2, .int (nI (i + 1))), (1, .int (nI ((sN (roT V) i) + (roT V i)))), (0, .ref g)]) hl [0, 1, 2] rfl) (xk rfl (xk (congrArg (fun z : Nat => Value.int (nI z)) e2) (xk rfl (rfl : ([] : List (Nat × Value)) = [])))))
  have e3 : 0 = (sN (roT V) 0) := rfl
  exact lp4 ((V 16 - 0) + 1) 0 (Nat.lt_succ_self _) (by omega) ls (xl_eq (b := [(2, .int (nI 0)), (1, .int (nI (sN (roT V) 0))), (0, .ref g)]) (lv_sub (l' := [(2, .int (nI 0)), (1, .int (nI 0)), (0, .ref g)]) hl [0, 1, 2] rfl) (xk rfl (xk (congrArg (fun z : Nat => Value.int (nI z)) e3) (xk rfl (rfl : ([] : List (Nat × Value)) = [])))))
set_option maxHeartbeats 8000000 in
set_option maxRecDepth 100000 in
theorem c_X7_lengthOf (l : Launch) (D : va_G) (y : Nat → ClassId) (g s0 a0 b0 x0 kn L ta wr le : Nat) (o1 o2 : Int32) (po rs : Nat) (ca : Int32) (V : Nat → Nat) (hI : Inv V) (r t : Nat) (hr0 : r ≤ V 16) (ht : t < 8) : Met l yX7_lengthOf wsX7_lengthOf ({ frames := 2, cells := 0, slots := 0, locals := 43 }) (va_Pc [.ref g, .int (nI r), .int (nI t)] (xPr D y [(g, .inr (7, [.ref s0, .ref a0, .ref b0, .int (nI kn), .ref x0, .int (nI L), .int (nI ta), .int (nI wr), .int (nI le), .int o1, .int o2, .int (nI po), .int (nI rs), .int ca])), (s0, .inl (y 1, 72, .inl (fun j9 => nI (V j9))))])) (vp_Si (fun rz => rz = nI (lnR V r t))) 0 0 (fun _ => False) := by
  refine Met.ofW (cc := cX7_lengthOf) (maxL := 4) (ret := (some .int)) (by decide) rfl ?_
  intro p e s m args below meth c s₁ B hml hv
  obtain ⟨rfl, hP, hK⟩ := hv
  have hx := B.exec
  have hb := B.bytes
  have hr := B.returns
  have hts := atoms_spec (ws := wsX7_lengthOf) B.pre
  have hown : s.vm.findClass RX7 = some m.cls := findClass_of_methodNamed B.named
  have hlocks := B.notSynchronized
  have hP : va_P D vwCl [(g, .inr (7, [.ref s0, .ref a0, .ref b0, .int (nI kn), .ref x0, .int (nI L), .int (nI ta), .int (nI wr), .int (nI le), .int o1, .int o2, .int (nI po), .int (nI rs), .int ca])), (s0, .inl (y 1, 72, .inl (fun j9 => nI (V j9))))] s.heap := hP
  have hl := lv_entry ([.ref g, .int (nI r), .int (nI t)]) (n := 4) (Nat.le_of_ble_eq_true rfl)
  rw [lg_entry_eq]
  generalize (lg_sl ([.ref g, .int (nI r), .int (nI t)]) ++ List.replicate (4 - (lg_sl ([.ref g, .int (nI r), .int (nI t)])).length) Slot.unset).toArray = ls at hl ⊢
  have hl : lv_has ls 4 [(0, .ref g), (1, .int (nI r)), (2, .int (nI t))] := hl
  have hsz := hI.sz
  refine lv_iconst (v := nI 0) hx hb dX7_lengthOf_0 (by decide) ?_
  refine lv_istore_n (lv' := [(3, .int (nI 0)), (0, .ref g), (1, .int (nI r)), (2, .int (nI t))]) hx hb dX7_lengthOf_1 rfl hl (by decide) rfl (fun ls hl => ?_)
  have lp2 : ∀ (n : Nat) (i : Nat), 25 - (r + i) < n → (r + i ≤ V 16) → (i + lnR V (r + i) t = lnR V r t) → ∀ ls : Array Slot, lv_has ls 4 [(3, .int (nI i)), (0, .ref g), (1, .int (nI r)), (2, .int (nI t))] → W p l e (headSpec wsX7_lengthOf ({ frames := 2, cells := 0, slots := 0, locals := 43 })).room s m ([.ref g, .int (nI r), .int (nI t)] : List Value).toArray below meth c s.heap [] 0 0 (MQ below (vp_Si (fun rz => rz = nI (lnR V r t))) ([.ref g, .int (nI r), .int (nI t)] : List Value).toArray s 0 0 (fun _ => False)) (F0 m 2 ls []) := by
    intro n
    induction n with
    | zero => intro i hm; exact absurd hm (Nat.not_lt_zero _)
    | succ n ih2 =>
      intro i hm hi hf ls hl
      have hsb := sndN_lt (V := V) (r := r + i) (t := t)
      refine lv_aload_n hx hb dX7_lengthOf_2 rfl (lv_at hl 1 rfl) ?_
      refine lv_iload_n hx hb dX7_lengthOf_3 rfl (lv_at hl 2 rfl) ?_
      refine lv_iload_n hx hb dX7_lengthOf_4 rfl (lv_at hl 0 rfl) ?_
      refine xn_add hx hb (r := (r + i)) rfl dX7_lengthOf_5 ?_
      refine lv_iload_n hx hb dX7_lengthOf_6 rfl (lv_at hl 3 rfl) ?_
      refine xc_V (As := [.int (nI (r + i)), .int (nI t)]) (rest := []) ⟨hx, hb, hml, hown, hts⟩ (c_X7_sounds_n l D y g s0 a0 b0 x0 kn L ta wr le o1 o2 po rs ca V hI (r + i) (by omega) t (by omega)) (cwV 2 hts gX7_lengthOf_X7_sounds rfl rfl rfl hd_X7_sounds ⟨Nat.le_of_ble_eq_true rfl, Nat.le_of_ble_eq_true rfl⟩) (xpv_r hK hP [0, 1] 0 rfl rfl rfl) rfl hl.1 rfl (Nat.le_of_ble_eq_true rfl) dX7_lengthOf_7 ⟨Nat.zero_le _, Nat.zero_le _⟩ (fun r1 hr1 => ?_)
      subst hr1
      refine xn_if_eq hx hb (by omega) (tgt := 19) dX7_lengthOf_10 (by decide) (fun kc10 => ?_) (fun kc10 => ?_)
      · refine lv_iload_n hx hb dX7_lengthOf_19 rfl (lv_at hl 0 rfl) ?_
        exact xr_i hx hb hr hlocks dX7_lengthOf_20 (congrArg nI (by by_cases hq : r + i < V 16 <;> first | (have q := lnF_0 (V := V) (t := t) (r := r + i) hq kc10; omega) | (have q := lnF_e (V := V) (t := t) (r := r + i) (by omega); omega)))
      · have hlt : r + i < V 16 := Nat.lt_of_not_le (fun q => kc10 (by show bv (hol V (r + i)) t = 0; unfold hol; rw [if_neg (by omega), bv_0]))
        have hnx : r + (i + 1) ≤ V 16 := by omega
        refine lv_iinc (v := nI (i + 1)) (lv' := [(3, .int (nI (i + 1))), (0, .ref g), (1, .int (nI r)), (2, .int (nI t))]) hx hb dX7_lengthOf_13 hl (k := 0) rfl (nI_add i 1) (by decide) rfl (fun ls hl => ?_)
        refine lv_goto (tgt := 2) hx hb dX7_lengthOf_16 (by decide) ?_
        exact ih2 (i + 1) (by omega) (hnx) (by have q := lnF_s (V := V) (t := t) (r := r + i) hlt (by omega); rw [← Nat.add_assoc]; omega) ls (lv_sub hl [0, 1, 2, 3] rfl)
  exact lp2 ((25 - (r + 0)) + 1) 0 (Nat.lt_succ_self _) (by omega) (by rw [Nat.add_zero, Nat.zero_add]) ls (lv_sub hl [0, 1, 2, 3] rfl)
set_option maxHeartbeats 8000000 in
set_option maxRecDepth 100000 in
theorem c_X7_notes (l : Launch) (D : va_G) (y : Nat → ClassId) (g s0 a0 b0 x0 kn L ta wr le : Nat) (o1 o2 : Int32) (po rs : Nat) (ca : Int32) (V : Nat → Nat) (hI : Inv V) (r : Nat) (hr0 : r < V 16) : Met l yX7_notes wsX7_notes ({ frames := 1, cells := 0, slots := 0, locals := 21 }) (va_Pc [.ref g, .int (nI (V (17 + r)))] (xPr D y [(g, .inr (7, [.ref s0, .ref a0, .ref b0, .int (nI kn), .ref x0, .int (nI L), .int (nI ta), .int (nI wr), .int (nI le), .int o1, .int o2, .int (nI po), .int (nI rs), .int ca])), (s0, .inl (y 1, 72, .inl (fun j9 => nI (V j9))))])) (vp_Si (fun rz => rz = nI (nsA V r 8))) 0 0 (fun _ => False) := by
  refine Met.ofW (cc := cX7_notes) (maxL := 4) (ret := (some .int)) (by decide) rfl ?_
  intro p e s m args below meth c s₁ B hml hv
  obtain ⟨rfl, hP, hK⟩ := hv
  have hx := B.exec
  have hb := B.bytes
  have hr := B.returns
  have hts := atoms_spec (ws := wsX7_notes) B.pre
  have hown : s.vm.findClass RX7 = some m.cls := findClass_of_methodNamed B.named
  have hlocks := B.notSynchronized
  have f_7 := hts (.fieldLink RX7 7 "LoomTunesModel" "s" "[I") (by decide +kernel)
  have hin_X7 : ∀ w ∈ wsX70, w ∈ wsX7_notes := by decide +kernel
  have hP : va_P D vwCl [(g, .inr (7, [.ref s0, .ref a0, .ref b0, .int (nI kn), .ref x0, .int (nI L), .int (nI ta), .int (nI wr), .int (nI le), .int o1, .int o2, .int (nI po), .int (nI rs), .int ca])), (s0, .inl (y 1, 72, .inl (fun j9 => nI (V j9))))] s.heap := hP
  have hl := lv_entry ([.ref g, .int (nI (V (17 + r)))]) (n := 4) (Nat.le_of_ble_eq_true rfl)
  rw [lg_entry_eq]
  generalize (lg_sl ([.ref g, .int (nI (V (17 + r)))]) ++ List.replicate (4 - (lg_sl ([.ref g, .int (nI (V (17 + r)))])).length) Slot.unset).toArray = ls at hl ⊢
  have hl : lv_has ls 4 [(0, .ref g), (1, .int (nI (V (17 + r))))] := hl
  have hsz := hI.sz
  have hnt : ∀ {k : Nat}, k < 8 → V k < 48 := fun hk => hI.nt hk
  have hlo := hI.ho (k := r) (by omega)
  have hls : V (17 + r) = hol V r := (if_pos hr0).symm
  refine lv_iconst (v := nI 0) hx hb dX7_notes_0 (by decide) ?_
  refine lv_istore_n (lv' := [(2, .int (nI 0)), (0, .ref g), (1, .int (nI (V (17 + r))))]) hx hb dX7_notes_1 rfl hl (by decide) rfl (fun ls hl => ?_)
  refine lv_iconst (v := nI 0) hx hb dX7_notes_2 (by decide) ?_
  refine lv_istore_n (lv' := [(3, .int (nI 0)), (2, .int (nI 0)), (0, .ref g), (1, .int (nI (V (17 + r))))]) hx hb dX7_notes_3 rfl hl (by decide) rfl (fun ls hl => ?_)
  have lp4 : ∀ (n : Nat) (i : Nat), 8 - i < n → (i ≤ 8) → ∀ ls : Array Slot, lv_has ls 4 [(3, .int (nI i)), (2, .int (nI (nsA V r i))), (0, .ref g), (1, .int (nI (V (17 + r))))] → W p l e (headSpec wsX7_notes ({ frames := 1, cells := 0, slots := 0, locals := 21 })).room s m ([.ref g, .int (nI (V (17 + r)))] : List Value).toArray below meth c s.heap [] 0 0 (MQ below (vp_Si (fun rz => rz = nI (nsA V r 8))) ([.ref g, .int (nI (V (17 + r)))] : List Value).toArray s 0 0 (fun _ => False)) (F0 m 4 ls []) := by
    intro n
    induction n with
    | zero => intro i hm; exact absurd hm (Nat.not_lt_zero _)
    | succ n ih4 =>
      intro i hm hi ls hl
      refine lv_iload_n hx hb dX7_notes_4 rfl (lv_at hl 0 rfl) ?_
      refine lv_bipush (v := nI 8) hx hb dX7_notes_5 (by decide) ?_
      refine xn_icmp_ge hx hb (by omega) (by omega) (tgt := 44) dX7_notes_7 (by decide) (fun kc7 => ?_) (fun kc7 => ?_)
      · refine lv_iload_n hx hb dX7_notes_44 rfl (lv_at hl 1 rfl) ?_
        exact xr_i hx hb hr hlocks dX7_notes_45 (congrArg nI (by rw [show i = 8 by omega]))
      · have hni := hnt (k := i) (by omega)
        have hbb := bv_lt (h := V (17 + r)) (k := i)
        refine lv_iload_n hx hb dX7_notes_10 rfl (lv_at hl 1 rfl) ?_
        refine lv_iload_n hx hb dX7_notes_11 rfl (lv_at hl 3 rfl) ?_
        refine lv_iload_n hx hb dX7_notes_12 rfl (lv_at hl 0 rfl) ?_
        refine xc_S (As := [.int (nI (V (17 + r))), .int (nI i)]) (rest := [.int (nI (nsA V r i))]) ⟨hx, hb, hml, hown, hts⟩ (c_X7_has l (V (17 + r)) i (by omega) (by omega)) (va_cwS 2 hts gX7_notes_X7_has rfl rfl rfl hd_X7_has.2 ⟨Nat.le_of_ble_eq_true rfl, Nat.le_of_ble_eq_true rfl⟩) xps_0 rfl hl.1 rfl (Nat.le_of_ble_eq_true rfl) dX7_notes_13 ⟨Nat.zero_le _, Nat.zero_le _⟩ (fun r1 hr1 => ?_)
        subst hr1
        refine xn_if_eq hx hb (by omega) (tgt := 35) dX7_notes_16 (by decide) (fun kc16 => ?_) (fun kc16 => ?_)
        · refine lv_iconst (v := nI 0) hx hb dX7_notes_35 (by decide) ?_
          refine xn_or hx hb (r := ((nsA V r i) ||| 0)) rfl dX7_notes_36 ?_
          refine lv_istore_n (lv' := [(2, .int (nI ((nsA V r i) ||| 0))), (3, .int (nI i)), (0, .ref g), (1, .int (nI (V (17 + r))))]) hx hb dX7_notes_37 rfl hl (by decide) rfl (fun ls hl => ?_)
          refine lv_iinc (v := nI (i + 1)) (lv' := [(3, .int (nI (i + 1))), (2, .int (nI ((nsA V r i) ||| 0))), (0, .ref g), (1, .int (nI (V (17 + r))))]) hx hb dX7_notes_38 hl (k := 1) rfl (nI_add i 1) (by decide) rfl (fun ls hl => ?_)
          refine lv_goto (tgt := 4) hx hb dX7_notes_41 (by decide) ?_
          have e2 : ((nsA V r i) ||| 0) = (nsA V r (i + 1)) := by rw [nsA]; first | rw [if_pos (show sndN V r i = 1 by unfold sndN; rw [← hls]; omega)] | rw [if_neg (show ¬ sndN V r i = 1 by unfold sndN; rw [← hls]; omega), Nat.or_zero]
          exact ih4 (i + 1) (by omega) (by omega) ls (xl_eq (b := [(3, .int (nI (i + 1))), (2, .int (nI (nsA V r (i + 1)))), (0, .ref g), (1, .int (nI (V (17 + r))))]) (lv_sub (l' := [(3, .int (nI (i + 1))), (2, .int (nI ((nsA V r i) ||| 0))), (0, .ref g), (1, .int (nI (V (17 + r))))]) hl [0, 1, 2, 3] rfl) (xk rfl (xk (congrArg (fun z : Nat => Value.int (nI z)) e2) (xk rfl (xk rfl (rfl : ([] : List (Nat × Value)) = []))))))
        · refine lv_iconst (v := nI 1) hx hb dX7_notes_19 (by decide) ?_
          refine lv_aload_n hx hb dX7_notes_20 rfl (lv_at hl 2 rfl) ?_
          refine va_get (D := D) (ci := 7) (v := .ref s0) (C := RX7) (T := TX7) (N := 14) hx hb hts hin_X7 hown hK.1 hP 0 rfl rfl 0 (by decide) f_7 (fun _ h9 => h9) rfl dX7_notes_21 ?_
          refine lv_iconst (v := nI 0) hx hb dX7_notes_24 (by decide) ?_
          refine lv_iload_n hx hb dX7_notes_25 rfl (lv_at hl 0 rfl) ?_
          refine xn_add hx hb (r := i) (Nat.zero_add _) dX7_notes_26 ?_
          refine xn_iald hx hb hK hP 1 rfl (by omega) (by first | decide | omega) (v := nI (V i)) (rfl) dX7_notes_27 ?_
          refine lv_bipush (v := nI 12) hx hb dX7_notes_28 (by decide) ?_
          refine xn_rem hx hb (r := ((V i) % 12)) (by omega) (by omega) (by omega) rfl dX7_notes_30 ?_
          refine xn_shl hx hb (r := (1 * 2 ^ ((V i) % 12))) (by omega) (by have : 2 ^ (V i % 12) ≤ 2 ^ 12 := Nat.pow_le_pow_right (by decide) (by omega); omega) rfl dX7_notes_31 ?_
          refine lv_goto (tgt := 36) hx hb dX7_notes_32 (by decide) ?_
          refine xn_or hx hb (r := ((nsA V r i) ||| (1 * 2 ^ ((V i) % 12)))) rfl dX7_notes_36 ?_
          refine lv_istore_n (lv' := [(2, .int (nI ((nsA V r i) ||| (1 * 2 ^ ((V i) % 12))))), (3, .int (nI i)), (0, .ref g), (1, .int (nI (V (17 + r))))]) hx hb dX7_notes_37 rfl hl (by decide) rfl (fun ls hl => ?_)
          refine lv_iinc (v := nI (i + 1)) (lv' := [(3, .int (nI (i + 1))), (2, .int (nI ((nsA V r i) ||| (1 * 2 ^ ((V i) % 12))))), (0, .ref g), (1, .int (nI (V (17 + r))))]) hx hb dX7_notes_38 hl (k := 1) rfl (nI_add i 1) (by decide) rfl (fun ls hl => ?_)
          refine lv_goto (tgt := 4) hx hb dX7_notes_41 (by decide) ?_
          have e3 : ((nsA V r i) ||| (1 * 2 ^ ((V i) % 12))) = (nsA V r (i + 1)) := by rw [nsA]; first | rw [if_pos (show sndN V r i = 1 by unfold sndN; rw [← hls]; omega)] | rw [if_neg (show ¬ sndN V r i = 1 by unfold sndN; rw [← hls]; omega), Nat.or_zero]
          exact ih4 (i + 1) (by omega) (by omega) ls (xl_eq (b := [(3, .int (nI (i + 1))), (2, .int (nI (nsA V r (i + 1)))), (0, .ref g), (1, .int (nI (V (17 + r))))]) (lv_sub (l' := [(3, .int (nI (i + 1))), (2, .int (nI ((nsA V r i) ||| (1 * 2 ^ ((V i) % 12))))), (0, .ref g), (1, .int (nI (V (17 + r))))]) hl [0, 1, 2, 3] rfl) (xk rfl (xk (congrArg (fun z : Nat => Value.int (nI z)) e3) (xk rfl (xk rfl (rfl : ([] : List (Nat × Value)) = []))))))
  have e4 : 0 = (nsA V r 0) := rfl
  exact lp4 ((8 - 0) + 1) 0 (Nat.lt_succ_self _) (by omega) ls (xl_eq (b := [(3, .int (nI 0)), (2, .int (nI (nsA V r 0))), (0, .ref g), (1, .int (nI (V (17 + r))))]) (lv_sub (l' := [(3, .int (nI 0)), (2, .int (nI 0)), (0, .ref g), (1, .int (nI (V (17 + r))))]) hl [0, 1, 2, 3] rfl) (xk rfl (xk (congrArg (fun z : Nat => Value.int (nI z)) e4) (xk rfl (xk rfl (rfl : ([] : List (Nat × Value)) = []))))))
set_option maxHeartbeats 8000000 in
set_option maxRecDepth 100000 in
theorem c_X7_outermost_h (l : Launch) (D : va_G) (y : Nat → ClassId) (g s0 a0 b0 x0 kn L ta wr le : Nat) (o1 o2 : Int32) (po rs : Nat) (ca : Int32) (V : Nat → Nat) (hI : Inv V) (r : Nat) (hr0 : r < 2 ^ 30) : Met l yX7_outermost wsX7_outermost ({ frames := 2, cells := 0, slots := 0, locals := 43 }) (va_Pc [.ref g, .int (nI r), .int (nI 1)] (xPr D y [(g, .inr (7, [.ref s0, .ref a0, .ref b0, .int (nI kn), .ref x0, .int (nI L), .int (nI ta), .int (nI wr), .int (nI le), .int o1, .int o2, .int (nI po), .int (nI rs), .int ca])), (s0, .inl (y 1, 72, .inl (fun j9 => nI (V j9))))])) (vp_Si (fun rz => rz = hiA V r 8)) 0 0 (fun _ => False) := by
  refine Met.ofW (cc := cX7_outermost) (maxL := 7) (ret := (some .int)) (by decide) rfl ?_
  intro p e s m args below meth c s₁ B hml hv
  obtain ⟨rfl, hP, hK⟩ := hv
  have hx := B.exec
  have hb := B.bytes
  have hr := B.returns
  have hts := atoms_spec (ws := wsX7_outermost) B.pre
  have hown : s.vm.findClass RX7 = some m.cls := findClass_of_methodNamed B.named
  have hlocks := B.notSynchronized
  have f_7 := hts (.fieldLink RX7 7 "LoomTunesModel" "s" "[I") (by decide +kernel)
  have f_93 := hts (.constant RX7 93 (-1000004)) (by decide +kernel)
  have hin_X7 : ∀ w ∈ wsX70, w ∈ wsX7_outermost := by decide +kernel
  have hP : va_P D vwCl [(g, .inr (7, [.ref s0, .ref a0, .ref b0, .int (nI kn), .ref x0, .int (nI L), .int (nI ta), .int (nI wr), .int (nI le), .int o1, .int o2, .int (nI po), .int (nI rs), .int ca])), (s0, .inl (y 1, 72, .inl (fun j9 => nI (V j9))))] s.heap := hP
  have hl := lv_entry ([.ref g, .int (nI r), .int (nI 1)]) (n := 7) (Nat.le_of_ble_eq_true rfl)
  rw [lg_entry_eq]
  generalize (lg_sl ([.ref g, .int (nI r), .int (nI 1)]) ++ List.replicate (7 - (lg_sl ([.ref g, .int (nI r), .int (nI 1)])).length) Slot.unset).toArray = ls at hl ⊢
  have hl : lv_has ls 7 [(0, .ref g), (1, .int (nI r)), (2, .int (nI 1))] := hl
  have hnt : ∀ {k : Nat}, k < 8 → V k < 48 := fun hk => hI.nt hk
  refine lv_ldc hx hb hown f_93 dX7_outermost_0 ?_
  refine lv_istore_n (lv' := [(3, .int (-1000004)), (0, .ref g), (1, .int (nI r)), (2, .int (nI 1))]) hx hb dX7_outermost_2 rfl hl (by decide) rfl (fun ls hl => ?_)
  refine lv_iconst (v := nI 0) hx hb dX7_outermost_3 (by decide) ?_
  refine lv_istore (lv' := [(4, .int (nI 0)), (3, .int (-1000004)), (0, .ref g), (1, .int (nI r)), (2, .int (nI 1))]) hx hb dX7_outermost_4 hl (by decide) rfl (fun ls hl => ?_)
  have lp6 : ∀ (n : Nat) (i : Nat), 8 - i < n → (i ≤ 8) → ∀ ls : Array Slot, lv_has ls 7 [(4, .int (nI i)), (3, .int (hiA V r i)), (0, .ref g), (1, .int (nI r)), (2, .int (nI 1))] → W p l e (headSpec wsX7_outermost ({ frames := 2, cells := 0, slots := 0, locals := 43 })).room s m ([.ref g, .int (nI r), .int (nI 1)] : List Value).toArray below meth c s.heap [] 0 0 (MQ below (vp_Si (fun rz => rz = hiA V r 8)) ([.ref g, .int (nI r), .int (nI 1)] : List Value).toArray s 0 0 (fun _ => False)) (F0 m 6 ls []) := by
    intro n
    induction n with
    | zero => intro i hm; exact absurd hm (Nat.not_lt_zero _)
    | succ n ih6 =>
      intro i hm hi ls hl
      refine lv_iload hx hb dX7_outermost_6 (lv_at hl 0 rfl) ?_
      refine lv_bipush (v := nI 8) hx hb dX7_outermost_8 (by decide) ?_
      refine xn_icmp_ge hx hb (by omega) (by omega) (tgt := 84) dX7_outermost_10 (by decide) (fun kc10 => ?_) (fun kc10 => ?_)
      · refine lv_iload_n hx hb dX7_outermost_84 rfl (lv_at hl 1 rfl) ?_
        exact xr_i hx hb hr hlocks dX7_outermost_85 (by rw [show i = 8 by omega])
      · have hni := hnt (k := i) (by omega)
        have hbb := sndN_lt (V := V) (r := r) (t := i)
        refine lv_aload_n hx hb dX7_outermost_13 rfl (lv_at hl 2 rfl) ?_
        refine va_get (D := D) (ci := 7) (v := .ref s0) (C := RX7) (T := TX7) (N := 14) hx hb hts hin_X7 hown hK.1 hP 0 rfl rfl 0 (by decide) f_7 (fun _ h9 => h9) rfl dX7_outermost_14 ?_
        refine lv_iconst (v := nI 0) hx hb dX7_outermost_17 (by decide) ?_
        refine lv_iload hx hb dX7_outermost_18 (lv_at hl 0 rfl) ?_
        refine xn_add hx hb (r := i) (Nat.zero_add _) dX7_outermost_20 ?_
        refine xn_iald hx hb hK hP 1 rfl (by omega) (by first | decide | omega) (v := nI (V i)) (rfl) dX7_outermost_21 ?_
        refine lv_istore (lv' := [(5, .int (nI (V i))), (4, .int (nI i)), (3, .int (hiA V r i)), (0, .ref g), (1, .int (nI r)), (2, .int (nI 1))]) hx hb dX7_outermost_22 hl (by decide) rfl (fun ls hl => ?_)
        have jn64 : ∀ (z : Nat) (ls : Array Slot), lv_has ls 7 [(5, .int (nI (V i))), (4, .int (nI i)), (3, .int (hiA V r i)), (0, .ref g), (1, .int (nI r)), (2, .int (nI 1))] → (z < 2 ∧ (if z = 1 then nI (V i) else hiA V r i) = hiA V r (i + 1)) → W p l e (headSpec wsX7_outermost ({ frames := 2, cells := 0, slots := 0, locals := 43 })).room s m ([.ref g, .int (nI r), .int (nI 1)] : List Value).toArray below meth c s.heap [] 0 0 (MQ below (vp_Si (fun rz => rz = hiA V r 8)) ([.ref g, .int (nI r), .int (nI 1)] : List Value).toArray s 0 0 (fun _ => False)) (F0 m 64 ls [.int (nI z)]) := by
          intro z ls hl hz
          obtain ⟨hz2, hzz⟩ := hz
          refine lv_istore (lv' := [(6, .int (nI z)), (5, .int (nI (V i))), (4, .int (nI i)), (3, .int (hiA V r i)), (0, .ref g), (1, .int (nI r)), (2, .int (nI 1))]) hx hb dX7_outermost_64 hl (by decide) rfl (fun ls hl => ?_)
          refine lv_iload hx hb dX7_outermost_66 (lv_at hl 0 rfl) ?_
          refine xn_if_eq hx hb (by omega) (tgt := 76) dX7_outermost_68 (by decide) (fun kc68 => ?_) (fun kc68 => ?_)
          · refine lv_iload_n hx hb dX7_outermost_76 rfl (lv_at hl 3 rfl) ?_
            refine lv_istore_n (lv' := [(3, .int (hiA V r i)), (6, .int (nI z)), (5, .int (nI (V i))), (4, .int (nI i)), (0, .ref g), (1, .int (nI r)), (2, .int (nI 1))]) hx hb dX7_outermost_77 rfl hl (by decide) rfl (fun ls hl => ?_)
            refine lv_iinc (v := nI (i + 1)) (lv' := [(4, .int (nI (i + 1))), (3, .int (hiA V r i)), (6, .int (nI z)), (5, .int (nI (V i))), (0, .ref g), (1, .int (nI r)), (2, .int (nI 1))]) hx hb dX7_outermost_78 hl (k := 3) rfl (nI_add i 1) (by decide) rfl (fun ls hl => ?_)
            refine lv_goto (tgt := 6) hx hb dX7_outermost_81 (by decide) ?_
            have e1 : (hiA V r i) = (hiA V r (i + 1)) := by first | (rw [if_pos (show z = 1 by omega)] at hzz; exact hzz) | (rw [if_neg (show ¬ z = 1 by omega)] at hzz; exact hzz)
            exact ih6 (i + 1) (by omega) (by omega) ls (xl_eq (b := [(4, .int (nI (i + 1))), (3, .int (hiA V r (i + 1))), (0, .ref g), (1, .int (nI r)), (2, .int (nI 1))]) (lv_sub (l' := [(4, .int (nI (i + 1))), (3, .int (hiA V r i)), (0, .ref g), (1, .int (nI r)), (2, .int (nI 1))]) hl [0, 1, 4, 5, 6] rfl) (xk rfl (xk (congrArg Value.int e1) (xk rfl (xk rfl (xk rfl (rfl : ([] : List (Nat × Value)) = [])))))))
          · refine lv_iload hx hb dX7_outermost_71 (lv_at hl 1 rfl) ?_
            refine lv_goto (tgt := 77) hx hb dX7_outermost_73 (by decide) ?_
            refine lv_istore_n (lv' := [(3, .int (nI (V i))), (6, .int (nI z)), (5, .int (nI (V i))), (4, .int (nI i)), (0, .ref g), (1, .int (nI r)), (2, .int (nI 1))]) hx hb dX7_outermost_77 rfl hl (by decide) rfl (fun ls hl => ?_)
            refine lv_iinc (v := nI (i + 1)) (lv' := [(4, .int (nI (i + 1))), (3, .int (nI (V i))), (6, .int (nI z)), (5, .int (nI (V i))), (0, .ref g), (1, .int (nI r)), (2, .int (nI 1))]) hx hb dX7_outermost_78 hl (k := 3) rfl (nI_add i 1) (by decide) rfl (fun ls hl => ?_)
            refine lv_goto (tgt := 6) hx hb dX7_outermost_81 (by decide) ?_
            have e2 : (nI (V i)) = (hiA V r (i + 1)) := by first | (rw [if_pos (show z = 1 by omega)] at hzz; exact hzz) | (rw [if_neg (show ¬ z = 1 by omega)] at hzz; exact hzz)
            exact ih6 (i + 1) (by omega) (by omega) ls (xl_eq (b := [(4, .int (nI (i + 1))), (3, .int (hiA V r (i + 1))), (0, .ref g), (1, .int (nI r)), (2, .int (nI 1))]) (lv_sub (l' := [(4, .int (nI (i + 1))), (3, .int (nI (V i))), (0, .ref g), (1, .int (nI r)), (2, .int (nI 1))]) hl [0, 1, 4, 5, 6] rfl) (xk rfl (xk (congrArg Value.int e2) (xk rfl (xk rfl (xk rfl (rfl : ([] : List (Nat × Value)) = [])))))))
        refine lv_aload_n hx hb dX7_outermost_24 rfl (lv_at hl 3 rfl) ?_
        refine lv_iload_n hx hb dX7_outermost_25 rfl (lv_at hl 4 rfl) ?_
        refine lv_iload hx hb dX7_outermost_26 (lv_at hl 1 rfl) ?_
        refine xc_V (As := [.int (nI r), .int (nI i)]) (rest := []) ⟨hx, hb, hml, hown, hts⟩ (c_X7_sounds_n l D y g s0 a0 b0 x0 kn L ta wr le o1 o2 po rs ca V hI r (by omega) i (by omega)) (cwV 2 hts gX7_outermost_X7_sounds rfl rfl rfl hd_X7_sounds ⟨Nat.le_of_ble_eq_true rfl, Nat.le_of_ble_eq_true rfl⟩) (xpv_r hK hP [0, 1] 0 rfl rfl rfl) rfl hl.1 rfl (Nat.le_of_ble_eq_true rfl) dX7_outermost_28 ⟨Nat.zero_le _, Nat.zero_le _⟩ (fun r3 hr3 => ?_)
        subst hr3
        refine xn_if_eq hx hb (by omega) (tgt := 63) dX7_outermost_31 (by decide) (fun kc31 => ?_) (fun kc31 => ?_)
        · refine lv_iconst (v := nI 0) hx hb dX7_outermost_63 (by decide) ?_
          exact jn64 0 ls (lv_sub hl [0, 1, 2, 3, 4, 5] rfl) (⟨by decide, by rw [if_neg (by decide)]; exact hiA_f (by first | exact Or.inl kc31 | exact Or.inr (Int32.not_lt.mpr kc47))⟩)
        · refine lv_iload_n hx hb dX7_outermost_34 rfl (lv_at hl 2 rfl) ?_
          refine lv_ldc hx hb hown f_93 dX7_outermost_35 ?_
          refine lv_icmp_eq (tgt := 59) hx hb dX7_outermost_37 (by decide) (fun kc37 => ?_) (fun kc37 => ?_)
          · refine lv_iconst (v := nI 1) hx hb dX7_outermost_59 (by decide) ?_
            refine lv_goto (tgt := 64) hx hb dX7_outermost_60 (by decide) ?_
            exact jn64 1 ls (lv_sub hl [0, 1, 2, 3, 4, 5] rfl) (⟨by decide, by rw [if_pos rfl]; exact hiA_t hI (by omega) kc31 (by first | exact Or.inl kc37 | exact Or.inr (Int32.not_le.mp kc47))⟩)
          · refine lv_iload_n hx hb dX7_outermost_40 rfl (lv_at hl 5 rfl) ?_
            refine lv_if_eq (tgt := 53) hx hb dX7_outermost_41 (by decide) (fun h => absurd h (by decide)) (fun _ => ?_)
            refine lv_iload hx hb dX7_outermost_44 (lv_at hl 0 rfl) ?_
            refine lv_iload_n hx hb dX7_outermost_46 rfl (lv_at hl 2 rfl) ?_
            refine lv_icmp_le (tgt := 63) hx hb dX7_outermost_47 (by decide) (fun kc47 => ?_) (fun kc47 => ?_)
            · refine lv_iconst (v := nI 0) hx hb dX7_outermost_63 (by decide) ?_
              exact jn64 0 ls (lv_sub hl [0, 1, 2, 3, 4, 5] rfl) (⟨by decide, by rw [if_neg (by decide)]; exact hiA_f (by first | exact Or.inl kc31 | exact Or.inr (Int32.not_lt.mpr kc47))⟩)
            · refine lv_goto (tgt := 59) hx hb dX7_outermost_50 (by decide) ?_
              refine lv_iconst (v := nI 1) hx hb dX7_outermost_59 (by decide) ?_
              refine lv_goto (tgt := 64) hx hb dX7_outermost_60 (by decide) ?_
              exact jn64 1 ls (lv_sub hl [0, 1, 2, 3, 4, 5] rfl) (⟨by decide, by rw [if_pos rfl]; exact hiA_t hI (by omega) kc31 (by first | exact Or.inl kc37 | exact Or.inr (Int32.not_le.mp kc47))⟩)
  have e4 : (-1000004) = (hiA V r 0) := rfl
  exact lp6 ((8 - 0) + 1) 0 (Nat.lt_succ_self _) (by omega) ls (xl_eq (b := [(4, .int (nI 0)), (3, .int (hiA V r 0)), (0, .ref g), (1, .int (nI r)), (2, .int (nI 1))]) (lv_sub (l' := [(4, .int (nI 0)), (3, .int (-1000004)), (0, .ref g), (1, .int (nI r)), (2, .int (nI 1))]) hl [0, 1, 2, 3, 4] rfl) (xk rfl (xk (congrArg Value.int e4) (xk rfl (xk rfl (xk rfl (rfl : ([] : List (Nat × Value)) = [])))))))
set_option maxHeartbeats 8000000 in
set_option maxRecDepth 100000 in
theorem c_X7_outermost_l (l : Launch) (D : va_G) (y : Nat → ClassId) (g s0 a0 b0 x0 kn L ta wr le : Nat) (o1 o2 : Int32) (po rs : Nat) (ca : Int32) (V : Nat → Nat) (hI : Inv V) (r : Nat) (hr0 : r < 2 ^ 30) : Met l yX7_outermost wsX7_outermost ({ frames := 2, cells := 0, slots := 0, locals := 43 }) (va_Pc [.ref g, .int (nI r), .int (nI 0)] (xPr D y [(g, .inr (7, [.ref s0, .ref a0, .ref b0, .int (nI kn), .ref x0, .int (nI L), .int (nI ta), .int (nI wr), .int (nI le), .int o1, .int o2, .int (nI po), .int (nI rs), .int ca])), (s0, .inl (y 1, 72, .inl (fun j9 => nI (V j9))))])) (vp_Si (fun rz => rz = lwI V r)) 0 0 (fun _ => False) := by
  refine Met.ofW (cc := cX7_outermost) (maxL := 7) (ret := (some .int)) (by decide) rfl ?_
  intro p e s m args below meth c s₁ B hml hv
  obtain ⟨rfl, hP, hK⟩ := hv
  have hx := B.exec
  have hb := B.bytes
  have hr := B.returns
  have hts := atoms_spec (ws := wsX7_outermost) B.pre
  have hown : s.vm.findClass RX7 = some m.cls := findClass_of_methodNamed B.named
  have hlocks := B.notSynchronized
  have f_7 := hts (.fieldLink RX7 7 "LoomTunesModel" "s" "[I") (by decide +kernel)
  have f_93 := hts (.constant RX7 93 (-1000004)) (by decide +kernel)
  have hin_X7 : ∀ w ∈ wsX70, w ∈ wsX7_outermost := by decide +kernel
  have hP : va_P D vwCl [(g, .inr (7, [.ref s0, .ref a0, .ref b0, .int (nI kn), .ref x0, .int (nI L), .int (nI ta), .int (nI wr), .int (nI le), .int o1, .int o2, .int (nI po), .int (nI rs), .int ca])), (s0, .inl (y 1, 72, .inl (fun j9 => nI (V j9))))] s.heap := hP
  have hl := lv_entry ([.ref g, .int (nI r), .int (nI 0)]) (n := 7) (Nat.le_of_ble_eq_true rfl)
  rw [lg_entry_eq]
  generalize (lg_sl ([.ref g, .int (nI r), .int (nI 0)]) ++ List.replicate (7 - (lg_sl ([.ref g, .int (nI r), .int (nI 0)])).length) Slot.unset).toArray = ls at hl ⊢
  have hl : lv_has ls 7 [(0, .ref g), (1, .int (nI r)), (2, .int (nI 0))] := hl
  have hnt : ∀ {k : Nat}, k < 8 → V k < 48 := fun hk => hI.nt hk
  refine lv_ldc hx hb hown f_93 dX7_outermost_0 ?_
  refine lv_istore_n (lv' := [(3, .int (-1000004)), (0, .ref g), (1, .int (nI r)), (2, .int (nI 0))]) hx hb dX7_outermost_2 rfl hl (by decide) rfl (fun ls hl => ?_)
  refine lv_iconst (v := nI 0) hx hb dX7_outermost_3 (by decide) ?_
  refine lv_istore (lv' := [(4, .int (nI 0)), (3, .int (-1000004)), (0, .ref g), (1, .int (nI r)), (2, .int (nI 0))]) hx hb dX7_outermost_4 hl (by decide) rfl (fun ls hl => ?_)
  have lp6 : ∀ (n : Nat) (i : Nat), 8 - i < n → (i ≤ 8) → ∀ ls : Array Slot, lv_has ls 7 [(4, .int (nI i)), (3, .int (lwJ V r i)), (0, .ref g), (1, .int (nI r)), (2, .int (nI 0))] → W p l e (headSpec wsX7_outermost ({ frames := 2, cells := 0, slots := 0, locals := 43 })).room s m ([.ref g, .int (nI r), .int (nI 0)] : List Value).toArray below meth c s.heap [] 0 0 (MQ below (vp_Si (fun rz => rz = lwI V r)) ([.ref g, .int (nI r), .int (nI 0)] : List Value).toArray s 0 0 (fun _ => False)) (F0 m 6 ls []) := by
    intro n
    induction n with
    | zero => intro i hm; exact absurd hm (Nat.not_lt_zero _)
    | succ n ih6 =>
      intro i hm hi ls hl
      refine lv_iload hx hb dX7_outermost_6 (lv_at hl 0 rfl) ?_
      refine lv_bipush (v := nI 8) hx hb dX7_outermost_8 (by decide) ?_
      refine xn_icmp_ge hx hb (by omega) (by omega) (tgt := 84) dX7_outermost_10 (by decide) (fun kc10 => ?_) (fun kc10 => ?_)
      · refine lv_iload_n hx hb dX7_outermost_84 rfl (lv_at hl 1 rfl) ?_
        exact xr_i hx hb hr hlocks dX7_outermost_85 (by rw [show i = 8 by omega]; rfl)
      · have hni := hnt (k := i) (by omega)
        have hbb := sndN_lt (V := V) (r := r) (t := i)
        refine lv_aload_n hx hb dX7_outermost_13 rfl (lv_at hl 2 rfl) ?_
        refine va_get (D := D) (ci := 7) (v := .ref s0) (C := RX7) (T := TX7) (N := 14) hx hb hts hin_X7 hown hK.1 hP 0 rfl rfl 0 (by decide) f_7 (fun _ h9 => h9) rfl dX7_outermost_14 ?_
        refine lv_iconst (v := nI 0) hx hb dX7_outermost_17 (by decide) ?_
        refine lv_iload hx hb dX7_outermost_18 (lv_at hl 0 rfl) ?_
        refine xn_add hx hb (r := i) (Nat.zero_add _) dX7_outermost_20 ?_
        refine xn_iald hx hb hK hP 1 rfl (by omega) (by first | decide | omega) (v := nI (V i)) (rfl) dX7_outermost_21 ?_
        refine lv_istore (lv' := [(5, .int (nI (V i))), (4, .int (nI i)), (3, .int (lwJ V r i)), (0, .ref g), (1, .int (nI r)), (2, .int (nI 0))]) hx hb dX7_outermost_22 hl (by decide) rfl (fun ls hl => ?_)
        have jn64 : ∀ (z : Nat) (ls : Array Slot), lv_has ls 7 [(5, .int (nI (V i))), (4, .int (nI i)), (3, .int (lwJ V r i)), (0, .ref g), (1, .int (nI r)), (2, .int (nI 0))] → (z < 2 ∧ (if z = 1 then nI (V i) else lwJ V r i) = lwJ V r (i + 1)) → W p l e (headSpec wsX7_outermost ({ frames := 2, cells := 0, slots := 0, locals := 43 })).room s m ([.ref g, .int (nI r), .int (nI 0)] : List Value).toArray below meth c s.heap [] 0 0 (MQ below (vp_Si (fun rz => rz = lwI V r)) ([.ref g, .int (nI r), .int (nI 0)] : List Value).toArray s 0 0 (fun _ => False)) (F0 m 64 ls [.int (nI z)]) := by
          intro z ls hl hz
          obtain ⟨hz2, hzz⟩ := hz
          refine lv_istore (lv' := [(6, .int (nI z)), (5, .int (nI (V i))), (4, .int (nI i)), (3, .int (lwJ V r i)), (0, .ref g), (1, .int (nI r)), (2, .int (nI 0))]) hx hb dX7_outermost_64 hl (by decide) rfl (fun ls hl => ?_)
          refine lv_iload hx hb dX7_outermost_66 (lv_at hl 0 rfl) ?_
          refine xn_if_eq hx hb (by omega) (tgt := 76) dX7_outermost_68 (by decide) (fun kc68 => ?_) (fun kc68 => ?_)
          · refine lv_iload_n hx hb dX7_outermost_76 rfl (lv_at hl 3 rfl) ?_
            refine lv_istore_n (lv' := [(3, .int (lwJ V r i)), (6, .int (nI z)), (5, .int (nI (V i))), (4, .int (nI i)), (0, .ref g), (1, .int (nI r)), (2, .int (nI 0))]) hx hb dX7_outermost_77 rfl hl (by decide) rfl (fun ls hl => ?_)
            refine lv_iinc (v := nI (i + 1)) (lv' := [(4, .int (nI (i + 1))), (3, .int (lwJ V r i)), (6, .int (nI z)), (5, .int (nI (V i))), (0, .ref g), (1, .int (nI r)), (2, .int (nI 0))]) hx hb dX7_outermost_78 hl (k := 3) rfl (nI_add i 1) (by decide) rfl (fun ls hl => ?_)
            refine lv_goto (tgt := 6) hx hb dX7_outermost_81 (by decide) ?_
            have e1 : (lwJ V r i) = (lwJ V r (i + 1)) := by first | (rw [if_pos (show z = 1 by omega)] at hzz; exact hzz) | (rw [if_neg (show ¬ z = 1 by omega)] at hzz; exact hzz)
            exact ih6 (i + 1) (by omega) (by omega) ls (xl_eq (b := [(4, .int (nI (i + 1))), (3, .int (lwJ V r (i + 1))), (0, .ref g), (1, .int (nI r)), (2, .int (nI 0))]) (lv_sub (l' := [(4, .int (nI (i + 1))), (3, .int (lwJ V r i)), (0, .ref g), (1, .int (nI r)), (2, .int (nI 0))]) hl [0, 1, 4, 5, 6] rfl) (xk rfl (xk (congrArg Value.int e1) (xk rfl (xk rfl (xk rfl (rfl : ([] : List (Nat × Value)) = [])))))))
          · refine lv_iload hx hb dX7_outermost_71 (lv_at hl 1 rfl) ?_
            refine lv_goto (tgt := 77) hx hb dX7_outermost_73 (by decide) ?_
            refine lv_istore_n (lv' := [(3, .int (nI (V i))), (6, .int (nI z)), (5, .int (nI (V i))), (4, .int (nI i)), (0, .ref g), (1, .int (nI r)), (2, .int (nI 0))]) hx hb dX7_outermost_77 rfl hl (by decide) rfl (fun ls hl => ?_)
            refine lv_iinc (v := nI (i + 1)) (lv' := [(4, .int (nI (i + 1))), (3, .int (nI (V i))), (6, .int (nI z)), (5, .int (nI (V i))), (0, .ref g), (1, .int (nI r)), (2, .int (nI 0))]) hx hb dX7_outermost_78 hl (k := 3) rfl (nI_add i 1) (by decide) rfl (fun ls hl => ?_)
            refine lv_goto (tgt := 6) hx hb dX7_outermost_81 (by decide) ?_
            have e2 : (nI (V i)) = (lwJ V r (i + 1)) := by first | (rw [if_pos (show z = 1 by omega)] at hzz; exact hzz) | (rw [if_neg (show ¬ z = 1 by omega)] at hzz; exact hzz)
            exact ih6 (i + 1) (by omega) (by omega) ls (xl_eq (b := [(4, .int (nI (i + 1))), (3, .int (lwJ V r (i + 1))), (0, .ref g), (1, .int (nI r)), (2, .int (nI 0))]) (lv_sub (l' := [(4, .int (nI (i + 1))), (3, .int (nI (V i))), (0, .ref g), (1, .int (nI r)), (2, .int (nI 0))]) hl [0, 1, 4, 5, 6] rfl) (xk rfl (xk (congrArg Value.int e2) (xk rfl (xk rfl (xk rfl (rfl : ([] : List (Nat × Value)) = [])))))))
        refine lv_aload_n hx hb dX7_outermost_24 rfl (lv_at hl 3 rfl) ?_
        refine lv_iload_n hx hb dX7_outermost_25 rfl (lv_at hl 4 rfl) ?_
        refine lv_iload hx hb dX7_outermost_26 (lv_at hl 1 rfl) ?_
        refine xc_V (As := [.int (nI r), .int (nI i)]) (rest := []) ⟨hx, hb, hml, hown, hts⟩ (c_X7_sounds_n l D y g s0 a0 b0 x0 kn L ta wr le o1 o2 po rs ca V hI r (by omega) i (by omega)) (cwV 2 hts gX7_outermost_X7_sounds rfl rfl rfl hd_X7_sounds ⟨Nat.le_of_ble_eq_true rfl, Nat.le_of_ble_eq_true rfl⟩) (xpv_r hK hP [0, 1] 0 rfl rfl rfl) rfl hl.1 rfl (Nat.le_of_ble_eq_true rfl) dX7_outermost_28 ⟨Nat.zero_le _, Nat.zero_le _⟩ (fun r3 hr3 => ?_)
        subst hr3
        refine xn_if_eq hx hb (by omega) (tgt := 63) dX7_outermost_31 (by decide) (fun kc31 => ?_) (fun kc31 => ?_)
        · refine lv_iconst (v := nI 0) hx hb dX7_outermost_63 (by decide) ?_
          exact jn64 0 ls (lv_sub hl [0, 1, 2, 3, 4, 5] rfl) (⟨by decide, by rw [if_neg (by decide)]; exact lwJ_f hI (by omega) (by first | exact Or.inl kc31 | exact Or.inr ⟨kc37, Int32.not_lt.mpr kc56⟩)⟩)
        · refine lv_iload_n hx hb dX7_outermost_34 rfl (lv_at hl 2 rfl) ?_
          refine lv_ldc hx hb hown f_93 dX7_outermost_35 ?_
          refine lv_icmp_eq (tgt := 59) hx hb dX7_outermost_37 (by decide) (fun kc37 => ?_) (fun kc37 => ?_)
          · refine lv_iconst (v := nI 1) hx hb dX7_outermost_59 (by decide) ?_
            refine lv_goto (tgt := 64) hx hb dX7_outermost_60 (by decide) ?_
            exact jn64 1 ls (lv_sub hl [0, 1, 2, 3, 4, 5] rfl) (⟨by decide, by rw [if_pos rfl]; exact lwJ_t hI (by omega) kc31 (by first | exact Or.inl kc37 | exact Or.inr (Int32.not_le.mp kc56))⟩)
          · refine lv_iload_n hx hb dX7_outermost_40 rfl (lv_at hl 5 rfl) ?_
            refine lv_if_eq (tgt := 53) hx hb dX7_outermost_41 (by decide) (fun _ => ?_) (fun h => absurd h (by decide))
            refine lv_iload hx hb dX7_outermost_53 (lv_at hl 0 rfl) ?_
            refine lv_iload_n hx hb dX7_outermost_55 rfl (lv_at hl 2 rfl) ?_
            refine lv_icmp_ge (tgt := 63) hx hb dX7_outermost_56 (by decide) (fun kc56 => ?_) (fun kc56 => ?_)
            · refine lv_iconst (v := nI 0) hx hb dX7_outermost_63 (by decide) ?_
              exact jn64 0 ls (lv_sub hl [0, 1, 2, 3, 4, 5] rfl) (⟨by decide, by rw [if_neg (by decide)]; exact lwJ_f hI (by omega) (by first | exact Or.inl kc31 | exact Or.inr ⟨kc37, Int32.not_lt.mpr kc56⟩)⟩)
            · refine lv_iconst (v := nI 1) hx hb dX7_outermost_59 (by decide) ?_
              refine lv_goto (tgt := 64) hx hb dX7_outermost_60 (by decide) ?_
              exact jn64 1 ls (lv_sub hl [0, 1, 2, 3, 4, 5] rfl) (⟨by decide, by rw [if_pos rfl]; exact lwJ_t hI (by omega) kc31 (by first | exact Or.inl kc37 | exact Or.inr (Int32.not_le.mp kc56))⟩)
  have e4 : (-1000004) = (lwJ V r 0) := rfl
  exact lp6 ((8 - 0) + 1) 0 (Nat.lt_succ_self _) (by omega) ls (xl_eq (b := [(4, .int (nI 0)), (3, .int (lwJ V r 0)), (0, .ref g), (1, .int (nI r)), (2, .int (nI 0))]) (lv_sub (l' := [(4, .int (nI 0)), (3, .int (-1000004)), (0, .ref g), (1, .int (nI r)), (2, .int (nI 0))]) hl [0, 1, 2, 3, 4] rfl) (xk rfl (xk (congrArg Value.int e4) (xk rfl (xk rfl (xk rfl (rfl : ([] : List (Nat × Value)) = [])))))))
set_option maxHeartbeats 8000000 in
set_option maxRecDepth 100000 in
theorem c_X7_colours (l : Launch) (D : va_G) (y : Nat → ClassId) (g s0 a0 b0 x0 kn L ta wr le : Nat) (o1 o2 : Int32) (po rs : Nat) (ca : Int32) (V : Nat → Nat) (hI : Inv V) (r : Nat) (hr0 : r < 2 ^ 30) : Met l yX7_colours wsX7_colours ({ frames := 2, cells := 0, slots := 0, locals := 43 }) (va_Pc [.ref g, .int (nI r)] (xPr D y [(g, .inr (7, [.ref s0, .ref a0, .ref b0, .int (nI kn), .ref x0, .int (nI L), .int (nI ta), .int (nI wr), .int (nI le), .int o1, .int o2, .int (nI po), .int (nI rs), .int ca])), (s0, .inl (y 1, 72, .inl (fun j9 => nI (V j9))))])) (vp_Si (fun rz => rz = nI (abA V r))) 0 0 (fun _ => False) := by
  refine Met.ofW (cc := cX7_colours) (maxL := 5) (ret := (some .int)) (by decide) rfl ?_
  intro p e s m args below meth c s₁ B hml hv
  obtain ⟨rfl, hP, hK⟩ := hv
  have hx := B.exec
  have hb := B.bytes
  have hr := B.returns
  have hts := atoms_spec (ws := wsX7_colours) B.pre
  have hown : s.vm.findClass RX7 = some m.cls := findClass_of_methodNamed B.named
  have hlocks := B.notSynchronized
  have f_7 := hts (.fieldLink RX7 7 "LoomTunesModel" "s" "[I") (by decide +kernel)
  have hin_X7 : ∀ w ∈ wsX70, w ∈ wsX7_colours := by decide +kernel
  have hP : va_P D vwCl [(g, .inr (7, [.ref s0, .ref a0, .ref b0, .int (nI kn), .ref x0, .int (nI L), .int (nI ta), .int (nI wr), .int (nI le), .int o1, .int o2, .int (nI po), .int (nI rs), .int ca])), (s0, .inl (y 1, 72, .inl (fun j9 => nI (V j9))))] s.heap := hP
  have hl := lv_entry ([.ref g, .int (nI r)]) (n := 5) (Nat.le_of_ble_eq_true rfl)
  rw [lg_entry_eq]
  generalize (lg_sl ([.ref g, .int (nI r)]) ++ List.replicate (5 - (lg_sl ([.ref g, .int (nI r)])).length) Slot.unset).toArray = ls at hl ⊢
  have hl : lv_has ls 5 [(0, .ref g), (1, .int (nI r))] := hl
  have hct : ∀ {k : Nat}, k < 8 → V (8 + k) < 4 := fun hk => hI.co hk
  refine lv_iconst (v := nI 0) hx hb dX7_colours_0 (by decide) ?_
  refine lv_istore_n (lv' := [(2, .int (nI 0)), (0, .ref g), (1, .int (nI r))]) hx hb dX7_colours_1 rfl hl (by decide) rfl (fun ls hl => ?_)
  refine lv_iconst (v := nI 0) hx hb dX7_colours_2 (by decide) ?_
  refine lv_istore_n (lv' := [(3, .int (nI 0)), (2, .int (nI 0)), (0, .ref g), (1, .int (nI r))]) hx hb dX7_colours_3 rfl hl (by decide) rfl (fun ls hl => ?_)
  have lp4 : ∀ (n : Nat) (i : Nat), 8 - i < n → (i ≤ 8) → ∀ ls : Array Slot, lv_has ls 5 [(3, .int (nI i)), (2, .int (nI (sN (coW V r) i))), (0, .ref g), (1, .int (nI r))] → W p l e (headSpec wsX7_colours ({ frames := 2, cells := 0, slots := 0, locals := 43 })).room s m ([.ref g, .int (nI r)] : List Value).toArray below meth c s.heap [] 0 0 (MQ below (vp_Si (fun rz => rz = nI (abA V r))) ([.ref g, .int (nI r)] : List Value).toArray s 0 0 (fun _ => False)) (F0 m 4 ls []) := by
    intro n
    induction n with
    | zero => intro i hm; exact absurd hm (Nat.not_lt_zero _)
    | succ n ih4 =>
      intro i hm hi ls hl
      refine lv_iload_n hx hb dX7_colours_4 rfl (lv_at hl 0 rfl) ?_
      refine lv_bipush (v := nI 8) hx hb dX7_colours_5 (by decide) ?_
      refine xn_icmp_ge hx hb (by omega) (by omega) (tgt := 77) dX7_colours_7 (by decide) (fun kc7 => ?_) (fun kc7 => ?_)
      · refine lv_iload_n hx hb dX7_colours_77 rfl (lv_at hl 1 rfl) ?_
        exact xr_i hx hb hr hlocks dX7_colours_78 (congrArg nI (by rw [show i = 8 by omega]; exact coW_s hI))
      · have hni := hct (k := i) (by omega)
        have hbb := sndN_lt (V := V) (r := r) (t := i)
        refine lv_aload_n hx hb dX7_colours_10 rfl (lv_at hl 2 rfl) ?_
        refine va_get (D := D) (ci := 7) (v := .ref s0) (C := RX7) (T := TX7) (N := 14) hx hb hts hin_X7 hown hK.1 hP 0 rfl rfl 0 (by decide) f_7 (fun _ h9 => h9) rfl dX7_colours_11 ?_
        refine lv_bipush (v := nI 8) hx hb dX7_colours_14 (by decide) ?_
        refine lv_iload_n hx hb dX7_colours_16 rfl (lv_at hl 0 rfl) ?_
        refine xn_add hx hb (r := (8 + i)) rfl dX7_colours_17 ?_
        refine xn_iald hx hb hK hP 1 rfl (by omega) (by first | decide | omega) (v := nI (V (8 + i))) (rfl) dX7_colours_18 ?_
        refine lv_istore (lv' := [(4, .int (nI (V (8 + i)))), (3, .int (nI i)), (2, .int (nI (sN (coW V r) i))), (0, .ref g), (1, .int (nI r))]) hx hb dX7_colours_19 hl (by decide) rfl (fun ls hl => ?_)
        refine lv_iload_n hx hb dX7_colours_21 rfl (lv_at hl 2 rfl) ?_
        refine lv_aload_n hx hb dX7_colours_22 rfl (lv_at hl 3 rfl) ?_
        refine lv_iload_n hx hb dX7_colours_23 rfl (lv_at hl 4 rfl) ?_
        refine lv_iload_n hx hb dX7_colours_24 rfl (lv_at hl 1 rfl) ?_
        refine xc_V (As := [.int (nI r), .int (nI i)]) (rest := [.int (nI (sN (coW V r) i))]) ⟨hx, hb, hml, hown, hts⟩ (c_X7_sounds_n l D y g s0 a0 b0 x0 kn L ta wr le o1 o2 po rs ca V hI r (by omega) i (by omega)) (cwV 2 hts gX7_colours_X7_sounds rfl rfl rfl hd_X7_sounds ⟨Nat.le_of_ble_eq_true rfl, Nat.le_of_ble_eq_true rfl⟩) (xpv_r hK hP [0, 1] 0 rfl rfl rfl) rfl hl.1 rfl (Nat.le_of_ble_eq_true rfl) dX7_colours_25 ⟨Nat.zero_le _, Nat.zero_le _⟩ (fun r1 hr1 => ?_)
        subst hr1
        refine xn_if_ne hx hb (by omega) (tgt := 35) dX7_colours_28 (by decide) (fun kc28 => ?_) (fun kc28 => ?_)
        · refine lv_iload hx hb dX7_colours_35 (lv_at hl 0 rfl) ?_
          refine xn_if_ne hx hb (by omega) (tgt := 46) dX7_colours_37 (by decide) (fun kc37 => ?_) (fun kc37 => ?_)
          · refine lv_iload hx hb dX7_colours_46 (lv_at hl 0 rfl) ?_
            refine lv_iconst (v := nI 1) hx hb dX7_colours_48 (by decide) ?_
            refine xn_icmp_ne hx hb (by omega) (by omega) (tgt := 57) dX7_colours_49 (by decide) (fun kc49 => ?_) (fun kc49 => ?_)
            · refine lv_iload hx hb dX7_colours_57 (lv_at hl 0 rfl) ?_
              refine lv_iconst (v := nI 2) hx hb dX7_colours_59 (by decide) ?_
              refine xn_icmp_ne hx hb (by omega) (by omega) (tgt := 68) dX7_colours_60 (by decide) (fun kc60 => ?_) (fun kc60 => ?_)
              · refine lv_iconst (v := nI 1) hx hb dX7_colours_68 (by decide) ?_
                refine xn_add hx hb (r := ((sN (coW V r) i) + 1)) rfl dX7_colours_69 ?_
                refine lv_istore_n (lv' := [(2, .int (nI ((sN (coW V r) i) + 1))), (4, .int (nI (V (8 + i)))), (3, .int (nI i)), (0, .ref g), (1, .int (nI r))]) hx hb dX7_colours_70 rfl hl (by decide) rfl (fun ls hl => ?_)
                refine lv_iinc (v := nI (i + 1)) (lv' := [(3, .int (nI (i + 1))), (2, .int (nI ((sN (coW V r) i) + 1))), (4, .int (nI (V (8 + i)))), (0, .ref g), (1, .int (nI r))]) hx hb dX7_colours_71 hl (k := 2) rfl (nI_add i 1) (by decide) rfl (fun ls hl => ?_)
                refine lv_goto (tgt := 4) hx hb dX7_colours_74 (by decide) ?_
                have e2 : ((sN (coW V r) i) + 1) = (sN (coW V r) (i + 1)) := by rw [sN_s]; show _ = _ + (if sndN V r i = 1 then 1000 / 10 ^ V (8 + i) else 0); first | (rw [if_neg (by omega)]; done) | (rw [if_pos (show sndN V r i = 1 by omega)]; first | (simp [kc37]; done) | (simp [kc49]; done) | (simp [kc60]; done) | (simp [show V (8 + i) = 3 by omega]; done))
                exact ih4 (i + 1) (by omega) (by omega) ls (xl_eq (b := [(3, .int (nI (i + 1))), (2, .int (nI (sN (coW V r) (i + 1)))), (0, .ref g), (1, .int (nI r))]) (lv_sub (l' := [(3, .int (nI (i + 1))), (2, .int (nI ((sN (coW V r) i) + 1))), (0, .ref g), (1, .int (nI r))]) hl [0, 1, 3, 4] rfl) (xk rfl (xk (congrArg (fun z : Nat => Value.int (nI z)) e2) (xk rfl (xk rfl (rfl : ([] : List (Nat × Value)) = []))))))
              · refine lv_bipush (v := nI 10) hx hb dX7_colours_63 (by decide) ?_
                refine lv_goto (tgt := 69) hx hb dX7_colours_65 (by decide) ?_
                refine xn_add hx hb (r := ((sN (coW V r) i) + 10)) rfl dX7_colours_69 ?_
                refine lv_istore_n (lv' := [(2, .int (nI ((sN (coW V r) i) + 10))), (4, .int (nI (V (8 + i)))), (3, .int (nI i)), (0, .ref g), (1, .int (nI r))]) hx hb dX7_colours_70 rfl hl (by decide) rfl (fun ls hl => ?_)
                refine lv_iinc (v := nI (i + 1)) (lv' := [(3, .int (nI (i + 1))), (2, .int (nI ((sN (coW V r) i) + 10))), (4, .int (nI (V (8 + i)))), (0, .ref g), (1, .int (nI r))]) hx hb dX7_colours_71 hl (k := 2) rfl (nI_add i 1) (by decide) rfl (fun ls hl => ?_)
                refine lv_goto (tgt := 4) hx hb dX7_colours_74 (by decide) ?_
                have e3 : ((sN (coW V r) i) + 10) = (sN (coW V r) (i + 1)) := by rw [sN_s]; show _ = _ + (if sndN V r i = 1 then 1000 / 10 ^ V (8 + i) else 0); first | (rw [if_neg (by omega)]; done) | (rw [if_pos (show sndN V r i = 1 by omega)]; first | (simp [kc37]; done) | (simp [kc49]; done) | (simp [kc60]; done) | (simp [show V (8 + i) = 3 by omega]; done))
                exact ih4 (i + 1) (by omega) (by omega) ls (xl_eq (b := [(3, .int (nI (i + 1))), (2, .int (nI (sN (coW V r) (i + 1)))), (0, .ref g), (1, .int (nI r))]) (lv_sub (l' := [(3, .int (nI (i + 1))), (2, .int (nI ((sN (coW V r) i) + 10))), (0, .ref g), (1, .int (nI r))]) hl [0, 1, 3, 4] rfl) (xk rfl (xk (congrArg (fun z : Nat => Value.int (nI z)) e3) (xk rfl (xk rfl (rfl : ([] : List (Nat × Value)) = []))))))
            · refine lv_bipush (v := nI 100) hx hb dX7_colours_52 (by decide) ?_
              refine lv_goto (tgt := 69) hx hb dX7_colours_54 (by decide) ?_
              refine xn_add hx hb (r := ((sN (coW V r) i) + 100)) rfl dX7_colours_69 ?_
              refine lv_istore_n (lv' := [(2, .int (nI ((sN (coW V r) i) + 100))), (4, .int (nI (V (8 + i)))), (3, .int (nI i)), (0, .ref g), (1, .int (nI r))]) hx hb dX7_colours_70 rfl hl (by decide) rfl (fun ls hl => ?_)
              refine lv_iinc (v := nI (i + 1)) (lv' := [(3, .int (nI (i + 1))), (2, .int (nI ((sN (coW V r) i) + 100))), (4, .int (nI (V (8 + i)))), (0, .ref g), (1, .int (nI r))]) hx hb dX7_colours_71 hl (k := 2) rfl (nI_add i 1) (by decide) rfl (fun ls hl => ?_)
              refine lv_goto (tgt := 4) hx hb dX7_colours_74 (by decide) ?_
              have e4 : ((sN (coW V r) i) + 100) = (sN (coW V r) (i + 1)) := by rw [sN_s]; show _ = _ + (if sndN V r i = 1 then 1000 / 10 ^ V (8 + i) else 0); first | (rw [if_neg (by omega)]; done) | (rw [if_pos (show sndN V r i = 1 by omega)]; first | (simp [kc37]; done) | (simp [kc49]; done) | (simp [kc60]; done) | (simp [show V (8 + i) = 3 by omega]; done))
              exact ih4 (i + 1) (by omega) (by omega) ls (xl_eq (b := [(3, .int (nI (i + 1))), (2, .int (nI (sN (coW V r) (i + 1)))), (0, .ref g), (1, .int (nI r))]) (lv_sub (l' := [(3, .int (nI (i + 1))), (2, .int (nI ((sN (coW V r) i) + 100))), (0, .ref g), (1, .int (nI r))]) hl [0, 1, 3, 4] rfl) (xk rfl (xk (congrArg (fun z : Nat => Value.int (nI z)) e4) (xk rfl (xk rfl (rfl : ([] : List (Nat × Value)) = []))))))
          · refine lv_sipush (v := nI 1000) hx hb dX7_colours_40 (by decide) ?_
            refine lv_goto (tgt := 69) hx hb dX7_colours_43 (by decide) ?_
            refine xn_add hx hb (r := ((sN (coW V r) i) + 1000)) rfl dX7_colours_69 ?_
            refine lv_istore_n (lv' := [(2, .int (nI ((sN (coW V r) i) + 1000))), (4, .int (nI (V (8 + i)))), (3, .int (nI i)), (0, .ref g), (1, .int (nI r))]) hx hb dX7_colours_70 rfl hl (by decide) rfl (fun ls hl => ?_)
            refine lv_iinc (v := nI (i + 1)) (lv' := [(3, .int (nI (i + 1))), (2, .int (nI ((sN (coW V r) i) + 1000))), (4, .int (nI (V (8 + i)))), (0, .ref g), (1, .int (nI r))]) hx hb dX7_colours_71 hl (k := 2) rfl (nI_add i 1) (by decide) rfl (fun ls hl => ?_)
            refine lv_goto (tgt := 4) hx hb dX7_colours_74 (by decide) ?_
            have e5 : ((sN (coW V r) i) + 1000) = (sN (coW V r) (i + 1)) := by rw [sN_s]; show _ = _ + (if sndN V r i = 1 then 1000 / 10 ^ V (8 + i) else 0); first | (rw [if_neg (by omega)]; done) | (rw [if_pos (show sndN V r i = 1 by omega)]; first | (simp [kc37]; done) | (simp [kc49]; done) | (simp [kc60]; done) | (simp [show V (8 + i) = 3 by omega]; done))
            exact ih4 (i + 1) (by omega) (by omega) ls (xl_eq (b := [(3, .int (nI (i + 1))), (2, .int (nI (sN (coW V r) (i + 1)))), (0, .ref g), (1, .int (nI r))]) (lv_sub (l' := [(3, .int (nI (i + 1))), (2, .int (nI ((sN (coW V r) i) + 1000))), (0, .ref g), (1, .int (nI r))]) hl [0, 1, 3, 4] rfl) (xk rfl (xk (congrArg (fun z : Nat => Value.int (nI z)) e5) (xk rfl (xk rfl (rfl : ([] : List (Nat × Value)) = []))))))
        · refine lv_iconst (v := nI 0) hx hb dX7_colours_31 (by decide) ?_
          refine lv_goto (tgt := 69) hx hb dX7_colours_32 (by decide) ?_
          refine xn_add hx hb (r := ((sN (coW V r) i) + 0)) rfl dX7_colours_69 ?_
          refine lv_istore_n (lv' := [(2, .int (nI ((sN (coW V r) i) + 0))), (4, .int (nI (V (8 + i)))), (3, .int (nI i)), (0, .ref g), (1, .int (nI r))]) hx hb dX7_colours_70 rfl hl (by decide) rfl (fun ls hl => ?_)
          refine lv_iinc (v := nI (i + 1)) (lv' := [(3, .int (nI (i + 1))), (2, .int (nI ((sN (coW V r) i) + 0))), (4, .int (nI (V (8 + i)))), (0, .ref g), (1, .int (nI r))]) hx hb dX7_colours_71 hl (k := 2) rfl (nI_add i 1) (by decide) rfl (fun ls hl => ?_)
          refine lv_goto (tgt := 4) hx hb dX7_colours_74 (by decide) ?_
          have e6 : ((sN (coW V r) i) + 0) = (sN (coW V r) (i + 1)) := by rw [sN_s]; show _ = _ + (if sndN V r i = 1 then 1000 / 10 ^ V (8 + i) else 0); first | (rw [if_neg (by omega)]; done) | (rw [if_pos (show sndN V r i = 1 by omega)]; first | (simp [kc37]; done) | (simp [kc49]; done) | (simp [kc60]; done) | (simp [show V (8 + i) = 3 by omega]; done))
          exact ih4 (i + 1) (by omega) (by omega) ls (xl_eq (b := [(3, .int (nI (i + 1))), (2, .int (nI (sN (coW V r) (i + 1)))), (0, .ref g), (1, .int (nI r))]) (lv_sub (l' := [(3, .int (nI (i + 1))), (2, .int (nI ((sN (coW V r) i) + 0))), (0, .ref g), (1, .int (nI r))]) hl [0, 1, 3, 4] rfl) (xk rfl (xk (congrArg (fun z : Nat => Value.int (nI z)) e6) (xk rfl (xk rfl (rfl : ([] : List (Nat × Value)) = []))))))
  have e7 : 0 = (sN (coW V r) 0) := rfl
  exact lp4 ((8 - 0) + 1) 0 (Nat.lt_succ_self _) (by omega) ls (xl_eq (b := [(3, .int (nI 0)), (2, .int (nI (sN (coW V r) 0))), (0, .ref g), (1, .int (nI r))]) (lv_sub (l' := [(3, .int (nI 0)), (2, .int (nI 0)), (0, .ref g), (1, .int (nI r))]) hl [0, 1, 2, 3] rfl) (xk rfl (xk (congrArg (fun z : Nat => Value.int (nI z)) e7) (xk rfl (xk rfl (rfl : ([] : List (Nat × Value)) = []))))))
set_option maxHeartbeats 8000000 in
set_option maxRecDepth 100000 in
theorem c_X7_clashes (l : Launch) (D : va_G) (y : Nat → ClassId) (g s0 a0 b0 x0 kn L ta wr le : Nat) (o1 o2 : Int32) (po rs : Nat) (ca : Int32) (V : Nat → Nat) (hI : Inv V) (ho : Nat) (hh : ho < 256) : Met l yX7_clashes wsX7_clashes ({ frames := 1, cells := 0, slots := 0, locals := 21 }) (va_Pc [.ref g, .int (nI ho)] (xPr D y [(g, .inr (7, [.ref s0, .ref a0, .ref b0, .int (nI kn), .ref x0, .int (nI L), .int (nI ta), .int (nI wr), .int (nI le), .int o1, .int o2, .int (nI po), .int (nI rs), .int ca])), (s0, .inl (y 1, 72, .inl (fun j9 => nI (V j9))))])) (vp_Si (fun rz => rz = nI (cls V ho))) 0 0 (fun _ => False) := by
  refine Met.ofW (cc := cX7_clashes) (maxL := 8) (ret := (some .int)) (by decide) rfl ?_
  intro p e s m args below meth c s₁ B hml hv
  obtain ⟨rfl, hP, hK⟩ := hv
  have hx := B.exec
  have hb := B.bytes
  have hr := B.returns
  have hts := atoms_spec (ws := wsX7_clashes) B.pre
  have hown : s.vm.findClass RX7 = some m.cls := findClass_of_methodNamed B.named
  have hlocks := B.notSynchronized
  have f_7 := hts (.fieldLink RX7 7 "LoomTunesModel" "s" "[I") (by decide +kernel)
  have hin_X7 : ∀ w ∈ wsX70, w ∈ wsX7_clashes := by decide +kernel
  have hP : va_P D vwCl [(g, .inr (7, [.ref s0, .ref a0, .ref b0, .int (nI kn), .ref x0, .int (nI L), .int (nI ta), .int (nI wr), .int (nI le), .int o1, .int o2, .int (nI po), .int (nI rs), .int ca])), (s0, .inl (y 1, 72, .inl (fun j9 => nI (V j9))))] s.heap := hP
  have hl := lv_entry ([.ref g, .int (nI ho)]) (n := 8) (Nat.le_of_ble_eq_true rfl)
  rw [lg_entry_eq]
  generalize (lg_sl ([.ref g, .int (nI ho)]) ++ List.replicate (8 - (lg_sl ([.ref g, .int (nI ho)])).length) Slot.unset).toArray = ls at hl ⊢
  have hl : lv_has ls 8 [(0, .ref g), (1, .int (nI ho))] := hl
  have hnt : ∀ {k : Nat}, k < 8 → V k < 48 := fun hk => hI.nt hk
  refine lv_iconst (v := nI 0) hx hb dX7_clashes_0 (by decide) ?_
  refine lv_istore_n (lv' := [(2, .int (nI 0)), (0, .ref g), (1, .int (nI ho))]) hx hb dX7_clashes_1 rfl hl (by decide) rfl (fun ls hl => ?_)
  refine lv_iconst (v := nI 0) hx hb dX7_clashes_2 (by decide) ?_
  refine lv_istore_n (lv' := [(3, .int (nI 0)), (2, .int (nI 0)), (0, .ref g), (1, .int (nI ho))]) hx hb dX7_clashes_3 rfl hl (by decide) rfl (fun ls hl => ?_)
  have lp4 : ∀ (n : Nat) (i : Nat), 8 - i < n → (i ≤ 8) → ∀ ls : Array Slot, lv_has ls 8 [(3, .int (nI i)), (2, .int (nI (sN (clsR V ho) i))), (0, .ref g), (1, .int (nI ho))] → W p l e (headSpec wsX7_clashes ({ frames := 1, cells := 0, slots := 0, locals := 21 })).room s m ([.ref g, .int (nI ho)] : List Value).toArray below meth c s.heap [] 0 0 (MQ below (vp_Si (fun rz => rz = nI (cls V ho))) ([.ref g, .int (nI ho)] : List Value).toArray s 0 0 (fun _ => False)) (F0 m 4 ls []) := by
    intro n
    induction n with
    | zero => intro i hm; exact absurd hm (Nat.not_lt_zero _)
    | succ n ih4 =>
      intro i hm hi ls hl
      refine lv_iload_n hx hb dX7_clashes_4 rfl (lv_at hl 0 rfl) ?_
      refine lv_bipush (v := nI 8) hx hb dX7_clashes_5 (by decide) ?_
      refine xn_icmp_ge hx hb (by omega) (by omega) (tgt := 139) dX7_clashes_7 (by decide) (fun kc7 => ?_) (fun kc7 => ?_)
      · refine lv_iload_n hx hb dX7_clashes_139 rfl (lv_at hl 1 rfl) ?_
        exact xr_i hx hb hr hlocks dX7_clashes_140 (congrArg nI (by rw [show i = 8 by omega]; rfl))
      · refine lv_iconst (v := nI 0) hx hb dX7_clashes_10 (by decide) ?_
        refine lv_istore (lv' := [(4, .int (nI 0)), (3, .int (nI i)), (2, .int (nI (sN (clsR V ho) i))), (0, .ref g), (1, .int (nI ho))]) hx hb dX7_clashes_11 hl (by decide) rfl (fun ls hl => ?_)
        have lp13 : ∀ (n : Nat) (j : Nat), i - j < n → (j ≤ i) → ∀ ls : Array Slot, lv_has ls 8 [(4, .int (nI j)), (3, .int (nI i)), (2, .int (nI (sN (clsR V ho) i + sN (clsT V ho i) j))), (0, .ref g), (1, .int (nI ho))] → W p l e (headSpec wsX7_clashes ({ frames := 1, cells := 0, slots := 0, locals := 21 })).room s m ([.ref g, .int (nI ho)] : List Value).toArray below meth c s.heap [] 0 0 (MQ below (vp_Si (fun rz => rz = nI (cls V ho))) ([.ref g, .int (nI ho)] : List Value).toArray s 0 0 (fun _ => False)) (F0 m 13 ls []) := by
          intro n
          induction n with
          | zero => intro j hm; exact absurd hm (Nat.not_lt_zero _)
          | succ n ih13 =>
            intro j hm hj ls hl
            refine lv_iload hx hb dX7_clashes_13 (lv_at hl 0 rfl) ?_
            refine lv_iload_n hx hb dX7_clashes_15 rfl (lv_at hl 1 rfl) ?_
            refine xn_icmp_ge hx hb (by omega) (by omega) (tgt := 133) dX7_clashes_16 (by decide) (fun kc16 => ?_) (fun kc16 => ?_)
            · refine lv_iinc (v := nI (i + 1)) (lv' := [(3, .int (nI (i + 1))), (4, .int (nI j)), (2, .int (nI (sN (clsR V ho) i + sN (clsT V ho i) j))), (0, .ref g), (1, .int (nI ho))]) hx hb dX7_clashes_133 hl (k := 1) rfl (nI_add i 1) (by decide) rfl (fun ls hl => ?_)
              refine lv_goto (tgt := 4) hx hb dX7_clashes_136 (by decide) ?_
              have e1 : (sN (clsR V ho) i + sN (clsT V ho i) j) = (sN (clsR V ho) (i + 1)) := by rw [show j = i by omega]; rfl
              exact ih4 (i + 1) (by omega) (by omega) ls (xl_eq (b := [(3, .int (nI (i + 1))), (2, .int (nI (sN (clsR V ho) (i + 1)))), (0, .ref g), (1, .int (nI ho))]) (lv_sub (l' := [(3, .int (nI (i + 1))), (2, .int (nI (sN (clsR V ho) i + sN (clsT V ho i) j))), (0, .ref g), (1, .int (nI ho))]) hl [0, 2, 3, 4] rfl) (xk rfl (xk (congrArg (fun z : Nat => Value.int (nI z)) e1) (xk rfl (xk rfl (rfl : ([] : List (Nat × Value)) = []))))))
            · have hni := hnt (k := i) (by omega)
              have hnj := hnt (k := j) (by omega)
              have hb1 := bv_lt (h := ho) (k := i)
              have hb2 := bv_lt (h := ho) (k := j)
              have jn95 : ∀ (z : Nat) (ls : Array Slot), lv_has ls 8 [(4, .int (nI j)), (3, .int (nI i)), (2, .int (nI (sN (clsR V ho) i + sN (clsT V ho i) j))), (0, .ref g), (1, .int (nI ho))] → (z < 2) → (bv 3142 ((V i + 48 - V j) % 12) = z) → W p l e (headSpec wsX7_clashes ({ frames := 1, cells := 0, slots := 0, locals := 21 })).room s m ([.ref g, .int (nI ho)] : List Value).toArray below meth c s.heap [] 0 0 (MQ below (vp_Si (fun rz => rz = nI (cls V ho))) ([.ref g, .int (nI ho)] : List Value).toArray s 0 0 (fun _ => False)) (F0 m 95 ls [.int (nI z)]) := by
                intro z ls hl hz2 hz
                refine lv_istore (lv' := [(7, .int (nI z)), (4, .int (nI j)), (3, .int (nI i)), (2, .int (nI (sN (clsR V ho) i + sN (clsT V ho i) j))), (0, .ref g), (1, .int (nI ho))]) hx hb dX7_clashes_95 hl (by decide) rfl (fun ls hl => ?_)
                refine lv_iload_n hx hb dX7_clashes_97 rfl (lv_at hl 3 rfl) ?_
                refine lv_iload_n hx hb dX7_clashes_98 rfl (lv_at hl 5 rfl) ?_
                refine lv_iload_n hx hb dX7_clashes_99 rfl (lv_at hl 2 rfl) ?_
                refine xc_S (As := [.int (nI ho), .int (nI i)]) (rest := [.int (nI (sN (clsR V ho) i + sN (clsT V ho i) j))]) ⟨hx, hb, hml, hown, hts⟩ (c_X7_has l ho i (by omega) (by omega)) (va_cwS 2 hts gX7_clashes_X7_has rfl rfl rfl hd_X7_has.2 ⟨Nat.le_of_ble_eq_true rfl, Nat.le_of_ble_eq_true rfl⟩) xps_0 rfl hl.1 rfl (Nat.le_of_ble_eq_true rfl) dX7_clashes_100 ⟨Nat.zero_le _, Nat.zero_le _⟩ (fun r2 hr2 => ?_)
                subst hr2
                refine xn_if_eq hx hb (by omega) (tgt := 124) dX7_clashes_103 (by decide) (fun kc103 => ?_) (fun kc103 => ?_)
                · refine lv_iconst (v := nI 0) hx hb dX7_clashes_124 (by decide) ?_
                  refine xn_add hx hb (r := ((sN (clsR V ho) i + sN (clsT V ho i) j) + 0)) rfl dX7_clashes_125 ?_
                  refine lv_istore_n (lv' := [(2, .int (nI ((sN (clsR V ho) i + sN (clsT V ho i) j) + 0))), (7, .int (nI z)), (4, .int (nI j)), (3, .int (nI i)), (0, .ref g), (1, .int (nI ho))]) hx hb dX7_clashes_126 rfl hl (by decide) rfl (fun ls hl => ?_)
                  refine lv_iinc (v := nI (j + 1)) (lv' := [(4, .int (nI (j + 1))), (2, .int (nI ((sN (clsR V ho) i + sN (clsT V ho i) j) + 0))), (7, .int (nI z)), (3, .int (nI i)), (0, .ref g), (1, .int (nI ho))]) hx hb dX7_clashes_127 hl (k := 2) rfl (nI_add j 1) (by decide) rfl (fun ls hl => ?_)
                  refine lv_goto (tgt := 13) hx hb dX7_clashes_130 (by decide) ?_
                  have e3 : ((sN (clsR V ho) i + sN (clsT V ho i) j) + 0) = (sN (clsR V ho) i + sN (clsT V ho i) (j + 1)) := by rw [sN_s]; show _ = _ + (_ + bv ho i * bv ho j * bv 3142 ((V i + 48 - V j) % 12)); rw [hz]; first | (rw [kc103, Nat.zero_mul, Nat.zero_mul]; omega) | (rw [kc112, Nat.mul_zero, Nat.zero_mul]; omega) | (rw [kc117, Nat.mul_zero]; omega) | (rw [show bv ho i = 1 by omega, show bv ho j = 1 by omega, show z = 1 by omega]; omega)
                  exact ih13 (j + 1) (by omega) (by omega) ls (xl_eq (b := [(4, .int (nI (j + 1))), (3, .int (nI i)), (2, .int (nI (sN (clsR V ho) i + sN (clsT V ho i) (j + 1)))), (0, .ref g), (1, .int (nI ho))]) (lv_sub (l' := [(4, .int (nI (j + 1))), (3, .int (nI i)), (2, .int (nI ((sN (clsR V ho) i + sN (clsT V ho i) j) + 0))), (0, .ref g), (1, .int (nI ho))]) hl [0, 3, 1, 4, 5] rfl) (xk rfl (xk rfl (xk (congrArg (fun z : Nat => Value.int (nI z)) e3) (xk rfl (xk rfl (rfl : ([] : List (Nat × Value)) = [])))))))
                · refine lv_iload_n hx hb dX7_clashes_106 rfl (lv_at hl 5 rfl) ?_
                  refine lv_iload hx hb dX7_clashes_107 (lv_at hl 1 rfl) ?_
                  refine xc_S (As := [.int (nI ho), .int (nI j)]) (rest := [.int (nI (sN (clsR V ho) i + sN (clsT V ho i) j))]) ⟨hx, hb, hml, hown, hts⟩ (c_X7_has l ho j (by omega) (by omega)) (va_cwS 2 hts gX7_clashes_X7_has rfl rfl rfl hd_X7_has.2 ⟨Nat.le_of_ble_eq_true rfl, Nat.le_of_ble_eq_true rfl⟩) xps_0 rfl hl.1 rfl (Nat.le_of_ble_eq_true rfl) dX7_clashes_109 ⟨Nat.zero_le _, Nat.zero_le _⟩ (fun r4 hr4 => ?_)
                  subst hr4
                  refine xn_if_eq hx hb (by omega) (tgt := 124) dX7_clashes_112 (by decide) (fun kc112 => ?_) (fun kc112 => ?_)
                  · refine lv_iconst (v := nI 0) hx hb dX7_clashes_124 (by decide) ?_
                    refine xn_add hx hb (r := ((sN (clsR V ho) i + sN (clsT V ho i) j) + 0)) rfl dX7_clashes_125 ?_
                    refine lv_istore_n (lv' := [(2, .int (nI ((sN (clsR V ho) i + sN (clsT V ho i) j) + 0))), (7, .int (nI z)), (4, .int (nI j)), (3, .int (nI i)), (0, .ref g), (1, .int (nI ho))]) hx hb dX7_clashes_126 rfl hl (by decide) rfl (fun ls hl => ?_)
                    refine lv_iinc (v := nI (j + 1)) (lv' := [(4, .int (nI (j + 1))), (2, .int (nI ((sN (clsR V ho) i + sN (clsT V ho i) j) + 0))), (7, .int (nI z)), (3, .int (nI i)), (0, .ref g), (1, .int (nI ho))]) hx hb dX7_clashes_127 hl (k := 2) rfl (nI_add j 1) (by decide) rfl (fun ls hl => ?_)
                    refine lv_goto (tgt := 13) hx hb dX7_clashes_130 (by decide) ?_
                    have e5 : ((sN (clsR V ho) i + sN (clsT V ho i) j) + 0) = (sN (clsR V ho) i + sN (clsT V ho i) (j + 1)) := by rw [sN_s]; show _ = _ + (_ + bv ho i * bv ho j * bv 3142 ((V i + 48 - V j) % 12)); rw [hz]; first | (rw [kc103, Nat.zero_mul, Nat.zero_mul]; omega) | (rw [kc112, Nat.mul_zero, Nat.zero_mul]; omega) | (rw [kc117, Nat.mul_zero]; omega) | (rw [show bv ho i = 1 by omega, show bv ho j = 1 by omega, show z = 1 by omega]; omega)
                    exact ih13 (j + 1) (by omega) (by omega) ls (xl_eq (b := [(4, .int (nI (j + 1))), (3, .int (nI i)), (2, .int (nI (sN (clsR V ho) i + sN (clsT V ho i) (j + 1)))), (0, .ref g), (1, .int (nI ho))]) (lv_sub (l' := [(4, .int (nI (j + 1))), (3, .int (nI i)), (2, .int (nI ((sN (clsR V ho) i + sN (clsT V ho i) j) + 0))), (0, .ref g), (1, .int (nI ho))]) hl [0, 3, 1, 4, 5] rfl) (xk rfl (xk rfl (xk (congrArg (fun z : Nat => Value.int (nI z)) e5) (xk rfl (xk rfl (rfl : ([] : List (Nat × Value)) = [])))))))
                  · refine lv_iload hx hb dX7_clashes_115 (lv_at hl 0 rfl) ?_
                    refine xn_if_eq hx hb (by omega) (tgt := 124) dX7_clashes_117 (by decide) (fun kc117 => ?_) (fun kc117 => ?_)
                    · refine lv_iconst (v := nI 0) hx hb dX7_clashes_124 (by decide) ?_
                      refine xn_add hx hb (r := ((sN (clsR V ho) i + sN (clsT V ho i) j) + 0)) rfl dX7_clashes_125 ?_
                      refine lv_istore_n (lv' := [(2, .int (nI ((sN (clsR V ho) i + sN (clsT V ho i) j) + 0))), (7, .int (nI z)), (4, .int (nI j)), (3, .int (nI i)), (0, .ref g), (1, .int (nI ho))]) hx hb dX7_clashes_126 rfl hl (by decide) rfl (fun ls hl => ?_)
                      refine lv_iinc (v := nI (j + 1)) (lv' := [(4, .int (nI (j + 1))), (2, .int (nI ((sN (clsR V ho) i + sN (clsT V ho i) j) + 0))), (7, .int (nI z)), (3, .int (nI i)), (0, .ref g), (1, .int (nI ho))]) hx hb dX7_clashes_127 hl (k := 2) rfl (nI_add j 1) (by decide) rfl (fun ls hl => ?_)
                      refine lv_goto (tgt := 13) hx hb dX7_clashes_130 (by decide) ?_
                      have e6 : ((sN (clsR V ho) i + sN (clsT V ho i) j) + 0) = (sN (clsR V ho) i + sN (clsT V ho i) (j + 1)) := by rw [sN_s]; show _ = _ + (_ + bv ho i * bv ho j * bv 3142 ((V i + 48 - V j) % 12)); rw [hz]; first | (rw [kc103, Nat.zero_mul, Nat.zero_mul]; omega) | (rw [kc112, Nat.mul_zero, Nat.zero_mul]; omega) | (rw [kc117, Nat.mul_zero]; omega) | (rw [show bv ho i = 1 by omega, show bv ho j = 1 by omega, show z = 1 by omega]; omega)
                      exact ih13 (j + 1) (by omega) (by omega) ls (xl_eq (b := [(4, .int (nI (j + 1))), (3, .int (nI i)), (2, .int (nI (sN (clsR V ho) i + sN (clsT V ho i) (j + 1)))), (0, .ref g), (1, .int (nI ho))]) (lv_sub (l' := [(4, .int (nI (j + 1))), (3, .int (nI i)), (2, .int (nI ((sN (clsR V ho) i + sN (clsT V ho i) j) + 0))), (0, .ref g), (1, .int (nI ho))]) hl [0, 3, 1, 4, 5] rfl) (xk rfl (xk rfl (xk (congrArg (fun z : Nat => Value.int (nI z)) e6) (xk rfl (xk rfl (rfl : ([] : List (Nat × Value)) = [])))))))
                    · refine lv_iconst (v := nI 1) hx hb dX7_clashes_120 (by decide) ?_
                      refine lv_goto (tgt := 125) hx hb dX7_clashes_121 (by decide) ?_
                      refine xn_add hx hb (r := ((sN (clsR V ho) i + sN (clsT V ho i) j) + 1)) rfl dX7_clashes_125 ?_
                      refine lv_istore_n (lv' := [(2, .int (nI ((sN (clsR V ho) i + sN (clsT V ho i) j) + 1))), (7, .int (nI z)), (4, .int (nI j)), (3, .int (nI i)), (0, .ref g), (1, .int (nI ho))]) hx hb dX7_clashes_126 rfl hl (by decide) rfl (fun ls hl => ?_)
                      refine lv_iinc (v := nI (j + 1)) (lv' := [(4, .int (nI (j + 1))), (2, .int (nI ((sN (clsR V ho) i + sN (clsT V ho i) j) + 1))), (7, .int (nI z)), (3, .int (nI i)), (0, .ref g), (1, .int (nI ho))]) hx hb dX7_clashes_127 hl (k := 2) rfl (nI_add j 1) (by decide) rfl (fun ls hl => ?_)
                      refine lv_goto (tgt := 13) hx hb dX7_clashes_130 (by decide) ?_
                      have e7 : ((sN (clsR V ho) i + sN (clsT V ho i) j) + 1) = (sN (clsR V ho) i + sN (clsT V ho i) (j + 1)) := by rw [sN_s]; show _ = _ + (_ + bv ho i * bv ho j * bv 3142 ((V i + 48 - V j) % 12)); rw [hz]; first | (rw [kc103, Nat.zero_mul, Nat.zero_mul]; omega) | (rw [kc112, Nat.mul_zero, Nat.zero_mul]; omega) | (rw [kc117, Nat.mul_zero]; omega) | (rw [show bv ho i = 1 by omega, show bv ho j = 1 by omega, show z = 1 by omega]; omega)
                      exact ih13 (j + 1) (by omega) (by omega) ls (xl_eq (b := [(4, .int (nI (j + 1))), (3, .int (nI i)), (2, .int (nI (sN (clsR V ho) i + sN (clsT V ho i) (j + 1)))), (0, .ref g), (1, .int (nI ho))]) (lv_sub (l' := [(4, .int (nI (j + 1))), (3, .int (nI i)), (2, .int (nI ((sN (clsR V ho) i + sN (clsT V ho i) j) + 1))), (0, .ref g), (1, .int (nI ho))]) hl [0, 3, 1, 4, 5] rfl) (xk rfl (xk rfl (xk (congrArg (fun z : Nat => Value.int (nI z)) e7) (xk rfl (xk rfl (rfl : ([] : List (Nat × Value)) = [])))))))
              refine lv_aload_n hx hb dX7_clashes_19 rfl (lv_at hl 3 rfl) ?_
              refine va_get (D := D) (ci := 7) (v := .ref s0) (C := RX7) (T := TX7) (N := 14) hx hb hts hin_X7 hown hK.1 hP 0 rfl rfl 0 (by decide) f_7 (fun _ h9 => h9) rfl dX7_clashes_20 ?_
              refine lv_iconst (v := nI 0) hx hb dX7_clashes_23 (by decide) ?_
              refine lv_iload_n hx hb dX7_clashes_24 rfl (lv_at hl 1 rfl) ?_
              refine xn_add hx hb (r := i) (Nat.zero_add _) dX7_clashes_25 ?_
              refine xn_iald hx hb hK hP 1 rfl (by omega) (by first | decide | omega) (v := nI (V i)) (rfl) dX7_clashes_26 ?_
              refine lv_aload_n hx hb dX7_clashes_27 rfl (lv_at hl 3 rfl) ?_
              refine va_get (D := D) (ci := 7) (v := .ref s0) (C := RX7) (T := TX7) (N := 14) hx hb hts hin_X7 hown hK.1 hP 0 rfl rfl 0 (by decide) f_7 (fun _ h9 => h9) rfl dX7_clashes_28 ?_
              refine lv_iconst (v := nI 0) hx hb dX7_clashes_31 (by decide) ?_
              refine lv_iload hx hb dX7_clashes_32 (lv_at hl 0 rfl) ?_
              refine xn_add hx hb (r := j) (Nat.zero_add _) dX7_clashes_34 ?_
              refine xn_iald hx hb hK hP 1 rfl (by omega) (by first | decide | omega) (v := nI (V j)) (rfl) dX7_clashes_35 ?_
              have hT := hsT (V i) (hnt (by omega)) (V j) (hnt (by omega))
              by_cases hab : V j ≤ V i
              · have hT2 := hT.1 hab
                refine xn_sub hx hb (r := ((V i) - (V j))) (by omega) rfl dX7_clashes_36 ?_
                refine lv_istore (lv' := [(5, .int (nI ((V i) - (V j)))), (4, .int (nI j)), (3, .int (nI i)), (2, .int (nI (sN (clsR V ho) i + sN (clsT V ho i) j))), (0, .ref g), (1, .int (nI ho))]) hx hb dX7_clashes_37 hl (by decide) rfl (fun ls hl => ?_)
                refine lv_iload hx hb dX7_clashes_39 (lv_at hl 0 rfl) ?_
                refine xn_if_ge hx hb (by omega) (tgt := 50) dX7_clashes_41 (by decide) ?_
                refine lv_iload hx hb dX7_clashes_50 (lv_at hl 0 rfl) ?_
                refine lv_bipush (v := nI 12) hx hb dX7_clashes_52 (by decide) ?_
                refine xn_rem hx hb (r := (((V i) - (V j)) % 12)) (by omega) (by omega) (by omega) rfl dX7_clashes_54 ?_
                refine lv_istore (lv' := [(6, .int (nI (((V i) - (V j)) % 12))), (5, .int (nI ((V i) - (V j)))), (4, .int (nI j)), (3, .int (nI i)), (2, .int (nI (sN (clsR V ho) i + sN (clsT V ho i) j))), (0, .ref g), (1, .int (nI ho))]) hx hb dX7_clashes_55 hl (by decide) rfl (fun ls hl => ?_)
                refine lv_iload hx hb dX7_clashes_57 (lv_at hl 0 rfl) ?_
                refine lv_iconst (v := nI 1) hx hb dX7_clashes_59 (by decide) ?_
                refine xn_icmp_eq hx hb (by omega) (by omega) (tgt := 90) dX7_clashes_60 (by decide) (fun kc60 => ?_) (fun kc60 => ?_)
                · refine lv_iconst (v := nI 1) hx hb dX7_clashes_90 (by decide) ?_
                  refine lv_goto (tgt := 95) hx hb dX7_clashes_91 (by decide) ?_
                  exact jn95 1 ls (lv_sub hl [2, 3, 4, 5, 6] rfl) (by decide) (by rw [← hT2]; exact bN_t (by first | exact Or.inl kc60 | exact Or.inr (Or.inl kc66) | exact Or.inr (Or.inr (Or.inl kc73)) | exact Or.inr (Or.inr (Or.inr (Or.inl kc80))) | exact Or.inr (Or.inr (Or.inr (Or.inr kc87)))))
                · refine lv_iload hx hb dX7_clashes_63 (lv_at hl 0 rfl) ?_
                  refine lv_iconst (v := nI 2) hx hb dX7_clashes_65 (by decide) ?_
                  refine xn_icmp_eq hx hb (by omega) (by omega) (tgt := 90) dX7_clashes_66 (by decide) (fun kc66 => ?_) (fun kc66 => ?_)
                  · refine lv_iconst (v := nI 1) hx hb dX7_clashes_90 (by decide) ?_
                    refine lv_goto (tgt := 95) hx hb dX7_clashes_91 (by decide) ?_
                    exact jn95 1 ls (lv_sub hl [2, 3, 4, 5, 6] rfl) (by decide) (by rw [← hT2]; exact bN_t (by first | exact Or.inl kc60 | exact Or.inr (Or.inl kc66) | exact Or.inr (Or.inr (Or.inl kc73)) | exact Or.inr (Or.inr (Or.inr (Or.inl kc80))) | exact Or.inr (Or.inr (Or.inr (Or.inr kc87)))))
                  · refine lv_iload hx hb dX7_clashes_69 (lv_at hl 0 rfl) ?_
                    refine lv_bipush (v := nI 6) hx hb dX7_clashes_71 (by decide) ?_
                    refine xn_icmp_eq hx hb (by omega) (by omega) (tgt := 90) dX7_clashes_73 (by decide) (fun kc73 => ?_) (fun kc73 => ?_)
                    · refine lv_iconst (v := nI 1) hx hb dX7_clashes_90 (by decide) ?_
                      refine lv_goto (tgt := 95) hx hb dX7_clashes_91 (by decide) ?_
                      exact jn95 1 ls (lv_sub hl [2, 3, 4, 5, 6] rfl) (by decide) (by rw [← hT2]; exact bN_t (by first | exact Or.inl kc60 | exact Or.inr (Or.inl kc66) | exact Or.inr (Or.inr (Or.inl kc73)) | exact Or.inr (Or.inr (Or.inr (Or.inl kc80))) | exact Or.inr (Or.inr (Or.inr (Or.inr kc87)))))
                    · refine lv_iload hx hb dX7_clashes_76 (lv_at hl 0 rfl) ?_
                      refine lv_bipush (v := nI 10) hx hb dX7_clashes_78 (by decide) ?_
                      refine xn_icmp_eq hx hb (by omega) (by omega) (tgt := 90) dX7_clashes_80 (by decide) (fun kc80 => ?_) (fun kc80 => ?_)
                      · refine lv_iconst (v := nI 1) hx hb dX7_clashes_90 (by decide) ?_
                        refine lv_goto (tgt := 95) hx hb dX7_clashes_91 (by decide) ?_
                        exact jn95 1 ls (lv_sub hl [2, 3, 4, 5, 6] rfl) (by decide) (by rw [← hT2]; exact bN_t (by first | exact Or.inl kc60 | exact Or.inr (Or.inl kc66) | exact Or.inr (Or.inr (Or.inl kc73)) | exact Or.inr (Or.inr (Or.inr (Or.inl kc80))) | exact Or.inr (Or.inr (Or.inr (Or.inr kc87)))))
                      · refine lv_iload hx hb dX7_clashes_83 (lv_at hl 0 rfl) ?_
                        refine lv_bipush (v := nI 11) hx hb dX7_clashes_85 (by decide) ?_
                        refine xn_icmp_ne hx hb (by omega) (by omega) (tgt := 94) dX7_clashes_87 (by decide) (fun kc87 => ?_) (fun kc87 => ?_)
                        · refine lv_iconst (v := nI 0) hx hb dX7_clashes_94 (by decide) ?_
                          exact jn95 0 ls (lv_sub hl [2, 3, 4, 5, 6] rfl) (by decide) (by rw [← hT2]; exact bN_f (by rintro (q | q | q | q | q); exact kc60 q; exact kc66 q; exact kc73 q; exact kc80 q; exact kc87 q))
                        · refine lv_iconst (v := nI 1) hx hb dX7_clashes_90 (by decide) ?_
                          refine lv_goto (tgt := 95) hx hb dX7_clashes_91 (by decide) ?_
                          exact jn95 1 ls (lv_sub hl [2, 3, 4, 5, 6] rfl) (by decide) (by rw [← hT2]; exact bN_t (by first | exact Or.inl kc60 | exact Or.inr (Or.inl kc66) | exact Or.inr (Or.inr (Or.inl kc73)) | exact Or.inr (Or.inr (Or.inr (Or.inl kc80))) | exact Or.inr (Or.inr (Or.inr (Or.inr kc87)))))
              · have hT2 := hT.2 (by omega)
                have hdn := dneg (V i) (hnt (by omega)) (V j) (hnt (by omega)) (by omega)
                refine lv_isub hx hb dX7_clashes_36 ?_
                refine lv_istore (lv' := [(5, .int ((nI (V i)) - (nI (V j)))), (4, .int (nI j)), (3, .int (nI i)), (2, .int (nI (sN (clsR V ho) i + sN (clsT V ho i) j))), (0, .ref g), (1, .int (nI ho))]) hx hb dX7_clashes_37 hl (by decide) rfl (fun ls hl => ?_)
                refine lv_iload hx hb dX7_clashes_39 (lv_at hl 0 rfl) ?_
                refine lv_if_ge (tgt := 50) hx hb dX7_clashes_41 (by decide) (fun h => absurd h (Int32.not_le.mpr hdn.1)) (fun kc41 => ?_)
                refine lv_iload hx hb dX7_clashes_44 (lv_at hl 0 rfl) ?_
                refine lv_ineg hx hb dX7_clashes_46 ?_
                refine xv (hdn.2) ?_
                refine lv_goto (tgt := 52) hx hb dX7_clashes_47 (by decide) ?_
                refine lv_bipush (v := nI 12) hx hb dX7_clashes_52 (by decide) ?_
                refine xn_rem hx hb (r := ((V j - V i) % 12)) (by omega) (by omega) (by omega) rfl dX7_clashes_54 ?_
                refine lv_istore (lv' := [(6, .int (nI ((V j - V i) % 12))), (5, .int ((nI (V i)) - (nI (V j)))), (4, .int (nI j)), (3, .int (nI i)), (2, .int (nI (sN (clsR V ho) i + sN (clsT V ho i) j))), (0, .ref g), (1, .int (nI ho))]) hx hb dX7_clashes_55 hl (by decide) rfl (fun ls hl => ?_)
                refine lv_iload hx hb dX7_clashes_57 (lv_at hl 0 rfl) ?_
                refine lv_iconst (v := nI 1) hx hb dX7_clashes_59 (by decide) ?_
                refine xn_icmp_eq hx hb (by omega) (by omega) (tgt := 90) dX7_clashes_60 (by decide) (fun kc60 => ?_) (fun kc60 => ?_)
                · refine lv_iconst (v := nI 1) hx hb dX7_clashes_90 (by decide) ?_
                  refine lv_goto (tgt := 95) hx hb dX7_clashes_91 (by decide) ?_
                  exact jn95 1 ls (lv_sub hl [2, 3, 4, 5, 6] rfl) (by decide) (by rw [← hT2]; exact bN_t (by first | exact Or.inl kc60 | exact Or.inr (Or.inl kc66) | exact Or.inr (Or.inr (Or.inl kc73)) | exact Or.inr (Or.inr (Or.inr (Or.inl kc80))) | exact Or.inr (Or.inr (Or.inr (Or.inr kc87)))))
                · refine lv_iload hx hb dX7_clashes_63 (lv_at hl 0 rfl) ?_
                  refine lv_iconst (v := nI 2) hx hb dX7_clashes_65 (by decide) ?_
                  refine xn_icmp_eq hx hb (by omega) (by omega) (tgt := 90) dX7_clashes_66 (by decide) (fun kc66 => ?_) (fun kc66 => ?_)
                  · refine lv_iconst (v := nI 1) hx hb dX7_clashes_90 (by decide) ?_
                    refine lv_goto (tgt := 95) hx hb dX7_clashes_91 (by decide) ?_
                    exact jn95 1 ls (lv_sub hl [2, 3, 4, 5, 6] rfl) (by decide) (by rw [← hT2]; exact bN_t (by first | exact Or.inl kc60 | exact Or.inr (Or.inl kc66) | exact Or.inr (Or.inr (Or.inl kc73)) | exact Or.inr (Or.inr (Or.inr (Or.inl kc80))) | exact Or.inr (Or.inr (Or.inr (Or.inr kc87)))))
                  · refine lv_iload hx hb dX7_clashes_69 (lv_at hl 0 rfl) ?_
                    refine lv_bipush (v := nI 6) hx hb dX7_clashes_71 (by decide) ?_
                    refine xn_icmp_eq hx hb (by omega) (by omega) (tgt := 90) dX7_clashes_73 (by decide) (fun kc73 => ?_) (fun kc73 => ?_)
                    · refine lv_iconst (v := nI 1) hx hb dX7_clashes_90 (by decide) ?_
                      refine lv_goto (tgt := 95) hx hb dX7_clashes_91 (by decide) ?_
                      exact jn95 1 ls (lv_sub hl [2, 3, 4, 5, 6] rfl) (by decide) (by rw [← hT2]; exact bN_t (by first | exact Or.inl kc60 | exact Or.inr (Or.inl kc66) | exact Or.inr (Or.inr (Or.inl kc73)) | exact Or.inr (Or.inr (Or.inr (Or.inl kc80))) | exact Or.inr (Or.inr (Or.inr (Or.inr kc87)))))
                    · refine lv_iload hx hb dX7_clashes_76 (lv_at hl 0 rfl) ?_
                      refine lv_bipush (v := nI 10) hx hb dX7_clashes_78 (by decide) ?_
                      refine xn_icmp_eq hx hb (by omega) (by omega) (tgt := 90) dX7_clashes_80 (by decide) (fun kc80 => ?_) (fun kc80 => ?_)
                      · refine lv_iconst (v := nI 1) hx hb dX7_clashes_90 (by decide) ?_
                        refine lv_goto (tgt := 95) hx hb dX7_clashes_91 (by decide) ?_
                        exact jn95 1 ls (lv_sub hl [2, 3, 4, 5, 6] rfl) (by decide) (by rw [← hT2]; exact bN_t (by first | exact Or.inl kc60 | exact Or.inr (Or.inl kc66) | exact Or.inr (Or.inr (Or.inl kc73)) | exact Or.inr (Or.inr (Or.inr (Or.inl kc80))) | exact Or.inr (Or.inr (Or.inr (Or.inr kc87)))))
                      · refine lv_iload hx hb dX7_clashes_83 (lv_at hl 0 rfl) ?_
                        refine lv_bipush (v := nI 11) hx hb dX7_clashes_85 (by decide) ?_
                        refine xn_icmp_ne hx hb (by omega) (by omega) (tgt := 94) dX7_clashes_87 (by decide) (fun kc87 => ?_) (fun kc87 => ?_)
                        · refine lv_iconst (v := nI 0) hx hb dX7_clashes_94 (by decide) ?_
                          exact jn95 0 ls (lv_sub hl [2, 3, 4, 5, 6] rfl) (by decide) (by rw [← hT2]; exact bN_f (by rintro (q | q | q | q | q); exact kc60 q; exact kc66 q; exact kc73 q; exact kc80 q; exact kc87 q))
                        · refine lv_iconst (v := nI 1) hx hb dX7_clashes_90 (by decide) ?_
                          refine lv_goto (tgt := 95) hx hb dX7_clashes_91 (by decide) ?_
                          exact jn95 1 ls (lv_sub hl [2, 3, 4, 5, 6] rfl) (by decide) (by rw [← hT2]; exact bN_t (by first | exact Or.inl kc60 | exact Or.inr (Or.inl kc66) | exact Or.inr (Or.inr (Or.inl kc73)) | exact Or.inr (Or.inr (Or.inr (Or.inl kc80))) | exact Or.inr (Or.inr (Or.inr (Or.inr kc87)))))
        have e8 : (sN (clsR V ho) i) = (sN (clsR V ho) i + sN (clsT V ho i) 0) := by rfl
        exact lp13 ((i - 0) + 1) 0 (Nat.lt_succ_self _) (by omega) ls (xl_eq (b := [(4, .int (nI 0)), (3, .int (nI i)), (2, .int (nI (sN (clsR V ho) i + sN (clsT V ho i) 0))), (0, .ref g), (1, .int (nI ho))]) (lv_sub (l' := [(4, .int (nI 0)), (3, .int (nI i)), (2, .int (nI (sN (clsR V ho) i))), (0, .ref g), (1, .int (nI ho))]) hl [0, 1, 2, 3, 4] rfl) (xk rfl (xk rfl (xk (congrArg (fun z : Nat => Value.int (nI z)) e8) (xk rfl (xk rfl (rfl : ([] : List (Nat × Value)) = [])))))))
  have e9 : 0 = (sN (clsR V ho) 0) := rfl
  exact lp4 ((8 - 0) + 1) 0 (Nat.lt_succ_self _) (by omega) ls (xl_eq (b := [(3, .int (nI 0)), (2, .int (nI (sN (clsR V ho) 0))), (0, .ref g), (1, .int (nI ho))]) (lv_sub (l' := [(3, .int (nI 0)), (2, .int (nI 0)), (0, .ref g), (1, .int (nI ho))]) hl [0, 1, 2, 3] rfl) (xk rfl (xk (congrArg (fun z : Nat => Value.int (nI z)) e9) (xk rfl (xk rfl (rfl : ([] : List (Nat × Value)) = []))))))
set_option maxHeartbeats 8000000 in
set_option maxRecDepth 100000 in
theorem c_X7_whyNot (l : Launch) (D : va_G) (y : Nat → ClassId) (g s0 a0 b0 x0 kn L ta wr le : Nat) (o1 o2 : Int32) (po rs : Nat) (ca : Int32) (V : Nat → Nat) (hI : Inv V) (ho : Nat) (hh : ho < 256) : Met l yX7_whyNot wsX7_whyNot ({ frames := 2, cells := 0, slots := 0, locals := 48 }) (va_Pc [.ref g, .int (nI ho)] (xPr D y [(g, .inr (7, [.ref s0, .ref a0, .ref b0, .int (nI kn), .ref x0, .int (nI L), .int (nI ta), .int (nI wr), .int (nI le), .int o1, .int o2, .int (nI po), .int (nI rs), .int ca])), (s0, .inl (y 1, 72, .inl (fun j9 => nI (V j9))))])) (vp_Si (fun rz => rz = nI (why V ho))) 0 0 (fun _ => False) := by
  refine Met.ofW (cc := cX7_whyNot) (maxL := 3) (ret := (some .int)) (by decide) rfl ?_
  intro p e s m args below meth c s₁ B hml hv
  obtain ⟨rfl, hP, hK⟩ := hv
  have hx := B.exec
  have hb := B.bytes
  have hr := B.returns
  have hts := atoms_spec (ws := wsX7_whyNot) B.pre
  have hown : s.vm.findClass RX7 = some m.cls := findClass_of_methodNamed B.named
  have hlocks := B.notSynchronized
  have f_7 := hts (.fieldLink RX7 7 "LoomTunesModel" "s" "[I") (by decide +kernel)
  have hin_X7 : ∀ w ∈ wsX70, w ∈ wsX7_whyNot := by decide +kernel
  have hP : va_P D vwCl [(g, .inr (7, [.ref s0, .ref a0, .ref b0, .int (nI kn), .ref x0, .int (nI L), .int (nI ta), .int (nI wr), .int (nI le), .int o1, .int o2, .int (nI po), .int (nI rs), .int ca])), (s0, .inl (y 1, 72, .inl (fun j9 => nI (V j9))))] s.heap := hP
  have hl := lv_entry ([.ref g, .int (nI ho)]) (n := 3) (Nat.le_of_ble_eq_true rfl)
  rw [lg_entry_eq]
  generalize (lg_sl ([.ref g, .int (nI ho)]) ++ List.replicate (3 - (lg_sl ([.ref g, .int (nI ho)])).length) Slot.unset).toArray = ls at hl ⊢
  have hl : lv_has ls 3 [(0, .ref g), (1, .int (nI ho))] := hl
  have hsz := hI.sz
  have h1 := hI.s1
  have h2 := hI.s2
  have h3 := pop_le (h := ho)
  have h4 := cls_le (V := V) (h := ho)
  refine lv_aload_n hx hb dX7_whyNot_0 rfl (lv_at hl 0 rfl) ?_
  refine va_get (D := D) (ci := 7) (v := .ref s0) (C := RX7) (T := TX7) (N := 14) hx hb hts hin_X7 hown hK.1 hP 0 rfl rfl 0 (by decide) f_7 (fun _ h9 => h9) rfl dX7_whyNot_1 ?_
  refine lv_bipush (v := nI 16) hx hb dX7_whyNot_4 (by decide) ?_
  refine xn_iald hx hb hK hP 1 rfl (by omega) (by first | decide | omega) (v := nI (V 16)) (rfl) dX7_whyNot_6 ?_
  refine lv_istore_n (lv' := [(2, .int (nI (V 16))), (0, .ref g), (1, .int (nI ho))]) hx hb dX7_whyNot_7 rfl hl (by decide) rfl (fun ls hl => ?_)
  refine lv_iload_n hx hb dX7_whyNot_8 rfl (lv_at hl 2 rfl) ?_
  refine xc_S (As := [.int (nI ho)]) (rest := []) ⟨hx, hb, hml, hown, hts⟩ (c_X7_bits l ho (by omega)) (va_cwS 1 hts gX7_whyNot_X7_bits rfl rfl rfl hd_X7_bits.2 ⟨Nat.le_of_ble_eq_true rfl, Nat.le_of_ble_eq_true rfl⟩) xps_0 rfl hl.1 rfl (Nat.le_of_ble_eq_true rfl) dX7_whyNot_9 ⟨Nat.zero_le _, Nat.zero_le _⟩ (fun r1 hr1 => ?_)
  subst hr1
  refine lv_aload_n hx hb dX7_whyNot_12 rfl (lv_at hl 1 rfl) ?_
  refine va_get (D := D) (ci := 7) (v := .ref s0) (C := RX7) (T := TX7) (N := 14) hx hb hts hin_X7 hown hK.1 hP 0 rfl rfl 0 (by decide) f_7 (fun _ h9 => h9) rfl dX7_whyNot_13 ?_
  refine lv_bipush (v := nI 69) hx hb dX7_whyNot_16 (by decide) ?_
  refine xn_iald hx hb hK hP 1 rfl (by omega) (by first | decide | omega) (v := nI (V 69)) (rfl) dX7_whyNot_18 ?_
  refine xn_icmp_le hx hb (by omega) (by omega) (tgt := 26) dX7_whyNot_19 (by decide) (fun kc19 => ?_) (fun kc19 => ?_)
  · refine lv_aload_n hx hb dX7_whyNot_26 rfl (lv_at hl 1 rfl) ?_
    refine lv_iload_n hx hb dX7_whyNot_27 rfl (lv_at hl 2 rfl) ?_
    refine xc_V (As := [.int (nI ho)]) (rest := []) ⟨hx, hb, hml, hown, hts⟩ (c_X7_clashes l D y g s0 a0 b0 x0 kn L ta wr le o1 o2 po rs ca V hI ho (by first | omega | exact hol_lt hI)) (cwV 1 hts gX7_whyNot_X7_clashes rfl rfl rfl hd_X7_clashes ⟨Nat.le_of_ble_eq_true rfl, Nat.le_of_ble_eq_true rfl⟩) (xpv_r hK hP [0, 1] 0 rfl rfl rfl) rfl hl.1 rfl (Nat.le_of_ble_eq_true rfl) dX7_whyNot_28 ⟨Nat.zero_le _, Nat.zero_le _⟩ (fun r2 hr2 => ?_)
    subst hr2
    refine lv_aload_n hx hb dX7_whyNot_31 rfl (lv_at hl 1 rfl) ?_
    refine va_get (D := D) (ci := 7) (v := .ref s0) (C := RX7) (T := TX7) (N := 14) hx hb hts hin_X7 hown hK.1 hP 0 rfl rfl 0 (by decide) f_7 (fun _ h9 => h9) rfl dX7_whyNot_32 ?_
    refine lv_bipush (v := nI 70) hx hb dX7_whyNot_35 (by decide) ?_
    refine xn_iald hx hb hK hP 1 rfl (by omega) (by first | decide | omega) (v := nI (V 70)) (rfl) dX7_whyNot_37 ?_
    refine xn_icmp_le hx hb (by omega) (by omega) (tgt := 45) dX7_whyNot_38 (by decide) (fun kc38 => ?_) (fun kc38 => ?_)
    · refine lv_iload_n hx hb dX7_whyNot_45 rfl (lv_at hl 0 rfl) ?_
      refine xn_if_le hx hb (by omega) (tgt := 68) dX7_whyNot_46 (by decide) (fun kc46 => ?_) (fun kc46 => ?_)
      · refine lv_iconst (v := nI 0) hx hb dX7_whyNot_68 (by decide) ?_
        exact xr_i hx hb hr hlocks dX7_whyNot_69 (congrArg nI (by unfold why; first | rw [if_pos (by omega)] | rw [if_neg (by omega), if_pos (by omega)] | rw [if_neg (by omega), if_neg (by omega), if_pos ⟨by omega, by omega⟩] | rw [if_neg (by omega), if_neg (by omega), if_neg (by omega)]))
      · have h6 : V (17 + V 16 - 1) = hol V (V 16 - 1) := by unfold hol; rw [if_pos (by omega), show 17 + V 16 - 1 = 17 + (V 16 - 1) by omega]
        have h7 := hol_lt hI (r := V 16 - 1)
        refine lv_aload_n hx hb dX7_whyNot_49 rfl (lv_at hl 1 rfl) ?_
        refine va_get (D := D) (ci := 7) (v := .ref s0) (C := RX7) (T := TX7) (N := 14) hx hb hts hin_X7 hown hK.1 hP 0 rfl rfl 0 (by decide) f_7 (fun _ h9 => h9) rfl dX7_whyNot_50 ?_
        refine lv_bipush (v := nI 17) hx hb dX7_whyNot_53 (by decide) ?_
        refine lv_iload_n hx hb dX7_whyNot_55 rfl (lv_at hl 0 rfl) ?_
        refine xn_add hx hb (r := (17 + (V 16))) rfl dX7_whyNot_56 ?_
        refine lv_iconst (v := nI 1) hx hb dX7_whyNot_57 (by decide) ?_
        refine xn_sub hx hb (r := ((17 + (V 16)) - 1)) (by omega) rfl dX7_whyNot_58 ?_
        refine xn_iald hx hb hK hP 1 rfl (by omega) (by first | decide | omega) (v := nI (V ((17 + (V 16)) - 1))) (rfl) dX7_whyNot_59 ?_
        refine lv_iload_n hx hb dX7_whyNot_60 rfl (lv_at hl 2 rfl) ?_
        refine xn_icmp_ne hx hb (by omega) (by omega) (tgt := 68) dX7_whyNot_61 (by decide) (fun kc61 => ?_) (fun kc61 => ?_)
        · refine lv_iconst (v := nI 0) hx hb dX7_whyNot_68 (by decide) ?_
          exact xr_i hx hb hr hlocks dX7_whyNot_69 (congrArg nI (by unfold why; first | rw [if_pos (by omega)] | rw [if_neg (by omega), if_pos (by omega)] | rw [if_neg (by omega), if_neg (by omega), if_pos ⟨by omega, by omega⟩] | rw [if_neg (by omega), if_neg (by omega), if_neg (by omega)]))
        · refine lv_iconst (v := nI 3) hx hb dX7_whyNot_64 (by decide) ?_
          refine lv_goto (tgt := 69) hx hb dX7_whyNot_65 (by decide) ?_
          exact xr_i hx hb hr hlocks dX7_whyNot_69 (congrArg nI (by unfold why; first | rw [if_pos (by omega)] | rw [if_neg (by omega), if_pos (by omega)] | rw [if_neg (by omega), if_neg (by omega), if_pos ⟨by omega, by omega⟩] | rw [if_neg (by omega), if_neg (by omega), if_neg (by omega)]))
    · refine lv_iconst (v := nI 2) hx hb dX7_whyNot_41 (by decide) ?_
      refine lv_goto (tgt := 69) hx hb dX7_whyNot_42 (by decide) ?_
      exact xr_i hx hb hr hlocks dX7_whyNot_69 (congrArg nI (by unfold why; first | rw [if_pos (by omega)] | rw [if_neg (by omega), if_pos (by omega)] | rw [if_neg (by omega), if_neg (by omega), if_pos ⟨by omega, by omega⟩] | rw [if_neg (by omega), if_neg (by omega), if_neg (by omega)]))
  · refine lv_iconst (v := nI 1) hx hb dX7_whyNot_22 (by decide) ?_
    refine lv_goto (tgt := 69) hx hb dX7_whyNot_23 (by decide) ?_
    exact xr_i hx hb hr hlocks dX7_whyNot_69 (congrArg nI (by unfold why; first | rw [if_pos (by omega)] | rw [if_neg (by omega), if_pos (by omega)] | rw [if_neg (by omega), if_neg (by omega), if_pos ⟨by omega, by omega⟩] | rw [if_neg (by omega), if_neg (by omega), if_neg (by omega)]))
set_option maxHeartbeats 8000000 in
set_option maxRecDepth 100000 in
theorem c_X7_isThird (l : Launch) (D : va_G) (y : Nat → ClassId) (g s0 a0 b0 x0 kn L ta wr le : Nat) (o1 o2 : Int32) (po rs : Nat) (ca : Int32) (V : Nat → Nat) (hI : Inv V) (ho : Nat) (hh : ho < 256) : Met l yX7_isThird wsX7_isThird ({ frames := 0, cells := 0, slots := 0, locals := 0 }) (va_Pc [.ref g, .int (nI ho)] (xPr D y [(g, .inr (7, [.ref s0, .ref a0, .ref b0, .int (nI kn), .ref x0, .int (nI L), .int (nI ta), .int (nI wr), .int (nI le), .int o1, .int o2, .int (nI po), .int (nI rs), .int ca])), (s0, .inl (y 1, 72, .inl (fun j9 => nI (V j9))))])) (vp_Si (fun rz => rz = nI (bN (V 66 = 2 ∧ V 65 = ho)))) 0 0 (fun _ => False) := by
  refine Met.ofW (cc := cX7_isThird) (maxL := 2) (ret := (some .boolean)) (by decide) rfl ?_
  intro p e s m args below meth c s₁ B hml hv
  obtain ⟨rfl, hP, hK⟩ := hv
  have hx := B.exec
  have hb := B.bytes
  have hr := B.returns
  have hts := atoms_spec (ws := wsX7_isThird) B.pre
  have hown : s.vm.findClass RX7 = some m.cls := findClass_of_methodNamed B.named
  have hlocks := B.notSynchronized
  have f_7 := hts (.fieldLink RX7 7 "LoomTunesModel" "s" "[I") (by decide +kernel)
  have hin_X7 : ∀ w ∈ wsX70, w ∈ wsX7_isThird := by decide +kernel
  have hP : va_P D vwCl [(g, .inr (7, [.ref s0, .ref a0, .ref b0, .int (nI kn), .ref x0, .int (nI L), .int (nI ta), .int (nI wr), .int (nI le), .int o1, .int o2, .int (nI po), .int (nI rs), .int ca])), (s0, .inl (y 1, 72, .inl (fun j9 => nI (V j9))))] s.heap := hP
  have hl := lv_entry ([.ref g, .int (nI ho)]) (n := 2) (Nat.le_of_ble_eq_true rfl)
  rw [lg_entry_eq]
  generalize (lg_sl ([.ref g, .int (nI ho)]) ++ List.replicate (2 - (lg_sl ([.ref g, .int (nI ho)])).length) Slot.unset).toArray = ls at hl ⊢
  have hl : lv_has ls 2 [(0, .ref g), (1, .int (nI ho))] := hl
  have h1 := hI.ti
  have h2 := hI.rm
  refine lv_aload_n hx hb dX7_isThird_0 rfl (lv_at hl 0 rfl) ?_
  refine va_get (D := D) (ci := 7) (v := .ref s0) (C := RX7) (T := TX7) (N := 14) hx hb hts hin_X7 hown hK.1 hP 0 rfl rfl 0 (by decide) f_7 (fun _ h9 => h9) rfl dX7_isThird_1 ?_
  refine lv_bipush (v := nI 66) hx hb dX7_isThird_4 (by decide) ?_
  refine xn_iald hx hb hK hP 1 rfl (by omega) (by first | decide | omega) (v := nI (V 66)) (rfl) dX7_isThird_6 ?_
  refine lv_iconst (v := nI 2) hx hb dX7_isThird_7 (by decide) ?_
  refine xn_icmp_ne hx hb (by omega) (by omega) (tgt := 26) dX7_isThird_8 (by decide) (fun kc8 => ?_) (fun kc8 => ?_)
  · refine lv_iconst (v := nI 0) hx hb dX7_isThird_26 (by decide) ?_
    exact xr_z hx hb hr hlocks dX7_isThird_27 (by omega) (congrArg nI (by first | exact (bN_t (c := V 66 = 2 ∧ V 65 = ho) ⟨kc8, kc19⟩).symm | exact (bN_f (c := V 66 = 2 ∧ V 65 = ho) (fun q => kc8 q.1)).symm | exact (bN_f (c := V 66 = 2 ∧ V 65 = ho) (fun q => kc19 q.2)).symm))
  · refine lv_aload_n hx hb dX7_isThird_11 rfl (lv_at hl 0 rfl) ?_
    refine va_get (D := D) (ci := 7) (v := .ref s0) (C := RX7) (T := TX7) (N := 14) hx hb hts hin_X7 hown hK.1 hP 0 rfl rfl 0 (by decide) f_7 (fun _ h9 => h9) rfl dX7_isThird_12 ?_
    refine lv_bipush (v := nI 65) hx hb dX7_isThird_15 (by decide) ?_
    refine xn_iald hx hb hK hP 1 rfl (by omega) (by first | decide | omega) (v := nI (V 65)) (rfl) dX7_isThird_17 ?_
    refine lv_iload_n hx hb dX7_isThird_18 rfl (lv_at hl 1 rfl) ?_
    refine xn_icmp_ne hx hb (by omega) (by omega) (tgt := 26) dX7_isThird_19 (by decide) (fun kc19 => ?_) (fun kc19 => ?_)
    · refine lv_iconst (v := nI 0) hx hb dX7_isThird_26 (by decide) ?_
      exact xr_z hx hb hr hlocks dX7_isThird_27 (by omega) (congrArg nI (by first | exact (bN_t (c := V 66 = 2 ∧ V 65 = ho) ⟨kc8, kc19⟩).symm | exact (bN_f (c := V 66 = 2 ∧ V 65 = ho) (fun q => kc8 q.1)).symm | exact (bN_f (c := V 66 = 2 ∧ V 65 = ho) (fun q => kc19 q.2)).symm))
    · refine lv_iconst (v := nI 1) hx hb dX7_isThird_22 (by decide) ?_
      refine lv_goto (tgt := 27) hx hb dX7_isThird_23 (by decide) ?_
      exact xr_z hx hb hr hlocks dX7_isThird_27 (by omega) (congrArg nI (by first | exact (bN_t (c := V 66 = 2 ∧ V 65 = ho) ⟨kc8, kc19⟩).symm | exact (bN_f (c := V 66 = 2 ∧ V 65 = ho) (fun q => kc8 q.1)).symm | exact (bN_f (c := V 66 = 2 ∧ V 65 = ho) (fun q => kc19 q.2)).symm))
set_option maxHeartbeats 8000000 in
set_option maxRecDepth 100000 in
theorem c_X7_says (l : Launch) (D : va_G) (y : Nat → ClassId) (g s0 a0 b0 x0 kn L ta wr le : Nat) (o1 o2 : Int32) (po rs : Nat) (ca : Int32) (V : Nat → Nat) (hI : Inv V) (ho : Nat) (hh : ho < 256) : Met l yX7_says wsX7_says ({ frames := 3, cells := 0, slots := 0, locals := 70 }) (va_Pc [.ref g, .int (nI ho)] (xPr D y [(g, .inr (7, [.ref s0, .ref a0, .ref b0, .int (nI kn), .ref x0, .int (nI L), .int (nI ta), .int (nI wr), .int (nI le), .int o1, .int o2, .int (nI po), .int (nI rs), .int ca])), (s0, .inl (y 1, 72, .inl (fun j9 => nI (V j9))))])) (vp_Si (fun rz => rz = nI (ans V ho))) 0 0 (fun _ => False) := by
  refine Met.ofW (cc := cX7_says) (maxL := 3) (ret := (some .int)) (by decide) rfl ?_
  intro p e s m args below meth c s₁ B hml hv
  obtain ⟨rfl, hP, hK⟩ := hv
  have hx := B.exec
  have hb := B.bytes
  have hr := B.returns
  have hts := atoms_spec (ws := wsX7_says) B.pre
  have hown : s.vm.findClass RX7 = some m.cls := findClass_of_methodNamed B.named
  have hlocks := B.notSynchronized
  have hP : va_P D vwCl [(g, .inr (7, [.ref s0, .ref a0, .ref b0, .int (nI kn), .ref x0, .int (nI L), .int (nI ta), .int (nI wr), .int (nI le), .int o1, .int o2, .int (nI po), .int (nI rs), .int ca])), (s0, .inl (y 1, 72, .inl (fun j9 => nI (V j9))))] s.heap := hP
  have hl := lv_entry ([.ref g, .int (nI ho)]) (n := 3) (Nat.le_of_ble_eq_true rfl)
  rw [lg_entry_eq]
  generalize (lg_sl ([.ref g, .int (nI ho)]) ++ List.replicate (3 - (lg_sl ([.ref g, .int (nI ho)])).length) Slot.unset).toArray = ls at hl ⊢
  have hl : lv_has ls 3 [(0, .ref g), (1, .int (nI ho))] := hl
  have hw := why_le (V := V) (h := ho)
  have hb9 := bN_lt (c := V 66 = 2 ∧ V 65 = ho)
  refine lv_aload_n hx hb dX7_says_0 rfl (lv_at hl 0 rfl) ?_
  refine lv_iload_n hx hb dX7_says_1 rfl (lv_at hl 1 rfl) ?_
  refine xc_V (As := [.int (nI ho)]) (rest := []) ⟨hx, hb, hml, hown, hts⟩ (c_X7_whyNot l D y g s0 a0 b0 x0 kn L ta wr le o1 o2 po rs ca V hI ho (by omega)) (cwV 1 hts gX7_says_X7_whyNot rfl rfl rfl hd_X7_whyNot ⟨Nat.le_of_ble_eq_true rfl, Nat.le_of_ble_eq_true rfl⟩) (xpv_r hK hP [0, 1] 0 rfl rfl rfl) rfl hl.1 rfl (Nat.le_of_ble_eq_true rfl) dX7_says_2 ⟨Nat.zero_le _, Nat.zero_le _⟩ (fun r1 hr1 => ?_)
  subst hr1
  refine lv_istore_n (lv' := [(2, .int (nI (why V ho))), (0, .ref g), (1, .int (nI ho))]) hx hb dX7_says_5 rfl hl (by decide) rfl (fun ls hl => ?_)
  refine lv_iload_n hx hb dX7_says_6 rfl (lv_at hl 0 rfl) ?_
  refine xn_if_le hx hb (by omega) (tgt := 25) dX7_says_7 (by decide) (fun kc7 => ?_) (fun kc7 => ?_)
  · refine lv_iload_n hx hb dX7_says_25 rfl (lv_at hl 0 rfl) ?_
    exact xr_i hx hb hr hlocks dX7_says_26 (congrArg nI (by first | exact ans_z kc7 | exact ans_n (bN_0.mp kc15) | exact ans_3 kc7 (bN_n0.mp kc15)))
  · refine lv_aload_n hx hb dX7_says_10 rfl (lv_at hl 1 rfl) ?_
    refine lv_iload_n hx hb dX7_says_11 rfl (lv_at hl 2 rfl) ?_
    refine xc_V (As := [.int (nI ho)]) (rest := []) ⟨hx, hb, hml, hown, hts⟩ (c_X7_isThird l D y g s0 a0 b0 x0 kn L ta wr le o1 o2 po rs ca V hI ho (by omega)) (cwV 1 hts gX7_says_X7_isThird rfl rfl rfl hd_X7_isThird ⟨Nat.le_of_ble_eq_true rfl, Nat.le_of_ble_eq_true rfl⟩) (xpv_r hK hP [0, 1] 0 rfl rfl rfl) rfl hl.1 rfl (Nat.le_of_ble_eq_true rfl) dX7_says_12 ⟨Nat.zero_le _, Nat.zero_le _⟩ (fun r2 hr2 => ?_)
    subst hr2
    refine xn_if_eq hx hb (by omega) (tgt := 25) dX7_says_15 (by decide) (fun kc15 => ?_) (fun kc15 => ?_)
    · refine lv_iload_n hx hb dX7_says_25 rfl (lv_at hl 0 rfl) ?_
      exact xr_i hx hb hr hlocks dX7_says_26 (congrArg nI (by first | exact ans_z kc7 | exact ans_n (bN_0.mp kc15) | exact ans_3 kc7 (bN_n0.mp kc15)))
    · refine lv_bipush (v := nI 10) hx hb dX7_says_18 (by decide) ?_
      refine lv_iload_n hx hb dX7_says_20 rfl (lv_at hl 0 rfl) ?_
      refine xn_add hx hb (r := (10 + (why V ho))) rfl dX7_says_21 ?_
      refine lv_goto (tgt := 26) hx hb dX7_says_22 (by decide) ?_
      exact xr_i hx hb hr hlocks dX7_says_26 (congrArg nI (by first | exact ans_z kc7 | exact ans_n (bN_0.mp kc15) | exact ans_3 kc7 (bN_n0.mp kc15)))
set_option maxHeartbeats 8000000 in
set_option maxRecDepth 100000 in
theorem c_X7_bringFault (l : Launch) (D : va_G) (y : Nat → ClassId) (g s0 a0 b0 x0 kn L ta wr le : Nat) (o1 o2 : Int32) (po rs : Nat) (ca : Int32) (V : Nat → Nat) (hI : Inv V) (x : Int32) : Met l yX7_bringFault wsX7_bringFault ({ frames := 1, cells := 0, slots := 0, locals := 22 }) (va_Pc [.ref g, .int x] (xPr D y [(g, .inr (7, [.ref s0, .ref a0, .ref b0, .int (nI kn), .ref x0, .int (nI L), .int (nI ta), .int (nI wr), .int (nI le), .int o1, .int o2, .int (nI po), .int (nI rs), .int ca])), (s0, .inl (y 1, 72, .inl (fun j9 => nI (V j9))))])) (vp_Si (fun rz => rz = bfI V x)) 0 0 (fun _ => False) := by
  refine Met.ofW (cc := cX7_bringFault) (maxL := 2) (ret := (some .int)) (by decide) rfl ?_
  intro p e s m args below meth c s₁ B hml hv
  obtain ⟨rfl, hP, hK⟩ := hv
  have hx := B.exec
  have hb := B.bytes
  have hr := B.returns
  have hts := atoms_spec (ws := wsX7_bringFault) B.pre
  have hown : s.vm.findClass RX7 = some m.cls := findClass_of_methodNamed B.named
  have hlocks := B.notSynchronized
  have f_51 := hts (.constant RX7 51 (-1000001)) (by decide +kernel)
  have f_52 := hts (.constant RX7 52 (-1000003)) (by decide +kernel)
  have f_7 := hts (.fieldLink RX7 7 "LoomTunesModel" "s" "[I") (by decide +kernel)
  have hin_X7 : ∀ w ∈ wsX70, w ∈ wsX7_bringFault := by decide +kernel
  have hP : va_P D vwCl [(g, .inr (7, [.ref s0, .ref a0, .ref b0, .int (nI kn), .ref x0, .int (nI L), .int (nI ta), .int (nI wr), .int (nI le), .int o1, .int o2, .int (nI po), .int (nI rs), .int ca])), (s0, .inl (y 1, 72, .inl (fun j9 => nI (V j9))))] s.heap := hP
  have hl := lv_entry ([.ref g, .int x]) (n := 2) (Nat.le_of_ble_eq_true rfl)
  rw [lg_entry_eq]
  generalize (lg_sl ([.ref g, .int x]) ++ List.replicate (2 - (lg_sl ([.ref g, .int x])).length) Slot.unset).toArray = ls at hl ⊢
  have hl : lv_has ls 2 [(0, .ref g), (1, .int x)] := hl
  have hsz := hI.sz
  have hb9 := bN_lt (c := ¬ x < nI 0 ∧ ¬ nI 255 < x)
  refine lv_iload_n hx hb dX7_bringFault_0 rfl (lv_at hl 1 rfl) ?_
  refine lv_iconst (v := nI 0) hx hb dX7_bringFault_1 (by decide) ?_
  refine lv_sipush (v := nI 255) hx hb dX7_bringFault_2 (by decide) ?_
  refine xc_S (As := [.int x, .int (nI 0), .int (nI 255)]) (rest := []) ⟨hx, hb, hml, hown, hts⟩ (c_X7_in l x (nI 0) (nI 255)) (va_cwS 3 hts gX7_bringFault_X7_in rfl rfl rfl hd_X7_in.2 ⟨Nat.le_of_ble_eq_true rfl, Nat.le_of_ble_eq_true rfl⟩) xps_0 rfl hl.1 rfl (Nat.le_of_ble_eq_true rfl) dX7_bringFault_5 ⟨Nat.zero_le _, Nat.zero_le _⟩ (fun r1 hr1 => ?_)
  subst hr1
  refine xn_if_ne hx hb (by omega) (tgt := 16) dX7_bringFault_8 (by decide) (fun kc8 => ?_) (fun kc8 => ?_)
  · refine lv_aload_n hx hb dX7_bringFault_16 rfl (lv_at hl 0 rfl) ?_
    refine va_get (D := D) (ci := 7) (v := .ref s0) (C := RX7) (T := TX7) (N := 14) hx hb hts hin_X7 hown hK.1 hP 0 rfl rfl 0 (by decide) f_7 (fun _ h9 => h9) rfl dX7_bringFault_17 ?_
    refine lv_bipush (v := nI 16) hx hb dX7_bringFault_20 (by decide) ?_
    refine xn_iald hx hb hK hP 1 rfl (by omega) (by first | decide | omega) (v := nI (V 16)) (rfl) dX7_bringFault_22 ?_
    refine lv_bipush (v := nI 24) hx hb dX7_bringFault_23 (by decide) ?_
    refine xn_icmp_ne hx hb (by omega) (by omega) (tgt := 33) dX7_bringFault_25 (by decide) (fun kc25 => ?_) (fun kc25 => ?_)
    · refine lv_iconst (v := nI 0) hx hb dX7_bringFault_33 (by decide) ?_
      exact xr_i hx hb hr hlocks dX7_bringFault_34 (bf_0 ((inx rfl (by decide)).mp (bN_n0.mp kc8)) kc25)
    · refine lv_ldc hx hb hown f_52 dX7_bringFault_28 ?_
      refine lv_goto (tgt := 34) hx hb dX7_bringFault_30 (by decide) ?_
      exact xr_i hx hb hr hlocks dX7_bringFault_34 (bf_l ((inx rfl (by decide)).mp (bN_n0.mp kc8)) kc25)
  · refine lv_ldc hx hb hown f_51 dX7_bringFault_11 ?_
    refine lv_goto (tgt := 34) hx hb dX7_bringFault_13 (by decide) ?_
    exact xr_i hx hb hr hlocks dX7_bringFault_34 (bf_n (fun hq => (bN_0.mp kc8) ((inx rfl (by decide)).mpr hq)))
set_option maxHeartbeats 8000000 in
set_option maxRecDepth 100000 in
theorem c_X7_would (l : Launch) (D : va_G) (y : Nat → ClassId) (g s0 a0 b0 x0 kn L ta wr le : Nat) (o1 o2 : Int32) (po rs : Nat) (ca : Int32) (V : Nat → Nat) (hI : Inv V) (x : Int32) : Met l yX7_would wsX7_would ({ frames := 4, cells := 0, slots := 0, locals := 92 }) (va_Pc [.ref g, .int x] (xPr D y [(g, .inr (7, [.ref s0, .ref a0, .ref b0, .int (nI kn), .ref x0, .int (nI L), .int (nI ta), .int (nI wr), .int (nI le), .int o1, .int o2, .int (nI po), .int (nI rs), .int ca])), (s0, .inl (y 1, 72, .inl (fun j9 => nI (V j9))))])) (vp_Si (fun rz => rz = ansI V x)) 0 0 (fun _ => False) := by
  refine Met.ofW (cc := cX7_would) (maxL := 3) (ret := (some .int)) (by decide) rfl ?_
  intro p e s m args below meth c s₁ B hml hv
  obtain ⟨rfl, hP, hK⟩ := hv
  have hx := B.exec
  have hb := B.bytes
  have hr := B.returns
  have hts := atoms_spec (ws := wsX7_would) B.pre
  have hown : s.vm.findClass RX7 = some m.cls := findClass_of_methodNamed B.named
  have hlocks := B.notSynchronized
  have hP : va_P D vwCl [(g, .inr (7, [.ref s0, .ref a0, .ref b0, .int (nI kn), .ref x0, .int (nI L), .int (nI ta), .int (nI wr), .int (nI le), .int o1, .int o2, .int (nI po), .int (nI rs), .int ca])), (s0, .inl (y 1, 72, .inl (fun j9 => nI (V j9))))] s.heap := hP
  have hl := lv_entry ([.ref g, .int x]) (n := 3) (Nat.le_of_ble_eq_true rfl)
  rw [lg_entry_eq]
  generalize (lg_sl ([.ref g, .int x]) ++ List.replicate (3 - (lg_sl ([.ref g, .int x])).length) Slot.unset).toArray = ls at hl ⊢
  have hl : lv_has ls 3 [(0, .ref g), (1, .int x)] := hl
  have hsz := hI.sz
  refine lv_aload_n hx hb dX7_would_0 rfl (lv_at hl 0 rfl) ?_
  refine lv_iload_n hx hb dX7_would_1 rfl (lv_at hl 1 rfl) ?_
  refine xc_V (As := [.int x]) (rest := []) ⟨hx, hb, hml, hown, hts⟩ (c_X7_bringFault l D y g s0 a0 b0 x0 kn L ta wr le o1 o2 po rs ca V hI x) (cwV 1 hts gX7_would_X7_bringFault rfl rfl rfl hd_X7_bringFault ⟨Nat.le_of_ble_eq_true rfl, Nat.le_of_ble_eq_true rfl⟩) (xpv_r hK hP [0, 1] 0 rfl rfl rfl) rfl hl.1 rfl (Nat.le_of_ble_eq_true rfl) dX7_would_2 ⟨Nat.zero_le _, Nat.zero_le _⟩ (fun r1 hr1 => ?_)
  subst hr1
  refine lv_istore_n (lv' := [(2, .int (bfI V x)), (0, .ref g), (1, .int x)]) hx hb dX7_would_5 rfl hl (by decide) rfl (fun ls hl => ?_)
  refine lv_iload_n hx hb dX7_would_6 rfl (lv_at hl 0 rfl) ?_
  refine lv_if_ge (tgt := 14) hx hb dX7_would_7 (by decide) (fun kc7 => ?_) (fun kc7 => ?_)
  · obtain ⟨k, hk, hx9, hz9⟩ := bf_ok hsz kc7
    subst hx9
    refine lv_aload_n hx hb dX7_would_14 rfl (lv_at hl 1 rfl) ?_
    refine lv_iload_n hx hb dX7_would_15 rfl (lv_at hl 2 rfl) ?_
    refine xc_V (As := [.int (nI k)]) (rest := []) ⟨hx, hb, hml, hown, hts⟩ (c_X7_says l D y g s0 a0 b0 x0 kn L ta wr le o1 o2 po rs ca V hI k (by omega)) (cwV 1 hts gX7_would_X7_says rfl rfl rfl hd_X7_says ⟨Nat.le_of_ble_eq_true rfl, Nat.le_of_ble_eq_true rfl⟩) (xpv_r hK hP [0, 1] 0 rfl rfl rfl) rfl hl.1 rfl (Nat.le_of_ble_eq_true rfl) dX7_would_16 ⟨Nat.zero_le _, Nat.zero_le _⟩ (fun r2 hr2 => ?_)
    subst hr2
    exact xr_i hx hb hr hlocks dX7_would_19 ((ansI_n hk (by omega)).symm)
  · refine lv_iload_n hx hb dX7_would_10 rfl (lv_at hl 0 rfl) ?_
    refine lv_goto (tgt := 19) hx hb dX7_would_11 (by decide) ?_
    exact xr_i hx hb hr hlocks dX7_would_19 (bf_neg hsz (Int32.not_le.mp kc7))
set_option maxHeartbeats 8000000 in
set_option maxRecDepth 100000 in
theorem c_X7_rows (l : Launch) (D : va_G) (y : Nat → ClassId) (g s0 a0 b0 x0 kn L ta wr le : Nat) (o1 o2 : Int32) (po rs : Nat) (ca : Int32) (V : Nat → Nat) (hI : Inv V) (t w : Nat) (ht : t < 8) (hw : w < 2 ^ 31) : Met l yX7_rows wsX7_rows ({ frames := 3, cells := 0, slots := 0, locals := 65 }) (va_Pc [.ref g, .int (nI t), .int (nI w)] (xPr D y [(g, .inr (7, [.ref s0, .ref a0, .ref b0, .int (nI kn), .ref x0, .int (nI L), .int (nI ta), .int (nI wr), .int (nI le), .int o1, .int o2, .int (nI po), .int (nI rs), .int ca])), (s0, .inl (y 1, 72, .inl (fun j9 => nI (V j9))))])) (vp_Si (fun rz => rz = nI (if w = 2 then toT V t else soR V t))) 0 0 (fun _ => False) := by
  refine Met.ofW (cc := cX7_rows) (maxL := 5) (ret := (some .int)) (by decide) rfl ?_
  intro p e s m args below meth c s₁ B hml hv
  obtain ⟨rfl, hP, hK⟩ := hv
  have hx := B.exec
  have hb := B.bytes
  have hr := B.returns
  have hts := atoms_spec (ws := wsX7_rows) B.pre
  have hown : s.vm.findClass RX7 = some m.cls := findClass_of_methodNamed B.named
  have hlocks := B.notSynchronized
  have f_7 := hts (.fieldLink RX7 7 "LoomTunesModel" "s" "[I") (by decide +kernel)
  have hin_X7 : ∀ w ∈ wsX70, w ∈ wsX7_rows := by decide +kernel
  have hP : va_P D vwCl [(g, .inr (7, [.ref s0, .ref a0, .ref b0, .int (nI kn), .ref x0, .int (nI L), .int (nI ta), .int (nI wr), .int (nI le), .int o1, .int o2, .int (nI po), .int (nI rs), .int ca])), (s0, .inl (y 1, 72, .inl (fun j9 => nI (V j9))))] s.heap := hP
  have hl := lv_entry ([.ref g, .int (nI t), .int (nI w)]) (n := 5) (Nat.le_of_ble_eq_true rfl)
  rw [lg_entry_eq]
  generalize (lg_sl ([.ref g, .int (nI t), .int (nI w)]) ++ List.replicate (5 - (lg_sl ([.ref g, .int (nI t), .int (nI w)])).length) Slot.unset).toArray = ls at hl ⊢
  have hl : lv_has ls 5 [(0, .ref g), (1, .int (nI t)), (2, .int (nI w))] := hl
  have hsz := hI.sz
  refine lv_iconst (v := nI 0) hx hb dX7_rows_0 (by decide) ?_
  refine lv_istore_n (lv' := [(3, .int (nI 0)), (0, .ref g), (1, .int (nI t)), (2, .int (nI w))]) hx hb dX7_rows_1 rfl hl (by decide) rfl (fun ls hl => ?_)
  refine lv_iconst (v := nI 0) hx hb dX7_rows_2 (by decide) ?_
  refine lv_istore (lv' := [(4, .int (nI 0)), (3, .int (nI 0)), (0, .ref g), (1, .int (nI t)), (2, .int (nI w))]) hx hb dX7_rows_3 hl (by decide) rfl (fun ls hl => ?_)
  have lp5 : ∀ (n : Nat) (i : Nat), V 16 - i < n → (i ≤ V 16) → ∀ ls : Array Slot, lv_has ls 5 [(4, .int (nI i)), (3, .int (nI (if w = 2 then sN (fun r => begN V r t) i else sN (fun r => sndN V r t) i))), (0, .ref g), (1, .int (nI t)), (2, .int (nI w))] → W p l e (headSpec wsX7_rows ({ frames := 3, cells := 0, slots := 0, locals := 65 })).room s m ([.ref g, .int (nI t), .int (nI w)] : List Value).toArray below meth c s.heap [] 0 0 (MQ below (vp_Si (fun rz => rz = nI (if w = 2 then toT V t else soR V t))) ([.ref g, .int (nI t), .int (nI w)] : List Value).toArray s 0 0 (fun _ => False)) (F0 m 5 ls []) := by
    intro n
    induction n with
    | zero => intro i hm; exact absurd hm (Nat.not_lt_zero _)
    | succ n ih5 =>
      intro i hm hi ls hl
      refine lv_iload hx hb dX7_rows_5 (lv_at hl 0 rfl) ?_
      refine lv_aload_n hx hb dX7_rows_7 rfl (lv_at hl 2 rfl) ?_
      refine va_get (D := D) (ci := 7) (v := .ref s0) (C := RX7) (T := TX7) (N := 14) hx hb hts hin_X7 hown hK.1 hP 0 rfl rfl 0 (by decide) f_7 (fun _ h9 => h9) rfl dX7_rows_8 ?_
      refine lv_bipush (v := nI 16) hx hb dX7_rows_11 (by decide) ?_
      refine xn_iald hx hb hK hP 1 rfl (by omega) (by first | decide | omega) (v := nI (V 16)) (rfl) dX7_rows_13 ?_
      refine xn_icmp_ge hx hb (by omega) (by omega) (tgt := 59) dX7_rows_14 (by decide) (fun kc14 => ?_) (fun kc14 => ?_)
      · refine lv_iload_n hx hb dX7_rows_59 rfl (lv_at hl 1 rfl) ?_
        exact xr_i hx hb hr hlocks dX7_rows_60 (congrArg nI (by rw [show i = V 16 by omega]))
      · have hb1 := begN_lt (V := V) (r := i) (t := t)
        have hb2 := sndN_lt (V := V) (r := i) (t := t)
        refine lv_iload_n hx hb dX7_rows_17 rfl (lv_at hl 1 rfl) ?_
        refine lv_iload_n hx hb dX7_rows_18 rfl (lv_at hl 4 rfl) ?_
        refine lv_iconst (v := nI 2) hx hb dX7_rows_19 (by decide) ?_
        refine xn_icmp_ne hx hb (by omega) (by omega) (tgt := 36) dX7_rows_20 (by decide) (fun kc20 => ?_) (fun kc20 => ?_)
        · refine lv_aload_n hx hb dX7_rows_36 rfl (lv_at hl 2 rfl) ?_
          refine lv_iload hx hb dX7_rows_37 (lv_at hl 0 rfl) ?_
          refine lv_iload_n hx hb dX7_rows_39 rfl (lv_at hl 3 rfl) ?_
          refine xc_V (As := [.int (nI i), .int (nI t)]) (rest := [.int (nI (if w = 2 then sN (fun r => begN V r t) i else sN (fun r => sndN V r t) i))]) ⟨hx, hb, hml, hown, hts⟩ (c_X7_sounds_n l D y g s0 a0 b0 x0 kn L ta wr le o1 o2 po rs ca V hI i (by omega) t (by omega)) (cwV 2 hts gX7_rows_X7_sounds rfl rfl rfl hd_X7_sounds ⟨Nat.le_of_ble_eq_true rfl, Nat.le_of_ble_eq_true rfl⟩) (xpv_r hK hP [0, 1] 0 rfl rfl rfl) rfl hl.1 rfl (Nat.le_of_ble_eq_true rfl) dX7_rows_40 ⟨Nat.zero_le _, Nat.zero_le _⟩ (fun r1 hr1 => ?_)
          subst hr1
          refine xn_if_eq hx hb (by omega) (tgt := 50) dX7_rows_43 (by decide) (fun kc43 => ?_) (fun kc43 => ?_)
          · refine lv_iconst (v := nI 0) hx hb dX7_rows_50 (by decide) ?_
            refine xn_add hx hb (r := ((if w = 2 then sN (fun r => begN V r t) i else sN (fun r => sndN V r t) i) + 0)) rfl dX7_rows_51 ?_
            refine lv_istore_n (lv' := [(3, .int (nI ((if w = 2 then sN (fun r => begN V r t) i else sN (fun r => sndN V r t) i) + 0))), (4, .int (nI i)), (0, .ref g), (1, .int (nI t)), (2, .int (nI w))]) hx hb dX7_rows_52 rfl hl (by decide) rfl (fun ls hl => ?_)
            refine lv_iinc (v := nI (i + 1)) (lv' := [(4, .int (nI (i + 1))), (3, .int (nI ((if w = 2 then sN (fun r => begN V r t) i else sN (fun r => sndN V r t) i) + 0))), (0, .ref g), (1, .int (nI t)), (2, .int (nI w))]) hx hb dX7_rows_53 hl (k := 1) rfl (nI_add i 1) (by decide) rfl (fun ls hl => ?_)
            refine lv_goto (tgt := 5) hx hb dX7_rows_56 (by decide) ?_
            have e2 : ((if w = 2 then sN (fun r => begN V r t) i else sN (fun r => sndN V r t) i) + 0) = (if w = 2 then sN (fun r => begN V r t) (i + 1) else sN (fun r => sndN V r t) (i + 1)) := by first | (rw [if_pos kc20, if_pos kc20, sN_s]; omega) | (rw [if_neg kc20, if_neg kc20, sN_s]; omega)
            exact ih5 (i + 1) (by omega) (by omega) ls (xl_eq (b := [(4, .int (nI (i + 1))), (3, .int (nI (if w = 2 then sN (fun r => begN V r t) (i + 1) else sN (fun r => sndN V r t) (i + 1)))), (0, .ref g), (1, .int (nI t)), (2, .int (nI w))]) (lv_sub (l' := [(4, .int (nI (i + 1))), (3, .int (nI ((if w = 2 then sN (fun r => begN V r t) i else sN (fun r => sndN V r t) i) + 0))), (0, .ref g), (1, .int (nI t)), (2, .int (nI w))]) hl [0, 1, 2, 3, 4] rfl) (xk rfl (xk (congrArg (fun z : Nat => Value.int (nI z)) e2) (xk rfl (xk rfl (xk rfl (rfl : ([] : List (Nat × Value)) = [])))))))
          · refine lv_iconst (v := nI 1) hx hb dX7_rows_46 (by decide) ?_
            refine lv_goto (tgt := 51) hx hb dX7_rows_47 (by decide) ?_
            refine xn_add hx hb (r := ((if w = 2 then sN (fun r => begN V r t) i else sN (fun r => sndN V r t) i) + 1)) rfl dX7_rows_51 ?_
            refine lv_istore_n (lv' := [(3, .int (nI ((if w = 2 then sN (fun r => begN V r t) i else sN (fun r => sndN V r t) i) + 1))), (4, .int (nI i)), (0, .ref g), (1, .int (nI t)), (2, .int (nI w))]) hx hb dX7_rows_52 rfl hl (by decide) rfl (fun ls hl => ?_)
            refine lv_iinc (v := nI (i + 1)) (lv' := [(4, .int (nI (i + 1))), (3, .int (nI ((if w = 2 then sN (fun r => begN V r t) i else sN (fun r => sndN V r t) i) + 1))), (0, .ref g), (1, .int (nI t)), (2, .int (nI w))]) hx hb dX7_rows_53 hl (k := 1) rfl (nI_add i 1) (by decide) rfl (fun ls hl => ?_)
            refine lv_goto (tgt := 5) hx hb dX7_rows_56 (by decide) ?_
            have e3 : ((if w = 2 then sN (fun r => begN V r t) i else sN (fun r => sndN V r t) i) + 1) = (if w = 2 then sN (fun r => begN V r t) (i + 1) else sN (fun r => sndN V r t) (i + 1)) := by first | (rw [if_pos kc20, if_pos kc20, sN_s]; omega) | (rw [if_neg kc20, if_neg kc20, sN_s]; omega)
            exact ih5 (i + 1) (by omega) (by omega) ls (xl_eq (b := [(4, .int (nI (i + 1))), (3, .int (nI (if w = 2 then sN (fun r => begN V r t) (i + 1) else sN (fun r => sndN V r t) (i + 1)))), (0, .ref g), (1, .int (nI t)), (2, .int (nI w))]) (lv_sub (l' := [(4, .int (nI (i + 1))), (3, .int (nI ((if w = 2 then sN (fun r => begN V r t) i else sN (fun r => sndN V r t) i) + 1))), (0, .ref g), (1, .int (nI t)), (2, .int (nI w))]) hl [0, 1, 2, 3, 4] rfl) (xk rfl (xk (congrArg (fun z : Nat => Value.int (nI z)) e3) (xk rfl (xk rfl (xk rfl (rfl : ([] : List (Nat × Value)) = [])))))))
        · refine lv_aload_n hx hb dX7_rows_23 rfl (lv_at hl 2 rfl) ?_
          refine lv_iload hx hb dX7_rows_24 (lv_at hl 0 rfl) ?_
          refine lv_iload_n hx hb dX7_rows_26 rfl (lv_at hl 3 rfl) ?_
          refine xc_V (As := [.int (nI i), .int (nI t)]) (rest := [.int (nI (if w = 2 then sN (fun r => begN V r t) i else sN (fun r => sndN V r t) i))]) ⟨hx, hb, hml, hown, hts⟩ (c_X7_begins l D y g s0 a0 b0 x0 kn L ta wr le o1 o2 po rs ca V hI i (by omega) t (by omega)) (cwV 2 hts gX7_rows_X7_begins rfl rfl rfl hd_X7_begins ⟨Nat.le_of_ble_eq_true rfl, Nat.le_of_ble_eq_true rfl⟩) (xpv_r hK hP [0, 1] 0 rfl rfl rfl) rfl hl.1 rfl (Nat.le_of_ble_eq_true rfl) dX7_rows_27 ⟨Nat.zero_le _, Nat.zero_le _⟩ (fun r4 hr4 => ?_)
          subst hr4
          refine xn_if_eq hx hb (by omega) (tgt := 50) dX7_rows_30 (by decide) (fun kc30 => ?_) (fun kc30 => ?_)
          · refine lv_iconst (v := nI 0) hx hb dX7_rows_50 (by decide) ?_
            refine xn_add hx hb (r := ((if w = 2 then sN (fun r => begN V r t) i else sN (fun r => sndN V r t) i) + 0)) rfl dX7_rows_51 ?_
            refine lv_istore_n (lv' := [(3, .int (nI ((if w = 2 then sN (fun r => begN V r t) i else sN (fun r => sndN V r t) i) + 0))), (4, .int (nI i)), (0, .ref g), (1, .int (nI t)), (2, .int (nI w))]) hx hb dX7_rows_52 rfl hl (by decide) rfl (fun ls hl => ?_)
            refine lv_iinc (v := nI (i + 1)) (lv' := [(4, .int (nI (i + 1))), (3, .int (nI ((if w = 2 then sN (fun r => begN V r t) i else sN (fun r => sndN V r t) i) + 0))), (0, .ref g), (1, .int (nI t)), (2, .int (nI w))]) hx hb dX7_rows_53 hl (k := 1) rfl (nI_add i 1) (by decide) rfl (fun ls hl => ?_)
            refine lv_goto (tgt := 5) hx hb dX7_rows_56 (by decide) ?_
            have e5 : ((if w = 2 then sN (fun r => begN V r t) i else sN (fun r => sndN V r t) i) + 0) = (if w = 2 then sN (fun r => begN V r t) (i + 1) else sN (fun r => sndN V r t) (i + 1)) := by first | (rw [if_pos kc20, if_pos kc20, sN_s]; omega) | (rw [if_neg kc20, if_neg kc20, sN_s]; omega)
            exact ih5 (i + 1) (by omega) (by omega) ls (xl_eq (b := [(4, .int (nI (i + 1))), (3, .int (nI (if w = 2 then sN (fun r => begN V r t) (i + 1) else sN (fun r => sndN V r t) (i + 1)))), (0, .ref g), (1, .int (nI t)), (2, .int (nI w))]) (lv_sub (l' := [(4, .int (nI (i + 1))), (3, .int (nI ((if w = 2 then sN (fun r => begN V r t) i else sN (fun r => sndN V r t) i) + 0))), (0, .ref g), (1, .int (nI t)), (2, .int (nI w))]) hl [0, 1, 2, 3, 4] rfl) (xk rfl (xk (congrArg (fun z : Nat => Value.int (nI z)) e5) (xk rfl (xk rfl (xk rfl (rfl : ([] : List (Nat × Value)) = [])))))))
          · refine lv_goto (tgt := 46) hx hb dX7_rows_33 (by decide) ?_
            refine lv_iconst (v := nI 1) hx hb dX7_rows_46 (by decide) ?_
            refine lv_goto (tgt := 51) hx hb dX7_rows_47 (by decide) ?_
            refine xn_add hx hb (r := ((if w = 2 then sN (fun r => begN V r t) i else sN (fun r => sndN V r t) i) + 1)) rfl dX7_rows_51 ?_
            refine lv_istore_n (lv' := [(3, .int (nI ((if w = 2 then sN (fun r => begN V r t) i else sN (fun r => sndN V r t) i) + 1))), (4, .int (nI i)), (0, .ref g), (1, .int (nI t)), (2, .int (nI w))]) hx hb dX7_rows_52 rfl hl (by decide) rfl (fun ls hl => ?_)
            refine lv_iinc (v := nI (i + 1)) (lv' := [(4, .int (nI (i + 1))), (3, .int (nI ((if w = 2 then sN (fun r => begN V r t) i else sN (fun r => sndN V r t) i) + 1))), (0, .ref g), (1, .int (nI t)), (2, .int (nI w))]) hx hb dX7_rows_53 hl (k := 1) rfl (nI_add i 1) (by decide) rfl (fun ls hl => ?_)
            refine lv_goto (tgt := 5) hx hb dX7_rows_56 (by decide) ?_
            have e6 : ((if w = 2 then sN (fun r => begN V r t) i else sN (fun r => sndN V r t) i) + 1) = (if w = 2 then sN (fun r => begN V r t) (i + 1) else sN (fun r => sndN V r t) (i + 1)) := by first | (rw [if_pos kc20, if_pos kc20, sN_s]; omega) | (rw [if_neg kc20, if_neg kc20, sN_s]; omega)
            exact ih5 (i + 1) (by omega) (by omega) ls (xl_eq (b := [(4, .int (nI (i + 1))), (3, .int (nI (if w = 2 then sN (fun r => begN V r t) (i + 1) else sN (fun r => sndN V r t) (i + 1)))), (0, .ref g), (1, .int (nI t)), (2, .int (nI w))]) (lv_sub (l' := [(4, .int (nI (i + 1))), (3, .int (nI ((if w = 2 then sN (fun r => begN V r t) i else sN (fun r => sndN V r t) i) + 1))), (0, .ref g), (1, .int (nI t)), (2, .int (nI w))]) hl [0, 1, 2, 3, 4] rfl) (xk rfl (xk (congrArg (fun z : Nat => Value.int (nI z)) e6) (xk rfl (xk rfl (xk rfl (rfl : ([] : List (Nat × Value)) = [])))))))
  have e7 : 0 = (if w = 2 then sN (fun r => begN V r t) 0 else sN (fun r => sndN V r t) 0) := by split <;> rfl
  exact lp5 ((V 16 - 0) + 1) 0 (Nat.lt_succ_self _) (by omega) ls (xl_eq (b := [(4, .int (nI 0)), (3, .int (nI (if w = 2 then sN (fun r => begN V r t) 0 else sN (fun r => sndN V r t) 0))), (0, .ref g), (1, .int (nI t)), (2, .int (nI w))]) (lv_sub (l' := [(4, .int (nI 0)), (3, .int (nI 0)), (0, .ref g), (1, .int (nI t)), (2, .int (nI w))]) hl [0, 1, 2, 3, 4] rfl) (xk rfl (xk (congrArg (fun z : Nat => Value.int (nI z)) e7) (xk rfl (xk rfl (xk rfl (rfl : ([] : List (Nat × Value)) = [])))))))
set_option maxHeartbeats 8000000 in
set_option maxRecDepth 100000 in
theorem c_X7_floats (l : Launch) (D : va_G) (y : Nat → ClassId) (g s0 a0 b0 x0 kn L ta wr le : Nat) (o1 o2 : Int32) (po rs : Nat) (ca : Int32) (V : Nat → Nat) (hI : Inv V) (t w : Nat) (ht : t < 8) (hw : w < 2 ^ 31) : Met l yX7_floats wsX7_floats ({ frames := 2, cells := 0, slots := 0, locals := 43 }) (va_Pc [.ref g, .int (nI t), .int (nI w)] (xPr D y [(g, .inr (7, [.ref s0, .ref a0, .ref b0, .int (nI kn), .ref x0, .int (nI L), .int (nI ta), .int (nI wr), .int (nI le), .int o1, .int o2, .int (nI po), .int (nI rs), .int ca])), (s0, .inl (y 1, 72, .inl (fun j9 => nI (V j9))))])) (vp_Si (fun rz => rz = nI (if w = 4 then mxR V t (V 16) else loT V t))) 0 0 (fun _ => False) := by
  refine Met.ofW (cc := cX7_floats) (maxL := 7) (ret := (some .int)) (by decide) rfl ?_
  intro p e s m args below meth c s₁ B hml hv
  obtain ⟨rfl, hP, hK⟩ := hv
  have hx := B.exec
  have hb := B.bytes
  have hr := B.returns
  have hts := atoms_spec (ws := wsX7_floats) B.pre
  have hown : s.vm.findClass RX7 = some m.cls := findClass_of_methodNamed B.named
  have hlocks := B.notSynchronized
  have f_7 := hts (.fieldLink RX7 7 "LoomTunesModel" "s" "[I") (by decide +kernel)
  have hin_X7 : ∀ w ∈ wsX70, w ∈ wsX7_floats := by decide +kernel
  have hP : va_P D vwCl [(g, .inr (7, [.ref s0, .ref a0, .ref b0, .int (nI kn), .ref x0, .int (nI L), .int (nI ta), .int (nI wr), .int (nI le), .int o1, .int o2, .int (nI po), .int (nI rs), .int ca])), (s0, .inl (y 1, 72, .inl (fun j9 => nI (V j9))))] s.heap := hP
  have hl := lv_entry ([.ref g, .int (nI t), .int (nI w)]) (n := 7) (Nat.le_of_ble_eq_true rfl)
  rw [lg_entry_eq]
  generalize (lg_sl ([.ref g, .int (nI t), .int (nI w)]) ++ List.replicate (7 - (lg_sl ([.ref g, .int (nI t), .int (nI w)])).length) Slot.unset).toArray = ls at hl ⊢
  have hl : lv_has ls 7 [(0, .ref g), (1, .int (nI t)), (2, .int (nI w))] := hl
  have hsz := hI.sz
  have hs3 := hI.s3
  refine lv_iconst (v := nI 0) hx hb dX7_floats_0 (by decide) ?_
  refine lv_istore_n (lv' := [(3, .int (nI 0)), (0, .ref g), (1, .int (nI t)), (2, .int (nI w))]) hx hb dX7_floats_1 rfl hl (by decide) rfl (fun ls hl => ?_)
  refine lv_iconst (v := nI 0) hx hb dX7_floats_2 (by decide) ?_
  refine lv_istore (lv' := [(4, .int (nI 0)), (3, .int (nI 0)), (0, .ref g), (1, .int (nI t)), (2, .int (nI w))]) hx hb dX7_floats_3 hl (by decide) rfl (fun ls hl => ?_)
  refine lv_iconst (v := nI 0) hx hb dX7_floats_5 (by decide) ?_
  refine lv_istore (lv' := [(5, .int (nI 0)), (4, .int (nI 0)), (3, .int (nI 0)), (0, .ref g), (1, .int (nI t)), (2, .int (nI w))]) hx hb dX7_floats_6 hl (by decide) rfl (fun ls hl => ?_)
  refine lv_iconst (v := nI 0) hx hb dX7_floats_8 (by decide) ?_
  refine lv_istore (lv' := [(6, .int (nI 0)), (5, .int (nI 0)), (4, .int (nI 0)), (3, .int (nI 0)), (0, .ref g), (1, .int (nI t)), (2, .int (nI w))]) hx hb dX7_floats_9 hl (by decide) rfl (fun ls hl => ?_)
  have lp11 : ∀ (n : Nat) (i : Nat), V 16 - i < n → (i ≤ V 16) → ∀ ls : Array Slot, lv_has ls 7 [(6, .int (nI i)), (5, .int (nI (rnP V t i))), (4, .int (nI (sN (fun r => if runR V t r = V 71 + 1 then 1 else 0) i))), (3, .int (nI (mxR V t i))), (0, .ref g), (1, .int (nI t)), (2, .int (nI w))] → W p l e (headSpec wsX7_floats ({ frames := 2, cells := 0, slots := 0, locals := 43 })).room s m ([.ref g, .int (nI t), .int (nI w)] : List Value).toArray below meth c s.heap [] 0 0 (MQ below (vp_Si (fun rz => rz = nI (if w = 4 then mxR V t (V 16) else loT V t))) ([.ref g, .int (nI t), .int (nI w)] : List Value).toArray s 0 0 (fun _ => False)) (F0 m 11 ls []) := by
    intro n
    induction n with
    | zero => intro i hm; exact absurd hm (Nat.not_lt_zero _)
    | succ n ih11 =>
      intro i hm hi ls hl
      refine lv_iload hx hb dX7_floats_11 (lv_at hl 0 rfl) ?_
      refine lv_aload_n hx hb dX7_floats_13 rfl (lv_at hl 4 rfl) ?_
      refine va_get (D := D) (ci := 7) (v := .ref s0) (C := RX7) (T := TX7) (N := 14) hx hb hts hin_X7 hown hK.1 hP 0 rfl rfl 0 (by decide) f_7 (fun _ h9 => h9) rfl dX7_floats_14 ?_
      refine lv_bipush (v := nI 16) hx hb dX7_floats_17 (by decide) ?_
      refine xn_iald hx hb hK hP 1 rfl (by omega) (by first | decide | omega) (v := nI (V 16)) (rfl) dX7_floats_19 ?_
      refine xn_icmp_ge hx hb (by omega) (by omega) (tgt := 100) dX7_floats_20 (by decide) (fun kc20 => ?_) (fun kc20 => ?_)
      · have hi9 : i = V 16 := by omega
        refine lv_iload_n hx hb dX7_floats_100 rfl (lv_at hl 6 rfl) ?_
        refine lv_iconst (v := nI 4) hx hb dX7_floats_101 (by decide) ?_
        refine xn_icmp_ne hx hb (by omega) (by omega) (tgt := 109) dX7_floats_102 (by decide) (fun kc102 => ?_) (fun kc102 => ?_)
        · refine lv_iload hx hb dX7_floats_109 (lv_at hl 2 rfl) ?_
          exact xr_i hx hb hr hlocks dX7_floats_111 (congrArg nI (by rw [if_neg kc102, hi9]))
        · refine lv_iload_n hx hb dX7_floats_105 rfl (lv_at hl 3 rfl) ?_
          refine lv_goto (tgt := 111) hx hb dX7_floats_106 (by decide) ?_
          exact xr_i hx hb hr hlocks dX7_floats_111 (congrArg nI (by rw [if_pos kc102, hi9]))
      · have hm1 := mxR_le (V := V) (t := t) i
        have hm2 : runR V t i ≤ i + 1 := runA_le (i + 1)
        have hm3 : rnP V t i ≤ i := rnP_le i
        have hb1 := sndN_lt (V := V) (r := i) (t := t)
        have hb2 := sndN_lt (V := V) (r := i - 1) (t := t)
        have jn55 : ∀ (z : Nat) (ls : Array Slot), lv_has ls 7 [(6, .int (nI i)), (5, .int (nI (rnP V t i))), (4, .int (nI (sN (fun r => if runR V t r = V 71 + 1 then 1 else 0) i))), (3, .int (nI (mxR V t i))), (0, .ref g), (1, .int (nI t)), (2, .int (nI w))] → (z = runR V t i) → W p l e (headSpec wsX7_floats ({ frames := 2, cells := 0, slots := 0, locals := 43 })).room s m ([.ref g, .int (nI t), .int (nI w)] : List Value).toArray below meth c s.heap [] 0 0 (MQ below (vp_Si (fun rz => rz = nI (if w = 4 then mxR V t (V 16) else loT V t))) ([.ref g, .int (nI t), .int (nI w)] : List Value).toArray s 0 0 (fun _ => False)) (F0 m 55 ls [.int (nI z)]) := by
          intro z ls hl hz
          have jn69 : ∀ (v : Nat) (ls : Array Slot), lv_has ls 7 [(6, .int (nI i)), (5, .int (nI z)), (4, .int (nI (sN (fun r => if runR V t r = V 71 + 1 then 1 else 0) i))), (3, .int (nI (mxR V t i))), (0, .ref g), (1, .int (nI t)), (2, .int (nI w))] → (v = mxR V t (i + 1)) → W p l e (headSpec wsX7_floats ({ frames := 2, cells := 0, slots := 0, locals := 43 })).room s m ([.ref g, .int (nI t), .int (nI w)] : List Value).toArray below meth c s.heap [] 0 0 (MQ below (vp_Si (fun rz => rz = nI (if w = 4 then mxR V t (V 16) else loT V t))) ([.ref g, .int (nI t), .int (nI w)] : List Value).toArray s 0 0 (fun _ => False)) (F0 m 69 ls [.int (nI v)]) := by
            intro v ls hl hv
            refine lv_istore_n (lv' := [(3, .int (nI v)), (6, .int (nI i)), (5, .int (nI z)), (4, .int (nI (sN (fun r => if runR V t r = V 71 + 1 then 1 else 0) i))), (0, .ref g), (1, .int (nI t)), (2, .int (nI w))]) hx hb dX7_floats_69 rfl hl (by decide) rfl (fun ls hl => ?_)
            refine lv_iload hx hb dX7_floats_70 (lv_at hl 3 rfl) ?_
            refine lv_iload hx hb dX7_floats_72 (lv_at hl 2 rfl) ?_
            refine lv_aload_n hx hb dX7_floats_74 rfl (lv_at hl 4 rfl) ?_
            refine va_get (D := D) (ci := 7) (v := .ref s0) (C := RX7) (T := TX7) (N := 14) hx hb hts hin_X7 hown hK.1 hP 0 rfl rfl 0 (by decide) f_7 (fun _ h9 => h9) rfl dX7_floats_75 ?_
            refine lv_bipush (v := nI 71) hx hb dX7_floats_78 (by decide) ?_
            refine xn_iald hx hb hK hP 1 rfl (by omega) (by first | decide | omega) (v := nI (V 71)) (rfl) dX7_floats_80 ?_
            refine lv_iconst (v := nI 1) hx hb dX7_floats_81 (by decide) ?_
            refine xn_add hx hb (r := ((V 71) + 1)) rfl dX7_floats_82 ?_
            refine xn_icmp_ne hx hb (by omega) (by omega) (tgt := 90) dX7_floats_83 (by decide) (fun kc83 => ?_) (fun kc83 => ?_)
            · refine lv_iconst (v := nI 0) hx hb dX7_floats_90 (by decide) ?_
              refine xn_add hx hb (r := ((sN (fun r => if runR V t r = V 71 + 1 then 1 else 0) i) + 0)) rfl dX7_floats_91 ?_
              refine lv_istore (lv' := [(4, .int (nI ((sN (fun r => if runR V t r = V 71 + 1 then 1 else 0) i) + 0))), (3, .int (nI v)), (6, .int (nI i)), (5, .int (nI z)), (0, .ref g), (1, .int (nI t)), (2, .int (nI w))]) hx hb dX7_floats_92 hl (by decide) rfl (fun ls hl => ?_)
              refine lv_iinc (v := nI (i + 1)) (lv' := [(6, .int (nI (i + 1))), (4, .int (nI ((sN (fun r => if runR V t r = V 71 + 1 then 1 else 0) i) + 0))), (3, .int (nI v)), (5, .int (nI z)), (0, .ref g), (1, .int (nI t)), (2, .int (nI w))]) hx hb dX7_floats_94 hl (k := 2) rfl (nI_add i 1) (by decide) rfl (fun ls hl => ?_)
              refine lv_goto (tgt := 11) hx hb dX7_floats_97 (by decide) ?_
              have e1 : z = (rnP V t (i + 1)) := hz
              have e2 : ((sN (fun r => if runR V t r = V 71 + 1 then 1 else 0) i) + 0) = (sN (fun r => if runR V t r = V 71 + 1 then 1 else 0) (i + 1)) := by rw [sN_s]; show _ = _ + (if runR V t i = V 71 + 1 then 1 else 0); first | rw [if_pos (by omega)] | rw [if_neg (by omega)]
              have e3 : v = (mxR V t (i + 1)) := hv
              exact ih11 (i + 1) (by omega) (by omega) ls (xl_eq (b := [(6, .int (nI (i + 1))), (5, .int (nI (rnP V t (i + 1)))), (4, .int (nI (sN (fun r => if runR V t r = V 71 + 1 then 1 else 0) (i + 1)))), (3, .int (nI (mxR V t (i + 1)))), (0, .ref g), (1, .int (nI t)), (2, .int (nI w))]) (lv_sub (l' := [(6, .int (nI (i + 1))), (5, .int (nI z)), (4, .int (nI ((sN (fun r => if runR V t r = V 71 + 1 then 1 else 0) i) + 0))), (3, .int (nI v)), (0, .ref g), (1, .int (nI t)), (2, .int (nI w))]) hl [0, 3, 1, 2, 4, 5, 6] rfl) (xk rfl (xk (congrArg (fun z : Nat => Value.int (nI z)) e1) (xk (congrArg (fun z : Nat => Value.int (nI z)) e2) (xk (congrArg (fun z : Nat => Value.int (nI z)) e3) (xk rfl (xk rfl (xk rfl (rfl : ([] : List (Nat × Value)) = [])))))))))
            · refine lv_iconst (v := nI 1) hx hb dX7_floats_86 (by decide) ?_
              refine lv_goto (tgt := 91) hx hb dX7_floats_87 (by decide) ?_
              refine xn_add hx hb (r := ((sN (fun r => if runR V t r = V 71 + 1 then 1 else 0) i) + 1)) rfl dX7_floats_91 ?_
              refine lv_istore (lv' := [(4, .int (nI ((sN (fun r => if runR V t r = V 71 + 1 then 1 else 0) i) + 1))), (3, .int (nI v)), (6, .int (nI i)), (5, .int (nI z)), (0, .ref g), (1, .int (nI t)), (2, .int (nI w))]) hx hb dX7_floats_92 hl (by decide) rfl (fun ls hl => ?_)
              refine lv_iinc (v := nI (i + 1)) (lv' := [(6, .int (nI (i + 1))), (4, .int (nI ((sN (fun r => if runR V t r = V 71 + 1 then 1 else 0) i) + 1))), (3, .int (nI v)), (5, .int (nI z)), (0, .ref g), (1, .int (nI t)), (2, .int (nI w))]) hx hb dX7_floats_94 hl (k := 2) rfl (nI_add i 1) (by decide) rfl (fun ls hl => ?_)
              refine lv_goto (tgt := 11) hx hb dX7_floats_97 (by decide) ?_
              have e4 : z = (rnP V t (i + 1)) := hz
              have e5 : ((sN (fun r => if runR V t r = V 71 + 1 then 1 else 0) i) + 1) = (sN (fun r => if runR V t r = V 71 + 1 then 1 else 0) (i + 1)) := by rw [sN_s]; show _ = _ + (if runR V t i = V 71 + 1 then 1 else 0); first | rw [if_pos (by omega)] | rw [if_neg (by omega)]
              have e6 : v = (mxR V t (i + 1)) := hv
              exact ih11 (i + 1) (by omega) (by omega) ls (xl_eq (b := [(6, .int (nI (i + 1))), (5, .int (nI (rnP V t (i + 1)))), (4, .int (nI (sN (fun r => if runR V t r = V 71 + 1 then 1 else 0) (i + 1)))), (3, .int (nI (mxR V t (i + 1)))), (0, .ref g), (1, .int (nI t)), (2, .int (nI w))]) (lv_sub (l' := [(6, .int (nI (i + 1))), (5, .int (nI z)), (4, .int (nI ((sN (fun r => if runR V t r = V 71 + 1 then 1 else 0) i) + 1))), (3, .int (nI v)), (0, .ref g), (1, .int (nI t)), (2, .int (nI w))]) hl [0, 3, 1, 2, 4, 5, 6] rfl) (xk rfl (xk (congrArg (fun z : Nat => Value.int (nI z)) e4) (xk (congrArg (fun z : Nat => Value.int (nI z)) e5) (xk (congrArg (fun z : Nat => Value.int (nI z)) e6) (xk rfl (xk rfl (xk rfl (rfl : ([] : List (Nat × Value)) = [])))))))))
          refine lv_istore (lv' := [(5, .int (nI z)), (6, .int (nI i)), (4, .int (nI (sN (fun r => if runR V t r = V 71 + 1 then 1 else 0) i))), (3, .int (nI (mxR V t i))), (0, .ref g), (1, .int (nI t)), (2, .int (nI w))]) hx hb dX7_floats_55 hl (by decide) rfl (fun ls hl => ?_)
          refine lv_iload hx hb dX7_floats_57 (lv_at hl 0 rfl) ?_
          refine lv_iload_n hx hb dX7_floats_59 rfl (lv_at hl 3 rfl) ?_
          refine xn_icmp_le hx hb (by omega) (by omega) (tgt := 68) dX7_floats_60 (by decide) (fun kc60 => ?_) (fun kc60 => ?_)
          · refine lv_iload_n hx hb dX7_floats_68 rfl (lv_at hl 3 rfl) ?_
            exact jn69 (mxR V t i) ls (lv_sub hl [1, 0, 2, 3, 4, 5, 6] rfl) (by rw [mxR, ← hz]; first | rw [if_neg (by omega)] | rw [if_pos (by omega)])
          · refine lv_iload hx hb dX7_floats_63 (lv_at hl 0 rfl) ?_
            refine lv_goto (tgt := 69) hx hb dX7_floats_65 (by decide) ?_
            exact jn69 z ls (lv_sub hl [1, 0, 2, 3, 4, 5, 6] rfl) (by rw [mxR, ← hz]; first | rw [if_neg (by omega)] | rw [if_pos (by omega)])
        refine lv_iload hx hb dX7_floats_23 (lv_at hl 0 rfl) ?_
        refine xn_if_le hx hb (by omega) (tgt := 54) dX7_floats_25 (by decide) (fun kc25 => ?_) (fun kc25 => ?_)
        · refine lv_iconst (v := nI 1) hx hb dX7_floats_54 (by decide) ?_
          exact jn55 1 ls (lv_sub hl [0, 1, 2, 3, 4, 5, 6] rfl) (by first | exact rn_f (Or.inl kc25) | exact rn_f (Or.inr kc44))
        · refine lv_aload_n hx hb dX7_floats_28 rfl (lv_at hl 4 rfl) ?_
          refine lv_iload hx hb dX7_floats_29 (lv_at hl 0 rfl) ?_
          refine lv_iload_n hx hb dX7_floats_31 rfl (lv_at hl 5 rfl) ?_
          refine xc_V (As := [.int (nI i), .int (nI t)]) (rest := []) ⟨hx, hb, hml, hown, hts⟩ (c_X7_sounds_n l D y g s0 a0 b0 x0 kn L ta wr le o1 o2 po rs ca V hI i (by omega) t (by omega)) (cwV 2 hts gX7_floats_X7_sounds rfl rfl rfl hd_X7_sounds ⟨Nat.le_of_ble_eq_true rfl, Nat.le_of_ble_eq_true rfl⟩) (xpv_r hK hP [0, 1] 0 rfl rfl rfl) rfl hl.1 rfl (Nat.le_of_ble_eq_true rfl) dX7_floats_32 ⟨Nat.zero_le _, Nat.zero_le _⟩ (fun r7 hr7 => ?_)
          subst hr7
          refine lv_aload_n hx hb dX7_floats_35 rfl (lv_at hl 4 rfl) ?_
          refine lv_iload hx hb dX7_floats_36 (lv_at hl 0 rfl) ?_
          refine lv_iconst (v := nI 1) hx hb dX7_floats_38 (by decide) ?_
          refine xn_sub hx hb (r := (i - 1)) (by omega) rfl dX7_floats_39 ?_
          refine lv_iload_n hx hb dX7_floats_40 rfl (lv_at hl 5 rfl) ?_
          refine xc_V (As := [.int (nI (i - 1)), .int (nI t)]) (rest := [.int (nI (sndN V i t))]) ⟨hx, hb, hml, hown, hts⟩ (c_X7_sounds_n l D y g s0 a0 b0 x0 kn L ta wr le o1 o2 po rs ca V hI (i - 1) (by omega) t (by omega)) (cwV 2 hts gX7_floats_X7_sounds rfl rfl rfl hd_X7_sounds ⟨Nat.le_of_ble_eq_true rfl, Nat.le_of_ble_eq_true rfl⟩) (xpv_r hK hP [0, 1] 0 rfl rfl rfl) rfl hl.1 rfl (Nat.le_of_ble_eq_true rfl) dX7_floats_41 ⟨Nat.zero_le _, Nat.zero_le _⟩ (fun r8 hr8 => ?_)
          subst hr8
          refine xn_icmp_ne hx hb (by omega) (by omega) (tgt := 54) dX7_floats_44 (by decide) (fun kc44 => ?_) (fun kc44 => ?_)
          · refine lv_iconst (v := nI 1) hx hb dX7_floats_54 (by decide) ?_
            exact jn55 1 ls (lv_sub hl [0, 1, 2, 3, 4, 5, 6] rfl) (by first | exact rn_f (Or.inl kc25) | exact rn_f (Or.inr kc44))
          · refine lv_iload hx hb dX7_floats_47 (lv_at hl 1 rfl) ?_
            refine lv_iconst (v := nI 1) hx hb dX7_floats_49 (by decide) ?_
            refine xn_add hx hb (r := ((rnP V t i) + 1)) rfl dX7_floats_50 ?_
            refine lv_goto (tgt := 55) hx hb dX7_floats_51 (by decide) ?_
            exact jn55 ((rnP V t i) + 1) ls (lv_sub hl [0, 1, 2, 3, 4, 5, 6] rfl) (rn_t kc25 kc44)
  have e9 : 0 = (rnP V t 0) := rfl
  have e10 : 0 = (sN (fun r => if runR V t r = V 71 + 1 then 1 else 0) 0) := rfl
  have e11 : 0 = (mxR V t 0) := rfl
  exact lp11 ((V 16 - 0) + 1) 0 (Nat.lt_succ_self _) (by omega) ls (xl_eq (b := [(6, .int (nI 0)), (5, .int (nI (rnP V t 0))), (4, .int (nI (sN (fun r => if runR V t r = V 71 + 1 then 1 else 0) 0))), (3, .int (nI (mxR V t 0))), (0, .ref g), (1, .int (nI t)), (2, .int (nI w))]) (lv_sub (l' := [(6, .int (nI 0)), (5, .int (nI 0)), (4, .int (nI 0)), (3, .int (nI 0)), (0, .ref g), (1, .int (nI t)), (2, .int (nI w))]) hl [0, 1, 2, 3, 4, 5, 6] rfl) (xk rfl (xk (congrArg (fun z : Nat => Value.int (nI z)) e9) (xk (congrArg (fun z : Nat => Value.int (nI z)) e10) (xk (congrArg (fun z : Nat => Value.int (nI z)) e11) (xk rfl (xk rfl (xk rfl (rfl : ([] : List (Nat × Value)) = [])))))))))
set_option maxHeartbeats 8000000 in
set_option maxRecDepth 100000 in
theorem c_X7_cardOf (l : Launch) (D : va_G) (y : Nat → ClassId) (g s0 a0 b0 x0 kn L ta wr le : Nat) (o1 o2 : Int32) (po rs : Nat) (ca : Int32) (V : Nat → Nat) (hI : Inv V) (x w : Int32) : Met l yX7_cardOf wsX7_cardOf ({ frames := 4, cells := 0, slots := 0, locals := 88 }) (va_Pc [.ref g, .int x, .int w] (xPr D y [(g, .inr (7, [.ref s0, .ref a0, .ref b0, .int (nI kn), .ref x0, .int (nI L), .int (nI ta), .int (nI wr), .int (nI le), .int o1, .int o2, .int (nI po), .int (nI rs), .int ca])), (s0, .inl (y 1, 72, .inl (fun j9 => nI (V j9))))])) (vp_Si (fun rz => rz = caI V x w)) 0 0 (fun _ => False) := by
  refine Met.ofW (cc := cX7_cardOf) (maxL := 4) (ret := (some .int)) (by decide) rfl ?_
  intro p e s m args below meth c s₁ B hml hv
  obtain ⟨rfl, hP, hK⟩ := hv
  have hx := B.exec
  have hb := B.bytes
  have hr := B.returns
  have hts := atoms_spec (ws := wsX7_cardOf) B.pre
  have hown : s.vm.findClass RX7 = some m.cls := findClass_of_methodNamed B.named
  have hlocks := B.notSynchronized
  have f_51 := hts (.constant RX7 51 (-1000001)) (by decide +kernel)
  have f_7 := hts (.fieldLink RX7 7 "LoomTunesModel" "s" "[I") (by decide +kernel)
  have hin_X7 : ∀ w ∈ wsX70, w ∈ wsX7_cardOf := by decide +kernel
  have hP : va_P D vwCl [(g, .inr (7, [.ref s0, .ref a0, .ref b0, .int (nI kn), .ref x0, .int (nI L), .int (nI ta), .int (nI wr), .int (nI le), .int o1, .int o2, .int (nI po), .int (nI rs), .int ca])), (s0, .inl (y 1, 72, .inl (fun j9 => nI (V j9))))] s.heap := hP
  have hl := lv_entry ([.ref g, .int x, .int w]) (n := 4) (Nat.le_of_ble_eq_true rfl)
  rw [lg_entry_eq]
  generalize (lg_sl ([.ref g, .int x, .int w]) ++ List.replicate (4 - (lg_sl ([.ref g, .int x, .int w])).length) Slot.unset).toArray = ls at hl ⊢
  have hl : lv_has ls 4 [(0, .ref g), (1, .int x), (2, .int w)] := hl
  have hsz := hI.sz
  have hbl := bN_lt (c := inR x (V 16))
  have hs0 := hI.s0
  refine lv_aload_n hx hb dX7_cardOf_0 rfl (lv_at hl 0 rfl) ?_
  refine lv_iload_n hx hb dX7_cardOf_1 rfl (lv_at hl 1 rfl) ?_
  refine xc_V (As := [.int x]) (rest := []) ⟨hx, hb, hml, hown, hts⟩ (c_X7_isCard l D y g s0 a0 b0 x0 kn L ta wr le o1 o2 po rs ca V hI x) (cwV 1 hts gX7_cardOf_X7_isCard rfl rfl rfl hd_X7_isCard ⟨Nat.le_of_ble_eq_true rfl, Nat.le_of_ble_eq_true rfl⟩) (xpv_r hK hP [0, 1] 0 rfl rfl rfl) rfl hl.1 rfl (Nat.le_of_ble_eq_true rfl) dX7_cardOf_2 ⟨Nat.zero_le _, Nat.zero_le _⟩ (fun r1 hr1 => ?_)
  subst hr1
  refine xn_if_ne hx hb (by omega) (tgt := 11) dX7_cardOf_5 (by decide) (fun kc5 => ?_) (fun kc5 => ?_)
  · obtain ⟨k, hk, rfl⟩ := inR_k (by omega) (bN_n0.mp kc5)
    have hho := hI.ho (k := k) (by omega)
    have hls : V (17 + k) = hol V k := (if_pos hk).symm
    refine lv_aload_n hx hb dX7_cardOf_11 rfl (lv_at hl 0 rfl) ?_
    refine va_get (D := D) (ci := 7) (v := .ref s0) (C := RX7) (T := TX7) (N := 14) hx hb hts hin_X7 hown hK.1 hP 0 rfl rfl 0 (by decide) f_7 (fun _ h9 => h9) rfl dX7_cardOf_12 ?_
    refine lv_bipush (v := nI 17) hx hb dX7_cardOf_15 (by decide) ?_
    refine lv_iload_n hx hb dX7_cardOf_17 rfl (lv_at hl 1 rfl) ?_
    refine xn_add hx hb (r := (17 + k)) rfl dX7_cardOf_18 ?_
    refine xn_iald hx hb hK hP 1 rfl (by omega) (by first | decide | omega) (v := nI (V (17 + k))) (rfl) dX7_cardOf_19 ?_
    refine lv_istore_n (lv' := [(3, .int (nI (V (17 + k)))), (0, .ref g), (1, .int (nI k)), (2, .int w)]) hx hb dX7_cardOf_20 rfl hl (by decide) rfl (fun ls hl => ?_)
    refine lv_iload_n hx hb dX7_cardOf_21 rfl (lv_at hl 3 rfl) ?_
    rcases xsw w 10 (by decide) with hsw | ⟨kw, hkw, hke⟩
    · refine lv_tableOut (tgt := 143) hx hb dX7_cardOf_22 (by have := hsw.1; omega) (by decide) ?_
      refine lv_ldc hx hb hown f_51 dX7_cardOf_143 ?_
      exact xr_i hx hb hr hlocks dX7_cardOf_145 (caI_f (fun hq => hsw.2 hq.2))
    · rcases (show kw = 0 ∨ kw = 1 ∨ kw = 2 ∨ kw = 3 ∨ kw = 4 ∨ kw = 5 ∨ kw = 6 ∨ kw = 7 ∨ kw = 8 ∨ kw = 9 by omega) with rfl | rfl | rfl | rfl | rfl | rfl | rfl | rfl | rfl | rfl
      · subst hke
        refine lv_tableIn (tgt := 76) (off := 54) hx hb dX7_cardOf_22 (by decide) (by decide) (by decide) (by decide) ?_
        refine lv_iload_n hx hb dX7_cardOf_76 rfl (lv_at hl 0 rfl) ?_
        exact xr_i hx hb hr hlocks dX7_cardOf_77 ((congrArg nI hls).trans (caI_n (w := 0) hI hk (by decide)).symm)
      · subst hke
        refine lv_tableIn (tgt := 78) (off := 56) hx hb dX7_cardOf_22 (by decide) (by decide) (by decide) (by decide) ?_
        refine lv_iload_n hx hb dX7_cardOf_78 rfl (lv_at hl 0 rfl) ?_
        refine xc_S (As := [.int (nI (V (17 + k)))]) (rest := []) ⟨hx, hb, hml, hown, hts⟩ (c_X7_bits l (V (17 + k)) (by omega)) (va_cwS 1 hts gX7_cardOf_X7_bits rfl rfl rfl hd_X7_bits.2 ⟨Nat.le_of_ble_eq_true rfl, Nat.le_of_ble_eq_true rfl⟩) xps_0 rfl hl.1 rfl (Nat.le_of_ble_eq_true rfl) dX7_cardOf_79 ⟨Nat.zero_le _, Nat.zero_le _⟩ (fun r2 hr2 => ?_)
        subst hr2
        exact xr_i hx hb hr hlocks dX7_cardOf_82 ((congrArg nI (congrArg pop hls)).trans (caI_n (w := 1) hI hk (by decide)).symm)
      · subst hke
        refine lv_tableIn (tgt := 83) (off := 61) hx hb dX7_cardOf_22 (by decide) (by decide) (by decide) (by decide) ?_
        refine lv_aload_n hx hb dX7_cardOf_83 rfl (lv_at hl 1 rfl) ?_
        refine va_get (D := D) (ci := 7) (v := .ref s0) (C := RX7) (T := TX7) (N := 14) hx hb hts hin_X7 hown hK.1 hP 0 rfl rfl 0 (by decide) f_7 (fun _ h9 => h9) rfl dX7_cardOf_84 ?_
        refine lv_bipush (v := nI 41) hx hb dX7_cardOf_87 (by decide) ?_
        refine lv_iload_n hx hb dX7_cardOf_89 rfl (lv_at hl 2 rfl) ?_
        refine xn_add hx hb (r := (41 + k)) rfl dX7_cardOf_90 ?_
        refine xn_iald hx hb hK hP 1 rfl (by omega) (by first | decide | omega) (v := nI (V (41 + k))) (rfl) dX7_cardOf_91 ?_
        exact xr_i hx hb hr hlocks dX7_cardOf_92 ((caI_n (w := 2) hI hk (by decide)).symm)
      · subst hke
        refine lv_tableIn (tgt := 93) (off := 71) hx hb dX7_cardOf_22 (by decide) (by decide) (by decide) (by decide) ?_
        refine lv_aload_n hx hb dX7_cardOf_93 rfl (lv_at hl 1 rfl) ?_
        refine lv_iload_n hx hb dX7_cardOf_94 rfl (lv_at hl 0 rfl) ?_
        refine xc_V (As := [.int (nI (V (17 + k)))]) (rest := []) ⟨hx, hb, hml, hown, hts⟩ (c_X7_clashes l D y g s0 a0 b0 x0 kn L ta wr le o1 o2 po rs ca V hI (V (17 + k)) (by first | omega | exact hol_lt hI)) (cwV 1 hts gX7_cardOf_X7_clashes rfl rfl rfl hd_X7_clashes ⟨Nat.le_of_ble_eq_true rfl, Nat.le_of_ble_eq_true rfl⟩) (xpv_r hK hP [0, 1] 0 rfl rfl rfl) rfl hl.1 rfl (Nat.le_of_ble_eq_true rfl) dX7_cardOf_95 ⟨Nat.zero_le _, Nat.zero_le _⟩ (fun r3 hr3 => ?_)
        subst hr3
        exact xr_i hx hb hr hlocks dX7_cardOf_98 ((congrArg nI (congrArg (cls V) hls)).trans (caI_n (w := 3) hI hk (by decide)).symm)
      · subst hke
        refine lv_tableIn (tgt := 99) (off := 77) hx hb dX7_cardOf_22 (by decide) (by decide) (by decide) (by decide) ?_
        refine lv_aload_n hx hb dX7_cardOf_99 rfl (lv_at hl 1 rfl) ?_
        refine lv_iload_n hx hb dX7_cardOf_100 rfl (lv_at hl 0 rfl) ?_
        refine xc_V (As := [.int (nI (V (17 + k)))]) (rest := []) ⟨hx, hb, hml, hown, hts⟩ (c_X7_notes l D y g s0 a0 b0 x0 kn L ta wr le o1 o2 po rs ca V hI k (by omega)) (cwV 1 hts gX7_cardOf_X7_notes rfl rfl rfl hd_X7_notes ⟨Nat.le_of_ble_eq_true rfl, Nat.le_of_ble_eq_true rfl⟩) (xpv_r hK hP [0, 1] 0 rfl rfl rfl) rfl hl.1 rfl (Nat.le_of_ble_eq_true rfl) dX7_cardOf_101 ⟨Nat.zero_le _, Nat.zero_le _⟩ (fun r4 hr4 => ?_)
        subst hr4
        exact xr_i hx hb hr hlocks dX7_cardOf_104 ((caI_n (w := 4) hI hk (by decide)).symm)
      · subst hke
        refine lv_tableIn (tgt := 105) (off := 83) hx hb dX7_cardOf_22 (by decide) (by decide) (by decide) (by decide) ?_
        refine lv_aload_n hx hb dX7_cardOf_105 rfl (lv_at hl 1 rfl) ?_
        refine lv_iload_n hx hb dX7_cardOf_106 rfl (lv_at hl 2 rfl) ?_
        refine lv_iload_n hx hb dX7_cardOf_107 rfl (lv_at hl 3 rfl) ?_
        refine lv_iconst (v := nI 5) hx hb dX7_cardOf_108 (by decide) ?_
        refine lv_icmp_ne (tgt := 116) hx hb dX7_cardOf_109 (by decide) (fun h => absurd h (by decide)) (fun _ => ?_)
        refine lv_iconst (v := nI 1) hx hb dX7_cardOf_112 (by decide) ?_
        refine lv_goto (tgt := 117) hx hb dX7_cardOf_113 (by decide) ?_
        refine xc_V (As := [.int (nI k), .int (nI 1)]) (rest := []) ⟨hx, hb, hml, hown, hts⟩ (c_X7_outermost_h l D y g s0 a0 b0 x0 kn L ta wr le o1 o2 po rs ca V hI k (by omega)) (cwV 2 hts gX7_cardOf_X7_outermost rfl rfl rfl hd_X7_outermost ⟨Nat.le_of_ble_eq_true rfl, Nat.le_of_ble_eq_true rfl⟩) (xpv_r hK hP [0, 1] 0 rfl rfl rfl) rfl hl.1 rfl (Nat.le_of_ble_eq_true rfl) dX7_cardOf_117 ⟨Nat.zero_le _, Nat.zero_le _⟩ (fun r5 hr5 => ?_)
        subst hr5
        exact xr_i hx hb hr hlocks dX7_cardOf_120 ((caI_n (w := 5) hI hk (by decide)).symm)
      · subst hke
        refine lv_tableIn (tgt := 105) (off := 83) hx hb dX7_cardOf_22 (by decide) (by decide) (by decide) (by decide) ?_
        refine lv_aload_n hx hb dX7_cardOf_105 rfl (lv_at hl 1 rfl) ?_
        refine lv_iload_n hx hb dX7_cardOf_106 rfl (lv_at hl 2 rfl) ?_
        refine lv_iload_n hx hb dX7_cardOf_107 rfl (lv_at hl 3 rfl) ?_
        refine lv_iconst (v := nI 5) hx hb dX7_cardOf_108 (by decide) ?_
        refine lv_icmp_ne (tgt := 116) hx hb dX7_cardOf_109 (by decide) (fun _ => ?_) (fun h => absurd h (by decide))
        refine lv_iconst (v := nI 0) hx hb dX7_cardOf_116 (by decide) ?_
        refine xc_V (As := [.int (nI k), .int (nI 0)]) (rest := []) ⟨hx, hb, hml, hown, hts⟩ (c_X7_outermost_l l D y g s0 a0 b0 x0 kn L ta wr le o1 o2 po rs ca V hI k (by omega)) (cwV 2 hts gX7_cardOf_X7_outermost rfl rfl rfl hd_X7_outermost ⟨Nat.le_of_ble_eq_true rfl, Nat.le_of_ble_eq_true rfl⟩) (xpv_r hK hP [0, 1] 0 rfl rfl rfl) rfl hl.1 rfl (Nat.le_of_ble_eq_true rfl) dX7_cardOf_117 ⟨Nat.zero_le _, Nat.zero_le _⟩ (fun r6 hr6 => ?_)
        subst hr6
        exact xr_i hx hb hr hlocks dX7_cardOf_120 ((caI_n (w := 6) hI hk (by decide)).symm)
      · subst hke
        refine lv_tableIn (tgt := 121) (off := 99) hx hb dX7_cardOf_22 (by decide) (by decide) (by decide) (by decide) ?_
        refine lv_aload_n hx hb dX7_cardOf_121 rfl (lv_at hl 1 rfl) ?_
        refine lv_iload_n hx hb dX7_cardOf_122 rfl (lv_at hl 2 rfl) ?_
        refine xc_V (As := [.int (nI k)]) (rest := []) ⟨hx, hb, hml, hown, hts⟩ (c_X7_tonesOf l D y g s0 a0 b0 x0 kn L ta wr le o1 o2 po rs ca V hI k (by omega)) (cwV 1 hts gX7_cardOf_X7_tonesOf rfl rfl rfl hd_X7_tonesOf ⟨Nat.le_of_ble_eq_true rfl, Nat.le_of_ble_eq_true rfl⟩) (xpv_r hK hP [0, 1] 0 rfl rfl rfl) rfl hl.1 rfl (Nat.le_of_ble_eq_true rfl) dX7_cardOf_123 ⟨Nat.zero_le _, Nat.zero_le _⟩ (fun r7 hr7 => ?_)
        subst hr7
        exact xr_i hx hb hr hlocks dX7_cardOf_126 ((caI_n (w := 7) hI hk (by decide)).symm)
      · subst hke
        refine lv_tableIn (tgt := 127) (off := 105) hx hb dX7_cardOf_22 (by decide) (by decide) (by decide) (by decide) ?_
        refine lv_iload_n hx hb dX7_cardOf_127 rfl (lv_at hl 2 rfl) ?_
        refine lv_aload_n hx hb dX7_cardOf_128 rfl (lv_at hl 1 rfl) ?_
        refine va_get (D := D) (ci := 7) (v := .ref s0) (C := RX7) (T := TX7) (N := 14) hx hb hts hin_X7 hown hK.1 hP 0 rfl rfl 0 (by decide) f_7 (fun _ h9 => h9) rfl dX7_cardOf_129 ?_
        refine lv_bipush (v := nI 68) hx hb dX7_cardOf_132 (by decide) ?_
        refine xn_iald hx hb hK hP 1 rfl (by omega) (by first | decide | omega) (v := nI (V 68)) (rfl) dX7_cardOf_134 ?_
        refine xn_div hx hb (r := (k / (V 68))) (by omega) (by omega) (by omega) rfl dX7_cardOf_135 ?_
        exact xr_i hx hb hr hlocks dX7_cardOf_136 ((caI_n (w := 8) hI hk (by decide)).symm)
      · subst hke
        refine lv_tableIn (tgt := 137) (off := 115) hx hb dX7_cardOf_22 (by decide) (by decide) (by decide) (by decide) ?_
        refine lv_aload_n hx hb dX7_cardOf_137 rfl (lv_at hl 1 rfl) ?_
        refine lv_iload_n hx hb dX7_cardOf_138 rfl (lv_at hl 2 rfl) ?_
        refine xc_V (As := [.int (nI k)]) (rest := []) ⟨hx, hb, hml, hown, hts⟩ (c_X7_colours l D y g s0 a0 b0 x0 kn L ta wr le o1 o2 po rs ca V hI k (by omega)) (cwV 1 hts gX7_cardOf_X7_colours rfl rfl rfl hd_X7_colours ⟨Nat.le_of_ble_eq_true rfl, Nat.le_of_ble_eq_true rfl⟩) (xpv_r hK hP [0, 1] 0 rfl rfl rfl) rfl hl.1 rfl (Nat.le_of_ble_eq_true rfl) dX7_cardOf_139 ⟨Nat.zero_le _, Nat.zero_le _⟩ (fun r8 hr8 => ?_)
        subst hr8
        exact xr_i hx hb hr hlocks dX7_cardOf_142 ((caI_n (w := 9) hI hk (by decide)).symm)
  · refine lv_ldc hx hb hown f_51 dX7_cardOf_8 ?_
    exact xr_i hx hb hr hlocks dX7_cardOf_10 (caI_f (fun hq => (bN_0.mp kc5) hq.1))
set_option maxHeartbeats 8000000 in
set_option maxRecDepth 100000 in
theorem c_X7_threadOf (l : Launch) (D : va_G) (y : Nat → ClassId) (g s0 a0 b0 x0 kn L ta wr le : Nat) (o1 o2 : Int32) (po rs : Nat) (ca : Int32) (V : Nat → Nat) (hI : Inv V) (x w : Int32) : Met l yX7_threadOf wsX7_threadOf ({ frames := 4, cells := 0, slots := 0, locals := 89 }) (va_Pc [.ref g, .int x, .int w] (xPr D y [(g, .inr (7, [.ref s0, .ref a0, .ref b0, .int (nI kn), .ref x0, .int (nI L), .int (nI ta), .int (nI wr), .int (nI le), .int o1, .int o2, .int (nI po), .int (nI rs), .int ca])), (s0, .inl (y 1, 72, .inl (fun j9 => nI (V j9))))])) (vp_Si (fun rz => rz = thI V x w)) 0 0 (fun _ => False) := by
  refine Met.ofW (cc := cX7_threadOf) (maxL := 3) (ret := (some .int)) (by decide) rfl ?_
  intro p e s m args below meth c s₁ B hml hv
  obtain ⟨rfl, hP, hK⟩ := hv
  have hx := B.exec
  have hb := B.bytes
  have hr := B.returns
  have hts := atoms_spec (ws := wsX7_threadOf) B.pre
  have hown : s.vm.findClass RX7 = some m.cls := findClass_of_methodNamed B.named
  have hlocks := B.notSynchronized
  have f_51 := hts (.constant RX7 51 (-1000001)) (by decide +kernel)
  have f_7 := hts (.fieldLink RX7 7 "LoomTunesModel" "s" "[I") (by decide +kernel)
  have hin_X7 : ∀ w ∈ wsX70, w ∈ wsX7_threadOf := by decide +kernel
  have hP : va_P D vwCl [(g, .inr (7, [.ref s0, .ref a0, .ref b0, .int (nI kn), .ref x0, .int (nI L), .int (nI ta), .int (nI wr), .int (nI le), .int o1, .int o2, .int (nI po), .int (nI rs), .int ca])), (s0, .inl (y 1, 72, .inl (fun j9 => nI (V j9))))] s.heap := hP
  have hl := lv_entry ([.ref g, .int x, .int w]) (n := 3) (Nat.le_of_ble_eq_true rfl)
  rw [lg_entry_eq]
  generalize (lg_sl ([.ref g, .int x, .int w]) ++ List.replicate (3 - (lg_sl ([.ref g, .int x, .int w])).length) Slot.unset).toArray = ls at hl ⊢
  have hl : lv_has ls 3 [(0, .ref g), (1, .int x), (2, .int w)] := hl
  have hsz := hI.sz
  have hbl := bN_lt (c := ¬ x < nI 0 ∧ ¬ nI 7 < x)
  refine lv_iload_n hx hb dX7_threadOf_0 rfl (lv_at hl 1 rfl) ?_
  refine lv_iconst (v := nI 0) hx hb dX7_threadOf_1 (by decide) ?_
  refine lv_bipush (v := nI 7) hx hb dX7_threadOf_2 (by decide) ?_
  refine xc_S (As := [.int x, .int (nI 0), .int (nI 7)]) (rest := []) ⟨hx, hb, hml, hown, hts⟩ (c_X7_in l x (nI 0) (nI 7)) (va_cwS 3 hts gX7_threadOf_X7_in rfl rfl rfl hd_X7_in.2 ⟨Nat.le_of_ble_eq_true rfl, Nat.le_of_ble_eq_true rfl⟩) xps_0 rfl hl.1 rfl (Nat.le_of_ble_eq_true rfl) dX7_threadOf_4 ⟨Nat.zero_le _, Nat.zero_le _⟩ (fun r1 hr1 => ?_)
  subst hr1
  refine xn_if_ne hx hb (by omega) (tgt := 13) dX7_threadOf_7 (by decide) (fun kc7 => ?_) (fun kc7 => ?_)
  · obtain ⟨k, hk, rfl⟩ := inR_k (n := 8) (by decide) ((inx rfl (by decide)).mp (bN_n0.mp kc7))
    refine lv_iload_n hx hb dX7_threadOf_13 rfl (lv_at hl 2 rfl) ?_
    rcases xsw w 6 (by decide) with hsw | ⟨kw, hkw, hke⟩
    · refine lv_tableOut (tgt := 85) hx hb dX7_threadOf_14 (by have := hsw.1; omega) (by decide) ?_
      refine lv_ldc hx hb hown f_51 dX7_threadOf_85 ?_
      exact xr_i hx hb hr hlocks dX7_threadOf_87 (thI_f (fun hq => hsw.2 hq.2))
    · rcases (show kw = 0 ∨ kw = 1 ∨ kw = 2 ∨ kw = 3 ∨ kw = 4 ∨ kw = 5 by omega) with rfl | rfl | rfl | rfl | rfl | rfl
      · subst hke
        refine lv_tableIn (tgt := 52) (off := 38) hx hb dX7_threadOf_14 (by decide) (by decide) (by decide) (by decide) ?_
        refine lv_aload_n hx hb dX7_threadOf_52 rfl (lv_at hl 0 rfl) ?_
        refine va_get (D := D) (ci := 7) (v := .ref s0) (C := RX7) (T := TX7) (N := 14) hx hb hts hin_X7 hown hK.1 hP 0 rfl rfl 0 (by decide) f_7 (fun _ h9 => h9) rfl dX7_threadOf_53 ?_
        refine lv_iconst (v := nI 0) hx hb dX7_threadOf_56 (by decide) ?_
        refine lv_iload_n hx hb dX7_threadOf_57 rfl (lv_at hl 1 rfl) ?_
        refine xn_add hx hb (r := k) (Nat.zero_add _) dX7_threadOf_58 ?_
        refine xn_iald hx hb hK hP 1 rfl (by omega) (by first | decide | omega) (v := nI (V k)) (rfl) dX7_threadOf_59 ?_
        exact xr_i hx hb hr hlocks dX7_threadOf_60 ((thI_n (w := 0) hk (by decide)).symm)
      · subst hke
        refine lv_tableIn (tgt := 61) (off := 47) hx hb dX7_threadOf_14 (by decide) (by decide) (by decide) (by decide) ?_
        refine lv_aload_n hx hb dX7_threadOf_61 rfl (lv_at hl 0 rfl) ?_
        refine va_get (D := D) (ci := 7) (v := .ref s0) (C := RX7) (T := TX7) (N := 14) hx hb hts hin_X7 hown hK.1 hP 0 rfl rfl 0 (by decide) f_7 (fun _ h9 => h9) rfl dX7_threadOf_62 ?_
        refine lv_bipush (v := nI 8) hx hb dX7_threadOf_65 (by decide) ?_
        refine lv_iload_n hx hb dX7_threadOf_67 rfl (lv_at hl 1 rfl) ?_
        refine xn_add hx hb (r := (8 + k)) rfl dX7_threadOf_68 ?_
        refine xn_iald hx hb hK hP 1 rfl (by omega) (by first | decide | omega) (v := nI (V (8 + k))) (rfl) dX7_threadOf_69 ?_
        exact xr_i hx hb hr hlocks dX7_threadOf_70 ((thI_n (w := 1) hk (by decide)).symm)
      · subst hke
        refine lv_tableIn (tgt := 71) (off := 57) hx hb dX7_threadOf_14 (by decide) (by decide) (by decide) (by decide) ?_
        refine lv_aload_n hx hb dX7_threadOf_71 rfl (lv_at hl 0 rfl) ?_
        refine lv_iload_n hx hb dX7_threadOf_72 rfl (lv_at hl 1 rfl) ?_
        refine lv_iload_n hx hb dX7_threadOf_73 rfl (lv_at hl 2 rfl) ?_
        refine xc_V (As := [.int (nI k), .int (nI 2)]) (rest := []) ⟨hx, hb, hml, hown, hts⟩ (c_X7_rows l D y g s0 a0 b0 x0 kn L ta wr le o1 o2 po rs ca V hI k 2 (by omega) (by omega)) (cwV 2 hts gX7_threadOf_X7_rows rfl rfl rfl hd_X7_rows ⟨Nat.le_of_ble_eq_true rfl, Nat.le_of_ble_eq_true rfl⟩) (xpv_r hK hP [0, 1] 0 rfl rfl rfl) rfl hl.1 rfl (Nat.le_of_ble_eq_true rfl) dX7_threadOf_74 ⟨Nat.zero_le _, Nat.zero_le _⟩ (fun r2 hr2 => ?_)
        subst hr2
        refine xv (v := nI (toT V k)) rfl ?_
        exact xr_i hx hb hr hlocks dX7_threadOf_77 ((thI_n (w := 2) hk (by decide)).symm)
      · subst hke
        refine lv_tableIn (tgt := 71) (off := 57) hx hb dX7_threadOf_14 (by decide) (by decide) (by decide) (by decide) ?_
        refine lv_aload_n hx hb dX7_threadOf_71 rfl (lv_at hl 0 rfl) ?_
        refine lv_iload_n hx hb dX7_threadOf_72 rfl (lv_at hl 1 rfl) ?_
        refine lv_iload_n hx hb dX7_threadOf_73 rfl (lv_at hl 2 rfl) ?_
        refine xc_V (As := [.int (nI k), .int (nI 3)]) (rest := []) ⟨hx, hb, hml, hown, hts⟩ (c_X7_rows l D y g s0 a0 b0 x0 kn L ta wr le o1 o2 po rs ca V hI k 3 (by omega) (by omega)) (cwV 2 hts gX7_threadOf_X7_rows rfl rfl rfl hd_X7_rows ⟨Nat.le_of_ble_eq_true rfl, Nat.le_of_ble_eq_true rfl⟩) (xpv_r hK hP [0, 1] 0 rfl rfl rfl) rfl hl.1 rfl (Nat.le_of_ble_eq_true rfl) dX7_threadOf_74 ⟨Nat.zero_le _, Nat.zero_le _⟩ (fun r3 hr3 => ?_)
        subst hr3
        refine xv (v := nI (soR V k)) rfl ?_
        exact xr_i hx hb hr hlocks dX7_threadOf_77 ((thI_n (w := 3) hk (by decide)).symm)
      · subst hke
        refine lv_tableIn (tgt := 78) (off := 64) hx hb dX7_threadOf_14 (by decide) (by decide) (by decide) (by decide) ?_
        refine lv_aload_n hx hb dX7_threadOf_78 rfl (lv_at hl 0 rfl) ?_
        refine lv_iload_n hx hb dX7_threadOf_79 rfl (lv_at hl 1 rfl) ?_
        refine lv_iload_n hx hb dX7_threadOf_80 rfl (lv_at hl 2 rfl) ?_
        refine xc_V (As := [.int (nI k), .int (nI 4)]) (rest := []) ⟨hx, hb, hml, hown, hts⟩ (c_X7_floats l D y g s0 a0 b0 x0 kn L ta wr le o1 o2 po rs ca V hI k 4 (by omega) (by omega)) (cwV 2 hts gX7_threadOf_X7_floats rfl rfl rfl hd_X7_floats ⟨Nat.le_of_ble_eq_true rfl, Nat.le_of_ble_eq_true rfl⟩) (xpv_r hK hP [0, 1] 0 rfl rfl rfl) rfl hl.1 rfl (Nat.le_of_ble_eq_true rfl) dX7_threadOf_81 ⟨Nat.zero_le _, Nat.zero_le _⟩ (fun r4 hr4 => ?_)
        subst hr4
        refine xv (v := nI (mxR V k (V 16))) rfl ?_
        exact xr_i hx hb hr hlocks dX7_threadOf_84 ((thI_n (w := 4) hk (by decide)).symm)
      · subst hke
        refine lv_tableIn (tgt := 78) (off := 64) hx hb dX7_threadOf_14 (by decide) (by decide) (by decide) (by decide) ?_
        refine lv_aload_n hx hb dX7_threadOf_78 rfl (lv_at hl 0 rfl) ?_
        refine lv_iload_n hx hb dX7_threadOf_79 rfl (lv_at hl 1 rfl) ?_
        refine lv_iload_n hx hb dX7_threadOf_80 rfl (lv_at hl 2 rfl) ?_
        refine xc_V (As := [.int (nI k), .int (nI 5)]) (rest := []) ⟨hx, hb, hml, hown, hts⟩ (c_X7_floats l D y g s0 a0 b0 x0 kn L ta wr le o1 o2 po rs ca V hI k 5 (by omega) (by omega)) (cwV 2 hts gX7_threadOf_X7_floats rfl rfl rfl hd_X7_floats ⟨Nat.le_of_ble_eq_true rfl, Nat.le_of_ble_eq_true rfl⟩) (xpv_r hK hP [0, 1] 0 rfl rfl rfl) rfl hl.1 rfl (Nat.le_of_ble_eq_true rfl) dX7_threadOf_81 ⟨Nat.zero_le _, Nat.zero_le _⟩ (fun r5 hr5 => ?_)
        subst hr5
        refine xv (v := nI (loT V k)) rfl ?_
        exact xr_i hx hb hr hlocks dX7_threadOf_84 ((thI_n (w := 5) hk (by decide)).symm)
  · refine lv_ldc hx hb hown f_51 dX7_threadOf_10 ?_
    exact xr_i hx hb hr hlocks dX7_threadOf_12 (thI_f (fun hq => (bN_0.mp kc7) ((inx rfl (by decide)).mpr hq.1)))
set_option maxHeartbeats 8000000 in
set_option maxRecDepth 100000 in
theorem c_X7_toneOf (l : Launch) (D : va_G) (y : Nat → ClassId) (g s0 a0 b0 x0 kn L ta wr le : Nat) (o1 o2 : Int32) (po rs : Nat) (ca : Int32) (V : Nat → Nat) (hI : Inv V) (x w : Int32) : Met l yX7_toneOf wsX7_toneOf ({ frames := 3, cells := 0, slots := 0, locals := 66 }) (va_Pc [.ref g, .int x, .int w] (xPr D y [(g, .inr (7, [.ref s0, .ref a0, .ref b0, .int (nI kn), .ref x0, .int (nI L), .int (nI ta), .int (nI wr), .int (nI le), .int o1, .int o2, .int (nI po), .int (nI rs), .int ca])), (s0, .inl (y 1, 72, .inl (fun j9 => nI (V j9))))])) (vp_Si (fun rz => rz = toI V x w)) 0 0 (fun _ => False) := by
  refine Met.ofW (cc := cX7_toneOf) (maxL := 7) (ret := (some .int)) (by decide) rfl ?_
  intro p e s m args below meth c s₁ B hml hv
  obtain ⟨rfl, hP, hK⟩ := hv
  have hx := B.exec
  have hb := B.bytes
  have hr := B.returns
  have hts := atoms_spec (ws := wsX7_toneOf) B.pre
  have hown : s.vm.findClass RX7 = some m.cls := findClass_of_methodNamed B.named
  have hlocks := B.notSynchronized
  have f_51 := hts (.constant RX7 51 (-1000001)) (by decide +kernel)
  have f_7 := hts (.fieldLink RX7 7 "LoomTunesModel" "s" "[I") (by decide +kernel)
  have f_93 := hts (.constant RX7 93 (-1000004)) (by decide +kernel)
  have hin_X7 : ∀ w ∈ wsX70, w ∈ wsX7_toneOf := by decide +kernel
  have hP : va_P D vwCl [(g, .inr (7, [.ref s0, .ref a0, .ref b0, .int (nI kn), .ref x0, .int (nI L), .int (nI ta), .int (nI wr), .int (nI le), .int o1, .int o2, .int (nI po), .int (nI rs), .int ca])), (s0, .inl (y 1, 72, .inl (fun j9 => nI (V j9))))] s.heap := hP
  have hl := lv_entry ([.ref g, .int x, .int w]) (n := 7) (Nat.le_of_ble_eq_true rfl)
  rw [lg_entry_eq]
  generalize (lg_sl ([.ref g, .int x, .int w]) ++ List.replicate (7 - (lg_sl ([.ref g, .int x, .int w])).length) Slot.unset).toArray = ls at hl ⊢
  have hl : lv_has ls 7 [(0, .ref g), (1, .int x), (2, .int w)] := hl
  have hsz := hI.sz
  have hs0 := hI.s0
  have hnt : ∀ {k : Nat}, k < 8 → V k < 48 := fun hk => hI.nt hk
  have hbl := bN_lt (c := ¬ w < nI 0 ∧ ¬ nI 4 < w)
  refine lv_iload_n hx hb dX7_toneOf_0 rfl (lv_at hl 1 rfl) ?_
  refine lv_if_lt (tgt := 13) hx hb dX7_toneOf_1 (by decide) (fun kc1 => ?_) (fun kc1 => ?_)
  · refine lv_ldc hx hb hown f_51 dX7_toneOf_13 ?_
    exact xr_i hx hb hr hlocks dX7_toneOf_15 (toI_f (fun hq => by first | exact hq.1 kc1 | exact (bN_0.mp kc10) ((inx rfl (by decide)).mpr hq.2)))
  · refine lv_iload_n hx hb dX7_toneOf_4 rfl (lv_at hl 2 rfl) ?_
    refine lv_iconst (v := nI 0) hx hb dX7_toneOf_5 (by decide) ?_
    refine lv_iconst (v := nI 4) hx hb dX7_toneOf_6 (by decide) ?_
    refine xc_S (As := [.int w, .int (nI 0), .int (nI 4)]) (rest := []) ⟨hx, hb, hml, hown, hts⟩ (c_X7_in l w (nI 0) (nI 4)) (va_cwS 3 hts gX7_toneOf_X7_in rfl rfl rfl hd_X7_in.2 ⟨Nat.le_of_ble_eq_true rfl, Nat.le_of_ble_eq_true rfl⟩) xps_0 rfl hl.1 rfl (Nat.le_of_ble_eq_true rfl) dX7_toneOf_7 ⟨Nat.zero_le _, Nat.zero_le _⟩ (fun r1 hr1 => ?_)
    subst hr1
    refine xn_if_ne hx hb (by omega) (tgt := 16) dX7_toneOf_10 (by decide) (fun kc10 => ?_) (fun kc10 => ?_)
    · obtain ⟨k, hk, rfl⟩ := nI_of kc1
      obtain ⟨kw, hkw, rfl⟩ := inR_k (n := 5) (by decide) ((inx rfl (by decide)).mp (bN_n0.mp kc10))
      refine lv_iconst (v := nI 0) hx hb dX7_toneOf_16 (by decide) ?_
      refine lv_istore_n (lv' := [(3, .int (nI 0)), (0, .ref g), (1, .int (nI k)), (2, .int (nI kw))]) hx hb dX7_toneOf_17 rfl hl (by decide) rfl (fun ls hl => ?_)
      refine lv_iconst (v := nI 0) hx hb dX7_toneOf_18 (by decide) ?_
      refine lv_istore (lv' := [(4, .int (nI 0)), (3, .int (nI 0)), (0, .ref g), (1, .int (nI k)), (2, .int (nI kw))]) hx hb dX7_toneOf_19 hl (by decide) rfl (fun ls hl => ?_)
      have lp21 : ∀ (n : Nat) (i : Nat), 8 * V 16 - i < n → (i ≤ 8 * V 16) → (fnd V k (8 * V 16 - i) i = plN V k) → ∀ ls : Array Slot, lv_has ls 7 [(4, .int (nI i)), (3, .int (nI (cnP V i))), (0, .ref g), (1, .int (nI k)), (2, .int (nI kw))] → W p l e (headSpec wsX7_toneOf ({ frames := 3, cells := 0, slots := 0, locals := 66 })).room s m ([.ref g, .int (nI k), .int (nI kw)] : List Value).toArray below meth c s.heap [] 0 0 (MQ below (vp_Si (fun rz => rz = toI V (nI k) (nI kw))) ([.ref g, .int (nI k), .int (nI kw)] : List Value).toArray s 0 0 (fun _ => False)) (F0 m 21 ls []) := by
        intro n
        induction n with
        | zero => intro i hm; exact absurd hm (Nat.not_lt_zero _)
        | succ n ih21 =>
          intro i hm hi hf ls hl
          refine lv_iload hx hb dX7_toneOf_21 (lv_at hl 0 rfl) ?_
          refine lv_bipush (v := nI 8) hx hb dX7_toneOf_23 (by decide) ?_
          refine lv_aload_n hx hb dX7_toneOf_25 rfl (lv_at hl 2 rfl) ?_
          refine va_get (D := D) (ci := 7) (v := .ref s0) (C := RX7) (T := TX7) (N := 14) hx hb hts hin_X7 hown hK.1 hP 0 rfl rfl 0 (by decide) f_7 (fun _ h9 => h9) rfl dX7_toneOf_26 ?_
          refine lv_bipush (v := nI 16) hx hb dX7_toneOf_29 (by decide) ?_
          refine xn_iald hx hb hK hP 1 rfl (by omega) (by first | decide | omega) (v := nI (V 16)) (rfl) dX7_toneOf_31 ?_
          refine xn_mul hx hb (r := (8 * (V 16))) rfl dX7_toneOf_32 ?_
          refine xn_icmp_ge hx hb (by omega) (by omega) (tgt := 138) dX7_toneOf_33 (by decide) (fun kc33 => ?_) (fun kc33 => ?_)
          · refine lv_ldc hx hb hown f_93 dX7_toneOf_138 ?_
            exact xr_i hx hb hr hlocks dX7_toneOf_140 (toI_e hk hkw (by rw [← hf, show i = 8 * V 16 by omega, Nat.sub_self]; rfl))
          · have hb1 := begN_lt (V := V) (r := i / 8) (t := i % 8)
            have hcn := cnP_le (V := V) i
            refine lv_iload hx hb dX7_toneOf_36 (lv_at hl 0 rfl) ?_
            refine lv_bipush (v := nI 8) hx hb dX7_toneOf_38 (by decide) ?_
            refine xn_div hx hb (r := (i / 8)) (by omega) (by omega) (by omega) rfl dX7_toneOf_40 ?_
            refine lv_istore (lv' := [(5, .int (nI (i / 8))), (4, .int (nI i)), (3, .int (nI (cnP V i))), (0, .ref g), (1, .int (nI k)), (2, .int (nI kw))]) hx hb dX7_toneOf_41 hl (by decide) rfl (fun ls hl => ?_)
            refine lv_iload hx hb dX7_toneOf_43 (lv_at hl 1 rfl) ?_
            refine lv_bipush (v := nI 8) hx hb dX7_toneOf_45 (by decide) ?_
            refine xn_rem hx hb (r := (i % 8)) (by omega) (by omega) (by omega) rfl dX7_toneOf_47 ?_
            refine lv_istore (lv' := [(6, .int (nI (i % 8))), (5, .int (nI (i / 8))), (4, .int (nI i)), (3, .int (nI (cnP V i))), (0, .ref g), (1, .int (nI k)), (2, .int (nI kw))]) hx hb dX7_toneOf_48 hl (by decide) rfl (fun ls hl => ?_)
            refine lv_aload_n hx hb dX7_toneOf_50 rfl (lv_at hl 4 rfl) ?_
            refine lv_iload hx hb dX7_toneOf_51 (lv_at hl 1 rfl) ?_
            refine lv_iload hx hb dX7_toneOf_53 (lv_at hl 0 rfl) ?_
            refine xc_V (As := [.int (nI (i / 8)), .int (nI (i % 8))]) (rest := []) ⟨hx, hb, hml, hown, hts⟩ (c_X7_begins l D y g s0 a0 b0 x0 kn L ta wr le o1 o2 po rs ca V hI (i / 8) (by omega) (i % 8) (by omega)) (cwV 2 hts gX7_toneOf_X7_begins rfl rfl rfl hd_X7_begins ⟨Nat.le_of_ble_eq_true rfl, Nat.le_of_ble_eq_true rfl⟩) (xpv_r hK hP [0, 1] 0 rfl rfl rfl) rfl hl.1 rfl (Nat.le_of_ble_eq_true rfl) dX7_toneOf_55 ⟨Nat.zero_le _, Nat.zero_le _⟩ (fun r2 hr2 => ?_)
            subst hr2
            refine xn_if_eq hx hb (by omega) (tgt := 132) dX7_toneOf_58 (by decide) (fun kc58 => ?_) (fun kc58 => ?_)
            · refine lv_iinc (v := nI (i + 1)) (lv' := [(4, .int (nI (i + 1))), (6, .int (nI (i % 8))), (5, .int (nI (i / 8))), (3, .int (nI (cnP V i))), (0, .ref g), (1, .int (nI k)), (2, .int (nI kw))]) hx hb dX7_toneOf_132 hl (k := 2) rfl (nI_add i 1) (by decide) rfl (fun ls hl => ?_)
              refine lv_goto (tgt := 21) hx hb dX7_toneOf_135 (by decide) ?_
              have e3 : (cnP V i) = (cnP V (i + 1)) := by first | exact sN_f kc58 | exact sN_t (show begN V (i / 8) (i % 8) = 1 by omega)
              exact ih21 (i + 1) (by omega) (by omega) (by rw [← hf]; exact (fnd_s (by omega) (fun hh => by have hz1 : begN V (i / 8) (i % 8) = 1 := hh.1; have hz2 : cnP V i = k := hh.2; omega)).symm) ls (xl_eq (b := [(4, .int (nI (i + 1))), (3, .int (nI (cnP V (i + 1)))), (0, .ref g), (1, .int (nI k)), (2, .int (nI kw))]) (lv_sub (l' := [(4, .int (nI (i + 1))), (3, .int (nI (cnP V i))), (0, .ref g), (1, .int (nI k)), (2, .int (nI kw))]) hl [0, 3, 4, 5, 6] rfl) (xk rfl (xk (congrArg (fun z : Nat => Value.int (nI z)) e3) (xk rfl (xk rfl (xk rfl (rfl : ([] : List (Nat × Value)) = [])))))))
            · refine lv_iload_n hx hb dX7_toneOf_61 rfl (lv_at hl 3 rfl) ?_
              refine lv_iload_n hx hb dX7_toneOf_62 rfl (lv_at hl 5 rfl) ?_
              refine xn_icmp_ne hx hb (by omega) (by omega) (tgt := 129) dX7_toneOf_63 (by decide) (fun kc63 => ?_) (fun kc63 => ?_)
              · refine lv_iinc (v := nI (cnP V i + 1)) (lv' := [(3, .int (nI (cnP V i + 1))), (6, .int (nI (i % 8))), (5, .int (nI (i / 8))), (4, .int (nI i)), (0, .ref g), (1, .int (nI k)), (2, .int (nI kw))]) hx hb dX7_toneOf_129 hl (k := 3) rfl (nI_add (cnP V i) 1) (by decide) rfl (fun ls hl => ?_)
                refine lv_iinc (v := nI (i + 1)) (lv' := [(4, .int (nI (i + 1))), (3, .int (nI (cnP V i + 1))), (6, .int (nI (i % 8))), (5, .int (nI (i / 8))), (0, .ref g), (1, .int (nI k)), (2, .int (nI kw))]) hx hb dX7_toneOf_132 hl (k := 3) rfl (nI_add i 1) (by decide) rfl (fun ls hl => ?_)
                refine lv_goto (tgt := 21) hx hb dX7_toneOf_135 (by decide) ?_
                have e4 : (cnP V i + 1) = (cnP V (i + 1)) := by first | exact sN_f kc58 | exact sN_t (show begN V (i / 8) (i % 8) = 1 by omega)
                exact ih21 (i + 1) (by omega) (by omega) (by rw [← hf]; exact (fnd_s (by omega) (fun hh => by have hz1 : begN V (i / 8) (i % 8) = 1 := hh.1; have hz2 : cnP V i = k := hh.2; omega)).symm) ls (xl_eq (b := [(4, .int (nI (i + 1))), (3, .int (nI (cnP V (i + 1)))), (0, .ref g), (1, .int (nI k)), (2, .int (nI kw))]) (lv_sub (l' := [(4, .int (nI (i + 1))), (3, .int (nI (cnP V i + 1))), (0, .ref g), (1, .int (nI k)), (2, .int (nI kw))]) hl [0, 1, 4, 5, 6] rfl) (xk rfl (xk (congrArg (fun z : Nat => Value.int (nI z)) e4) (xk rfl (xk rfl (xk rfl (rfl : ([] : List (Nat × Value)) = [])))))))
              · have hpl : plN V k = i := by rw [← hf]; exact fnd_h (by omega) ⟨by show begN V (i / 8) (i % 8) = 1; omega, kc63⟩
                have hni := hnt (k := i % 8) (by omega)
                refine lv_iload_n hx hb dX7_toneOf_66 rfl (lv_at hl 6 rfl) ?_
                refine xn_if_ne hx hb (by omega) (tgt := 75) dX7_toneOf_67 (by decide) (fun kc67 => ?_) (fun kc67 => ?_)
                · refine lv_iload_n hx hb dX7_toneOf_75 rfl (lv_at hl 6 rfl) ?_
                  refine lv_iconst (v := nI 1) hx hb dX7_toneOf_76 (by decide) ?_
                  refine xn_icmp_ne hx hb (by omega) (by omega) (tgt := 85) dX7_toneOf_77 (by decide) (fun kc77 => ?_) (fun kc77 => ?_)
                  · refine lv_iload_n hx hb dX7_toneOf_85 rfl (lv_at hl 6 rfl) ?_
                    refine lv_iconst (v := nI 2) hx hb dX7_toneOf_86 (by decide) ?_
                    refine xn_icmp_ne hx hb (by omega) (by omega) (tgt := 101) dX7_toneOf_87 (by decide) (fun kc87 => ?_) (fun kc87 => ?_)
                    · refine lv_iload_n hx hb dX7_toneOf_101 rfl (lv_at hl 6 rfl) ?_
                      refine lv_iconst (v := nI 3) hx hb dX7_toneOf_102 (by decide) ?_
                      refine xn_icmp_ne hx hb (by omega) (by omega) (tgt := 118) dX7_toneOf_103 (by decide) (fun kc103 => ?_) (fun kc103 => ?_)
                      · refine lv_iload hx hb dX7_toneOf_118 (lv_at hl 1 rfl) ?_
                        refine lv_aload_n hx hb dX7_toneOf_120 rfl (lv_at hl 4 rfl) ?_
                        refine va_get (D := D) (ci := 7) (v := .ref s0) (C := RX7) (T := TX7) (N := 14) hx hb hts hin_X7 hown hK.1 hP 0 rfl rfl 0 (by decide) f_7 (fun _ h9 => h9) rfl dX7_toneOf_121 ?_
                        refine lv_bipush (v := nI 68) hx hb dX7_toneOf_124 (by decide) ?_
                        refine xn_iald hx hb hK hP 1 rfl (by omega) (by first | decide | omega) (v := nI (V 68)) (rfl) dX7_toneOf_126 ?_
                        refine xn_div hx hb (r := ((i / 8) / (V 68))) (by omega) (by omega) (by omega) rfl dX7_toneOf_127 ?_
                        exact xr_i hx hb hr hlocks dX7_toneOf_128 ((by rw [toI_h hk hkw hpl (by omega)]; first | (rw [kc67]; rfl) | (rw [kc77]; rfl) | (rw [kc87]; rfl) | (rw [kc103]; rfl) | (rw [show kw = 4 by omega]; rfl)))
                      · refine lv_aload_n hx hb dX7_toneOf_106 rfl (lv_at hl 4 rfl) ?_
                        refine va_get (D := D) (ci := 7) (v := .ref s0) (C := RX7) (T := TX7) (N := 14) hx hb hts hin_X7 hown hK.1 hP 0 rfl rfl 0 (by decide) f_7 (fun _ h9 => h9) rfl dX7_toneOf_107 ?_
                        refine lv_iconst (v := nI 0) hx hb dX7_toneOf_110 (by decide) ?_
                        refine lv_iload hx hb dX7_toneOf_111 (lv_at hl 0 rfl) ?_
                        refine xn_add hx hb (r := (i % 8)) (Nat.zero_add _) dX7_toneOf_113 ?_
                        refine xn_iald hx hb hK hP 1 rfl (by omega) (by first | decide | omega) (v := nI (V (i % 8))) (rfl) dX7_toneOf_114 ?_
                        refine lv_goto (tgt := 128) hx hb dX7_toneOf_115 (by decide) ?_
                        exact xr_i hx hb hr hlocks dX7_toneOf_128 ((by rw [toI_h hk hkw hpl (by omega)]; first | (rw [kc67]; rfl) | (rw [kc77]; rfl) | (rw [kc87]; rfl) | (rw [kc103]; rfl) | (rw [show kw = 4 by omega]; rfl)))
                    · refine lv_aload_n hx hb dX7_toneOf_90 rfl (lv_at hl 4 rfl) ?_
                      refine lv_iload hx hb dX7_toneOf_91 (lv_at hl 1 rfl) ?_
                      refine lv_iload hx hb dX7_toneOf_93 (lv_at hl 0 rfl) ?_
                      refine xc_V (As := [.int (nI (i / 8)), .int (nI (i % 8))]) (rest := []) ⟨hx, hb, hml, hown, hts⟩ (c_X7_lengthOf l D y g s0 a0 b0 x0 kn L ta wr le o1 o2 po rs ca V hI (i / 8) (i % 8) (by omega) (by omega)) (cwV 2 hts gX7_toneOf_X7_lengthOf rfl rfl rfl hd_X7_lengthOf ⟨Nat.le_of_ble_eq_true rfl, Nat.le_of_ble_eq_true rfl⟩) (xpv_r hK hP [0, 1] 0 rfl rfl rfl) rfl hl.1 rfl (Nat.le_of_ble_eq_true rfl) dX7_toneOf_95 ⟨Nat.zero_le _, Nat.zero_le _⟩ (fun r5 hr5 => ?_)
                      subst hr5
                      refine lv_goto (tgt := 128) hx hb dX7_toneOf_98 (by decide) ?_
                      exact xr_i hx hb hr hlocks dX7_toneOf_128 ((by rw [toI_h hk hkw hpl (by omega)]; first | (rw [kc67]; rfl) | (rw [kc77]; rfl) | (rw [kc87]; rfl) | (rw [kc103]; rfl) | (rw [show kw = 4 by omega]; rfl)))
                  · refine lv_iload hx hb dX7_toneOf_80 (lv_at hl 1 rfl) ?_
                    refine lv_goto (tgt := 128) hx hb dX7_toneOf_82 (by decide) ?_
                    exact xr_i hx hb hr hlocks dX7_toneOf_128 ((by rw [toI_h hk hkw hpl (by omega)]; first | (rw [kc67]; rfl) | (rw [kc77]; rfl) | (rw [kc87]; rfl) | (rw [kc103]; rfl) | (rw [show kw = 4 by omega]; rfl)))
                · refine lv_iload hx hb dX7_toneOf_70 (lv_at hl 0 rfl) ?_
                  refine lv_goto (tgt := 128) hx hb dX7_toneOf_72 (by decide) ?_
                  exact xr_i hx hb hr hlocks dX7_toneOf_128 ((by rw [toI_h hk hkw hpl (by omega)]; first | (rw [kc67]; rfl) | (rw [kc77]; rfl) | (rw [kc87]; rfl) | (rw [kc103]; rfl) | (rw [show kw = 4 by omega]; rfl)))
      have e6 : 0 = (cnP V 0) := rfl
      exact lp21 ((8 * V 16 - 0) + 1) 0 (Nat.lt_succ_self _) (by omega) (rfl) ls (xl_eq (b := [(4, .int (nI 0)), (3, .int (nI (cnP V 0))), (0, .ref g), (1, .int (nI k)), (2, .int (nI kw))]) (lv_sub (l' := [(4, .int (nI 0)), (3, .int (nI 0)), (0, .ref g), (1, .int (nI k)), (2, .int (nI kw))]) hl [0, 1, 2, 3, 4] rfl) (xk rfl (xk (congrArg (fun z : Nat => Value.int (nI z)) e6) (xk rfl (xk rfl (xk rfl (rfl : ([] : List (Nat × Value)) = [])))))))
    · refine lv_ldc hx hb hown f_51 dX7_toneOf_13 ?_
      exact xr_i hx hb hr hlocks dX7_toneOf_15 (toI_f (fun hq => by first | exact hq.1 kc1 | exact (bN_0.mp kc10) ((inx rfl (by decide)).mpr hq.2)))
set_option maxHeartbeats 8000000 in
set_option maxRecDepth 100000 in
theorem c_X7_barOf (l : Launch) (D : va_G) (y : Nat → ClassId) (g s0 a0 b0 x0 kn L ta wr le : Nat) (o1 o2 : Int32) (po rs : Nat) (ca : Int32) (V : Nat → Nat) (hI : Inv V) (x w : Int32) : Met l yX7_barOf wsX7_barOf ({ frames := 4, cells := 0, slots := 0, locals := 88 }) (va_Pc [.ref g, .int x, .int w] (xPr D y [(g, .inr (7, [.ref s0, .ref a0, .ref b0, .int (nI kn), .ref x0, .int (nI L), .int (nI ta), .int (nI wr), .int (nI le), .int o1, .int o2, .int (nI po), .int (nI rs), .int ca])), (s0, .inl (y 1, 72, .inl (fun j9 => nI (V j9))))])) (vp_Si (fun rz => rz = baI V x w)) 0 0 (fun _ => False) := by
  refine Met.ofW (cc := cX7_barOf) (maxL := 6) (ret := (some .int)) (by decide) rfl ?_
  intro p e s m args below meth c s₁ B hml hv
  obtain ⟨rfl, hP, hK⟩ := hv
  have hx := B.exec
  have hb := B.bytes
  have hr := B.returns
  have hts := atoms_spec (ws := wsX7_barOf) B.pre
  have hown : s.vm.findClass RX7 = some m.cls := findClass_of_methodNamed B.named
  have hlocks := B.notSynchronized
  have f_51 := hts (.constant RX7 51 (-1000001)) (by decide +kernel)
  have f_7 := hts (.fieldLink RX7 7 "LoomTunesModel" "s" "[I") (by decide +kernel)
  have hin_X7 : ∀ w ∈ wsX70, w ∈ wsX7_barOf := by decide +kernel
  have hP : va_P D vwCl [(g, .inr (7, [.ref s0, .ref a0, .ref b0, .int (nI kn), .ref x0, .int (nI L), .int (nI ta), .int (nI wr), .int (nI le), .int o1, .int o2, .int (nI po), .int (nI rs), .int ca])), (s0, .inl (y 1, 72, .inl (fun j9 => nI (V j9))))] s.heap := hP
  have hl := lv_entry ([.ref g, .int x, .int w]) (n := 6) (Nat.le_of_ble_eq_true rfl)
  rw [lg_entry_eq]
  generalize (lg_sl ([.ref g, .int x, .int w]) ++ List.replicate (6 - (lg_sl ([.ref g, .int x, .int w])).length) Slot.unset).toArray = ls at hl ⊢
  have hl : lv_has ls 6 [(0, .ref g), (1, .int x), (2, .int w)] := hl
  have hsz := hI.sz
  have hs0 := hI.s0
  have hbl := bN_lt (c := ¬ x < nI 0 ∧ ¬ nI 11 < x)
  have hbl2 := bN_lt (c := ¬ w < nI 0 ∧ ¬ nI 3 < w)
  refine lv_iload_n hx hb dX7_barOf_0 rfl (lv_at hl 1 rfl) ?_
  refine lv_iconst (v := nI 0) hx hb dX7_barOf_1 (by decide) ?_
  refine lv_bipush (v := nI 11) hx hb dX7_barOf_2 (by decide) ?_
  refine xc_S (As := [.int x, .int (nI 0), .int (nI 11)]) (rest := []) ⟨hx, hb, hml, hown, hts⟩ (c_X7_in l x (nI 0) (nI 11)) (va_cwS 3 hts gX7_barOf_X7_in rfl rfl rfl hd_X7_in.2 ⟨Nat.le_of_ble_eq_true rfl, Nat.le_of_ble_eq_true rfl⟩) xps_0 rfl hl.1 rfl (Nat.le_of_ble_eq_true rfl) dX7_barOf_4 ⟨Nat.zero_le _, Nat.zero_le _⟩ (fun r1 hr1 => ?_)
  subst hr1
  refine xn_if_eq hx hb (by omega) (tgt := 19) dX7_barOf_7 (by decide) (fun kc7 => ?_) (fun kc7 => ?_)
  · refine lv_ldc hx hb hown f_51 dX7_barOf_19 ?_
    exact xr_i hx hb hr hlocks dX7_barOf_21 (baI_f (fun hq => by first | exact (bN_0.mp kc7) ((inx rfl (by decide)).mpr hq.1) | exact (bN_0.mp kc16) ((inx rfl (by decide)).mpr hq.2)))
  · refine lv_iload_n hx hb dX7_barOf_10 rfl (lv_at hl 2 rfl) ?_
    refine lv_iconst (v := nI 0) hx hb dX7_barOf_11 (by decide) ?_
    refine lv_iconst (v := nI 3) hx hb dX7_barOf_12 (by decide) ?_
    refine xc_S (As := [.int w, .int (nI 0), .int (nI 3)]) (rest := []) ⟨hx, hb, hml, hown, hts⟩ (c_X7_in l w (nI 0) (nI 3)) (va_cwS 3 hts gX7_barOf_X7_in rfl rfl rfl hd_X7_in.2 ⟨Nat.le_of_ble_eq_true rfl, Nat.le_of_ble_eq_true rfl⟩) xps_0 rfl hl.1 rfl (Nat.le_of_ble_eq_true rfl) dX7_barOf_13 ⟨Nat.zero_le _, Nat.zero_le _⟩ (fun r2 hr2 => ?_)
    subst hr2
    refine xn_if_ne hx hb (by omega) (tgt := 22) dX7_barOf_16 (by decide) (fun kc16 => ?_) (fun kc16 => ?_)
    · obtain ⟨k, hk, rfl⟩ := inR_k (n := 12) (by decide) ((inx rfl (by decide)).mp (bN_n0.mp kc7))
      obtain ⟨kw, hkw, rfl⟩ := inR_k (n := 4) (by decide) ((inx rfl (by decide)).mp (bN_n0.mp kc16))
      refine lv_iconst (v := nI 0) hx hb dX7_barOf_22 (by decide) ?_
      refine lv_istore_n (lv' := [(3, .int (nI 0)), (0, .ref g), (1, .int (nI k)), (2, .int (nI kw))]) hx hb dX7_barOf_23 rfl hl (by decide) rfl (fun ls hl => ?_)
      refine lv_iconst (v := nI 0) hx hb dX7_barOf_24 (by decide) ?_
      refine lv_istore (lv' := [(4, .int (nI 0)), (3, .int (nI 0)), (0, .ref g), (1, .int (nI k)), (2, .int (nI kw))]) hx hb dX7_barOf_25 hl (by decide) rfl (fun ls hl => ?_)
      have lp27 : ∀ (n : Nat) (i : Nat), V 16 - i < n → (i ≤ V 16) → ∀ ls : Array Slot, lv_has ls 6 [(4, .int (nI i)), (3, .int (nI (bnN V k kw i))), (0, .ref g), (1, .int (nI k)), (2, .int (nI kw))] → W p l e (headSpec wsX7_barOf ({ frames := 4, cells := 0, slots := 0, locals := 88 })).room s m ([.ref g, .int (nI k), .int (nI kw)] : List Value).toArray below meth c s.heap [] 0 0 (MQ below (vp_Si (fun rz => rz = baI V (nI k) (nI kw))) ([.ref g, .int (nI k), .int (nI kw)] : List Value).toArray s 0 0 (fun _ => False)) (F0 m 27 ls []) := by
        intro n
        induction n with
        | zero => intro i hm; exact absurd hm (Nat.not_lt_zero _)
        | succ n ih27 =>
          intro i hm hi ls hl
          refine lv_iload hx hb dX7_barOf_27 (lv_at hl 0 rfl) ?_
          refine lv_aload_n hx hb dX7_barOf_29 rfl (lv_at hl 2 rfl) ?_
          refine va_get (D := D) (ci := 7) (v := .ref s0) (C := RX7) (T := TX7) (N := 14) hx hb hts hin_X7 hown hK.1 hP 0 rfl rfl 0 (by decide) f_7 (fun _ h9 => h9) rfl dX7_barOf_30 ?_
          refine lv_bipush (v := nI 16) hx hb dX7_barOf_33 (by decide) ?_
          refine xn_iald hx hb hK hP 1 rfl (by omega) (by first | decide | omega) (v := nI (V 16)) (rfl) dX7_barOf_35 ?_
          refine xn_icmp_ge hx hb (by omega) (by omega) (tgt := 118) dX7_barOf_36 (by decide) (fun kc36 => ?_) (fun kc36 => ?_)
          · have hi9 : i = V 16 := by omega
            refine lv_iload_n hx hb dX7_barOf_118 rfl (lv_at hl 1 rfl) ?_
            exact xr_i hx hb hr hlocks dX7_barOf_119 (by rw [hi9]; exact ba_e hk hkw)
          · have hdv : i / V 68 ≤ i := Nat.div_le_self _ _
            have hho := hI.ho (k := i) (by omega)
            have hls : V (17 + i) = hol V i := (if_pos (by omega)).symm
            refine lv_aload_n hx hb dX7_barOf_39 rfl (lv_at hl 2 rfl) ?_
            refine va_get (D := D) (ci := 7) (v := .ref s0) (C := RX7) (T := TX7) (N := 14) hx hb hts hin_X7 hown hK.1 hP 0 rfl rfl 0 (by decide) f_7 (fun _ h9 => h9) rfl dX7_barOf_40 ?_
            refine lv_bipush (v := nI 17) hx hb dX7_barOf_43 (by decide) ?_
            refine lv_iload hx hb dX7_barOf_45 (lv_at hl 0 rfl) ?_
            refine xn_add hx hb (r := (17 + i)) rfl dX7_barOf_47 ?_
            refine xn_iald hx hb hK hP 1 rfl (by omega) (by first | decide | omega) (v := nI (V (17 + i))) (rfl) dX7_barOf_48 ?_
            refine lv_istore (lv' := [(5, .int (nI (V (17 + i)))), (4, .int (nI i)), (3, .int (nI (bnN V k kw i))), (0, .ref g), (1, .int (nI k)), (2, .int (nI kw))]) hx hb dX7_barOf_49 hl (by decide) rfl (fun ls hl => ?_)
            refine lv_iload hx hb dX7_barOf_51 (lv_at hl 1 rfl) ?_
            refine lv_aload_n hx hb dX7_barOf_53 rfl (lv_at hl 3 rfl) ?_
            refine va_get (D := D) (ci := 7) (v := .ref s0) (C := RX7) (T := TX7) (N := 14) hx hb hts hin_X7 hown hK.1 hP 0 rfl rfl 0 (by decide) f_7 (fun _ h9 => h9) rfl dX7_barOf_54 ?_
            refine lv_bipush (v := nI 68) hx hb dX7_barOf_57 (by decide) ?_
            refine xn_iald hx hb hK hP 1 rfl (by omega) (by first | decide | omega) (v := nI (V 68)) (rfl) dX7_barOf_59 ?_
            refine xn_div hx hb (r := (i / (V 68))) (by omega) (by omega) (by omega) rfl dX7_barOf_60 ?_
            refine lv_iload_n hx hb dX7_barOf_61 rfl (lv_at hl 4 rfl) ?_
            refine xn_icmp_ne hx hb (by omega) (by omega) (tgt := 112) dX7_barOf_62 (by decide) (fun kc62 => ?_) (fun kc62 => ?_)
            · refine lv_iinc (v := nI (i + 1)) (lv' := [(4, .int (nI (i + 1))), (5, .int (nI (V (17 + i)))), (3, .int (nI (bnN V k kw i))), (0, .ref g), (1, .int (nI k)), (2, .int (nI kw))]) hx hb dX7_barOf_112 hl (k := 1) rfl (nI_add i 1) (by decide) rfl (fun ls hl => ?_)
              refine lv_goto (tgt := 27) hx hb dX7_barOf_115 (by decide) ?_
              have e3 : (bnN V k kw i) = (bnN V k kw (i + 1)) := by first | exact bnN_f kc62 | exact bnN_3 kc67 kc62 | exact bnN_n kc67 kc62 (by unfold paN; first | rw [if_pos kc83] | rw [if_neg kc83, if_pos kc92] | rw [if_neg kc83, if_neg kc92, ← hls])
              exact ih27 (i + 1) (by omega) (by omega) ls (xl_eq (b := [(4, .int (nI (i + 1))), (3, .int (nI (bnN V k kw (i + 1)))), (0, .ref g), (1, .int (nI k)), (2, .int (nI kw))]) (lv_sub (l' := [(4, .int (nI (i + 1))), (3, .int (nI (bnN V k kw i))), (0, .ref g), (1, .int (nI k)), (2, .int (nI kw))]) hl [0, 2, 3, 4, 5] rfl) (xk rfl (xk (congrArg (fun z : Nat => Value.int (nI z)) e3) (xk rfl (xk rfl (xk rfl (rfl : ([] : List (Nat × Value)) = [])))))))
            · refine lv_iload_n hx hb dX7_barOf_65 rfl (lv_at hl 5 rfl) ?_
              refine lv_iconst (v := nI 3) hx hb dX7_barOf_66 (by decide) ?_
              refine xn_icmp_ne hx hb (by omega) (by omega) (tgt := 81) dX7_barOf_67 (by decide) (fun kc67 => ?_) (fun kc67 => ?_)
              · refine lv_iload_n hx hb dX7_barOf_81 rfl (lv_at hl 2 rfl) ?_
                refine lv_iload_n hx hb dX7_barOf_82 rfl (lv_at hl 5 rfl) ?_
                refine xn_if_ne hx hb (by omega) (tgt := 90) dX7_barOf_83 (by decide) (fun kc83 => ?_) (fun kc83 => ?_)
                · refine lv_iload_n hx hb dX7_barOf_90 rfl (lv_at hl 5 rfl) ?_
                  refine lv_iconst (v := nI 1) hx hb dX7_barOf_91 (by decide) ?_
                  refine xn_icmp_ne hx hb (by omega) (by omega) (tgt := 104) dX7_barOf_92 (by decide) (fun kc92 => ?_) (fun kc92 => ?_)
                  · refine lv_aload_n hx hb dX7_barOf_104 rfl (lv_at hl 3 rfl) ?_
                    refine lv_iload hx hb dX7_barOf_105 (lv_at hl 0 rfl) ?_
                    refine xc_V (As := [.int (nI (V (17 + i)))]) (rest := [.int (nI (bnN V k kw i))]) ⟨hx, hb, hml, hown, hts⟩ (c_X7_clashes l D y g s0 a0 b0 x0 kn L ta wr le o1 o2 po rs ca V hI (V (17 + i)) (by first | omega | exact hol_lt hI)) (cwV 1 hts gX7_barOf_X7_clashes rfl rfl rfl hd_X7_clashes ⟨Nat.le_of_ble_eq_true rfl, Nat.le_of_ble_eq_true rfl⟩) (xpv_r hK hP [0, 1] 0 rfl rfl rfl) rfl hl.1 rfl (Nat.le_of_ble_eq_true rfl) dX7_barOf_107 ⟨Nat.zero_le _, Nat.zero_le _⟩ (fun r4 hr4 => ?_)
                    subst hr4
                    refine xn_add hx hb (r := ((bnN V k kw i) + (cls V (V (17 + i))))) rfl dX7_barOf_110 ?_
                    refine lv_istore_n (lv' := [(3, .int (nI ((bnN V k kw i) + (cls V (V (17 + i)))))), (5, .int (nI (V (17 + i)))), (4, .int (nI i)), (0, .ref g), (1, .int (nI k)), (2, .int (nI kw))]) hx hb dX7_barOf_111 rfl hl (by decide) rfl (fun ls hl => ?_)
                    refine lv_iinc (v := nI (i + 1)) (lv' := [(4, .int (nI (i + 1))), (3, .int (nI ((bnN V k kw i) + (cls V (V (17 + i)))))), (5, .int (nI (V (17 + i)))), (0, .ref g), (1, .int (nI k)), (2, .int (nI kw))]) hx hb dX7_barOf_112 hl (k := 2) rfl (nI_add i 1) (by decide) rfl (fun ls hl => ?_)
                    refine lv_goto (tgt := 27) hx hb dX7_barOf_115 (by decide) ?_
                    have e5 : ((bnN V k kw i) + (cls V (V (17 + i)))) = (bnN V k kw (i + 1)) := by first | exact bnN_f kc62 | exact bnN_3 kc67 kc62 | exact bnN_n kc67 kc62 (by unfold paN; first | rw [if_pos kc83] | rw [if_neg kc83, if_pos kc92] | rw [if_neg kc83, if_neg kc92, ← hls])
                    exact ih27 (i + 1) (by omega) (by omega) ls (xl_eq (b := [(4, .int (nI (i + 1))), (3, .int (nI (bnN V k kw (i + 1)))), (0, .ref g), (1, .int (nI k)), (2, .int (nI kw))]) (lv_sub (l' := [(4, .int (nI (i + 1))), (3, .int (nI ((bnN V k kw i) + (cls V (V (17 + i)))))), (0, .ref g), (1, .int (nI k)), (2, .int (nI kw))]) hl [0, 1, 3, 4, 5] rfl) (xk rfl (xk (congrArg (fun z : Nat => Value.int (nI z)) e5) (xk rfl (xk rfl (xk rfl (rfl : ([] : List (Nat × Value)) = [])))))))
                  · refine lv_aload_n hx hb dX7_barOf_95 rfl (lv_at hl 3 rfl) ?_
                    refine lv_iload hx hb dX7_barOf_96 (lv_at hl 1 rfl) ?_
                    refine xc_V (As := [.int (nI i)]) (rest := [.int (nI (bnN V k kw i))]) ⟨hx, hb, hml, hown, hts⟩ (c_X7_tonesOf l D y g s0 a0 b0 x0 kn L ta wr le o1 o2 po rs ca V hI i (by omega)) (cwV 1 hts gX7_barOf_X7_tonesOf rfl rfl rfl hd_X7_tonesOf ⟨Nat.le_of_ble_eq_true rfl, Nat.le_of_ble_eq_true rfl⟩) (xpv_r hK hP [0, 1] 0 rfl rfl rfl) rfl hl.1 rfl (Nat.le_of_ble_eq_true rfl) dX7_barOf_98 ⟨Nat.zero_le _, Nat.zero_le _⟩ (fun r6 hr6 => ?_)
                    subst hr6
                    refine lv_goto (tgt := 110) hx hb dX7_barOf_101 (by decide) ?_
                    refine xn_add hx hb (r := ((bnN V k kw i) + (roT V i))) rfl dX7_barOf_110 ?_
                    refine lv_istore_n (lv' := [(3, .int (nI ((bnN V k kw i) + (roT V i)))), (5, .int (nI (V (17 + i)))), (4, .int (nI i)), (0, .ref g), (1, .int (nI k)), (2, .int (nI kw))]) hx hb dX7_barOf_111 rfl hl (by decide) rfl (fun ls hl => ?_)
                    refine lv_iinc (v := nI (i + 1)) (lv' := [(4, .int (nI (i + 1))), (3, .int (nI ((bnN V k kw i) + (roT V i)))), (5, .int (nI (V (17 + i)))), (0, .ref g), (1, .int (nI k)), (2, .int (nI kw))]) hx hb dX7_barOf_112 hl (k := 2) rfl (nI_add i 1) (by decide) rfl (fun ls hl => ?_)
                    refine lv_goto (tgt := 27) hx hb dX7_barOf_115 (by decide) ?_
                    have e7 : ((bnN V k kw i) + (roT V i)) = (bnN V k kw (i + 1)) := by first | exact bnN_f kc62 | exact bnN_3 kc67 kc62 | exact bnN_n kc67 kc62 (by unfold paN; first | rw [if_pos kc83] | rw [if_neg kc83, if_pos kc92] | rw [if_neg kc83, if_neg kc92, ← hls])
                    exact ih27 (i + 1) (by omega) (by omega) ls (xl_eq (b := [(4, .int (nI (i + 1))), (3, .int (nI (bnN V k kw (i + 1)))), (0, .ref g), (1, .int (nI k)), (2, .int (nI kw))]) (lv_sub (l' := [(4, .int (nI (i + 1))), (3, .int (nI ((bnN V k kw i) + (roT V i)))), (0, .ref g), (1, .int (nI k)), (2, .int (nI kw))]) hl [0, 1, 3, 4, 5] rfl) (xk rfl (xk (congrArg (fun z : Nat => Value.int (nI z)) e7) (xk rfl (xk rfl (xk rfl (rfl : ([] : List (Nat × Value)) = [])))))))
                · refine lv_iconst (v := nI 1) hx hb dX7_barOf_86 (by decide) ?_
                  refine lv_goto (tgt := 110) hx hb dX7_barOf_87 (by decide) ?_
                  refine xn_add hx hb (r := ((bnN V k kw i) + 1)) rfl dX7_barOf_110 ?_
                  refine lv_istore_n (lv' := [(3, .int (nI ((bnN V k kw i) + 1))), (5, .int (nI (V (17 + i)))), (4, .int (nI i)), (0, .ref g), (1, .int (nI k)), (2, .int (nI kw))]) hx hb dX7_barOf_111 rfl hl (by decide) rfl (fun ls hl => ?_)
                  refine lv_iinc (v := nI (i + 1)) (lv' := [(4, .int (nI (i + 1))), (3, .int (nI ((bnN V k kw i) + 1))), (5, .int (nI (V (17 + i)))), (0, .ref g), (1, .int (nI k)), (2, .int (nI kw))]) hx hb dX7_barOf_112 hl (k := 2) rfl (nI_add i 1) (by decide) rfl (fun ls hl => ?_)
                  refine lv_goto (tgt := 27) hx hb dX7_barOf_115 (by decide) ?_
                  have e8 : ((bnN V k kw i) + 1) = (bnN V k kw (i + 1)) := by first | exact bnN_f kc62 | exact bnN_3 kc67 kc62 | exact bnN_n kc67 kc62 (by unfold paN; first | rw [if_pos kc83] | rw [if_neg kc83, if_pos kc92] | rw [if_neg kc83, if_neg kc92, ← hls])
                  exact ih27 (i + 1) (by omega) (by omega) ls (xl_eq (b := [(4, .int (nI (i + 1))), (3, .int (nI (bnN V k kw (i + 1)))), (0, .ref g), (1, .int (nI k)), (2, .int (nI kw))]) (lv_sub (l' := [(4, .int (nI (i + 1))), (3, .int (nI ((bnN V k kw i) + 1))), (0, .ref g), (1, .int (nI k)), (2, .int (nI kw))]) hl [0, 1, 3, 4, 5] rfl) (xk rfl (xk (congrArg (fun z : Nat => Value.int (nI z)) e8) (xk rfl (xk rfl (xk rfl (rfl : ([] : List (Nat × Value)) = [])))))))
              · refine lv_iload_n hx hb dX7_barOf_70 rfl (lv_at hl 2 rfl) ?_
                refine lv_aload_n hx hb dX7_barOf_71 rfl (lv_at hl 3 rfl) ?_
                refine lv_iload hx hb dX7_barOf_72 (lv_at hl 0 rfl) ?_
                refine xc_V (As := [.int (nI (V (17 + i)))]) (rest := [.int (nI (bnN V k kw i))]) ⟨hx, hb, hml, hown, hts⟩ (c_X7_notes l D y g s0 a0 b0 x0 kn L ta wr le o1 o2 po rs ca V hI i (by omega)) (cwV 1 hts gX7_barOf_X7_notes rfl rfl rfl hd_X7_notes ⟨Nat.le_of_ble_eq_true rfl, Nat.le_of_ble_eq_true rfl⟩) (xpv_r hK hP [0, 1] 0 rfl rfl rfl) rfl hl.1 rfl (Nat.le_of_ble_eq_true rfl) dX7_barOf_74 ⟨Nat.zero_le _, Nat.zero_le _⟩ (fun r9 hr9 => ?_)
                subst hr9
                refine xn_or hx hb (r := ((bnN V k kw i) ||| (nsA V i 8))) rfl dX7_barOf_77 ?_
                refine lv_goto (tgt := 111) hx hb dX7_barOf_78 (by decide) ?_
                refine lv_istore_n (lv' := [(3, .int (nI ((bnN V k kw i) ||| (nsA V i 8)))), (5, .int (nI (V (17 + i)))), (4, .int (nI i)), (0, .ref g), (1, .int (nI k)), (2, .int (nI kw))]) hx hb dX7_barOf_111 rfl hl (by decide) rfl (fun ls hl => ?_)
                refine lv_iinc (v := nI (i + 1)) (lv' := [(4, .int (nI (i + 1))), (3, .int (nI ((bnN V k kw i) ||| (nsA V i 8)))), (5, .int (nI (V (17 + i)))), (0, .ref g), (1, .int (nI k)), (2, .int (nI kw))]) hx hb dX7_barOf_112 hl (k := 2) rfl (nI_add i 1) (by decide) rfl (fun ls hl => ?_)
                refine lv_goto (tgt := 27) hx hb dX7_barOf_115 (by decide) ?_
                have e10 : ((bnN V k kw i) ||| (nsA V i 8)) = (bnN V k kw (i + 1)) := by first | exact bnN_f kc62 | exact bnN_3 kc67 kc62 | exact bnN_n kc67 kc62 (by unfold paN; first | rw [if_pos kc83] | rw [if_neg kc83, if_pos kc92] | rw [if_neg kc83, if_neg kc92, ← hls])
                exact ih27 (i + 1) (by omega) (by omega) ls (xl_eq (b := [(4, .int (nI (i + 1))), (3, .int (nI (bnN V k kw (i + 1)))), (0, .ref g), (1, .int (nI k)), (2, .int (nI kw))]) (lv_sub (l' := [(4, .int (nI (i + 1))), (3, .int (nI ((bnN V k kw i) ||| (nsA V i 8)))), (0, .ref g), (1, .int (nI k)), (2, .int (nI kw))]) hl [0, 1, 3, 4, 5] rfl) (xk rfl (xk (congrArg (fun z : Nat => Value.int (nI z)) e10) (xk rfl (xk rfl (xk rfl (rfl : ([] : List (Nat × Value)) = [])))))))
      have e11 : 0 = (bnN V k kw 0) := by unfold bnN; split <;> rfl
      exact lp27 ((V 16 - 0) + 1) 0 (Nat.lt_succ_self _) (by omega) ls (xl_eq (b := [(4, .int (nI 0)), (3, .int (nI (bnN V k kw 0))), (0, .ref g), (1, .int (nI k)), (2, .int (nI kw))]) (lv_sub (l' := [(4, .int (nI 0)), (3, .int (nI 0)), (0, .ref g), (1, .int (nI k)), (2, .int (nI kw))]) hl [0, 1, 2, 3, 4] rfl) (xk rfl (xk (congrArg (fun z : Nat => Value.int (nI z)) e11) (xk rfl (xk rfl (xk rfl (rfl : ([] : List (Nat × Value)) = [])))))))
    · refine lv_ldc hx hb hown f_51 dX7_barOf_19 ?_
      exact xr_i hx hb hr hlocks dX7_barOf_21 (baI_f (fun hq => by first | exact (bN_0.mp kc7) ((inx rfl (by decide)).mpr hq.1) | exact (bN_0.mp kc16) ((inx rfl (by decide)).mpr hq.2)))
set_option maxHeartbeats 8000000 in
set_option maxRecDepth 100000 in
theorem c_X7_timesOf (l : Launch) (D : va_G) (y : Nat → ClassId) (g s0 a0 b0 x0 kn L ta wr le : Nat) (o1 o2 : Int32) (po rs : Nat) (ca : Int32) (V : Nat → Nat) (hI : Inv V) (r n0 : Nat) (hr0 : r < 2 ^ 30) (hn0 : n0 < 2 ^ 31) : Met l yX7_timesOf wsX7_timesOf ({ frames := 2, cells := 0, slots := 0, locals := 43 }) (va_Pc [.ref g, .int (nI r), .int (nI n0)] (xPr D y [(g, .inr (7, [.ref s0, .ref a0, .ref b0, .int (nI kn), .ref x0, .int (nI L), .int (nI ta), .int (nI wr), .int (nI le), .int o1, .int o2, .int (nI po), .int (nI rs), .int ca])), (s0, .inl (y 1, 72, .inl (fun j9 => nI (V j9))))])) (vp_Si (fun rz => rz = nI (hwO V r n0))) 0 0 (fun _ => False) := by
  refine Met.ofW (cc := cX7_timesOf) (maxL := 5) (ret := (some .int)) (by decide) rfl ?_
  intro p e s m args below meth c s₁ B hml hv
  obtain ⟨rfl, hP, hK⟩ := hv
  have hx := B.exec
  have hb := B.bytes
  have hr := B.returns
  have hts := atoms_spec (ws := wsX7_timesOf) B.pre
  have hown : s.vm.findClass RX7 = some m.cls := findClass_of_methodNamed B.named
  have hlocks := B.notSynchronized
  have f_7 := hts (.fieldLink RX7 7 "LoomTunesModel" "s" "[I") (by decide +kernel)
  have hin_X7 : ∀ w ∈ wsX70, w ∈ wsX7_timesOf := by decide +kernel
  have hP : va_P D vwCl [(g, .inr (7, [.ref s0, .ref a0, .ref b0, .int (nI kn), .ref x0, .int (nI L), .int (nI ta), .int (nI wr), .int (nI le), .int o1, .int o2, .int (nI po), .int (nI rs), .int ca])), (s0, .inl (y 1, 72, .inl (fun j9 => nI (V j9))))] s.heap := hP
  have hl := lv_entry ([.ref g, .int (nI r), .int (nI n0)]) (n := 5) (Nat.le_of_ble_eq_true rfl)
  rw [lg_entry_eq]
  generalize (lg_sl ([.ref g, .int (nI r), .int (nI n0)]) ++ List.replicate (5 - (lg_sl ([.ref g, .int (nI r), .int (nI n0)])).length) Slot.unset).toArray = ls at hl ⊢
  have hl : lv_has ls 5 [(0, .ref g), (1, .int (nI r)), (2, .int (nI n0))] := hl
  have hnt : ∀ {k : Nat}, k < 8 → V k < 48 := fun hk => hI.nt hk
  refine lv_iconst (v := nI 0) hx hb dX7_timesOf_0 (by decide) ?_
  refine lv_istore_n (lv' := [(3, .int (nI 0)), (0, .ref g), (1, .int (nI r)), (2, .int (nI n0))]) hx hb dX7_timesOf_1 rfl hl (by decide) rfl (fun ls hl => ?_)
  refine lv_iconst (v := nI 0) hx hb dX7_timesOf_2 (by decide) ?_
  refine lv_istore (lv' := [(4, .int (nI 0)), (3, .int (nI 0)), (0, .ref g), (1, .int (nI r)), (2, .int (nI n0))]) hx hb dX7_timesOf_3 hl (by decide) rfl (fun ls hl => ?_)
  have lp5 : ∀ (n : Nat) (i : Nat), 8 - i < n → (i ≤ 8) → ∀ ls : Array Slot, lv_has ls 5 [(4, .int (nI i)), (3, .int (nI (sN (fun t => if sndN V r t = 1 ∧ V t = n0 then 1 else 0) i))), (0, .ref g), (1, .int (nI r)), (2, .int (nI n0))] → W p l e (headSpec wsX7_timesOf ({ frames := 2, cells := 0, slots := 0, locals := 43 })).room s m ([.ref g, .int (nI r), .int (nI n0)] : List Value).toArray below meth c s.heap [] 0 0 (MQ below (vp_Si (fun rz => rz = nI (hwO V r n0))) ([.ref g, .int (nI r), .int (nI n0)] : List Value).toArray s 0 0 (fun _ => False)) (F0 m 5 ls []) := by
    intro n
    induction n with
    | zero => intro i hm; exact absurd hm (Nat.not_lt_zero _)
    | succ n ih5 =>
      intro i hm hi ls hl
      refine lv_iload hx hb dX7_timesOf_5 (lv_at hl 0 rfl) ?_
      refine lv_bipush (v := nI 8) hx hb dX7_timesOf_7 (by decide) ?_
      refine xn_icmp_ge hx hb (by omega) (by omega) (tgt := 49) dX7_timesOf_9 (by decide) (fun kc9 => ?_) (fun kc9 => ?_)
      · refine lv_iload_n hx hb dX7_timesOf_49 rfl (lv_at hl 1 rfl) ?_
        exact xr_i hx hb hr hlocks dX7_timesOf_50 (congrArg nI (by rw [show i = 8 by omega]))
      · have hni := hnt (k := i) (by omega)
        have hb1 := sndN_lt (V := V) (r := r) (t := i)
        refine lv_iload_n hx hb dX7_timesOf_12 rfl (lv_at hl 1 rfl) ?_
        refine lv_aload_n hx hb dX7_timesOf_13 rfl (lv_at hl 2 rfl) ?_
        refine lv_iload_n hx hb dX7_timesOf_14 rfl (lv_at hl 3 rfl) ?_
        refine lv_iload hx hb dX7_timesOf_15 (lv_at hl 0 rfl) ?_
        refine xc_V (As := [.int (nI r), .int (nI i)]) (rest := [.int (nI (sN (fun t => if sndN V r t = 1 ∧ V t = n0 then 1 else 0) i))]) ⟨hx, hb, hml, hown, hts⟩ (c_X7_sounds_n l D y g s0 a0 b0 x0 kn L ta wr le o1 o2 po rs ca V hI r (by omega) i (by omega)) (cwV 2 hts gX7_timesOf_X7_sounds rfl rfl rfl hd_X7_sounds ⟨Nat.le_of_ble_eq_true rfl, Nat.le_of_ble_eq_true rfl⟩) (xpv_r hK hP [0, 1] 0 rfl rfl rfl) rfl hl.1 rfl (Nat.le_of_ble_eq_true rfl) dX7_timesOf_17 ⟨Nat.zero_le _, Nat.zero_le _⟩ (fun r1 hr1 => ?_)
        subst hr1
        refine xn_if_eq hx hb (by omega) (tgt := 40) dX7_timesOf_20 (by decide) (fun kc20 => ?_) (fun kc20 => ?_)
        · refine lv_iconst (v := nI 0) hx hb dX7_timesOf_40 (by decide) ?_
          refine xn_add hx hb (r := ((sN (fun t => if sndN V r t = 1 ∧ V t = n0 then 1 else 0) i) + 0)) rfl dX7_timesOf_41 ?_
          refine lv_istore_n (lv' := [(3, .int (nI ((sN (fun t => if sndN V r t = 1 ∧ V t = n0 then 1 else 0) i) + 0))), (4, .int (nI i)), (0, .ref g), (1, .int (nI r)), (2, .int (nI n0))]) hx hb dX7_timesOf_42 rfl hl (by decide) rfl (fun ls hl => ?_)
          refine lv_iinc (v := nI (i + 1)) (lv' := [(4, .int (nI (i + 1))), (3, .int (nI ((sN (fun t => if sndN V r t = 1 ∧ V t = n0 then 1 else 0) i) + 0))), (0, .ref g), (1, .int (nI r)), (2, .int (nI n0))]) hx hb dX7_timesOf_43 hl (k := 1) rfl (nI_add i 1) (by decide) rfl (fun ls hl => ?_)
          refine lv_goto (tgt := 5) hx hb dX7_timesOf_46 (by decide) ?_
          have e2 : ((sN (fun t => if sndN V r t = 1 ∧ V t = n0 then 1 else 0) i) + 0) = (sN (fun t => if sndN V r t = 1 ∧ V t = n0 then 1 else 0) (i + 1)) := by rw [sN_s]; first | (rw [if_pos ⟨by omega, kc33⟩]; done) | (rw [if_neg (by omega)]; done)
          exact ih5 (i + 1) (by omega) (by omega) ls (xl_eq (b := [(4, .int (nI (i + 1))), (3, .int (nI (sN (fun t => if sndN V r t = 1 ∧ V t = n0 then 1 else 0) (i + 1)))), (0, .ref g), (1, .int (nI r)), (2, .int (nI n0))]) (lv_sub (l' := [(4, .int (nI (i + 1))), (3, .int (nI ((sN (fun t => if sndN V r t = 1 ∧ V t = n0 then 1 else 0) i) + 0))), (0, .ref g), (1, .int (nI r)), (2, .int (nI n0))]) hl [0, 1, 2, 3, 4] rfl) (xk rfl (xk (congrArg (fun z : Nat => Value.int (nI z)) e2) (xk rfl (xk rfl (xk rfl (rfl : ([] : List (Nat × Value)) = [])))))))
        · refine lv_aload_n hx hb dX7_timesOf_23 rfl (lv_at hl 2 rfl) ?_
          refine va_get (D := D) (ci := 7) (v := .ref s0) (C := RX7) (T := TX7) (N := 14) hx hb hts hin_X7 hown hK.1 hP 0 rfl rfl 0 (by decide) f_7 (fun _ h9 => h9) rfl dX7_timesOf_24 ?_
          refine lv_iconst (v := nI 0) hx hb dX7_timesOf_27 (by decide) ?_
          refine lv_iload hx hb dX7_timesOf_28 (lv_at hl 0 rfl) ?_
          refine xn_add hx hb (r := i) (Nat.zero_add _) dX7_timesOf_30 ?_
          refine xn_iald hx hb hK hP 1 rfl (by omega) (by first | decide | omega) (v := nI (V i)) (rfl) dX7_timesOf_31 ?_
          refine lv_iload_n hx hb dX7_timesOf_32 rfl (lv_at hl 4 rfl) ?_
          refine xn_icmp_ne hx hb (by omega) (by omega) (tgt := 40) dX7_timesOf_33 (by decide) (fun kc33 => ?_) (fun kc33 => ?_)
          · refine lv_iconst (v := nI 0) hx hb dX7_timesOf_40 (by decide) ?_
            refine xn_add hx hb (r := ((sN (fun t => if sndN V r t = 1 ∧ V t = n0 then 1 else 0) i) + 0)) rfl dX7_timesOf_41 ?_
            refine lv_istore_n (lv' := [(3, .int (nI ((sN (fun t => if sndN V r t = 1 ∧ V t = n0 then 1 else 0) i) + 0))), (4, .int (nI i)), (0, .ref g), (1, .int (nI r)), (2, .int (nI n0))]) hx hb dX7_timesOf_42 rfl hl (by decide) rfl (fun ls hl => ?_)
            refine lv_iinc (v := nI (i + 1)) (lv' := [(4, .int (nI (i + 1))), (3, .int (nI ((sN (fun t => if sndN V r t = 1 ∧ V t = n0 then 1 else 0) i) + 0))), (0, .ref g), (1, .int (nI r)), (2, .int (nI n0))]) hx hb dX7_timesOf_43 hl (k := 1) rfl (nI_add i 1) (by decide) rfl (fun ls hl => ?_)
            refine lv_goto (tgt := 5) hx hb dX7_timesOf_46 (by decide) ?_
            have e3 : ((sN (fun t => if sndN V r t = 1 ∧ V t = n0 then 1 else 0) i) + 0) = (sN (fun t => if sndN V r t = 1 ∧ V t = n0 then 1 else 0) (i + 1)) := by rw [sN_s]; first | (rw [if_pos ⟨by omega, kc33⟩]; done) | (rw [if_neg (by omega)]; done)
            exact ih5 (i + 1) (by omega) (by omega) ls (xl_eq (b := [(4, .int (nI (i + 1))), (3, .int (nI (sN (fun t => if sndN V r t = 1 ∧ V t = n0 then 1 else 0) (i + 1)))), (0, .ref g), (1, .int (nI r)), (2, .int (nI n0))]) (lv_sub (l' := [(4, .int (nI (i + 1))), (3, .int (nI ((sN (fun t => if sndN V r t = 1 ∧ V t = n0 then 1 else 0) i) + 0))), (0, .ref g), (1, .int (nI r)), (2, .int (nI n0))]) hl [0, 1, 2, 3, 4] rfl) (xk rfl (xk (congrArg (fun z : Nat => Value.int (nI z)) e3) (xk rfl (xk rfl (xk rfl (rfl : ([] : List (Nat × Value)) = [])))))))
          · refine lv_iconst (v := nI 1) hx hb dX7_timesOf_36 (by decide) ?_
            refine lv_goto (tgt := 41) hx hb dX7_timesOf_37 (by decide) ?_
            refine xn_add hx hb (r := ((sN (fun t => if sndN V r t = 1 ∧ V t = n0 then 1 else 0) i) + 1)) rfl dX7_timesOf_41 ?_
            refine lv_istore_n (lv' := [(3, .int (nI ((sN (fun t => if sndN V r t = 1 ∧ V t = n0 then 1 else 0) i) + 1))), (4, .int (nI i)), (0, .ref g), (1, .int (nI r)), (2, .int (nI n0))]) hx hb dX7_timesOf_42 rfl hl (by decide) rfl (fun ls hl => ?_)
            refine lv_iinc (v := nI (i + 1)) (lv' := [(4, .int (nI (i + 1))), (3, .int (nI ((sN (fun t => if sndN V r t = 1 ∧ V t = n0 then 1 else 0) i) + 1))), (0, .ref g), (1, .int (nI r)), (2, .int (nI n0))]) hx hb dX7_timesOf_43 hl (k := 1) rfl (nI_add i 1) (by decide) rfl (fun ls hl => ?_)
            refine lv_goto (tgt := 5) hx hb dX7_timesOf_46 (by decide) ?_
            have e4 : ((sN (fun t => if sndN V r t = 1 ∧ V t = n0 then 1 else 0) i) + 1) = (sN (fun t => if sndN V r t = 1 ∧ V t = n0 then 1 else 0) (i + 1)) := by rw [sN_s]; first | (rw [if_pos ⟨by omega, kc33⟩]; done) | (rw [if_neg (by omega)]; done)
            exact ih5 (i + 1) (by omega) (by omega) ls (xl_eq (b := [(4, .int (nI (i + 1))), (3, .int (nI (sN (fun t => if sndN V r t = 1 ∧ V t = n0 then 1 else 0) (i + 1)))), (0, .ref g), (1, .int (nI r)), (2, .int (nI n0))]) (lv_sub (l' := [(4, .int (nI (i + 1))), (3, .int (nI ((sN (fun t => if sndN V r t = 1 ∧ V t = n0 then 1 else 0) i) + 1))), (0, .ref g), (1, .int (nI r)), (2, .int (nI n0))]) hl [0, 1, 2, 3, 4] rfl) (xk rfl (xk (congrArg (fun z : Nat => Value.int (nI z)) e4) (xk rfl (xk rfl (xk rfl (rfl : ([] : List (Nat × Value)) = [])))))))
  have e5 : 0 = (sN (fun t => if sndN V r t = 1 ∧ V t = n0 then 1 else 0) 0) := rfl
  exact lp5 ((8 - 0) + 1) 0 (Nat.lt_succ_self _) (by omega) ls (xl_eq (b := [(4, .int (nI 0)), (3, .int (nI (sN (fun t => if sndN V r t = 1 ∧ V t = n0 then 1 else 0) 0))), (0, .ref g), (1, .int (nI r)), (2, .int (nI n0))]) (lv_sub (l' := [(4, .int (nI 0)), (3, .int (nI 0)), (0, .ref g), (1, .int (nI r)), (2, .int (nI n0))]) hl [0, 1, 2, 3, 4] rfl) (xk rfl (xk (congrArg (fun z : Nat => Value.int (nI z)) e5) (xk rfl (xk rfl (xk rfl (rfl : ([] : List (Nat × Value)) = [])))))))
set_option maxHeartbeats 8000000 in
set_option maxRecDepth 100000 in
theorem c_X7_areAlike (l : Launch) (D : va_G) (y : Nat → ClassId) (g s0 a0 b0 x0 kn L ta wr le : Nat) (o1 o2 : Int32) (po rs : Nat) (ca : Int32) (V : Nat → Nat) (hI : Inv V) (a b : Nat) (ha0 : a < 2 ^ 30) (hb0 : b < 2 ^ 30) : Met l yX7_areAlike wsX7_areAlike ({ frames := 3, cells := 0, slots := 0, locals := 67 }) (va_Pc [.ref g, .int (nI a), .int (nI b)] (xPr D y [(g, .inr (7, [.ref s0, .ref a0, .ref b0, .int (nI kn), .ref x0, .int (nI L), .int (nI ta), .int (nI wr), .int (nI le), .int o1, .int o2, .int (nI po), .int (nI rs), .int ca])), (s0, .inl (y 1, 72, .inl (fun j9 => nI (V j9))))])) (vp_Si (fun rz => rz = nI (smN V a b 8))) 0 0 (fun _ => False) := by
  refine Met.ofW (cc := cX7_areAlike) (maxL := 5) (ret := (some .boolean)) (by decide) rfl ?_
  intro p e s m args below meth c s₁ B hml hv
  obtain ⟨rfl, hP, hK⟩ := hv
  have hx := B.exec
  have hb := B.bytes
  have hr := B.returns
  have hts := atoms_spec (ws := wsX7_areAlike) B.pre
  have hown : s.vm.findClass RX7 = some m.cls := findClass_of_methodNamed B.named
  have hlocks := B.notSynchronized
  have hP : va_P D vwCl [(g, .inr (7, [.ref s0, .ref a0, .ref b0, .int (nI kn), .ref x0, .int (nI L), .int (nI ta), .int (nI wr), .int (nI le), .int o1, .int o2, .int (nI po), .int (nI rs), .int ca])), (s0, .inl (y 1, 72, .inl (fun j9 => nI (V j9))))] s.heap := hP
  have hl := lv_entry ([.ref g, .int (nI a), .int (nI b)]) (n := 5) (Nat.le_of_ble_eq_true rfl)
  rw [lg_entry_eq]
  generalize (lg_sl ([.ref g, .int (nI a), .int (nI b)]) ++ List.replicate (5 - (lg_sl ([.ref g, .int (nI a), .int (nI b)])).length) Slot.unset).toArray = ls at hl ⊢
  have hl : lv_has ls 5 [(0, .ref g), (1, .int (nI a)), (2, .int (nI b))] := hl
  refine lv_iconst (v := nI 1) hx hb dX7_areAlike_0 (by decide) ?_
  refine lv_istore_n (lv' := [(3, .int (nI 1)), (0, .ref g), (1, .int (nI a)), (2, .int (nI b))]) hx hb dX7_areAlike_1 rfl hl (by decide) rfl (fun ls hl => ?_)
  refine lv_iconst (v := nI 0) hx hb dX7_areAlike_2 (by decide) ?_
  refine lv_istore (lv' := [(4, .int (nI 0)), (3, .int (nI 1)), (0, .ref g), (1, .int (nI a)), (2, .int (nI b))]) hx hb dX7_areAlike_3 hl (by decide) rfl (fun ls hl => ?_)
  have lp5 : ∀ (n : Nat) (i : Nat), 48 - i < n → (i ≤ 48) → ∀ ls : Array Slot, lv_has ls 5 [(4, .int (nI i)), (3, .int (nI (eqN V a b i))), (0, .ref g), (1, .int (nI a)), (2, .int (nI b))] → W p l e (headSpec wsX7_areAlike ({ frames := 3, cells := 0, slots := 0, locals := 67 })).room s m ([.ref g, .int (nI a), .int (nI b)] : List Value).toArray below meth c s.heap [] 0 0 (MQ below (vp_Si (fun rz => rz = nI (smN V a b 8))) ([.ref g, .int (nI a), .int (nI b)] : List Value).toArray s 0 0 (fun _ => False)) (F0 m 5 ls []) := by
    intro n
    induction n with
    | zero => intro i hm; exact absurd hm (Nat.not_lt_zero _)
    | succ n ih5 =>
      intro i hm hi ls hl
      refine lv_iload hx hb dX7_areAlike_5 (lv_at hl 0 rfl) ?_
      refine lv_bipush (v := nI 48) hx hb dX7_areAlike_7 (by decide) ?_
      refine xn_icmp_ge hx hb (by omega) (by omega) (tgt := 45) dX7_areAlike_9 (by decide) (fun kc9 => ?_) (fun kc9 => ?_)
      · refine lv_iload_n hx hb dX7_areAlike_45 rfl (lv_at hl 1 rfl) ?_
        exact xr_z hx hb hr hlocks dX7_areAlike_46 (eqN_lt i) (congrArg nI (by rw [show i = 48 by omega]; exact eqN_48 hI))
      · have hq1 := hwO_le (V := V) (r := a) (c := i)
        have hq2 := hwO_le (V := V) (r := b) (c := i)
        have hq3 := eqN_lt (V := V) (a := a) (b := b) i
        refine lv_iload_n hx hb dX7_areAlike_12 rfl (lv_at hl 1 rfl) ?_
        refine xn_if_eq hx hb (by omega) (tgt := 37) dX7_areAlike_13 (by decide) (fun kc13 => ?_) (fun kc13 => ?_)
        · refine lv_iconst (v := nI 0) hx hb dX7_areAlike_37 (by decide) ?_
          refine lv_istore_n (lv' := [(3, .int (nI 0)), (4, .int (nI i)), (0, .ref g), (1, .int (nI a)), (2, .int (nI b))]) hx hb dX7_areAlike_38 rfl hl (by decide) rfl (fun ls hl => ?_)
          refine lv_iinc (v := nI (i + 1)) (lv' := [(4, .int (nI (i + 1))), (3, .int (nI 0)), (0, .ref g), (1, .int (nI a)), (2, .int (nI b))]) hx hb dX7_areAlike_39 hl (k := 1) rfl (nI_add i 1) (by decide) rfl (fun ls hl => ?_)
          refine lv_goto (tgt := 5) hx hb dX7_areAlike_42 (by decide) ?_
          have e1 : 0 = (eqN V a b (i + 1)) := by rw [eqN]; first | (rw [if_pos ⟨by omega, kc30⟩]; done) | (rw [if_neg (fun q => kc30 q.2)]; done) | (rw [if_neg (by omega)]; done)
          exact ih5 (i + 1) (by omega) (by omega) ls (xl_eq (b := [(4, .int (nI (i + 1))), (3, .int (nI (eqN V a b (i + 1)))), (0, .ref g), (1, .int (nI a)), (2, .int (nI b))]) (lv_sub (l' := [(4, .int (nI (i + 1))), (3, .int (nI 0)), (0, .ref g), (1, .int (nI a)), (2, .int (nI b))]) hl [0, 1, 2, 3, 4] rfl) (xk rfl (xk (congrArg (fun z : Nat => Value.int (nI z)) e1) (xk rfl (xk rfl (xk rfl (rfl : ([] : List (Nat × Value)) = [])))))))
        · refine lv_aload_n hx hb dX7_areAlike_16 rfl (lv_at hl 2 rfl) ?_
          refine lv_iload_n hx hb dX7_areAlike_17 rfl (lv_at hl 3 rfl) ?_
          refine lv_iload hx hb dX7_areAlike_18 (lv_at hl 0 rfl) ?_
          refine xc_V (As := [.int (nI a), .int (nI i)]) (rest := []) ⟨hx, hb, hml, hown, hts⟩ (c_X7_timesOf l D y g s0 a0 b0 x0 kn L ta wr le o1 o2 po rs ca V hI a i (by omega) (by omega)) (cwV 2 hts gX7_areAlike_X7_timesOf rfl rfl rfl hd_X7_timesOf ⟨Nat.le_of_ble_eq_true rfl, Nat.le_of_ble_eq_true rfl⟩) (xpv_r hK hP [0, 1] 0 rfl rfl rfl) rfl hl.1 rfl (Nat.le_of_ble_eq_true rfl) dX7_areAlike_20 ⟨Nat.zero_le _, Nat.zero_le _⟩ (fun r2 hr2 => ?_)
          subst hr2
          refine lv_aload_n hx hb dX7_areAlike_23 rfl (lv_at hl 2 rfl) ?_
          refine lv_iload_n hx hb dX7_areAlike_24 rfl (lv_at hl 4 rfl) ?_
          refine lv_iload hx hb dX7_areAlike_25 (lv_at hl 0 rfl) ?_
          refine xc_V (As := [.int (nI b), .int (nI i)]) (rest := [.int (nI (hwO V a i))]) ⟨hx, hb, hml, hown, hts⟩ (c_X7_timesOf l D y g s0 a0 b0 x0 kn L ta wr le o1 o2 po rs ca V hI b i (by omega) (by omega)) (cwV 2 hts gX7_areAlike_X7_timesOf rfl rfl rfl hd_X7_timesOf ⟨Nat.le_of_ble_eq_true rfl, Nat.le_of_ble_eq_true rfl⟩) (xpv_r hK hP [0, 1] 0 rfl rfl rfl) rfl hl.1 rfl (Nat.le_of_ble_eq_true rfl) dX7_areAlike_27 ⟨Nat.zero_le _, Nat.zero_le _⟩ (fun r3 hr3 => ?_)
          subst hr3
          refine xn_icmp_ne hx hb (by omega) (by omega) (tgt := 37) dX7_areAlike_30 (by decide) (fun kc30 => ?_) (fun kc30 => ?_)
          · refine lv_iconst (v := nI 0) hx hb dX7_areAlike_37 (by decide) ?_
            refine lv_istore_n (lv' := [(3, .int (nI 0)), (4, .int (nI i)), (0, .ref g), (1, .int (nI a)), (2, .int (nI b))]) hx hb dX7_areAlike_38 rfl hl (by decide) rfl (fun ls hl => ?_)
            refine lv_iinc (v := nI (i + 1)) (lv' := [(4, .int (nI (i + 1))), (3, .int (nI 0)), (0, .ref g), (1, .int (nI a)), (2, .int (nI b))]) hx hb dX7_areAlike_39 hl (k := 1) rfl (nI_add i 1) (by decide) rfl (fun ls hl => ?_)
            refine lv_goto (tgt := 5) hx hb dX7_areAlike_42 (by decide) ?_
            have e4 : 0 = (eqN V a b (i + 1)) := by rw [eqN]; first | (rw [if_pos ⟨by omega, kc30⟩]; done) | (rw [if_neg (fun q => kc30 q.2)]; done) | (rw [if_neg (by omega)]; done)
            exact ih5 (i + 1) (by omega) (by omega) ls (xl_eq (b := [(4, .int (nI (i + 1))), (3, .int (nI (eqN V a b (i + 1)))), (0, .ref g), (1, .int (nI a)), (2, .int (nI b))]) (lv_sub (l' := [(4, .int (nI (i + 1))), (3, .int (nI 0)), (0, .ref g), (1, .int (nI a)), (2, .int (nI b))]) hl [0, 1, 2, 3, 4] rfl) (xk rfl (xk (congrArg (fun z : Nat => Value.int (nI z)) e4) (xk rfl (xk rfl (xk rfl (rfl : ([] : List (Nat × Value)) = [])))))))
          · refine lv_iconst (v := nI 1) hx hb dX7_areAlike_33 (by decide) ?_
            refine lv_goto (tgt := 38) hx hb dX7_areAlike_34 (by decide) ?_
            refine lv_istore_n (lv' := [(3, .int (nI 1)), (4, .int (nI i)), (0, .ref g), (1, .int (nI a)), (2, .int (nI b))]) hx hb dX7_areAlike_38 rfl hl (by decide) rfl (fun ls hl => ?_)
            refine lv_iinc (v := nI (i + 1)) (lv' := [(4, .int (nI (i + 1))), (3, .int (nI 1)), (0, .ref g), (1, .int (nI a)), (2, .int (nI b))]) hx hb dX7_areAlike_39 hl (k := 1) rfl (nI_add i 1) (by decide) rfl (fun ls hl => ?_)
            refine lv_goto (tgt := 5) hx hb dX7_areAlike_42 (by decide) ?_
            have e5 : 1 = (eqN V a b (i + 1)) := by rw [eqN]; first | (rw [if_pos ⟨by omega, kc30⟩]; done) | (rw [if_neg (fun q => kc30 q.2)]; done) | (rw [if_neg (by omega)]; done)
            exact ih5 (i + 1) (by omega) (by omega) ls (xl_eq (b := [(4, .int (nI (i + 1))), (3, .int (nI (eqN V a b (i + 1)))), (0, .ref g), (1, .int (nI a)), (2, .int (nI b))]) (lv_sub (l' := [(4, .int (nI (i + 1))), (3, .int (nI 1)), (0, .ref g), (1, .int (nI a)), (2, .int (nI b))]) hl [0, 1, 2, 3, 4] rfl) (xk rfl (xk (congrArg (fun z : Nat => Value.int (nI z)) e5) (xk rfl (xk rfl (xk rfl (rfl : ([] : List (Nat × Value)) = [])))))))
  have e6 : 1 = (eqN V a b 0) := rfl
  exact lp5 ((48 - 0) + 1) 0 (Nat.lt_succ_self _) (by omega) ls (xl_eq (b := [(4, .int (nI 0)), (3, .int (nI (eqN V a b 0))), (0, .ref g), (1, .int (nI a)), (2, .int (nI b))]) (lv_sub (l' := [(4, .int (nI 0)), (3, .int (nI 1)), (0, .ref g), (1, .int (nI a)), (2, .int (nI b))]) hl [0, 1, 2, 3, 4] rfl) (xk rfl (xk (congrArg (fun z : Nat => Value.int (nI z)) e6) (xk rfl (xk rfl (xk rfl (rfl : ([] : List (Nat × Value)) = [])))))))
set_option maxHeartbeats 8000000 in
set_option maxRecDepth 100000 in
theorem c_X7_alike (l : Launch) (D : va_G) (y : Nat → ClassId) (g s0 a0 b0 x0 kn L ta wr le : Nat) (o1 o2 : Int32) (po rs : Nat) (ca : Int32) (V : Nat → Nat) (hI : Inv V) (x : Int32) : Met l yX7_alike wsX7_alike ({ frames := 4, cells := 0, slots := 0, locals := 91 }) (va_Pc [.ref g, .int x] (xPr D y [(g, .inr (7, [.ref s0, .ref a0, .ref b0, .int (nI kn), .ref x0, .int (nI L), .int (nI ta), .int (nI wr), .int (nI le), .int o1, .int o2, .int (nI po), .int (nI rs), .int ca])), (s0, .inl (y 1, 72, .inl (fun j9 => nI (V j9))))])) (vp_Si (fun rz => rz = alI V x)) 0 0 (fun _ => False) := by
  refine Met.ofW (cc := cX7_alike) (maxL := 3) (ret := (some .int)) (by decide) rfl ?_
  intro p e s m args below meth c s₁ B hml hv
  obtain ⟨rfl, hP, hK⟩ := hv
  have hx := B.exec
  have hb := B.bytes
  have hr := B.returns
  have hts := atoms_spec (ws := wsX7_alike) B.pre
  have hown : s.vm.findClass RX7 = some m.cls := findClass_of_methodNamed B.named
  have hlocks := B.notSynchronized
  have f_51 := hts (.constant RX7 51 (-1000001)) (by decide +kernel)
  have f_93 := hts (.constant RX7 93 (-1000004)) (by decide +kernel)
  have hP : va_P D vwCl [(g, .inr (7, [.ref s0, .ref a0, .ref b0, .int (nI kn), .ref x0, .int (nI L), .int (nI ta), .int (nI wr), .int (nI le), .int o1, .int o2, .int (nI po), .int (nI rs), .int ca])), (s0, .inl (y 1, 72, .inl (fun j9 => nI (V j9))))] s.heap := hP
  have hl := lv_entry ([.ref g, .int x]) (n := 3) (Nat.le_of_ble_eq_true rfl)
  rw [lg_entry_eq]
  generalize (lg_sl ([.ref g, .int x]) ++ List.replicate (3 - (lg_sl ([.ref g, .int x])).length) Slot.unset).toArray = ls at hl ⊢
  have hl : lv_has ls 3 [(0, .ref g), (1, .int x)] := hl
  have hsz := hI.sz
  have hbl := bN_lt (c := inR x (V 16))
  refine lv_aload_n hx hb dX7_alike_0 rfl (lv_at hl 0 rfl) ?_
  refine lv_iload_n hx hb dX7_alike_1 rfl (lv_at hl 1 rfl) ?_
  refine xc_V (As := [.int x]) (rest := []) ⟨hx, hb, hml, hown, hts⟩ (c_X7_isCard l D y g s0 a0 b0 x0 kn L ta wr le o1 o2 po rs ca V hI x) (cwV 1 hts gX7_alike_X7_isCard rfl rfl rfl hd_X7_isCard ⟨Nat.le_of_ble_eq_true rfl, Nat.le_of_ble_eq_true rfl⟩) (xpv_r hK hP [0, 1] 0 rfl rfl rfl) rfl hl.1 rfl (Nat.le_of_ble_eq_true rfl) dX7_alike_2 ⟨Nat.zero_le _, Nat.zero_le _⟩ (fun r1 hr1 => ?_)
  subst hr1
  refine xn_if_ne hx hb (by omega) (tgt := 11) dX7_alike_5 (by decide) (fun kc5 => ?_) (fun kc5 => ?_)
  · obtain ⟨k, hk, rfl⟩ := inR_k (by omega) (bN_n0.mp kc5)
    have hho := hI.ho (k := k) (by omega)
    have hls : V (17 + k) = hol V k := (if_pos hk).symm
    refine lv_iload_n hx hb dX7_alike_11 rfl (lv_at hl 1 rfl) ?_
    refine lv_iconst (v := nI 1) hx hb dX7_alike_12 (by decide) ?_
    refine lv_isub hx hb dX7_alike_13 ?_
    refine lv_istore_n (lv' := [(2, .int ((nI k) - (nI 1))), (0, .ref g), (1, .int (nI k))]) hx hb dX7_alike_14 rfl hl (by decide) rfl (fun ls hl => ?_)
    have lp15 : ∀ (n : Nat) (e1 : Nat), e1 < n → (e1 ≤ k) → (alN V k e1 = alN V k k) → ∀ ls : Array Slot, lv_has ls 3 [(2, .int ((nI e1) + (-1))), (0, .ref g), (1, .int (nI k))] → W p l e (headSpec wsX7_alike ({ frames := 4, cells := 0, slots := 0, locals := 91 })).room s m ([.ref g, .int (nI k)] : List Value).toArray below meth c s.heap [] 0 0 (MQ below (vp_Si (fun rz => rz = alI V (nI k))) ([.ref g, .int (nI k)] : List Value).toArray s 0 0 (fun _ => False)) (F0 m 15 ls []) := by
      intro n
      induction n with
      | zero => intro e1 hm; exact absurd hm (Nat.not_lt_zero _)
      | succ n ih15 =>
        intro e1 hm he hv ls hl
        refine lv_iload_n hx hb dX7_alike_15 rfl (lv_at hl 0 rfl) ?_
        refine lv_if_lt (tgt := 36) hx hb dX7_alike_16 (by decide) (fun kc16 => ?_) (fun kc16 => ?_)
        · have he0 := xe_t (by omega) kc16
          refine lv_ldc hx hb hown f_93 dX7_alike_36 ?_
          exact xr_i hx hb hr hlocks dX7_alike_38 (by rw [alI_n hI hk, ← hv, he0]; rfl)
        · obtain ⟨j, rfl⟩ : ∃ j, e1 = j + 1 := ⟨e1 - 1, by have := xe_f (by omega) kc16; omega⟩
          have hl : lv_has ls 3 [(2, .int ((nI (j + 1)) + (-1))), (0, .ref g), (1, .int (nI k))] := hl
          rw [pk_m1] at hl
          have hsm := smN_lt (V := V) (a := j) (b := k) 8
          refine lv_aload_n hx hb dX7_alike_19 rfl (lv_at hl 1 rfl) ?_
          refine lv_iload_n hx hb dX7_alike_20 rfl (lv_at hl 0 rfl) ?_
          refine lv_iload_n hx hb dX7_alike_21 rfl (lv_at hl 2 rfl) ?_
          refine xc_V (As := [.int (nI j), .int (nI k)]) (rest := []) ⟨hx, hb, hml, hown, hts⟩ (c_X7_areAlike l D y g s0 a0 b0 x0 kn L ta wr le o1 o2 po rs ca V hI j k (by omega) (by omega)) (cwV 2 hts gX7_alike_X7_areAlike rfl rfl rfl hd_X7_areAlike ⟨Nat.le_of_ble_eq_true rfl, Nat.le_of_ble_eq_true rfl⟩) (xpv_r hK hP [0, 1] 0 rfl rfl rfl) rfl hl.1 rfl (Nat.le_of_ble_eq_true rfl) dX7_alike_22 ⟨Nat.zero_le _, Nat.zero_le _⟩ (fun r2 hr2 => ?_)
          subst hr2
          refine xn_if_eq hx hb (by omega) (tgt := 30) dX7_alike_25 (by decide) (fun kc25 => ?_) (fun kc25 => ?_)
          · refine lv_iinc (v := (nI j) + (-1)) (lv' := [(2, .int ((nI j) + (-1))), (0, .ref g), (1, .int (nI k))]) hx hb dX7_alike_30 hl (k := 0) rfl (rfl) (by decide) rfl (fun ls hl => ?_)
            refine lv_goto (tgt := 15) hx hb dX7_alike_33 (by decide) ?_
            exact ih15 j (by omega) (by omega) ((alN_s (by omega)).symm.trans hv) ls (lv_sub hl [0, 1, 2] rfl)
          · refine lv_iload_n hx hb dX7_alike_28 rfl (lv_at hl 0 rfl) ?_
            exact xr_i hx hb hr hlocks dX7_alike_29 (by rw [alI_n hI hk, ← hv]; exact (alN_t (by omega)).symm)
    have e3 : ((nI k) - (nI 1)) = ((nI k) + (-1)) := xm1
    exact lp15 (k + 1) k (Nat.lt_succ_self _) (by omega) (rfl) ls (xl_eq (b := [(2, .int ((nI k) + (-1))), (0, .ref g), (1, .int (nI k))]) (lv_sub (l' := [(2, .int ((nI k) - (nI 1))), (0, .ref g), (1, .int (nI k))]) hl [0, 1, 2] rfl) (xk (congrArg Value.int e3) (xk rfl (xk rfl (rfl : ([] : List (Nat × Value)) = [])))))
  · refine lv_ldc hx hb hown f_51 dX7_alike_8 ?_
    exact xr_i hx hb hr hlocks dX7_alike_10 (alI_f (bN_0.mp kc5))
set_option maxHeartbeats 8000000 in
set_option maxRecDepth 100000 in
theorem c_X7_best (l : Launch) (D : va_G) (y : Nat → ClassId) (g s0 a0 b0 x0 kn L ta wr le : Nat) (o1 o2 : Int32) (po rs : Nat) (ca : Int32) (V : Nat → Nat) (hI : Inv V) (w : Int32) : Met l yX7_best wsX7_best ({ frames := 4, cells := 0, slots := 0, locals := 92 }) (va_Pc [.ref g, .int w] (xPr D y [(g, .inr (7, [.ref s0, .ref a0, .ref b0, .int (nI kn), .ref x0, .int (nI L), .int (nI ta), .int (nI wr), .int (nI le), .int o1, .int o2, .int (nI po), .int (nI rs), .int ca])), (s0, .inl (y 1, 72, .inl (fun j9 => nI (V j9))))])) (vp_Si (fun rz => rz = beI V w)) 0 0 (fun _ => False) := by
  refine Met.ofW (cc := cX7_best) (maxL := 10) (ret := (some .int)) (by decide) rfl ?_
  intro p e s m args below meth c s₁ B hml hv
  obtain ⟨rfl, hP, hK⟩ := hv
  have hx := B.exec
  have hb := B.bytes
  have hr := B.returns
  have hts := atoms_spec (ws := wsX7_best) B.pre
  have hown : s.vm.findClass RX7 = some m.cls := findClass_of_methodNamed B.named
  have hlocks := B.notSynchronized
  have f_51 := hts (.constant RX7 51 (-1000001)) (by decide +kernel)
  have f_52 := hts (.constant RX7 52 (-1000003)) (by decide +kernel)
  have f_7 := hts (.fieldLink RX7 7 "LoomTunesModel" "s" "[I") (by decide +kernel)
  have f_93 := hts (.constant RX7 93 (-1000004)) (by decide +kernel)
  have hin_X7 : ∀ w ∈ wsX70, w ∈ wsX7_best := by decide +kernel
  have hP : va_P D vwCl [(g, .inr (7, [.ref s0, .ref a0, .ref b0, .int (nI kn), .ref x0, .int (nI L), .int (nI ta), .int (nI wr), .int (nI le), .int o1, .int o2, .int (nI po), .int (nI rs), .int ca])), (s0, .inl (y 1, 72, .inl (fun j9 => nI (V j9))))] s.heap := hP
  have hl := lv_entry ([.ref g, .int w]) (n := 10) (Nat.le_of_ble_eq_true rfl)
  rw [lg_entry_eq]
  generalize (lg_sl ([.ref g, .int w]) ++ List.replicate (10 - (lg_sl ([.ref g, .int w])).length) Slot.unset).toArray = ls at hl ⊢
  have hl : lv_has ls 10 [(0, .ref g), (1, .int w)] := hl
  have hsz := hI.sz
  have hblw := bN_lt (c := ¬ w < nI 0 ∧ ¬ nI 2 < w)
  refine lv_iload_n hx hb dX7_best_0 rfl (lv_at hl 1 rfl) ?_
  refine lv_iconst (v := nI 0) hx hb dX7_best_1 (by decide) ?_
  refine lv_iconst (v := nI 2) hx hb dX7_best_2 (by decide) ?_
  refine xc_S (As := [.int w, .int (nI 0), .int (nI 2)]) (rest := []) ⟨hx, hb, hml, hown, hts⟩ (c_X7_in l w (nI 0) (nI 2)) (va_cwS 3 hts gX7_best_X7_in rfl rfl rfl hd_X7_in.2 ⟨Nat.le_of_ble_eq_true rfl, Nat.le_of_ble_eq_true rfl⟩) xps_0 rfl hl.1 rfl (Nat.le_of_ble_eq_true rfl) dX7_best_3 ⟨Nat.zero_le _, Nat.zero_le _⟩ (fun r1 hr1 => ?_)
  subst hr1
  refine xn_if_ne hx hb (by omega) (tgt := 12) dX7_best_6 (by decide) (fun kc6 => ?_) (fun kc6 => ?_)
  · obtain ⟨kw, hkw, rfl⟩ := inR_k (n := 3) (by decide) ((inx rfl (by decide)).mp (bN_n0.mp kc6))
    refine lv_aload_n hx hb dX7_best_12 rfl (lv_at hl 0 rfl) ?_
    refine va_get (D := D) (ci := 7) (v := .ref s0) (C := RX7) (T := TX7) (N := 14) hx hb hts hin_X7 hown hK.1 hP 0 rfl rfl 0 (by decide) f_7 (fun _ h9 => h9) rfl dX7_best_13 ?_
    refine lv_bipush (v := nI 16) hx hb dX7_best_16 (by decide) ?_
    refine xn_iald hx hb hK hP 1 rfl (by omega) (by first | decide | omega) (v := nI (V 16)) (rfl) dX7_best_18 ?_
    refine lv_bipush (v := nI 24) hx hb dX7_best_19 (by decide) ?_
    refine xn_icmp_ne hx hb (by omega) (by omega) (tgt := 27) dX7_best_21 (by decide) (fun kc21 => ?_) (fun kc21 => ?_)
    · refine lv_aload_n hx hb dX7_best_27 rfl (lv_at hl 0 rfl) ?_
      refine va_get (D := D) (ci := 7) (v := .ref s0) (C := RX7) (T := TX7) (N := 14) hx hb hts hin_X7 hown hK.1 hP 0 rfl rfl 0 (by decide) f_7 (fun _ h9 => h9) rfl dX7_best_28 ?_
      refine lv_bipush (v := nI 16) hx hb dX7_best_31 (by decide) ?_
      refine xn_iald hx hb hK hP 1 rfl (by omega) (by first | decide | omega) (v := nI (V 16)) (rfl) dX7_best_33 ?_
      have jn58 : ∀ (ls : Array Slot), lv_has ls 10 [(0, .ref g), (1, .int (nI kw))] → W p l e (headSpec wsX7_best ({ frames := 4, cells := 0, slots := 0, locals := 92 })).room s m ([.ref g, .int (nI kw)] : List Value).toArray below meth c s.heap [] 0 0 (MQ below (vp_Si (fun rz => rz = beI V (nI kw))) ([.ref g, .int (nI kw)] : List Value).toArray s 0 0 (fun _ => False)) (F0 m 58 ls [.int (nI (hol V (V 16 - 1)))]) := by
        intro  ls hl 
        refine lv_istore_n (lv' := [(2, .int (nI (hol V (V 16 - 1)))), (0, .ref g), (1, .int (nI kw))]) hx hb dX7_best_58 rfl hl (by decide) rfl (fun ls hl => ?_)
        refine lv_ldc hx hb hown f_93 dX7_best_59 ?_
        refine lv_istore_n (lv' := [(3, .int (-1000004)), (2, .int (nI (hol V (V 16 - 1)))), (0, .ref g), (1, .int (nI kw))]) hx hb dX7_best_61 rfl hl (by decide) rfl (fun ls hl => ?_)
        refine lv_iconst (v := nI 0) hx hb dX7_best_62 (by decide) ?_
        refine lv_istore (lv' := [(4, .int (nI 0)), (3, .int (-1000004)), (2, .int (nI (hol V (V 16 - 1)))), (0, .ref g), (1, .int (nI kw))]) hx hb dX7_best_63 hl (by decide) rfl (fun ls hl => ?_)
        refine lv_iconst (v := nI 0) hx hb dX7_best_65 (by decide) ?_
        refine lv_istore (lv' := [(5, .int (nI 0)), (4, .int (nI 0)), (3, .int (-1000004)), (2, .int (nI (hol V (V 16 - 1)))), (0, .ref g), (1, .int (nI kw))]) hx hb dX7_best_66 hl (by decide) rfl (fun ls hl => ?_)
        refine lv_iconst (v := nI 1) hx hb dX7_best_68 (by decide) ?_
        refine lv_istore (lv' := [(6, .int (nI 1)), (5, .int (nI 0)), (4, .int (nI 0)), (3, .int (-1000004)), (2, .int (nI (hol V (V 16 - 1)))), (0, .ref g), (1, .int (nI kw))]) hx hb dX7_best_69 hl (by decide) rfl (fun ls hl => ?_)
        have lp71 : ∀ (n : Nat) (i : Nat), 256 - i < n → (1 ≤ i) → (i ≤ 256) → ∀ ls : Array Slot, lv_has ls 10 [(6, .int (nI i)), (5, .int (nI (bs1 V i))), (4, .int (nI (bs0 V i))), (3, .int (bsJ V i)), (2, .int (nI (hol V (V 16 - 1)))), (0, .ref g), (1, .int (nI kw))] → W p l e (headSpec wsX7_best ({ frames := 4, cells := 0, slots := 0, locals := 92 })).room s m ([.ref g, .int (nI kw)] : List Value).toArray below meth c s.heap [] 0 0 (MQ below (vp_Si (fun rz => rz = beI V (nI kw))) ([.ref g, .int (nI kw)] : List Value).toArray s 0 0 (fun _ => False)) (F0 m 71 ls []) := by
          intro n
          induction n with
          | zero => intro i hm; exact absurd hm (Nat.not_lt_zero _)
          | succ n ih71 =>
            intro i hm h1 hi ls hl
            refine lv_iload hx hb dX7_best_71 (lv_at hl 0 rfl) ?_
            refine lv_sipush (v := nI 256) hx hb dX7_best_73 (by decide) ?_
            refine xn_icmp_ge hx hb (by omega) (by omega) (tgt := 185) dX7_best_76 (by decide) (fun kc76 => ?_) (fun kc76 => ?_)
            · have hi9 : i = 256 := by omega
              refine lv_iload_n hx hb dX7_best_185 rfl (lv_at hl 3 rfl) ?_
              refine lv_ldc hx hb hown f_93 dX7_best_186 ?_
              refine lv_icmp_ne (tgt := 196) hx hb dX7_best_188 (by decide) (fun kc188 => ?_) (fun kc188 => ?_)
              · refine lv_iload_n hx hb dX7_best_196 rfl (lv_at hl 6 rfl) ?_
                refine xn_if_ne hx hb (by omega) (tgt := 204) dX7_best_197 (by decide) (fun kc197 => ?_) (fun kc197 => ?_)
                · refine lv_iload_n hx hb dX7_best_204 rfl (lv_at hl 6 rfl) ?_
                  refine lv_iconst (v := nI 1) hx hb dX7_best_205 (by decide) ?_
                  refine xn_icmp_ne hx hb (by omega) (by omega) (tgt := 214) dX7_best_206 (by decide) (fun kc206 => ?_) (fun kc206 => ?_)
                  · refine lv_iload hx hb dX7_best_214 (lv_at hl 1 rfl) ?_
                    exact xr_i hx hb hr hlocks dX7_best_216 (be_r2 hkw (by omega) hi9 kc188 kc197 kc206)
                  · refine lv_iload hx hb dX7_best_209 (lv_at hl 2 rfl) ?_
                    refine lv_goto (tgt := 216) hx hb dX7_best_211 (by decide) ?_
                    exact xr_i hx hb hr hlocks dX7_best_216 (be_r1 hkw (by omega) hi9 kc188 kc197 kc206)
                · refine lv_iload_n hx hb dX7_best_200 rfl (lv_at hl 3 rfl) ?_
                  refine lv_goto (tgt := 216) hx hb dX7_best_201 (by decide) ?_
                  exact xr_i hx hb hr hlocks dX7_best_216 (be_r0 hkw (by omega) hi9 kc188 kc197)
              · refine lv_ldc hx hb hown f_93 dX7_best_191 ?_
                refine lv_goto (tgt := 216) hx hb dX7_best_193 (by decide) ?_
                exact xr_i hx hb hr hlocks dX7_best_216 (be_r3 hkw (by omega) hi9 kc188)
            · have hw := why_le (V := V) (h := i)
              have hal := ans_le (V := V) (h := i)
              have hc1 := cls_le (V := V) (h := i)
              have hc2 := bs0_le (V := V) (i := i)
              have hc3 := bs1_le (V := V) (i := i)
              have hc4 := pop_le (h := i &&& hol V (V 16 - 1))
              have hcm : com V i = pop (i &&& hol V (V 16 - 1)) := rfl
              refine lv_aload_n hx hb dX7_best_79 rfl (lv_at hl 5 rfl) ?_
              refine lv_iload hx hb dX7_best_80 (lv_at hl 0 rfl) ?_
              refine xc_V (As := [.int (nI i)]) (rest := []) ⟨hx, hb, hml, hown, hts⟩ (c_X7_says l D y g s0 a0 b0 x0 kn L ta wr le o1 o2 po rs ca V hI i (by omega)) (cwV 1 hts gX7_best_X7_says rfl rfl rfl hd_X7_says ⟨Nat.le_of_ble_eq_true rfl, Nat.le_of_ble_eq_true rfl⟩) (xpv_r hK hP [0, 1] 0 rfl rfl rfl) rfl hl.1 rfl (Nat.le_of_ble_eq_true rfl) dX7_best_82 ⟨Nat.zero_le _, Nat.zero_le _⟩ (fun r2 hr2 => ?_)
              subst hr2
              refine xn_if_ne hx hb (by omega) (tgt := 179) dX7_best_85 (by decide) (fun kc85 => ?_) (fun kc85 => ?_)
              · have hbs := bs_f (V := V) (i := i) (Or.inl (fun q => kc85 (ans_0.mpr q)))
                refine lv_iinc (v := nI (i + 1)) (lv' := [(6, .int (nI (i + 1))), (5, .int (nI (bs1 V i))), (4, .int (nI (bs0 V i))), (3, .int (bsJ V i)), (2, .int (nI (hol V (V 16 - 1)))), (0, .ref g), (1, .int (nI kw))]) hx hb dX7_best_179 hl (k := 0) rfl (nI_add i 1) (by decide) rfl (fun ls hl => ?_)
                refine lv_goto (tgt := 71) hx hb dX7_best_182 (by decide) ?_
                have e3 : (bs1 V i) = (bs1 V (i + 1)) := by first | (show _ = (if bst V (i + 1) = 0 then 0 else com V (bst V (i + 1))); rw [hbs]; done) | (show com V i = (if bst V (i + 1) = 0 then 0 else com V (bst V (i + 1))); rw [hbs, if_neg (by omega)]; done)
                have e4 : (bs0 V i) = (bs0 V (i + 1)) := by show _ = (if bst V (i + 1) = 0 then 0 else cls V (bst V (i + 1))); first | (rw [hbs]; done) | (rw [hbs, if_neg (by omega)]; done)
                have e5 : (bsJ V i) = (bsJ V (i + 1)) := by first | (unfold bsJ; rw [hbs, if_neg (by omega)]; done) | (unfold bsJ; rw [hbs]; done)
                exact ih71 (i + 1) (by omega) (by omega) (by omega) ls (xl_eq (b := [(6, .int (nI (i + 1))), (5, .int (nI (bs1 V (i + 1)))), (4, .int (nI (bs0 V (i + 1)))), (3, .int (bsJ V (i + 1))), (2, .int (nI (hol V (V 16 - 1)))), (0, .ref g), (1, .int (nI kw))]) (lv_sub (l' := [(6, .int (nI (i + 1))), (5, .int (nI (bs1 V i))), (4, .int (nI (bs0 V i))), (3, .int (bsJ V i)), (2, .int (nI (hol V (V 16 - 1)))), (0, .ref g), (1, .int (nI kw))]) hl [0, 1, 2, 3, 4, 5, 6] rfl) (xk rfl (xk (congrArg (fun z : Nat => Value.int (nI z)) e3) (xk (congrArg (fun z : Nat => Value.int (nI z)) e4) (xk (congrArg Value.int e5) (xk rfl (xk rfl (xk rfl (rfl : ([] : List (Nat × Value)) = [])))))))))
              · refine lv_aload_n hx hb dX7_best_88 rfl (lv_at hl 5 rfl) ?_
                refine lv_iload hx hb dX7_best_89 (lv_at hl 0 rfl) ?_
                refine xc_V (As := [.int (nI i)]) (rest := []) ⟨hx, hb, hml, hown, hts⟩ (c_X7_clashes l D y g s0 a0 b0 x0 kn L ta wr le o1 o2 po rs ca V hI i (by first | omega | exact hol_lt hI)) (cwV 1 hts gX7_best_X7_clashes rfl rfl rfl hd_X7_clashes ⟨Nat.le_of_ble_eq_true rfl, Nat.le_of_ble_eq_true rfl⟩) (xpv_r hK hP [0, 1] 0 rfl rfl rfl) rfl hl.1 rfl (Nat.le_of_ble_eq_true rfl) dX7_best_91 ⟨Nat.zero_le _, Nat.zero_le _⟩ (fun r6 hr6 => ?_)
                subst hr6
                refine lv_istore (lv' := [(7, .int (nI (cls V i))), (6, .int (nI i)), (5, .int (nI (bs1 V i))), (4, .int (nI (bs0 V i))), (3, .int (bsJ V i)), (2, .int (nI (hol V (V 16 - 1)))), (0, .ref g), (1, .int (nI kw))]) hx hb dX7_best_94 hl (by decide) rfl (fun ls hl => ?_)
                refine lv_iload hx hb dX7_best_96 (lv_at hl 1 rfl) ?_
                refine lv_iload_n hx hb dX7_best_98 rfl (lv_at hl 5 rfl) ?_
                refine xn_and hx hb (r := (i &&& (hol V (V 16 - 1)))) rfl dX7_best_99 ?_
                refine xc_S (As := [.int (nI (i &&& (hol V (V 16 - 1))))]) (rest := []) ⟨hx, hb, hml, hown, hts⟩ (c_X7_bits l (i &&& (hol V (V 16 - 1))) (Nat.lt_of_le_of_lt Nat.and_le_left (by omega))) (va_cwS 1 hts gX7_best_X7_bits rfl rfl rfl hd_X7_bits.2 ⟨Nat.le_of_ble_eq_true rfl, Nat.le_of_ble_eq_true rfl⟩) xps_0 rfl hl.1 rfl (Nat.le_of_ble_eq_true rfl) dX7_best_100 ⟨Nat.zero_le _, Nat.zero_le _⟩ (fun r7 hr7 => ?_)
                subst hr7
                refine lv_istore (lv' := [(8, .int (nI (pop (i &&& (hol V (V 16 - 1)))))), (7, .int (nI (cls V i))), (6, .int (nI i)), (5, .int (nI (bs1 V i))), (4, .int (nI (bs0 V i))), (3, .int (bsJ V i)), (2, .int (nI (hol V (V 16 - 1)))), (0, .ref g), (1, .int (nI kw))]) hx hb dX7_best_103 hl (by decide) rfl (fun ls hl => ?_)
                have jn137 : ∀ (b : Nat) (ls : Array Slot), lv_has ls 10 [(8, .int (nI (pop (i &&& (hol V (V 16 - 1)))))), (7, .int (nI (cls V i))), (6, .int (nI i)), (5, .int (nI (bs1 V i))), (4, .int (nI (bs0 V i))), (3, .int (bsJ V i)), (2, .int (nI (hol V (V 16 - 1)))), (0, .ref g), (1, .int (nI kw))] → (b < 2 ∧ (b = 1 ↔ (bst V i = 0 ∨ bet V i (bst V i)))) → W p l e (headSpec wsX7_best ({ frames := 4, cells := 0, slots := 0, locals := 92 })).room s m ([.ref g, .int (nI kw)] : List Value).toArray below meth c s.heap [] 0 0 (MQ below (vp_Si (fun rz => rz = beI V (nI kw))) ([.ref g, .int (nI kw)] : List Value).toArray s 0 0 (fun _ => False)) (F0 m 137 ls [.int (nI b)]) := by
                  intro b ls hl hq9
                  rcases (show b = 0 ∨ b = 1 by omega) with rfl | rfl
                  · have hnp : ¬ (bst V i = 0 ∨ bet V i (bst V i)) := fun q => absurd (hq9.2.mpr q) (by decide)
                    have hbs := bs_f (V := V) (i := i) (Or.inr ⟨fun q => hnp (Or.inl q), fun q => hnp (Or.inr q)⟩)
                    refine lv_istore (lv' := [(9, .int (nI 0)), (8, .int (nI (pop (i &&& (hol V (V 16 - 1)))))), (7, .int (nI (cls V i))), (6, .int (nI i)), (5, .int (nI (bs1 V i))), (4, .int (nI (bs0 V i))), (3, .int (bsJ V i)), (2, .int (nI (hol V (V 16 - 1)))), (0, .ref g), (1, .int (nI kw))]) hx hb dX7_best_137 hl (by decide) rfl (fun ls hl => ?_)
                    refine lv_iload hx hb dX7_best_139 (lv_at hl 0 rfl) ?_
                    refine lv_if_eq (tgt := 149) hx hb dX7_best_141 (by decide) (fun _ => ?_) (fun h => absurd h (by decide))
                    refine lv_iload_n hx hb dX7_best_149 rfl (lv_at hl 6 rfl) ?_
                    refine lv_istore_n (lv' := [(3, .int (bsJ V i)), (9, .int (nI 0)), (8, .int (nI (pop (i &&& (hol V (V 16 - 1)))))), (7, .int (nI (cls V i))), (6, .int (nI i)), (5, .int (nI (bs1 V i))), (4, .int (nI (bs0 V i))), (2, .int (nI (hol V (V 16 - 1)))), (0, .ref g), (1, .int (nI kw))]) hx hb dX7_best_150 rfl hl (by decide) rfl (fun ls hl => ?_)
                    refine lv_iload hx hb dX7_best_151 (lv_at hl 1 rfl) ?_
                    refine lv_if_eq (tgt := 161) hx hb dX7_best_153 (by decide) (fun _ => ?_) (fun h => absurd h (by decide))
                    refine lv_iload hx hb dX7_best_161 (lv_at hl 6 rfl) ?_
                    refine lv_istore (lv' := [(4, .int (nI (bs0 V i))), (3, .int (bsJ V i)), (9, .int (nI 0)), (8, .int (nI (pop (i &&& (hol V (V 16 - 1)))))), (7, .int (nI (cls V i))), (6, .int (nI i)), (5, .int (nI (bs1 V i))), (2, .int (nI (hol V (V 16 - 1)))), (0, .ref g), (1, .int (nI kw))]) hx hb dX7_best_163 hl (by decide) rfl (fun ls hl => ?_)
                    refine lv_iload hx hb dX7_best_165 (lv_at hl 2 rfl) ?_
                    refine lv_if_eq (tgt := 175) hx hb dX7_best_167 (by decide) (fun _ => ?_) (fun h => absurd h (by decide))
                    refine lv_iload hx hb dX7_best_175 (lv_at hl 6 rfl) ?_
                    refine lv_istore (lv' := [(5, .int (nI (bs1 V i))), (4, .int (nI (bs0 V i))), (3, .int (bsJ V i)), (9, .int (nI 0)), (8, .int (nI (pop (i &&& (hol V (V 16 - 1)))))), (7, .int (nI (cls V i))), (6, .int (nI i)), (2, .int (nI (hol V (V 16 - 1)))), (0, .ref g), (1, .int (nI kw))]) hx hb dX7_best_177 hl (by decide) rfl (fun ls hl => ?_)
                    refine lv_iinc (v := nI (i + 1)) (lv' := [(6, .int (nI (i + 1))), (5, .int (nI (bs1 V i))), (4, .int (nI (bs0 V i))), (3, .int (bsJ V i)), (9, .int (nI 0)), (8, .int (nI (pop (i &&& (hol V (V 16 - 1)))))), (7, .int (nI (cls V i))), (2, .int (nI (hol V (V 16 - 1)))), (0, .ref g), (1, .int (nI kw))]) hx hb dX7_best_179 hl (k := 6) rfl (nI_add i 1) (by decide) rfl (fun ls hl => ?_)
                    refine lv_goto (tgt := 71) hx hb dX7_best_182 (by decide) ?_
                    have e8 : (bs1 V i) = (bs1 V (i + 1)) := by first | (show _ = (if bst V (i + 1) = 0 then 0 else com V (bst V (i + 1))); rw [hbs]; done) | (show com V i = (if bst V (i + 1) = 0 then 0 else com V (bst V (i + 1))); rw [hbs, if_neg (by omega)]; done)
                    have e9 : (bs0 V i) = (bs0 V (i + 1)) := by show _ = (if bst V (i + 1) = 0 then 0 else cls V (bst V (i + 1))); first | (rw [hbs]; done) | (rw [hbs, if_neg (by omega)]; done)
                    have e10 : (bsJ V i) = (bsJ V (i + 1)) := by first | (unfold bsJ; rw [hbs, if_neg (by omega)]; done) | (unfold bsJ; rw [hbs]; done)
                    exact ih71 (i + 1) (by omega) (by omega) (by omega) ls (xl_eq (b := [(6, .int (nI (i + 1))), (5, .int (nI (bs1 V (i + 1)))), (4, .int (nI (bs0 V (i + 1)))), (3, .int (bsJ V (i + 1))), (2, .int (nI (hol V (V 16 - 1)))), (0, .ref g), (1, .int (nI kw))]) (lv_sub (l' := [(6, .int (nI (i + 1))), (5, .int (nI (bs1 V i))), (4, .int (nI (bs0 V i))), (3, .int (bsJ V i)), (2, .int (nI (hol V (V 16 - 1)))), (0, .ref g), (1, .int (nI kw))]) hl [0, 1, 2, 3, 7, 8, 9] rfl) (xk rfl (xk (congrArg (fun z : Nat => Value.int (nI z)) e8) (xk (congrArg (fun z : Nat => Value.int (nI z)) e9) (xk (congrArg Value.int e10) (xk rfl (xk rfl (xk rfl (rfl : ([] : List (Nat × Value)) = [])))))))))
                  · have hbs := bs_t (V := V) (i := i) (by omega) (ans_0.mp kc85) (hq9.2.mp rfl)
                    refine lv_istore (lv' := [(9, .int (nI 1)), (8, .int (nI (pop (i &&& (hol V (V 16 - 1)))))), (7, .int (nI (cls V i))), (6, .int (nI i)), (5, .int (nI (bs1 V i))), (4, .int (nI (bs0 V i))), (3, .int (bsJ V i)), (2, .int (nI (hol V (V 16 - 1)))), (0, .ref g), (1, .int (nI kw))]) hx hb dX7_best_137 hl (by decide) rfl (fun ls hl => ?_)
                    refine lv_iload hx hb dX7_best_139 (lv_at hl 0 rfl) ?_
                    refine lv_if_eq (tgt := 149) hx hb dX7_best_141 (by decide) (fun h => absurd h (by decide)) (fun _ => ?_)
                    refine lv_iload hx hb dX7_best_144 (lv_at hl 3 rfl) ?_
                    refine lv_goto (tgt := 150) hx hb dX7_best_146 (by decide) ?_
                    refine lv_istore_n (lv' := [(3, .int (nI i)), (9, .int (nI 1)), (8, .int (nI (pop (i &&& (hol V (V 16 - 1)))))), (7, .int (nI (cls V i))), (6, .int (nI i)), (5, .int (nI (bs1 V i))), (4, .int (nI (bs0 V i))), (2, .int (nI (hol V (V 16 - 1)))), (0, .ref g), (1, .int (nI kw))]) hx hb dX7_best_150 rfl hl (by decide) rfl (fun ls hl => ?_)
                    refine lv_iload hx hb dX7_best_151 (lv_at hl 1 rfl) ?_
                    refine lv_if_eq (tgt := 161) hx hb dX7_best_153 (by decide) (fun h => absurd h (by decide)) (fun _ => ?_)
                    refine lv_iload hx hb dX7_best_156 (lv_at hl 3 rfl) ?_
                    refine lv_goto (tgt := 163) hx hb dX7_best_158 (by decide) ?_
                    refine lv_istore (lv' := [(4, .int (nI (cls V i))), (3, .int (nI i)), (9, .int (nI 1)), (8, .int (nI (pop (i &&& (hol V (V 16 - 1)))))), (7, .int (nI (cls V i))), (6, .int (nI i)), (5, .int (nI (bs1 V i))), (2, .int (nI (hol V (V 16 - 1)))), (0, .ref g), (1, .int (nI kw))]) hx hb dX7_best_163 hl (by decide) rfl (fun ls hl => ?_)
                    refine lv_iload hx hb dX7_best_165 (lv_at hl 2 rfl) ?_
                    refine lv_if_eq (tgt := 175) hx hb dX7_best_167 (by decide) (fun h => absurd h (by decide)) (fun _ => ?_)
                    refine lv_iload hx hb dX7_best_170 (lv_at hl 3 rfl) ?_
                    refine lv_goto (tgt := 177) hx hb dX7_best_172 (by decide) ?_
                    refine lv_istore (lv' := [(5, .int (nI (pop (i &&& (hol V (V 16 - 1)))))), (4, .int (nI (cls V i))), (3, .int (nI i)), (9, .int (nI 1)), (8, .int (nI (pop (i &&& (hol V (V 16 - 1)))))), (7, .int (nI (cls V i))), (6, .int (nI i)), (2, .int (nI (hol V (V 16 - 1)))), (0, .ref g), (1, .int (nI kw))]) hx hb dX7_best_177 hl (by decide) rfl (fun ls hl => ?_)
                    refine lv_iinc (v := nI (i + 1)) (lv' := [(6, .int (nI (i + 1))), (5, .int (nI (pop (i &&& (hol V (V 16 - 1)))))), (4, .int (nI (cls V i))), (3, .int (nI i)), (9, .int (nI 1)), (8, .int (nI (pop (i &&& (hol V (V 16 - 1)))))), (7, .int (nI (cls V i))), (2, .int (nI (hol V (V 16 - 1)))), (0, .ref g), (1, .int (nI kw))]) hx hb dX7_best_179 hl (k := 6) rfl (nI_add i 1) (by decide) rfl (fun ls hl => ?_)
                    refine lv_goto (tgt := 71) hx hb dX7_best_182 (by decide) ?_
                    have e11 : (pop (i &&& (hol V (V 16 - 1)))) = (bs1 V (i + 1)) := by first | (show _ = (if bst V (i + 1) = 0 then 0 else com V (bst V (i + 1))); rw [hbs]; done) | (show com V i = (if bst V (i + 1) = 0 then 0 else com V (bst V (i + 1))); rw [hbs, if_neg (by omega)]; done)
                    have e12 : (cls V i) = (bs0 V (i + 1)) := by show _ = (if bst V (i + 1) = 0 then 0 else cls V (bst V (i + 1))); first | (rw [hbs]; done) | (rw [hbs, if_neg (by omega)]; done)
                    have e13 : (nI i) = (bsJ V (i + 1)) := by first | (unfold bsJ; rw [hbs, if_neg (by omega)]; done) | (unfold bsJ; rw [hbs]; done)
                    exact ih71 (i + 1) (by omega) (by omega) (by omega) ls (xl_eq (b := [(6, .int (nI (i + 1))), (5, .int (nI (bs1 V (i + 1)))), (4, .int (nI (bs0 V (i + 1)))), (3, .int (bsJ V (i + 1))), (2, .int (nI (hol V (V 16 - 1)))), (0, .ref g), (1, .int (nI kw))]) (lv_sub (l' := [(6, .int (nI (i + 1))), (5, .int (nI (pop (i &&& (hol V (V 16 - 1)))))), (4, .int (nI (cls V i))), (3, .int (nI i)), (2, .int (nI (hol V (V 16 - 1)))), (0, .ref g), (1, .int (nI kw))]) hl [0, 1, 2, 3, 7, 8, 9] rfl) (xk rfl (xk (congrArg (fun z : Nat => Value.int (nI z)) e11) (xk (congrArg (fun z : Nat => Value.int (nI z)) e12) (xk (congrArg Value.int e13) (xk rfl (xk rfl (xk rfl (rfl : ([] : List (Nat × Value)) = [])))))))))
                refine lv_iload_n hx hb dX7_best_105 rfl (lv_at hl 5 rfl) ?_
                refine lv_ldc hx hb hown f_93 dX7_best_106 ?_
                refine lv_icmp_eq (tgt := 132) hx hb dX7_best_108 (by decide) (fun kc108 => ?_) (fun kc108 => ?_)
                · refine lv_iconst (v := nI 1) hx hb dX7_best_132 (by decide) ?_
                  refine lv_goto (tgt := 137) hx hb dX7_best_133 (by decide) ?_
                  exact jn137 1 ls (lv_sub hl [0, 1, 2, 3, 4, 5, 6, 7, 8] rfl) (⟨by decide, ⟨fun _ => by first | exact Or.inl ((bsJ_0 (by omega)).mp kc108) | exact Or.inr (Or.inl (by omega)) | exact Or.inr (Or.inr ⟨by omega, by omega⟩), fun _ => rfl⟩⟩)
                · have hnb : ¬ bst V i = 0 := fun q => kc108 ((bsJ_0 (by omega)).mpr q)
                  have e0 : bs0 V i = cls V (bst V i) := if_neg hnb
                  have e9 : bs1 V i = com V (bst V i) := if_neg hnb
                  refine lv_iload hx hb dX7_best_111 (lv_at hl 1 rfl) ?_
                  refine lv_iload hx hb dX7_best_113 (lv_at hl 4 rfl) ?_
                  refine xn_icmp_lt hx hb (by omega) (by omega) (tgt := 132) dX7_best_115 (by decide) (fun kc115 => ?_) (fun kc115 => ?_)
                  · refine lv_iconst (v := nI 1) hx hb dX7_best_132 (by decide) ?_
                    refine lv_goto (tgt := 137) hx hb dX7_best_133 (by decide) ?_
                    exact jn137 1 ls (lv_sub hl [0, 1, 2, 3, 4, 5, 6, 7, 8] rfl) (⟨by decide, ⟨fun _ => by first | exact Or.inl ((bsJ_0 (by omega)).mp kc108) | exact Or.inr (Or.inl (by omega)) | exact Or.inr (Or.inr ⟨by omega, by omega⟩), fun _ => rfl⟩⟩)
                  · refine lv_iload hx hb dX7_best_118 (lv_at hl 1 rfl) ?_
                    refine lv_iload hx hb dX7_best_120 (lv_at hl 4 rfl) ?_
                    refine xn_icmp_ne hx hb (by omega) (by omega) (tgt := 136) dX7_best_122 (by decide) (fun kc122 => ?_) (fun kc122 => ?_)
                    · refine lv_iconst (v := nI 0) hx hb dX7_best_136 (by decide) ?_
                      exact jn137 0 ls (lv_sub hl [0, 1, 2, 3, 4, 5, 6, 7, 8] rfl) (⟨by decide, ⟨fun q => absurd q (by decide), fun q => by exfalso; rcases q with q | q; exact hnb q; have q2 : cls V i < cls V (bst V i) ∨ (cls V i = cls V (bst V i) ∧ com V (bst V i) < com V i) := q; omega⟩⟩)
                    · refine lv_iload hx hb dX7_best_125 (lv_at hl 0 rfl) ?_
                      refine lv_iload hx hb dX7_best_127 (lv_at hl 3 rfl) ?_
                      refine xn_icmp_le hx hb (by omega) (by omega) (tgt := 136) dX7_best_129 (by decide) (fun kc129 => ?_) (fun kc129 => ?_)
                      · refine lv_iconst (v := nI 0) hx hb dX7_best_136 (by decide) ?_
                        exact jn137 0 ls (lv_sub hl [0, 1, 2, 3, 4, 5, 6, 7, 8] rfl) (⟨by decide, ⟨fun q => absurd q (by decide), fun q => by exfalso; rcases q with q | q; exact hnb q; have q2 : cls V i < cls V (bst V i) ∨ (cls V i = cls V (bst V i) ∧ com V (bst V i) < com V i) := q; omega⟩⟩)
                      · refine lv_iconst (v := nI 1) hx hb dX7_best_132 (by decide) ?_
                        refine lv_goto (tgt := 137) hx hb dX7_best_133 (by decide) ?_
                        exact jn137 1 ls (lv_sub hl [0, 1, 2, 3, 4, 5, 6, 7, 8] rfl) (⟨by decide, ⟨fun _ => by first | exact Or.inl ((bsJ_0 (by omega)).mp kc108) | exact Or.inr (Or.inl (by omega)) | exact Or.inr (Or.inr ⟨by omega, by omega⟩), fun _ => rfl⟩⟩)
        have e14 : 0 = (bs1 V 1) := by simp [bst]
        have e15 : 0 = (bs0 V 1) := by simp [bst]
        have e16 : (-1000004) = (bsJ V 1) := by simp [bsJ, bst]
        exact lp71 ((256 - 1) + 1) 1 (Nat.lt_succ_self _) (by omega) (by omega) ls (xl_eq (b := [(6, .int (nI 1)), (5, .int (nI (bs1 V 1))), (4, .int (nI (bs0 V 1))), (3, .int (bsJ V 1)), (2, .int (nI (hol V (V 16 - 1)))), (0, .ref g), (1, .int (nI kw))]) (lv_sub (l' := [(6, .int (nI 1)), (5, .int (nI 0)), (4, .int (nI 0)), (3, .int (-1000004)), (2, .int (nI (hol V (V 16 - 1)))), (0, .ref g), (1, .int (nI kw))]) hl [0, 1, 2, 3, 4, 5, 6] rfl) (xk rfl (xk (congrArg (fun z : Nat => Value.int (nI z)) e14) (xk (congrArg (fun z : Nat => Value.int (nI z)) e15) (xk (congrArg Value.int e16) (xk rfl (xk rfl (xk rfl (rfl : ([] : List (Nat × Value)) = [])))))))))
      refine xn_if_ne hx hb (by omega) (tgt := 41) dX7_best_34 (by decide) (fun kc34 => ?_) (fun kc34 => ?_)
      · refine lv_aload_n hx hb dX7_best_41 rfl (lv_at hl 0 rfl) ?_
        refine va_get (D := D) (ci := 7) (v := .ref s0) (C := RX7) (T := TX7) (N := 14) hx hb hts hin_X7 hown hK.1 hP 0 rfl rfl 0 (by decide) f_7 (fun _ h9 => h9) rfl dX7_best_42 ?_
        refine lv_bipush (v := nI 17) hx hb dX7_best_45 (by decide) ?_
        refine lv_aload_n hx hb dX7_best_47 rfl (lv_at hl 0 rfl) ?_
        refine va_get (D := D) (ci := 7) (v := .ref s0) (C := RX7) (T := TX7) (N := 14) hx hb hts hin_X7 hown hK.1 hP 0 rfl rfl 0 (by decide) f_7 (fun _ h9 => h9) rfl dX7_best_48 ?_
        refine lv_bipush (v := nI 16) hx hb dX7_best_51 (by decide) ?_
        refine xn_iald hx hb hK hP 1 rfl (by omega) (by first | decide | omega) (v := nI (V 16)) (rfl) dX7_best_53 ?_
        refine xn_add hx hb (r := (17 + (V 16))) rfl dX7_best_54 ?_
        refine lv_iconst (v := nI 1) hx hb dX7_best_55 (by decide) ?_
        refine xn_sub hx hb (r := ((17 + (V 16)) - 1)) (by omega) rfl dX7_best_56 ?_
        refine xn_iald hx hb hK hP 1 rfl (by omega) (by first | decide | omega) (v := nI (V ((17 + (V 16)) - 1))) (rfl) dX7_best_57 ?_
        refine xv (v := nI (hol V (V 16 - 1))) (congrArg nI (by unfold hol; first | (rw [if_neg (by omega)]; done) | (rw [if_pos (by omega)]; congr 1; omega))) ?_
        exact jn58  ls (lv_sub hl [0, 1] rfl) 
      · have hlz := hI.ho (k := V 16 - 1) (by omega)
        refine lv_iconst (v := nI 0) hx hb dX7_best_37 (by decide) ?_
        refine lv_goto (tgt := 58) hx hb dX7_best_38 (by decide) ?_
        refine xv (v := nI (hol V (V 16 - 1))) (congrArg nI (by unfold hol; first | (rw [if_neg (by omega)]; done) | (rw [if_pos (by omega)]; congr 1; omega))) ?_
        exact jn58  ls (lv_sub hl [0, 1] rfl) 
    · refine lv_ldc hx hb hown f_52 dX7_best_24 ?_
      exact xr_i hx hb hr hlocks dX7_best_26 (beI_l hkw (by omega))
  · refine lv_ldc hx hb hown f_51 dX7_best_9 ?_
    exact xr_i hx hb hr hlocks dX7_best_11 (beI_f (fun hq => (bN_0.mp kc6) ((inx rfl (by decide)).mpr hq)))
set_option maxHeartbeats 8000000 in
set_option maxRecDepth 100000 in
theorem c_X7_isIn (l : Launch) (ky nt : Nat) (hk0 : ky < 12) (hn0 : nt < 12) : Met l yX7_isIn wsX7_isIn ({ frames := 0, cells := 0, slots := 0, locals := 0 }) (va_Pc [.int (nI ky), .int (nI nt)] (fun _ => True)) (vp_Si (fun rz => rz = nI (bv 2741 ((nt + 12 - ky) % 12)))) 0 0 (fun _ => False) := by
  refine Met.ofW (cc := cX7_isIn) (maxL := 3) (ret := (some .boolean)) (by decide) rfl ?_
  intro p e s m args below meth c s₁ B hml hv
  obtain ⟨rfl, -⟩ := hv
  have hx := B.exec
  have hb := B.bytes
  have hr := B.returns
  have hts := atoms_spec (ws := wsX7_isIn) B.pre
  have hown : s.vm.findClass RX7 = some m.cls := findClass_of_methodNamed B.named
  have hlocks := B.notSynchronized
  have hl := lv_entry ([.int (nI ky), .int (nI nt)]) (n := 3) (Nat.le_of_ble_eq_true rfl)
  rw [lg_entry_eq]
  generalize (lg_sl ([.int (nI ky), .int (nI nt)]) ++ List.replicate (3 - (lg_sl ([.int (nI ky), .int (nI nt)])).length) Slot.unset).toArray = ls at hl ⊢
  have hl : lv_has ls 3 [(0, .int (nI ky)), (1, .int (nI nt))] := hl
  refine lv_iload_n hx hb dX7_isIn_0 rfl (lv_at hl 1 rfl) ?_
  refine lv_iload_n hx hb dX7_isIn_1 rfl (lv_at hl 0 rfl) ?_
  refine lv_isub hx hb dX7_isIn_2 ?_
  refine lv_bipush (v := nI 12) hx hb dX7_isIn_3 (by decide) ?_
  refine lv_iadd hx hb dX7_isIn_5 ?_
  refine xv (ky_s nt hn0 ky hk0) ?_
  refine lv_bipush (v := nI 12) hx hb dX7_isIn_6 (by decide) ?_
  refine xn_rem hx hb (r := ((nt + 12 - ky) % 12)) (by omega) (by omega) (by omega) rfl dX7_isIn_8 ?_
  refine lv_istore_n (lv' := [(2, .int (nI ((nt + 12 - ky) % 12))), (0, .int (nI ky)), (1, .int (nI nt))]) hx hb dX7_isIn_9 rfl hl (by decide) rfl (fun ls hl => ?_)
  refine lv_iload_n hx hb dX7_isIn_10 rfl (lv_at hl 0 rfl) ?_
  refine xn_if_eq hx hb (by omega) (tgt := 47) dX7_isIn_11 (by decide) (fun kc11 => ?_) (fun kc11 => ?_)
  · refine lv_iconst (v := nI 1) hx hb dX7_isIn_47 (by decide) ?_
    refine lv_goto (tgt := 52) hx hb dX7_isIn_48 (by decide) ?_
    exact xr_z hx hb hr hlocks dX7_isIn_52 (by omega) (congrArg nI (by rw [← ky7 _ (Nat.mod_lt _ (by decide))]; first | exact (bN_t (by omega)).symm | exact (bN_f (by omega)).symm))
  · refine lv_iload_n hx hb dX7_isIn_14 rfl (lv_at hl 0 rfl) ?_
    refine lv_iconst (v := nI 2) hx hb dX7_isIn_15 (by decide) ?_
    refine xn_icmp_eq hx hb (by omega) (by omega) (tgt := 47) dX7_isIn_16 (by decide) (fun kc16 => ?_) (fun kc16 => ?_)
    · refine lv_iconst (v := nI 1) hx hb dX7_isIn_47 (by decide) ?_
      refine lv_goto (tgt := 52) hx hb dX7_isIn_48 (by decide) ?_
      exact xr_z hx hb hr hlocks dX7_isIn_52 (by omega) (congrArg nI (by rw [← ky7 _ (Nat.mod_lt _ (by decide))]; first | exact (bN_t (by omega)).symm | exact (bN_f (by omega)).symm))
    · refine lv_iload_n hx hb dX7_isIn_19 rfl (lv_at hl 0 rfl) ?_
      refine lv_iconst (v := nI 4) hx hb dX7_isIn_20 (by decide) ?_
      refine xn_icmp_eq hx hb (by omega) (by omega) (tgt := 47) dX7_isIn_21 (by decide) (fun kc21 => ?_) (fun kc21 => ?_)
      · refine lv_iconst (v := nI 1) hx hb dX7_isIn_47 (by decide) ?_
        refine lv_goto (tgt := 52) hx hb dX7_isIn_48 (by decide) ?_
        exact xr_z hx hb hr hlocks dX7_isIn_52 (by omega) (congrArg nI (by rw [← ky7 _ (Nat.mod_lt _ (by decide))]; first | exact (bN_t (by omega)).symm | exact (bN_f (by omega)).symm))
      · refine lv_iload_n hx hb dX7_isIn_24 rfl (lv_at hl 0 rfl) ?_
        refine lv_iconst (v := nI 5) hx hb dX7_isIn_25 (by decide) ?_
        refine xn_icmp_eq hx hb (by omega) (by omega) (tgt := 47) dX7_isIn_26 (by decide) (fun kc26 => ?_) (fun kc26 => ?_)
        · refine lv_iconst (v := nI 1) hx hb dX7_isIn_47 (by decide) ?_
          refine lv_goto (tgt := 52) hx hb dX7_isIn_48 (by decide) ?_
          exact xr_z hx hb hr hlocks dX7_isIn_52 (by omega) (congrArg nI (by rw [← ky7 _ (Nat.mod_lt _ (by decide))]; first | exact (bN_t (by omega)).symm | exact (bN_f (by omega)).symm))
        · refine lv_iload_n hx hb dX7_isIn_29 rfl (lv_at hl 0 rfl) ?_
          refine lv_bipush (v := nI 7) hx hb dX7_isIn_30 (by decide) ?_
          refine xn_icmp_eq hx hb (by omega) (by omega) (tgt := 47) dX7_isIn_32 (by decide) (fun kc32 => ?_) (fun kc32 => ?_)
          · refine lv_iconst (v := nI 1) hx hb dX7_isIn_47 (by decide) ?_
            refine lv_goto (tgt := 52) hx hb dX7_isIn_48 (by decide) ?_
            exact xr_z hx hb hr hlocks dX7_isIn_52 (by omega) (congrArg nI (by rw [← ky7 _ (Nat.mod_lt _ (by decide))]; first | exact (bN_t (by omega)).symm | exact (bN_f (by omega)).symm))
          · refine lv_iload_n hx hb dX7_isIn_35 rfl (lv_at hl 0 rfl) ?_
            refine lv_bipush (v := nI 9) hx hb dX7_isIn_36 (by decide) ?_
            refine xn_icmp_eq hx hb (by omega) (by omega) (tgt := 47) dX7_isIn_38 (by decide) (fun kc38 => ?_) (fun kc38 => ?_)
            · refine lv_iconst (v := nI 1) hx hb dX7_isIn_47 (by decide) ?_
              refine lv_goto (tgt := 52) hx hb dX7_isIn_48 (by decide) ?_
              exact xr_z hx hb hr hlocks dX7_isIn_52 (by omega) (congrArg nI (by rw [← ky7 _ (Nat.mod_lt _ (by decide))]; first | exact (bN_t (by omega)).symm | exact (bN_f (by omega)).symm))
            · refine lv_iload_n hx hb dX7_isIn_41 rfl (lv_at hl 0 rfl) ?_
              refine lv_bipush (v := nI 11) hx hb dX7_isIn_42 (by decide) ?_
              refine xn_icmp_ne hx hb (by omega) (by omega) (tgt := 51) dX7_isIn_44 (by decide) (fun kc44 => ?_) (fun kc44 => ?_)
              · refine lv_iconst (v := nI 0) hx hb dX7_isIn_51 (by decide) ?_
                exact xr_z hx hb hr hlocks dX7_isIn_52 (by omega) (congrArg nI (by rw [← ky7 _ (Nat.mod_lt _ (by decide))]; first | exact (bN_t (by omega)).symm | exact (bN_f (by omega)).symm))
              · refine lv_iconst (v := nI 1) hx hb dX7_isIn_47 (by decide) ?_
                refine lv_goto (tgt := 52) hx hb dX7_isIn_48 (by decide) ?_
                exact xr_z hx hb hr hlocks dX7_isIn_52 (by omega) (congrArg nI (by rw [← ky7 _ (Nat.mod_lt _ (by decide))]; first | exact (bN_t (by omega)).symm | exact (bN_f (by omega)).symm))
set_option maxHeartbeats 8000000 in
set_option maxRecDepth 100000 in
theorem c_X7_fits (l : Launch) (D : va_G) (y : Nat → ClassId) (g s0 a0 b0 x0 kn L ta wr le : Nat) (o1 o2 : Int32) (po rs : Nat) (ca : Int32) (V : Nat → Nat) (hI : Inv V) (ky : Nat) (hk0 : ky < 12) : Met l yX7_fits wsX7_fits ({ frames := 4, cells := 0, slots := 0, locals := 89 }) (va_Pc [.ref g, .int (nI ky)] (xPr D y [(g, .inr (7, [.ref s0, .ref a0, .ref b0, .int (nI kn), .ref x0, .int (nI L), .int (nI ta), .int (nI wr), .int (nI le), .int o1, .int o2, .int (nI po), .int (nI rs), .int ca])), (s0, .inl (y 1, 72, .inl (fun j9 => nI (V j9))))])) (vp_Si (fun rz => rz = nI (keN V ky))) 0 0 (fun _ => False) := by
  refine Met.ofW (cc := cX7_fits) (maxL := 4) (ret := (some .int)) (by decide) rfl ?_
  intro p e s m args below meth c s₁ B hml hv
  obtain ⟨rfl, hP, hK⟩ := hv
  have hx := B.exec
  have hb := B.bytes
  have hr := B.returns
  have hts := atoms_spec (ws := wsX7_fits) B.pre
  have hown : s.vm.findClass RX7 = some m.cls := findClass_of_methodNamed B.named
  have hlocks := B.notSynchronized
  have f_7 := hts (.fieldLink RX7 7 "LoomTunesModel" "s" "[I") (by decide +kernel)
  have hin_X7 : ∀ w ∈ wsX70, w ∈ wsX7_fits := by decide +kernel
  have hP : va_P D vwCl [(g, .inr (7, [.ref s0, .ref a0, .ref b0, .int (nI kn), .ref x0, .int (nI L), .int (nI ta), .int (nI wr), .int (nI le), .int o1, .int o2, .int (nI po), .int (nI rs), .int ca])), (s0, .inl (y 1, 72, .inl (fun j9 => nI (V j9))))] s.heap := hP
  have hl := lv_entry ([.ref g, .int (nI ky)]) (n := 4) (Nat.le_of_ble_eq_true rfl)
  rw [lg_entry_eq]
  generalize (lg_sl ([.ref g, .int (nI ky)]) ++ List.replicate (4 - (lg_sl ([.ref g, .int (nI ky)])).length) Slot.unset).toArray = ls at hl ⊢
  have hl : lv_has ls 4 [(0, .ref g), (1, .int (nI ky))] := hl
  have hnt : ∀ {k : Nat}, k < 8 → V k < 48 := fun hk => hI.nt hk
  have htl : ∀ {t : Nat}, toT V t ≤ 24 := fun {t} => toT_le hI
  refine lv_iconst (v := nI 0) hx hb dX7_fits_0 (by decide) ?_
  refine lv_istore_n (lv' := [(2, .int (nI 0)), (0, .ref g), (1, .int (nI ky))]) hx hb dX7_fits_1 rfl hl (by decide) rfl (fun ls hl => ?_)
  refine lv_iconst (v := nI 0) hx hb dX7_fits_2 (by decide) ?_
  refine lv_istore_n (lv' := [(3, .int (nI 0)), (2, .int (nI 0)), (0, .ref g), (1, .int (nI ky))]) hx hb dX7_fits_3 rfl hl (by decide) rfl (fun ls hl => ?_)
  have lp4 : ∀ (n : Nat) (i : Nat), 8 - i < n → (i ≤ 8) → ∀ ls : Array Slot, lv_has ls 4 [(3, .int (nI i)), (2, .int (nI (sN (fun t => bv 2741 ((V t + 12 - ky) % 12) * toT V t) i))), (0, .ref g), (1, .int (nI ky))] → W p l e (headSpec wsX7_fits ({ frames := 4, cells := 0, slots := 0, locals := 89 })).room s m ([.ref g, .int (nI ky)] : List Value).toArray below meth c s.heap [] 0 0 (MQ below (vp_Si (fun rz => rz = nI (keN V ky))) ([.ref g, .int (nI ky)] : List Value).toArray s 0 0 (fun _ => False)) (F0 m 4 ls []) := by
    intro n
    induction n with
    | zero => intro i hm; exact absurd hm (Nat.not_lt_zero _)
    | succ n ih4 =>
      intro i hm hi ls hl
      refine lv_iload_n hx hb dX7_fits_4 rfl (lv_at hl 0 rfl) ?_
      refine lv_bipush (v := nI 8) hx hb dX7_fits_5 (by decide) ?_
      refine xn_icmp_ge hx hb (by omega) (by omega) (tgt := 47) dX7_fits_7 (by decide) (fun kc7 => ?_) (fun kc7 => ?_)
      · refine lv_iload_n hx hb dX7_fits_47 rfl (lv_at hl 1 rfl) ?_
        exact xr_i hx hb hr hlocks dX7_fits_48 (congrArg nI (by rw [show i = 8 by omega]))
      · have hni := hnt (k := i) (by omega)
        have hb1 := bv_lt (h := 2741) (k := (V i % 12 + 12 - ky) % 12)
        have ht1 := htl (t := i)
        refine lv_iload_n hx hb dX7_fits_10 rfl (lv_at hl 1 rfl) ?_
        refine lv_iload_n hx hb dX7_fits_11 rfl (lv_at hl 3 rfl) ?_
        refine lv_aload_n hx hb dX7_fits_12 rfl (lv_at hl 2 rfl) ?_
        refine va_get (D := D) (ci := 7) (v := .ref s0) (C := RX7) (T := TX7) (N := 14) hx hb hts hin_X7 hown hK.1 hP 0 rfl rfl 0 (by decide) f_7 (fun _ h9 => h9) rfl dX7_fits_13 ?_
        refine lv_iconst (v := nI 0) hx hb dX7_fits_16 (by decide) ?_
        refine lv_iload_n hx hb dX7_fits_17 rfl (lv_at hl 0 rfl) ?_
        refine xn_add hx hb (r := i) (Nat.zero_add _) dX7_fits_18 ?_
        refine xn_iald hx hb hK hP 1 rfl (by omega) (by first | decide | omega) (v := nI (V i)) (rfl) dX7_fits_19 ?_
        refine lv_bipush (v := nI 12) hx hb dX7_fits_20 (by decide) ?_
        refine xn_rem hx hb (r := ((V i) % 12)) (by omega) (by omega) (by omega) rfl dX7_fits_22 ?_
        refine xc_S (As := [.int (nI ky), .int (nI ((V i) % 12))]) (rest := [.int (nI (sN (fun t => bv 2741 ((V t + 12 - ky) % 12) * toT V t) i))]) ⟨hx, hb, hml, hown, hts⟩ (c_X7_isIn l ky ((V i) % 12) (by omega) (by omega)) (va_cwS 2 hts gX7_fits_X7_isIn rfl rfl rfl hd_X7_isIn.2 ⟨Nat.le_of_ble_eq_true rfl, Nat.le_of_ble_eq_true rfl⟩) xps_0 rfl hl.1 rfl (Nat.le_of_ble_eq_true rfl) dX7_fits_23 ⟨Nat.zero_le _, Nat.zero_le _⟩ (fun r1 hr1 => ?_)
        subst hr1
        refine xn_if_eq hx hb (by omega) (tgt := 38) dX7_fits_26 (by decide) (fun kc26 => ?_) (fun kc26 => ?_)
        · refine lv_iconst (v := nI 0) hx hb dX7_fits_38 (by decide) ?_
          refine xn_add hx hb (r := ((sN (fun t => bv 2741 ((V t + 12 - ky) % 12) * toT V t) i) + 0)) rfl dX7_fits_39 ?_
          refine lv_istore_n (lv' := [(2, .int (nI ((sN (fun t => bv 2741 ((V t + 12 - ky) % 12) * toT V t) i) + 0))), (3, .int (nI i)), (0, .ref g), (1, .int (nI ky))]) hx hb dX7_fits_40 rfl hl (by decide) rfl (fun ls hl => ?_)
          refine lv_iinc (v := nI (i + 1)) (lv' := [(3, .int (nI (i + 1))), (2, .int (nI ((sN (fun t => bv 2741 ((V t + 12 - ky) % 12) * toT V t) i) + 0))), (0, .ref g), (1, .int (nI ky))]) hx hb dX7_fits_41 hl (k := 1) rfl (nI_add i 1) (by decide) rfl (fun ls hl => ?_)
          refine lv_goto (tgt := 4) hx hb dX7_fits_44 (by decide) ?_
          have e2 : ((sN (fun t => bv 2741 ((V t + 12 - ky) % 12) * toT V t) i) + 0) = (sN (fun t => bv 2741 ((V t + 12 - ky) % 12) * toT V t) (i + 1)) := by rw [sN_s, show (V i + 12 - ky) % 12 = (V i % 12 + 12 - ky) % 12 by omega]; first | (rw [kc26, Nat.zero_mul]; done) | (rw [show bv 2741 ((V i % 12 + 12 - ky) % 12) = 1 by omega, Nat.one_mul]; done)
          exact ih4 (i + 1) (by omega) (by omega) ls (xl_eq (b := [(3, .int (nI (i + 1))), (2, .int (nI (sN (fun t => bv 2741 ((V t + 12 - ky) % 12) * toT V t) (i + 1)))), (0, .ref g), (1, .int (nI ky))]) (lv_sub (l' := [(3, .int (nI (i + 1))), (2, .int (nI ((sN (fun t => bv 2741 ((V t + 12 - ky) % 12) * toT V t) i) + 0))), (0, .ref g), (1, .int (nI ky))]) hl [0, 1, 2, 3] rfl) (xk rfl (xk (congrArg (fun z : Nat => Value.int (nI z)) e2) (xk rfl (xk rfl (rfl : ([] : List (Nat × Value)) = []))))))
        · refine lv_aload_n hx hb dX7_fits_29 rfl (lv_at hl 2 rfl) ?_
          refine lv_iload_n hx hb dX7_fits_30 rfl (lv_at hl 0 rfl) ?_
          refine lv_iconst (v := nI 2) hx hb dX7_fits_31 (by decide) ?_
          refine xc_V (As := [.int (nI i), .int (nI 2)]) (rest := [.int (nI (sN (fun t => bv 2741 ((V t + 12 - ky) % 12) * toT V t) i))]) ⟨hx, hb, hml, hown, hts⟩ (c_X7_rows l D y g s0 a0 b0 x0 kn L ta wr le o1 o2 po rs ca V hI i 2 (by omega) (by omega)) (cwV 2 hts gX7_fits_X7_rows rfl rfl rfl hd_X7_rows ⟨Nat.le_of_ble_eq_true rfl, Nat.le_of_ble_eq_true rfl⟩) (xpv_r hK hP [0, 1] 0 rfl rfl rfl) rfl hl.1 rfl (Nat.le_of_ble_eq_true rfl) dX7_fits_32 ⟨Nat.zero_le _, Nat.zero_le _⟩ (fun r3 hr3 => ?_)
          subst hr3
          refine xv (v := nI (toT V i)) rfl ?_
          refine lv_goto (tgt := 39) hx hb dX7_fits_35 (by decide) ?_
          refine xn_add hx hb (r := ((sN (fun t => bv 2741 ((V t + 12 - ky) % 12) * toT V t) i) + (toT V i))) rfl dX7_fits_39 ?_
          refine lv_istore_n (lv' := [(2, .int (nI ((sN (fun t => bv 2741 ((V t + 12 - ky) % 12) * toT V t) i) + (toT V i)))), (3, .int (nI i)), (0, .ref g), (1, .int (nI ky))]) hx hb dX7_fits_40 rfl hl (by decide) rfl (fun ls hl => ?_)
          refine lv_iinc (v := nI (i + 1)) (lv' := [(3, .int (nI (i + 1))), (2, .int (nI ((sN (fun t => bv 2741 ((V t + 12 - ky) % 12) * toT V t) i) + (toT V i)))), (0, .ref g), (1, .int (nI ky))]) hx hb dX7_fits_41 hl (k := 1) rfl (nI_add i 1) (by decide) rfl (fun ls hl => ?_)
          refine lv_goto (tgt := 4) hx hb dX7_fits_44 (by decide) ?_
          have e4 : ((sN (fun t => bv 2741 ((V t + 12 - ky) % 12) * toT V t) i) + (toT V i)) = (sN (fun t => bv 2741 ((V t + 12 - ky) % 12) * toT V t) (i + 1)) := by rw [sN_s, show (V i + 12 - ky) % 12 = (V i % 12 + 12 - ky) % 12 by omega]; first | (rw [kc26, Nat.zero_mul]; done) | (rw [show bv 2741 ((V i % 12 + 12 - ky) % 12) = 1 by omega, Nat.one_mul]; done)
          exact ih4 (i + 1) (by omega) (by omega) ls (xl_eq (b := [(3, .int (nI (i + 1))), (2, .int (nI (sN (fun t => bv 2741 ((V t + 12 - ky) % 12) * toT V t) (i + 1)))), (0, .ref g), (1, .int (nI ky))]) (lv_sub (l' := [(3, .int (nI (i + 1))), (2, .int (nI ((sN (fun t => bv 2741 ((V t + 12 - ky) % 12) * toT V t) i) + (toT V i)))), (0, .ref g), (1, .int (nI ky))]) hl [0, 1, 2, 3] rfl) (xk rfl (xk (congrArg (fun z : Nat => Value.int (nI z)) e4) (xk rfl (xk rfl (rfl : ([] : List (Nat × Value)) = []))))))
  have e5 : 0 = (sN (fun t => bv 2741 ((V t + 12 - ky) % 12) * toT V t) 0) := rfl
  exact lp4 ((8 - 0) + 1) 0 (Nat.lt_succ_self _) (by omega) ls (xl_eq (b := [(3, .int (nI 0)), (2, .int (nI (sN (fun t => bv 2741 ((V t + 12 - ky) % 12) * toT V t) 0))), (0, .ref g), (1, .int (nI ky))]) (lv_sub (l' := [(3, .int (nI 0)), (2, .int (nI 0)), (0, .ref g), (1, .int (nI ky))]) hl [0, 1, 2, 3] rfl) (xk rfl (xk (congrArg (fun z : Nat => Value.int (nI z)) e5) (xk rfl (xk rfl (rfl : ([] : List (Nat × Value)) = []))))))
set_option maxHeartbeats 8000000 in
set_option maxRecDepth 100000 in
theorem c_X7_key (l : Launch) (D : va_G) (y : Nat → ClassId) (g s0 a0 b0 x0 kn L ta wr le : Nat) (o1 o2 : Int32) (po rs : Nat) (ca : Int32) (V : Nat → Nat) (hI : Inv V) (w : Int32) : Met l yX7_key wsX7_key ({ frames := 5, cells := 0, slots := 0, locals := 112 }) (va_Pc [.ref g, .int w] (xPr D y [(g, .inr (7, [.ref s0, .ref a0, .ref b0, .int (nI kn), .ref x0, .int (nI L), .int (nI ta), .int (nI wr), .int (nI le), .int o1, .int o2, .int (nI po), .int (nI rs), .int ca])), (s0, .inl (y 1, 72, .inl (fun j9 => nI (V j9))))])) (vp_Si (fun rz => rz = kyI V w)) 0 0 (fun _ => False) := by
  refine Met.ofW (cc := cX7_key) (maxL := 4) (ret := (some .int)) (by decide) rfl ?_
  intro p e s m args below meth c s₁ B hml hv
  obtain ⟨rfl, hP, hK⟩ := hv
  have hx := B.exec
  have hb := B.bytes
  have hr := B.returns
  have hts := atoms_spec (ws := wsX7_key) B.pre
  have hown : s.vm.findClass RX7 = some m.cls := findClass_of_methodNamed B.named
  have hlocks := B.notSynchronized
  have f_51 := hts (.constant RX7 51 (-1000001)) (by decide +kernel)
  have f_93 := hts (.constant RX7 93 (-1000004)) (by decide +kernel)
  have hP : va_P D vwCl [(g, .inr (7, [.ref s0, .ref a0, .ref b0, .int (nI kn), .ref x0, .int (nI L), .int (nI ta), .int (nI wr), .int (nI le), .int o1, .int o2, .int (nI po), .int (nI rs), .int ca])), (s0, .inl (y 1, 72, .inl (fun j9 => nI (V j9))))] s.heap := hP
  have hl := lv_entry ([.ref g, .int w]) (n := 4) (Nat.le_of_ble_eq_true rfl)
  rw [lg_entry_eq]
  generalize (lg_sl ([.ref g, .int w]) ++ List.replicate (4 - (lg_sl ([.ref g, .int w])).length) Slot.unset).toArray = ls at hl ⊢
  have hl : lv_has ls 4 [(0, .ref g), (1, .int w)] := hl
  have hsz := hI.sz
  have hblw := bN_lt (c := ¬ w < nI 0 ∧ ¬ nI 1 < w)
  have hat := alT_le hI
  have hkl : ∀ {k : Nat}, keN V k ≤ 192 := fun {k} => keN_le hI (k := k)
  refine lv_iload_n hx hb dX7_key_0 rfl (lv_at hl 1 rfl) ?_
  refine lv_iconst (v := nI 0) hx hb dX7_key_1 (by decide) ?_
  refine lv_iconst (v := nI 1) hx hb dX7_key_2 (by decide) ?_
  refine xc_S (As := [.int w, .int (nI 0), .int (nI 1)]) (rest := []) ⟨hx, hb, hml, hown, hts⟩ (c_X7_in l w (nI 0) (nI 1)) (va_cwS 3 hts gX7_key_X7_in rfl rfl rfl hd_X7_in.2 ⟨Nat.le_of_ble_eq_true rfl, Nat.le_of_ble_eq_true rfl⟩) xps_0 rfl hl.1 rfl (Nat.le_of_ble_eq_true rfl) dX7_key_3 ⟨Nat.zero_le _, Nat.zero_le _⟩ (fun r1 hr1 => ?_)
  subst hr1
  refine xn_if_ne hx hb (by omega) (tgt := 12) dX7_key_6 (by decide) (fun kc6 => ?_) (fun kc6 => ?_)
  · obtain ⟨kw, hkw, rfl⟩ := inR_k (n := 2) (by decide) ((inx rfl (by decide)).mp (bN_n0.mp kc6))
    refine lv_aload_n hx hb dX7_key_12 rfl (lv_at hl 0 rfl) ?_
    refine xc_V (As := []) (rest := []) ⟨hx, hb, hml, hown, hts⟩ (c_X7_tones l D y g s0 a0 b0 x0 kn L ta wr le o1 o2 po rs ca V hI ) (cwV 0 hts gX7_key_X7_tones rfl rfl rfl hd_X7_tones ⟨Nat.le_of_ble_eq_true rfl, Nat.le_of_ble_eq_true rfl⟩) (xpv_r hK hP [0, 1] 0 rfl rfl rfl) rfl hl.1 rfl (Nat.le_of_ble_eq_true rfl) dX7_key_13 ⟨Nat.zero_le _, Nat.zero_le _⟩ (fun r2 hr2 => ?_)
    subst hr2
    refine xn_if_ne hx hb (by omega) (tgt := 22) dX7_key_16 (by decide) (fun kc16 => ?_) (fun kc16 => ?_)
    · refine lv_iconst (v := nI 0) hx hb dX7_key_22 (by decide) ?_
      refine lv_istore_n (lv' := [(2, .int (nI 0)), (0, .ref g), (1, .int (nI kw))]) hx hb dX7_key_23 rfl hl (by decide) rfl (fun ls hl => ?_)
      refine lv_iconst (v := nI 1) hx hb dX7_key_24 (by decide) ?_
      refine lv_istore_n (lv' := [(3, .int (nI 1)), (2, .int (nI 0)), (0, .ref g), (1, .int (nI kw))]) hx hb dX7_key_25 rfl hl (by decide) rfl (fun ls hl => ?_)
      have lp26 : ∀ (n : Nat) (i : Nat), 12 - i < n → (1 ≤ i) → (i ≤ 12) → ∀ ls : Array Slot, lv_has ls 4 [(3, .int (nI i)), (2, .int (nI (kyA V i))), (0, .ref g), (1, .int (nI kw))] → W p l e (headSpec wsX7_key ({ frames := 5, cells := 0, slots := 0, locals := 112 })).room s m ([.ref g, .int (nI kw)] : List Value).toArray below meth c s.heap [] 0 0 (MQ below (vp_Si (fun rz => rz = kyI V (nI kw))) ([.ref g, .int (nI kw)] : List Value).toArray s 0 0 (fun _ => False)) (F0 m 26 ls []) := by
        intro n
        induction n with
        | zero => intro i hm; exact absurd hm (Nat.not_lt_zero _)
        | succ n ih26 =>
          intro i hm h1 hi ls hl
          refine lv_iload_n hx hb dX7_key_26 rfl (lv_at hl 0 rfl) ?_
          refine lv_bipush (v := nI 12) hx hb dX7_key_27 (by decide) ?_
          refine xn_icmp_ge hx hb (by omega) (by omega) (tgt := 57) dX7_key_29 (by decide) (fun kc29 => ?_) (fun kc29 => ?_)
          · have hi9 : i = 12 := by omega
            have hk3 := kyA_lt9 (V := V) i (by omega)
            refine lv_iload_n hx hb dX7_key_57 rfl (lv_at hl 3 rfl) ?_
            refine xn_if_ne hx hb (by omega) (tgt := 65) dX7_key_58 (by decide) (fun kc58 => ?_) (fun kc58 => ?_)
            · refine lv_aload_n hx hb dX7_key_65 rfl (lv_at hl 2 rfl) ?_
              refine lv_iload_n hx hb dX7_key_66 rfl (lv_at hl 1 rfl) ?_
              refine xc_V (As := [.int (nI (kyA V i))]) (rest := []) ⟨hx, hb, hml, hown, hts⟩ (c_X7_fits l D y g s0 a0 b0 x0 kn L ta wr le o1 o2 po rs ca V hI (kyA V i) (by omega)) (cwV 1 hts gX7_key_X7_fits rfl rfl rfl hd_X7_fits ⟨Nat.le_of_ble_eq_true rfl, Nat.le_of_ble_eq_true rfl⟩) (xpv_r hK hP [0, 1] 0 rfl rfl rfl) rfl hl.1 rfl (Nat.le_of_ble_eq_true rfl) dX7_key_67 ⟨Nat.zero_le _, Nat.zero_le _⟩ (fun r3 hr3 => ?_)
              subst hr3
              exact xr_i hx hb hr hlocks dX7_key_70 (by rw [kyI_n hkw kc16, if_neg kc58, hi9])
            · refine lv_iload_n hx hb dX7_key_61 rfl (lv_at hl 1 rfl) ?_
              refine lv_goto (tgt := 70) hx hb dX7_key_62 (by decide) ?_
              exact xr_i hx hb hr hlocks dX7_key_70 (by rw [kyI_n hkw kc16, if_pos kc58, hi9])
          · have hk1 := hkl (k := i)
            have hk2 := hkl (k := kyA V i)
            have hk3 := kyA_lt (V := V) i
            refine lv_aload_n hx hb dX7_key_32 rfl (lv_at hl 2 rfl) ?_
            refine lv_iload_n hx hb dX7_key_33 rfl (lv_at hl 0 rfl) ?_
            refine xc_V (As := [.int (nI i)]) (rest := []) ⟨hx, hb, hml, hown, hts⟩ (c_X7_fits l D y g s0 a0 b0 x0 kn L ta wr le o1 o2 po rs ca V hI i (by omega)) (cwV 1 hts gX7_key_X7_fits rfl rfl rfl hd_X7_fits ⟨Nat.le_of_ble_eq_true rfl, Nat.le_of_ble_eq_true rfl⟩) (xpv_r hK hP [0, 1] 0 rfl rfl rfl) rfl hl.1 rfl (Nat.le_of_ble_eq_true rfl) dX7_key_34 ⟨Nat.zero_le _, Nat.zero_le _⟩ (fun r4 hr4 => ?_)
            subst hr4
            refine lv_aload_n hx hb dX7_key_37 rfl (lv_at hl 2 rfl) ?_
            refine lv_iload_n hx hb dX7_key_38 rfl (lv_at hl 1 rfl) ?_
            refine xc_V (As := [.int (nI (kyA V i))]) (rest := [.int (nI (keN V i))]) ⟨hx, hb, hml, hown, hts⟩ (c_X7_fits l D y g s0 a0 b0 x0 kn L ta wr le o1 o2 po rs ca V hI (kyA V i) (by omega)) (cwV 1 hts gX7_key_X7_fits rfl rfl rfl hd_X7_fits ⟨Nat.le_of_ble_eq_true rfl, Nat.le_of_ble_eq_true rfl⟩) (xpv_r hK hP [0, 1] 0 rfl rfl rfl) rfl hl.1 rfl (Nat.le_of_ble_eq_true rfl) dX7_key_39 ⟨Nat.zero_le _, Nat.zero_le _⟩ (fun r5 hr5 => ?_)
            subst hr5
            refine xn_icmp_le hx hb (by omega) (by omega) (tgt := 49) dX7_key_42 (by decide) (fun kc42 => ?_) (fun kc42 => ?_)
            · refine lv_iload_n hx hb dX7_key_49 rfl (lv_at hl 1 rfl) ?_
              refine lv_istore_n (lv' := [(2, .int (nI (kyA V i))), (3, .int (nI i)), (0, .ref g), (1, .int (nI kw))]) hx hb dX7_key_50 rfl hl (by decide) rfl (fun ls hl => ?_)
              refine lv_iinc (v := nI (i + 1)) (lv' := [(3, .int (nI (i + 1))), (2, .int (nI (kyA V i))), (0, .ref g), (1, .int (nI kw))]) hx hb dX7_key_51 hl (k := 1) rfl (nI_add i 1) (by decide) rfl (fun ls hl => ?_)
              refine lv_goto (tgt := 26) hx hb dX7_key_54 (by decide) ?_
              have e6 : (kyA V i) = (kyA V (i + 1)) := by rw [kyA]; first | rw [if_pos kc42] | rw [if_neg (by omega)]
              exact ih26 (i + 1) (by omega) (by omega) (by omega) ls (xl_eq (b := [(3, .int (nI (i + 1))), (2, .int (nI (kyA V (i + 1)))), (0, .ref g), (1, .int (nI kw))]) (lv_sub (l' := [(3, .int (nI (i + 1))), (2, .int (nI (kyA V i))), (0, .ref g), (1, .int (nI kw))]) hl [0, 1, 2, 3] rfl) (xk rfl (xk (congrArg (fun z : Nat => Value.int (nI z)) e6) (xk rfl (xk rfl (rfl : ([] : List (Nat × Value)) = []))))))
            · refine lv_iload_n hx hb dX7_key_45 rfl (lv_at hl 0 rfl) ?_
              refine lv_goto (tgt := 50) hx hb dX7_key_46 (by decide) ?_
              refine lv_istore_n (lv' := [(2, .int (nI i)), (3, .int (nI i)), (0, .ref g), (1, .int (nI kw))]) hx hb dX7_key_50 rfl hl (by decide) rfl (fun ls hl => ?_)
              refine lv_iinc (v := nI (i + 1)) (lv' := [(3, .int (nI (i + 1))), (2, .int (nI i)), (0, .ref g), (1, .int (nI kw))]) hx hb dX7_key_51 hl (k := 1) rfl (nI_add i 1) (by decide) rfl (fun ls hl => ?_)
              refine lv_goto (tgt := 26) hx hb dX7_key_54 (by decide) ?_
              have e7 : i = (kyA V (i + 1)) := by rw [kyA]; first | rw [if_pos kc42] | rw [if_neg (by omega)]
              exact ih26 (i + 1) (by omega) (by omega) (by omega) ls (xl_eq (b := [(3, .int (nI (i + 1))), (2, .int (nI (kyA V (i + 1)))), (0, .ref g), (1, .int (nI kw))]) (lv_sub (l' := [(3, .int (nI (i + 1))), (2, .int (nI i)), (0, .ref g), (1, .int (nI kw))]) hl [0, 1, 2, 3] rfl) (xk rfl (xk (congrArg (fun z : Nat => Value.int (nI z)) e7) (xk rfl (xk rfl (rfl : ([] : List (Nat × Value)) = []))))))
      have e8 : 0 = (kyA V 1) := by simp [kyA]
      exact lp26 ((12 - 1) + 1) 1 (Nat.lt_succ_self _) (by omega) (by omega) ls (xl_eq (b := [(3, .int (nI 1)), (2, .int (nI (kyA V 1))), (0, .ref g), (1, .int (nI kw))]) (lv_sub (l' := [(3, .int (nI 1)), (2, .int (nI 0)), (0, .ref g), (1, .int (nI kw))]) hl [0, 1, 2, 3] rfl) (xk rfl (xk (congrArg (fun z : Nat => Value.int (nI z)) e8) (xk rfl (xk rfl (rfl : ([] : List (Nat × Value)) = []))))))
    · refine lv_ldc hx hb hown f_93 dX7_key_19 ?_
      exact xr_i hx hb hr hlocks dX7_key_21 (kyI_0 hkw kc16)
  · refine lv_ldc hx hb hown f_51 dX7_key_9 ?_
    exact xr_i hx hb hr hlocks dX7_key_11 (kyI_f (fun hq => (bN_0.mp kc6) ((inx rfl (by decide)).mpr hq)))
set_option maxHeartbeats 8000000 in
set_option maxRecDepth 100000 in
theorem c_X7_like (l : Launch) (D : va_G) (y : Nat → ClassId) (g s0 a0 b0 x0 kn L ta wr le : Nat) (o1 o2 : Int32) (po rs : Nat) (ca : Int32) (V : Nat → Nat) (hI : Inv V) (w : Int32) : Met l yX7_like wsX7_like ({ frames := 2, cells := 0, slots := 0, locals := 43 }) (va_Pc [.ref g, .int w] (xPr D y [(g, .inr (7, [.ref s0, .ref a0, .ref b0, .int (nI kn), .ref x0, .int (nI L), .int (nI ta), .int (nI wr), .int (nI le), .int o1, .int o2, .int (nI po), .int (nI rs), .int ca])), (s0, .inl (y 1, 72, .inl (fun j9 => nI (V j9))))])) (vp_Si (fun rz => rz = lkI V w)) 0 0 (fun _ => False) := by
  refine Met.ofW (cc := cX7_like) (maxL := 5) (ret := (some .int)) (by decide) rfl ?_
  intro p e s m args below meth c s₁ B hml hv
  obtain ⟨rfl, hP, hK⟩ := hv
  have hx := B.exec
  have hb := B.bytes
  have hr := B.returns
  have hts := atoms_spec (ws := wsX7_like) B.pre
  have hown : s.vm.findClass RX7 = some m.cls := findClass_of_methodNamed B.named
  have hlocks := B.notSynchronized
  have f_51 := hts (.constant RX7 51 (-1000001)) (by decide +kernel)
  have f_7 := hts (.fieldLink RX7 7 "LoomTunesModel" "s" "[I") (by decide +kernel)
  have hin_X7 : ∀ w ∈ wsX70, w ∈ wsX7_like := by decide +kernel
  have hP : va_P D vwCl [(g, .inr (7, [.ref s0, .ref a0, .ref b0, .int (nI kn), .ref x0, .int (nI L), .int (nI ta), .int (nI wr), .int (nI le), .int o1, .int o2, .int (nI po), .int (nI rs), .int ca])), (s0, .inl (y 1, 72, .inl (fun j9 => nI (V j9))))] s.heap := hP
  have hl := lv_entry ([.ref g, .int w]) (n := 5) (Nat.le_of_ble_eq_true rfl)
  rw [lg_entry_eq]
  generalize (lg_sl ([.ref g, .int w]) ++ List.replicate (5 - (lg_sl ([.ref g, .int w])).length) Slot.unset).toArray = ls at hl ⊢
  have hl : lv_has ls 5 [(0, .ref g), (1, .int w)] := hl
  have hsz := hI.sz
  have hblw := bN_lt (c := ¬ w < nI 0 ∧ ¬ nI 2 < w)
  refine lv_iload_n hx hb dX7_like_0 rfl (lv_at hl 1 rfl) ?_
  refine lv_iconst (v := nI 0) hx hb dX7_like_1 (by decide) ?_
  refine lv_iconst (v := nI 2) hx hb dX7_like_2 (by decide) ?_
  refine xc_S (As := [.int w, .int (nI 0), .int (nI 2)]) (rest := []) ⟨hx, hb, hml, hown, hts⟩ (c_X7_in l w (nI 0) (nI 2)) (va_cwS 3 hts gX7_like_X7_in rfl rfl rfl hd_X7_in.2 ⟨Nat.le_of_ble_eq_true rfl, Nat.le_of_ble_eq_true rfl⟩) xps_0 rfl hl.1 rfl (Nat.le_of_ble_eq_true rfl) dX7_like_3 ⟨Nat.zero_le _, Nat.zero_le _⟩ (fun r1 hr1 => ?_)
  subst hr1
  refine xn_if_ne hx hb (by omega) (tgt := 12) dX7_like_6 (by decide) (fun kc6 => ?_) (fun kc6 => ?_)
  · obtain ⟨kw, hkw, rfl⟩ := inR_k (n := 3) (by decide) ((inx rfl (by decide)).mp (bN_n0.mp kc6))
    refine lv_iconst (v := nI 1) hx hb dX7_like_12 (by decide) ?_
    refine lv_istore_n (lv' := [(2, .int (nI 1)), (0, .ref g), (1, .int (nI kw))]) hx hb dX7_like_13 rfl hl (by decide) rfl (fun ls hl => ?_)
    refine lv_iconst (v := nI 0) hx hb dX7_like_14 (by decide) ?_
    refine lv_istore_n (lv' := [(3, .int (nI 0)), (2, .int (nI 1)), (0, .ref g), (1, .int (nI kw))]) hx hb dX7_like_15 rfl hl (by decide) rfl (fun ls hl => ?_)
    have lp16 : ∀ (n : Nat) (i : Nat), V 16 - i < n → (i ≤ V 16) → ∀ ls : Array Slot, lv_has ls 5 [(3, .int (nI i)), (2, .int (nI (lkN V kw i))), (0, .ref g), (1, .int (nI kw))] → W p l e (headSpec wsX7_like ({ frames := 2, cells := 0, slots := 0, locals := 43 })).room s m ([.ref g, .int (nI kw)] : List Value).toArray below meth c s.heap [] 0 0 (MQ below (vp_Si (fun rz => rz = lkI V (nI kw))) ([.ref g, .int (nI kw)] : List Value).toArray s 0 0 (fun _ => False)) (F0 m 16 ls []) := by
      intro n
      induction n with
      | zero => intro i hm; exact absurd hm (Nat.not_lt_zero _)
      | succ n ih16 =>
        intro i hm hi ls hl
        refine lv_iload_n hx hb dX7_like_16 rfl (lv_at hl 0 rfl) ?_
        refine lv_aload_n hx hb dX7_like_17 rfl (lv_at hl 2 rfl) ?_
        refine va_get (D := D) (ci := 7) (v := .ref s0) (C := RX7) (T := TX7) (N := 14) hx hb hts hin_X7 hown hK.1 hP 0 rfl rfl 0 (by decide) f_7 (fun _ h9 => h9) rfl dX7_like_18 ?_
        refine lv_bipush (v := nI 16) hx hb dX7_like_21 (by decide) ?_
        refine xn_iald hx hb hK hP 1 rfl (by omega) (by first | decide | omega) (v := nI (V 16)) (rfl) dX7_like_23 ?_
        refine xn_icmp_ge hx hb (by omega) (by omega) (tgt := 99) dX7_like_24 (by decide) (fun kc24 => ?_) (fun kc24 => ?_)
        · have hi9 : i = V 16 := by omega
          have hlk := lkN_lt (V := V) (w := kw) i
          refine lv_iload_n hx hb dX7_like_99 rfl (lv_at hl 1 rfl) ?_
          refine xn_if_eq hx hb (by omega) (tgt := 107) dX7_like_100 (by decide) (fun kc100 => ?_) (fun kc100 => ?_)
          · refine lv_iconst (v := nI 0) hx hb dX7_like_107 (by decide) ?_
            exact xr_i hx hb hr hlocks dX7_like_108 (by rw [lkI_n hkw, ← hi9]; exact congrArg nI (by omega))
          · refine lv_iconst (v := nI 1) hx hb dX7_like_103 (by decide) ?_
            refine lv_goto (tgt := 108) hx hb dX7_like_104 (by decide) ?_
            exact xr_i hx hb hr hlocks dX7_like_108 (by rw [lkI_n hkw, ← hi9]; exact congrArg nI (by omega))
        · have hlk := lkN_lt (V := V) (w := kw) i
          have hho := hI.ho (k := i) (by omega)
          have jn53 : ∀ (z : Nat) (ls : Array Slot), lv_has ls 5 [(3, .int (nI i)), (2, .int (nI (lkN V kw i))), (0, .ref g), (1, .int (nI kw))] → (z = if kw = 1 then i else V 16 - 1 - i) → W p l e (headSpec wsX7_like ({ frames := 2, cells := 0, slots := 0, locals := 43 })).room s m ([.ref g, .int (nI kw)] : List Value).toArray below meth c s.heap [] 0 0 (MQ below (vp_Si (fun rz => rz = lkI V (nI kw))) ([.ref g, .int (nI kw)] : List Value).toArray s 0 0 (fun _ => False)) (F0 m 53 ls [.int (nI z), .int (nI 17), .ref s0]) := by
            intro z ls hl hz
            have hz24 : z < 24 := by rw [hz]; split <;> omega
            have hhz := hI.ho (k := z) hz24
            have hmz := mir_lt hhz
            refine xn_add hx hb (r := (17 + z)) rfl dX7_like_53 ?_
            refine xn_iald hx hb hK hP 1 rfl (by omega) (by first | decide | omega) (v := nI (V (17 + z))) (rfl) dX7_like_54 ?_
            refine lv_istore (lv' := [(4, .int (nI (V (17 + z)))), (3, .int (nI i)), (2, .int (nI (lkN V kw i))), (0, .ref g), (1, .int (nI kw))]) hx hb dX7_like_55 hl (by decide) rfl (fun ls hl => ?_)
            have jn84 : ∀ (v : Nat) (ls : Array Slot), lv_has ls 5 [(4, .int (nI (V (17 + z)))), (3, .int (nI i)), (2, .int (nI (lkN V kw i))), (0, .ref g), (1, .int (nI kw))] → (v = if kw = 0 then V (17 + z) else mir (V (17 + z))) → (lkN V kw i = 1) → W p l e (headSpec wsX7_like ({ frames := 2, cells := 0, slots := 0, locals := 43 })).room s m ([.ref g, .int (nI kw)] : List Value).toArray below meth c s.heap [] 0 0 (MQ below (vp_Si (fun rz => rz = lkI V (nI kw))) ([.ref g, .int (nI kw)] : List Value).toArray s 0 0 (fun _ => False)) (F0 m 84 ls [.int (nI v), .int (nI (V (17 + i)))]) := by
              intro v ls hl hv hl1
              have hc9 := lkc7 (V := V) (kw := kw) hz hv
              have hvl : v < 2 ^ 31 := by rw [hv]; split <;> omega
              refine xn_icmp_ne hx hb (by omega) (by omega) (tgt := 91) dX7_like_84 (by decide) (fun kc84 => ?_) (fun kc84 => ?_)
              · refine lv_iconst (v := nI 0) hx hb dX7_like_91 (by decide) ?_
                refine lv_istore_n (lv' := [(2, .int (nI 0)), (4, .int (nI (V (17 + z)))), (3, .int (nI i)), (0, .ref g), (1, .int (nI kw))]) hx hb dX7_like_92 rfl hl (by decide) rfl (fun ls hl => ?_)
                refine lv_iinc (v := nI (i + 1)) (lv' := [(3, .int (nI (i + 1))), (2, .int (nI 0)), (4, .int (nI (V (17 + z)))), (0, .ref g), (1, .int (nI kw))]) hx hb dX7_like_93 hl (k := 2) rfl (nI_add i 1) (by decide) rfl (fun ls hl => ?_)
                refine lv_goto (tgt := 16) hx hb dX7_like_96 (by decide) ?_
                have e2 : 0 = (lkN V kw (i + 1)) := by first | exact (lkN_s hl1 (hc9.mpr kc84)).symm | exact lkN_n (Or.inl (fun q => kc84 (hc9.mp q))) | exact lkN_n (Or.inr kc58)
                exact ih16 (i + 1) (by omega) (by omega) ls (xl_eq (b := [(3, .int (nI (i + 1))), (2, .int (nI (lkN V kw (i + 1)))), (0, .ref g), (1, .int (nI kw))]) (lv_sub (l' := [(3, .int (nI (i + 1))), (2, .int (nI 0)), (0, .ref g), (1, .int (nI kw))]) hl [0, 1, 3, 4] rfl) (xk rfl (xk (congrArg (fun z : Nat => Value.int (nI z)) e2) (xk rfl (xk rfl (rfl : ([] : List (Nat × Value)) = []))))))
              · refine lv_iconst (v := nI 1) hx hb dX7_like_87 (by decide) ?_
                refine lv_goto (tgt := 92) hx hb dX7_like_88 (by decide) ?_
                refine lv_istore_n (lv' := [(2, .int (nI 1)), (4, .int (nI (V (17 + z)))), (3, .int (nI i)), (0, .ref g), (1, .int (nI kw))]) hx hb dX7_like_92 rfl hl (by decide) rfl (fun ls hl => ?_)
                refine lv_iinc (v := nI (i + 1)) (lv' := [(3, .int (nI (i + 1))), (2, .int (nI 1)), (4, .int (nI (V (17 + z)))), (0, .ref g), (1, .int (nI kw))]) hx hb dX7_like_93 hl (k := 2) rfl (nI_add i 1) (by decide) rfl (fun ls hl => ?_)
                refine lv_goto (tgt := 16) hx hb dX7_like_96 (by decide) ?_
                have e3 : 1 = (lkN V kw (i + 1)) := by first | exact (lkN_s hl1 (hc9.mpr kc84)).symm | exact lkN_n (Or.inl (fun q => kc84 (hc9.mp q))) | exact lkN_n (Or.inr kc58)
                exact ih16 (i + 1) (by omega) (by omega) ls (xl_eq (b := [(3, .int (nI (i + 1))), (2, .int (nI (lkN V kw (i + 1)))), (0, .ref g), (1, .int (nI kw))]) (lv_sub (l' := [(3, .int (nI (i + 1))), (2, .int (nI 1)), (0, .ref g), (1, .int (nI kw))]) hl [0, 1, 3, 4] rfl) (xk rfl (xk (congrArg (fun z : Nat => Value.int (nI z)) e3) (xk rfl (xk rfl (rfl : ([] : List (Nat × Value)) = []))))))
            refine lv_iload_n hx hb dX7_like_57 rfl (lv_at hl 2 rfl) ?_
            refine xn_if_eq hx hb (by omega) (tgt := 91) dX7_like_58 (by decide) (fun kc58 => ?_) (fun kc58 => ?_)
            · refine lv_iconst (v := nI 0) hx hb dX7_like_91 (by decide) ?_
              refine lv_istore_n (lv' := [(2, .int (nI 0)), (4, .int (nI (V (17 + z)))), (3, .int (nI i)), (0, .ref g), (1, .int (nI kw))]) hx hb dX7_like_92 rfl hl (by decide) rfl (fun ls hl => ?_)
              refine lv_iinc (v := nI (i + 1)) (lv' := [(3, .int (nI (i + 1))), (2, .int (nI 0)), (4, .int (nI (V (17 + z)))), (0, .ref g), (1, .int (nI kw))]) hx hb dX7_like_93 hl (k := 2) rfl (nI_add i 1) (by decide) rfl (fun ls hl => ?_)
              refine lv_goto (tgt := 16) hx hb dX7_like_96 (by decide) ?_
              have e4 : 0 = (lkN V kw (i + 1)) := by first | exact (lkN_s hl1 (hc9.mpr kc84)).symm | exact lkN_n (Or.inl (fun q => kc84 (hc9.mp q))) | exact lkN_n (Or.inr kc58)
              exact ih16 (i + 1) (by omega) (by omega) ls (xl_eq (b := [(3, .int (nI (i + 1))), (2, .int (nI (lkN V kw (i + 1)))), (0, .ref g), (1, .int (nI kw))]) (lv_sub (l' := [(3, .int (nI (i + 1))), (2, .int (nI 0)), (0, .ref g), (1, .int (nI kw))]) hl [0, 1, 3, 4] rfl) (xk rfl (xk (congrArg (fun z : Nat => Value.int (nI z)) e4) (xk rfl (xk rfl (rfl : ([] : List (Nat × Value)) = []))))))
            · have hlk1 : lkN V kw i = 1 := by omega
              refine lv_aload_n hx hb dX7_like_61 rfl (lv_at hl 3 rfl) ?_
              refine va_get (D := D) (ci := 7) (v := .ref s0) (C := RX7) (T := TX7) (N := 14) hx hb hts hin_X7 hown hK.1 hP 0 rfl rfl 0 (by decide) f_7 (fun _ h9 => h9) rfl dX7_like_62 ?_
              refine lv_bipush (v := nI 17) hx hb dX7_like_65 (by decide) ?_
              refine lv_iload_n hx hb dX7_like_67 rfl (lv_at hl 1 rfl) ?_
              refine xn_add hx hb (r := (17 + i)) rfl dX7_like_68 ?_
              refine xn_iald hx hb hK hP 1 rfl (by omega) (by first | decide | omega) (v := nI (V (17 + i))) (rfl) dX7_like_69 ?_
              refine lv_iload_n hx hb dX7_like_70 rfl (lv_at hl 4 rfl) ?_
              refine xn_if_ne hx hb (by omega) (tgt := 79) dX7_like_71 (by decide) (fun kc71 => ?_) (fun kc71 => ?_)
              · refine lv_iload hx hb dX7_like_79 (lv_at hl 0 rfl) ?_
                refine xc_S (As := [.int (nI (V (17 + z)))]) (rest := [.int (nI (V (17 + i)))]) ⟨hx, hb, hml, hown, hts⟩ (c_X7_mirrored l (V (17 + z)) (by omega)) (va_cwS 1 hts gX7_like_X7_mirrored rfl rfl rfl hd_X7_mirrored.2 ⟨Nat.le_of_ble_eq_true rfl, Nat.le_of_ble_eq_true rfl⟩) xps_0 rfl hl.1 rfl (Nat.le_of_ble_eq_true rfl) dX7_like_81 ⟨Nat.zero_le _, Nat.zero_le _⟩ (fun r5 hr5 => ?_)
                subst hr5
                exact jn84 (mir (V (17 + z))) ls (lv_sub hl [0, 1, 2, 3, 4] rfl) (by first | (rw [if_pos kc71]; done) | (rw [if_neg kc71]; done)) (hlk1)
              · refine lv_iload hx hb dX7_like_74 (lv_at hl 0 rfl) ?_
                refine lv_goto (tgt := 84) hx hb dX7_like_76 (by decide) ?_
                exact jn84 (V (17 + z)) ls (lv_sub hl [0, 1, 2, 3, 4] rfl) (by first | (rw [if_pos kc71]; done) | (rw [if_neg kc71]; done)) (hlk1)
          refine lv_aload_n hx hb dX7_like_27 rfl (lv_at hl 2 rfl) ?_
          refine va_get (D := D) (ci := 7) (v := .ref s0) (C := RX7) (T := TX7) (N := 14) hx hb hts hin_X7 hown hK.1 hP 0 rfl rfl 0 (by decide) f_7 (fun _ h9 => h9) rfl dX7_like_28 ?_
          refine lv_bipush (v := nI 17) hx hb dX7_like_31 (by decide) ?_
          refine lv_iload_n hx hb dX7_like_33 rfl (lv_at hl 3 rfl) ?_
          refine lv_iconst (v := nI 1) hx hb dX7_like_34 (by decide) ?_
          refine xn_icmp_ne hx hb (by omega) (by omega) (tgt := 42) dX7_like_35 (by decide) (fun kc35 => ?_) (fun kc35 => ?_)
          · refine lv_aload_n hx hb dX7_like_42 rfl (lv_at hl 2 rfl) ?_
            refine va_get (D := D) (ci := 7) (v := .ref s0) (C := RX7) (T := TX7) (N := 14) hx hb hts hin_X7 hown hK.1 hP 0 rfl rfl 0 (by decide) f_7 (fun _ h9 => h9) rfl dX7_like_43 ?_
            refine lv_bipush (v := nI 16) hx hb dX7_like_46 (by decide) ?_
            refine xn_iald hx hb hK hP 1 rfl (by omega) (by first | decide | omega) (v := nI (V 16)) (rfl) dX7_like_48 ?_
            refine lv_iconst (v := nI 1) hx hb dX7_like_49 (by decide) ?_
            refine xn_sub hx hb (r := ((V 16) - 1)) (by omega) rfl dX7_like_50 ?_
            refine lv_iload_n hx hb dX7_like_51 rfl (lv_at hl 0 rfl) ?_
            refine xn_sub hx hb (r := (((V 16) - 1) - i)) (by omega) rfl dX7_like_52 ?_
            exact jn53 (((V 16) - 1) - i) ls (lv_sub hl [0, 1, 2, 3] rfl) (by first | (rw [if_pos kc35]; done) | (rw [if_neg kc35]; done))
          · refine lv_iload_n hx hb dX7_like_38 rfl (lv_at hl 0 rfl) ?_
            refine lv_goto (tgt := 53) hx hb dX7_like_39 (by decide) ?_
            exact jn53 i ls (lv_sub hl [0, 1, 2, 3] rfl) (by first | (rw [if_pos kc35]; done) | (rw [if_neg kc35]; done))
    have e6 : 1 = (lkN V kw 0) := rfl
    exact lp16 ((V 16 - 0) + 1) 0 (Nat.lt_succ_self _) (by omega) ls (xl_eq (b := [(3, .int (nI 0)), (2, .int (nI (lkN V kw 0))), (0, .ref g), (1, .int (nI kw))]) (lv_sub (l' := [(3, .int (nI 0)), (2, .int (nI 1)), (0, .ref g), (1, .int (nI kw))]) hl [0, 1, 2, 3] rfl) (xk rfl (xk (congrArg (fun z : Nat => Value.int (nI z)) e6) (xk rfl (xk rfl (rfl : ([] : List (Nat × Value)) = []))))))
  · refine lv_ldc hx hb hown f_51 dX7_like_9 ?_
    exact xr_i hx hb hr hlocks dX7_like_11 (lkI_f (fun hq => (bN_0.mp kc6) ((inx rfl (by decide)).mpr hq)))
set_option maxHeartbeats 8000000 in
set_option maxRecDepth 100000 in
theorem c_X7_sum_1 (l : Launch) (D : va_G) (y : Nat → ClassId) (g s0 a0 b0 x0 kn L ta wr le : Nat) (o1 o2 : Int32) (po rs : Nat) (ca : Int32) (V : Nat → Nat) (hI : Inv V) : Met l yX7_sum wsX7_sum ({ frames := 3, cells := 0, slots := 0, locals := 69 }) (va_Pc [.ref g, .int (nI 1)] (xPr D y [(g, .inr (7, [.ref s0, .ref a0, .ref b0, .int (nI kn), .ref x0, .int (nI L), .int (nI ta), .int (nI wr), .int (nI le), .int o1, .int o2, .int (nI po), .int (nI rs), .int ca])), (s0, .inl (y 1, 72, .inl (fun j9 => nI (V j9))))])) (vp_Si (fun rz => rz = nI (alS V))) 0 0 (fun _ => False) := by
  refine Met.ofW (cc := cX7_sum) (maxL := 4) (ret := (some .int)) (by decide) rfl ?_
  intro p e s m args below meth c s₁ B hml hv
  obtain ⟨rfl, hP, hK⟩ := hv
  have hx := B.exec
  have hb := B.bytes
  have hr := B.returns
  have hts := atoms_spec (ws := wsX7_sum) B.pre
  have hown : s.vm.findClass RX7 = some m.cls := findClass_of_methodNamed B.named
  have hlocks := B.notSynchronized
  have f_7 := hts (.fieldLink RX7 7 "LoomTunesModel" "s" "[I") (by decide +kernel)
  have hin_X7 : ∀ w ∈ wsX70, w ∈ wsX7_sum := by decide +kernel
  have hP : va_P D vwCl [(g, .inr (7, [.ref s0, .ref a0, .ref b0, .int (nI kn), .ref x0, .int (nI L), .int (nI ta), .int (nI wr), .int (nI le), .int o1, .int o2, .int (nI po), .int (nI rs), .int ca])), (s0, .inl (y 1, 72, .inl (fun j9 => nI (V j9))))] s.heap := hP
  have hl := lv_entry ([.ref g, .int (nI 1)]) (n := 4) (Nat.le_of_ble_eq_true rfl)
  rw [lg_entry_eq]
  generalize (lg_sl ([.ref g, .int (nI 1)]) ++ List.replicate (4 - (lg_sl ([.ref g, .int (nI 1)])).length) Slot.unset).toArray = ls at hl ⊢
  have hl : lv_has ls 4 [(0, .ref g), (1, .int (nI 1))] := hl
  have hsz := hI.sz
  refine lv_iconst (v := nI 0) hx hb dX7_sum_0 (by decide) ?_
  refine lv_istore_n (lv' := [(2, .int (nI 0)), (0, .ref g), (1, .int (nI 1))]) hx hb dX7_sum_1 rfl hl (by decide) rfl (fun ls hl => ?_)
  refine lv_iconst (v := nI 0) hx hb dX7_sum_2 (by decide) ?_
  refine lv_istore_n (lv' := [(3, .int (nI 0)), (2, .int (nI 0)), (0, .ref g), (1, .int (nI 1))]) hx hb dX7_sum_3 rfl hl (by decide) rfl (fun ls hl => ?_)
  have lp4 : ∀ (n : Nat) (i : Nat), V 16 - i < n → (i ≤ V 16) → ∀ ls : Array Slot, lv_has ls 4 [(3, .int (nI i)), (2, .int (nI (sN (fun r => V (41 + r)) i))), (0, .ref g), (1, .int (nI 1))] → W p l e (headSpec wsX7_sum ({ frames := 3, cells := 0, slots := 0, locals := 69 })).room s m ([.ref g, .int (nI 1)] : List Value).toArray below meth c s.heap [] 0 0 (MQ below (vp_Si (fun rz => rz = nI (alS V))) ([.ref g, .int (nI 1)] : List Value).toArray s 0 0 (fun _ => False)) (F0 m 4 ls []) := by
    intro n
    induction n with
    | zero => intro i hm; exact absurd hm (Nat.not_lt_zero _)
    | succ n ih4 =>
      intro i hm hi ls hl
      refine lv_iload_n hx hb dX7_sum_4 rfl (lv_at hl 0 rfl) ?_
      refine lv_aload_n hx hb dX7_sum_5 rfl (lv_at hl 2 rfl) ?_
      refine va_get (D := D) (ci := 7) (v := .ref s0) (C := RX7) (T := TX7) (N := 14) hx hb hts hin_X7 hown hK.1 hP 0 rfl rfl 0 (by decide) f_7 (fun _ h9 => h9) rfl dX7_sum_6 ?_
      refine lv_bipush (v := nI 16) hx hb dX7_sum_9 (by decide) ?_
      refine xn_iald hx hb hK hP 1 rfl (by omega) (by first | decide | omega) (v := nI (V 16)) (rfl) dX7_sum_11 ?_
      refine xn_icmp_ge hx hb (by omega) (by omega) (tgt := 59) dX7_sum_12 (by decide) (fun kc12 => ?_) (fun kc12 => ?_)
      · refine lv_iconst (v := nI 0) hx hb dX7_sum_59 (by decide) ?_
        refine lv_istore_n (lv' := [(3, .int (nI 0)), (2, .int (nI (sN (fun r => V (41 + r)) i))), (0, .ref g), (1, .int (nI 1))]) hx hb dX7_sum_60 rfl hl (by decide) rfl (fun ls hl => ?_)
        have lp61 : ∀ (n : Nat) (j : Nat), 8 - j < n → (j ≤ 8) → ∀ ls : Array Slot, lv_has ls 4 [(3, .int (nI j)), (2, .int (nI (alS V))), (0, .ref g), (1, .int (nI 1))] → W p l e (headSpec wsX7_sum ({ frames := 3, cells := 0, slots := 0, locals := 69 })).room s m ([.ref g, .int (nI 1)] : List Value).toArray below meth c s.heap [] 0 0 (MQ below (vp_Si (fun rz => rz = nI (alS V))) ([.ref g, .int (nI 1)] : List Value).toArray s 0 0 (fun _ => False)) (F0 m 61 ls []) := by
          intro n
          induction n with
          | zero => intro j hm; exact absurd hm (Nat.not_lt_zero _)
          | succ n ih61 =>
            intro j hm hj ls hl
            refine lv_iload_n hx hb dX7_sum_61 rfl (lv_at hl 0 rfl) ?_
            refine lv_bipush (v := nI 8) hx hb dX7_sum_62 (by decide) ?_
            refine xn_icmp_ge hx hb (by omega) (by omega) (tgt := 87) dX7_sum_64 (by decide) (fun kc64 => ?_) (fun kc64 => ?_)
            · refine lv_iload_n hx hb dX7_sum_87 rfl (lv_at hl 1 rfl) ?_
              exact xr_i hx hb hr hlocks dX7_sum_88 (rfl)
            · refine lv_iload_n hx hb dX7_sum_67 rfl (lv_at hl 3 rfl) ?_
              refine lv_iconst (v := nI 4) hx hb dX7_sum_68 (by decide) ?_
              refine lv_icmp_ne (tgt := 87) hx hb dX7_sum_69 (by decide) (fun _ => ?_) (fun h => absurd h (by decide))
              refine lv_iload_n hx hb dX7_sum_87 rfl (lv_at hl 1 rfl) ?_
              exact xr_i hx hb hr hlocks dX7_sum_88 (rfl)
        have e1 : (sN (fun r => V (41 + r)) i) = (alS V) := by show sN _ i = sN _ (V 16); rw [show i = V 16 by omega]
        exact lp61 ((8 - 0) + 1) 0 (Nat.lt_succ_self _) (by omega) ls (xl_eq (b := [(3, .int (nI 0)), (2, .int (nI (alS V))), (0, .ref g), (1, .int (nI 1))]) (lv_sub (l' := [(3, .int (nI 0)), (2, .int (nI (sN (fun r => V (41 + r)) i))), (0, .ref g), (1, .int (nI 1))]) hl [0, 1, 2, 3] rfl) (xk rfl (xk (congrArg (fun z : Nat => Value.int (nI z)) e1) (xk rfl (xk rfl (rfl : ([] : List (Nat × Value)) = []))))))
      · have hho := hI.ho (k := i) (by omega)
        have hls : V (17 + i) = hol V i := (if_pos (by omega)).symm
        refine lv_iload_n hx hb dX7_sum_15 rfl (lv_at hl 3 rfl) ?_
        refine lv_iconst (v := nI 4) hx hb dX7_sum_16 (by decide) ?_
        refine lv_icmp_ge (tgt := 59) hx hb dX7_sum_17 (by decide) (fun h => absurd h (by decide)) (fun _ => ?_)
        refine lv_iload_n hx hb dX7_sum_20 rfl (lv_at hl 1 rfl) ?_
        refine lv_iload_n hx hb dX7_sum_21 rfl (lv_at hl 3 rfl) ?_
        refine lv_iconst (v := nI 1) hx hb dX7_sum_22 (by decide) ?_
        refine lv_icmp_ne (tgt := 38) hx hb dX7_sum_23 (by decide) (fun h => absurd h (by decide)) (fun _ => ?_)
        refine lv_aload_n hx hb dX7_sum_26 rfl (lv_at hl 2 rfl) ?_
        refine va_get (D := D) (ci := 7) (v := .ref s0) (C := RX7) (T := TX7) (N := 14) hx hb hts hin_X7 hown hK.1 hP 0 rfl rfl 0 (by decide) f_7 (fun _ h9 => h9) rfl dX7_sum_27 ?_
        refine lv_bipush (v := nI 41) hx hb dX7_sum_30 (by decide) ?_
        refine lv_iload_n hx hb dX7_sum_32 rfl (lv_at hl 0 rfl) ?_
        refine xn_add hx hb (r := (41 + i)) rfl dX7_sum_33 ?_
        refine xn_iald hx hb hK hP 1 rfl (by omega) (by first | decide | omega) (v := nI (V (41 + i))) (rfl) dX7_sum_34 ?_
        refine lv_goto (tgt := 51) hx hb dX7_sum_35 (by decide) ?_
        refine xn_add hx hb (r := ((sN (fun r => V (41 + r)) i) + (V (41 + i)))) rfl dX7_sum_51 ?_
        refine lv_istore_n (lv' := [(2, .int (nI ((sN (fun r => V (41 + r)) i) + (V (41 + i))))), (3, .int (nI i)), (0, .ref g), (1, .int (nI 1))]) hx hb dX7_sum_52 rfl hl (by decide) rfl (fun ls hl => ?_)
        refine lv_iinc (v := nI (i + 1)) (lv' := [(3, .int (nI (i + 1))), (2, .int (nI ((sN (fun r => V (41 + r)) i) + (V (41 + i))))), (0, .ref g), (1, .int (nI 1))]) hx hb dX7_sum_53 hl (k := 1) rfl (nI_add i 1) (by decide) rfl (fun ls hl => ?_)
        refine lv_goto (tgt := 4) hx hb dX7_sum_56 (by decide) ?_
        have e2 : ((sN (fun r => V (41 + r)) i) + (V (41 + i))) = (sN (fun r => V (41 + r)) (i + 1)) := by rw [sN_s]
        exact ih4 (i + 1) (by omega) (by omega) ls (xl_eq (b := [(3, .int (nI (i + 1))), (2, .int (nI (sN (fun r => V (41 + r)) (i + 1)))), (0, .ref g), (1, .int (nI 1))]) (lv_sub (l' := [(3, .int (nI (i + 1))), (2, .int (nI ((sN (fun r => V (41 + r)) i) + (V (41 + i))))), (0, .ref g), (1, .int (nI 1))]) hl [0, 1, 2, 3] rfl) (xk rfl (xk (congrArg (fun z : Nat => Value.int (nI z)) e2) (xk rfl (xk rfl (rfl : ([] : List (Nat × Value)) = []))))))
  have e3 : 0 = (sN (fun r => V (41 + r)) 0) := rfl
  exact lp4 ((V 16 - 0) + 1) 0 (Nat.lt_succ_self _) (by omega) ls (xl_eq (b := [(3, .int (nI 0)), (2, .int (nI (sN (fun r => V (41 + r)) 0))), (0, .ref g), (1, .int (nI 1))]) (lv_sub (l' := [(3, .int (nI 0)), (2, .int (nI 0)), (0, .ref g), (1, .int (nI 1))]) hl [0, 1, 2, 3] rfl) (xk rfl (xk (congrArg (fun z : Nat => Value.int (nI z)) e3) (xk rfl (xk rfl (rfl : ([] : List (Nat × Value)) = []))))))
set_option maxHeartbeats 8000000 in
set_option maxRecDepth 100000 in
theorem c_X7_sum_3 (l : Launch) (D : va_G) (y : Nat → ClassId) (g s0 a0 b0 x0 kn L ta wr le : Nat) (o1 o2 : Int32) (po rs : Nat) (ca : Int32) (V : Nat → Nat) (hI : Inv V) : Met l yX7_sum wsX7_sum ({ frames := 3, cells := 0, slots := 0, locals := 69 }) (va_Pc [.ref g, .int (nI 3)] (xPr D y [(g, .inr (7, [.ref s0, .ref a0, .ref b0, .int (nI kn), .ref x0, .int (nI L), .int (nI ta), .int (nI wr), .int (nI le), .int o1, .int o2, .int (nI po), .int (nI rs), .int ca])), (s0, .inl (y 1, 72, .inl (fun j9 => nI (V j9))))])) (vp_Si (fun rz => rz = nI (alC V))) 0 0 (fun _ => False) := by
  refine Met.ofW (cc := cX7_sum) (maxL := 4) (ret := (some .int)) (by decide) rfl ?_
  intro p e s m args below meth c s₁ B hml hv
  obtain ⟨rfl, hP, hK⟩ := hv
  have hx := B.exec
  have hb := B.bytes
  have hr := B.returns
  have hts := atoms_spec (ws := wsX7_sum) B.pre
  have hown : s.vm.findClass RX7 = some m.cls := findClass_of_methodNamed B.named
  have hlocks := B.notSynchronized
  have f_7 := hts (.fieldLink RX7 7 "LoomTunesModel" "s" "[I") (by decide +kernel)
  have hin_X7 : ∀ w ∈ wsX70, w ∈ wsX7_sum := by decide +kernel
  have hP : va_P D vwCl [(g, .inr (7, [.ref s0, .ref a0, .ref b0, .int (nI kn), .ref x0, .int (nI L), .int (nI ta), .int (nI wr), .int (nI le), .int o1, .int o2, .int (nI po), .int (nI rs), .int ca])), (s0, .inl (y 1, 72, .inl (fun j9 => nI (V j9))))] s.heap := hP
  have hl := lv_entry ([.ref g, .int (nI 3)]) (n := 4) (Nat.le_of_ble_eq_true rfl)
  rw [lg_entry_eq]
  generalize (lg_sl ([.ref g, .int (nI 3)]) ++ List.replicate (4 - (lg_sl ([.ref g, .int (nI 3)])).length) Slot.unset).toArray = ls at hl ⊢
  have hl : lv_has ls 4 [(0, .ref g), (1, .int (nI 3))] := hl
  have hsz := hI.sz
  refine lv_iconst (v := nI 0) hx hb dX7_sum_0 (by decide) ?_
  refine lv_istore_n (lv' := [(2, .int (nI 0)), (0, .ref g), (1, .int (nI 3))]) hx hb dX7_sum_1 rfl hl (by decide) rfl (fun ls hl => ?_)
  refine lv_iconst (v := nI 0) hx hb dX7_sum_2 (by decide) ?_
  refine lv_istore_n (lv' := [(3, .int (nI 0)), (2, .int (nI 0)), (0, .ref g), (1, .int (nI 3))]) hx hb dX7_sum_3 rfl hl (by decide) rfl (fun ls hl => ?_)
  have lp4 : ∀ (n : Nat) (i : Nat), V 16 - i < n → (i ≤ V 16) → ∀ ls : Array Slot, lv_has ls 4 [(3, .int (nI i)), (2, .int (nI (sN (fun r => cls V (hol V r)) i))), (0, .ref g), (1, .int (nI 3))] → W p l e (headSpec wsX7_sum ({ frames := 3, cells := 0, slots := 0, locals := 69 })).room s m ([.ref g, .int (nI 3)] : List Value).toArray below meth c s.heap [] 0 0 (MQ below (vp_Si (fun rz => rz = nI (alC V))) ([.ref g, .int (nI 3)] : List Value).toArray s 0 0 (fun _ => False)) (F0 m 4 ls []) := by
    intro n
    induction n with
    | zero => intro i hm; exact absurd hm (Nat.not_lt_zero _)
    | succ n ih4 =>
      intro i hm hi ls hl
      refine lv_iload_n hx hb dX7_sum_4 rfl (lv_at hl 0 rfl) ?_
      refine lv_aload_n hx hb dX7_sum_5 rfl (lv_at hl 2 rfl) ?_
      refine va_get (D := D) (ci := 7) (v := .ref s0) (C := RX7) (T := TX7) (N := 14) hx hb hts hin_X7 hown hK.1 hP 0 rfl rfl 0 (by decide) f_7 (fun _ h9 => h9) rfl dX7_sum_6 ?_
      refine lv_bipush (v := nI 16) hx hb dX7_sum_9 (by decide) ?_
      refine xn_iald hx hb hK hP 1 rfl (by omega) (by first | decide | omega) (v := nI (V 16)) (rfl) dX7_sum_11 ?_
      refine xn_icmp_ge hx hb (by omega) (by omega) (tgt := 59) dX7_sum_12 (by decide) (fun kc12 => ?_) (fun kc12 => ?_)
      · refine lv_iconst (v := nI 0) hx hb dX7_sum_59 (by decide) ?_
        refine lv_istore_n (lv' := [(3, .int (nI 0)), (2, .int (nI (sN (fun r => cls V (hol V r)) i))), (0, .ref g), (1, .int (nI 3))]) hx hb dX7_sum_60 rfl hl (by decide) rfl (fun ls hl => ?_)
        have lp61 : ∀ (n : Nat) (j : Nat), 8 - j < n → (j ≤ 8) → ∀ ls : Array Slot, lv_has ls 4 [(3, .int (nI j)), (2, .int (nI (alC V))), (0, .ref g), (1, .int (nI 3))] → W p l e (headSpec wsX7_sum ({ frames := 3, cells := 0, slots := 0, locals := 69 })).room s m ([.ref g, .int (nI 3)] : List Value).toArray below meth c s.heap [] 0 0 (MQ below (vp_Si (fun rz => rz = nI (alC V))) ([.ref g, .int (nI 3)] : List Value).toArray s 0 0 (fun _ => False)) (F0 m 61 ls []) := by
          intro n
          induction n with
          | zero => intro j hm; exact absurd hm (Nat.not_lt_zero _)
          | succ n ih61 =>
            intro j hm hj ls hl
            refine lv_iload_n hx hb dX7_sum_61 rfl (lv_at hl 0 rfl) ?_
            refine lv_bipush (v := nI 8) hx hb dX7_sum_62 (by decide) ?_
            refine xn_icmp_ge hx hb (by omega) (by omega) (tgt := 87) dX7_sum_64 (by decide) (fun kc64 => ?_) (fun kc64 => ?_)
            · refine lv_iload_n hx hb dX7_sum_87 rfl (lv_at hl 1 rfl) ?_
              exact xr_i hx hb hr hlocks dX7_sum_88 (rfl)
            · refine lv_iload_n hx hb dX7_sum_67 rfl (lv_at hl 3 rfl) ?_
              refine lv_iconst (v := nI 4) hx hb dX7_sum_68 (by decide) ?_
              refine lv_icmp_ne (tgt := 87) hx hb dX7_sum_69 (by decide) (fun _ => ?_) (fun h => absurd h (by decide))
              refine lv_iload_n hx hb dX7_sum_87 rfl (lv_at hl 1 rfl) ?_
              exact xr_i hx hb hr hlocks dX7_sum_88 (rfl)
        have e1 : (sN (fun r => cls V (hol V r)) i) = (alC V) := by show sN _ i = sN _ (V 16); rw [show i = V 16 by omega]
        exact lp61 ((8 - 0) + 1) 0 (Nat.lt_succ_self _) (by omega) ls (xl_eq (b := [(3, .int (nI 0)), (2, .int (nI (alC V))), (0, .ref g), (1, .int (nI 3))]) (lv_sub (l' := [(3, .int (nI 0)), (2, .int (nI (sN (fun r => cls V (hol V r)) i))), (0, .ref g), (1, .int (nI 3))]) hl [0, 1, 2, 3] rfl) (xk rfl (xk (congrArg (fun z : Nat => Value.int (nI z)) e1) (xk rfl (xk rfl (rfl : ([] : List (Nat × Value)) = []))))))
      · have hho := hI.ho (k := i) (by omega)
        have hls : V (17 + i) = hol V i := (if_pos (by omega)).symm
        refine lv_iload_n hx hb dX7_sum_15 rfl (lv_at hl 3 rfl) ?_
        refine lv_iconst (v := nI 4) hx hb dX7_sum_16 (by decide) ?_
        refine lv_icmp_ge (tgt := 59) hx hb dX7_sum_17 (by decide) (fun h => absurd h (by decide)) (fun _ => ?_)
        refine lv_iload_n hx hb dX7_sum_20 rfl (lv_at hl 1 rfl) ?_
        refine lv_iload_n hx hb dX7_sum_21 rfl (lv_at hl 3 rfl) ?_
        refine lv_iconst (v := nI 1) hx hb dX7_sum_22 (by decide) ?_
        refine lv_icmp_ne (tgt := 38) hx hb dX7_sum_23 (by decide) (fun _ => ?_) (fun h => absurd h (by decide))
        refine lv_aload_n hx hb dX7_sum_38 rfl (lv_at hl 2 rfl) ?_
        refine lv_aload_n hx hb dX7_sum_39 rfl (lv_at hl 2 rfl) ?_
        refine va_get (D := D) (ci := 7) (v := .ref s0) (C := RX7) (T := TX7) (N := 14) hx hb hts hin_X7 hown hK.1 hP 0 rfl rfl 0 (by decide) f_7 (fun _ h9 => h9) rfl dX7_sum_40 ?_
        refine lv_bipush (v := nI 17) hx hb dX7_sum_43 (by decide) ?_
        refine lv_iload_n hx hb dX7_sum_45 rfl (lv_at hl 0 rfl) ?_
        refine xn_add hx hb (r := (17 + i)) rfl dX7_sum_46 ?_
        refine xn_iald hx hb hK hP 1 rfl (by omega) (by first | decide | omega) (v := nI (V (17 + i))) (rfl) dX7_sum_47 ?_
        refine xc_V (As := [.int (nI (V (17 + i)))]) (rest := [.int (nI (sN (fun r => cls V (hol V r)) i))]) ⟨hx, hb, hml, hown, hts⟩ (c_X7_clashes l D y g s0 a0 b0 x0 kn L ta wr le o1 o2 po rs ca V hI (V (17 + i)) (by first | omega | exact hol_lt hI)) (cwV 1 hts gX7_sum_X7_clashes rfl rfl rfl hd_X7_clashes ⟨Nat.le_of_ble_eq_true rfl, Nat.le_of_ble_eq_true rfl⟩) (xpv_r hK hP [0, 1] 0 rfl rfl rfl) rfl hl.1 rfl (Nat.le_of_ble_eq_true rfl) dX7_sum_48 ⟨Nat.zero_le _, Nat.zero_le _⟩ (fun r2 hr2 => ?_)
        subst hr2
        refine xn_add hx hb (r := ((sN (fun r => cls V (hol V r)) i) + (cls V (V (17 + i))))) rfl dX7_sum_51 ?_
        refine lv_istore_n (lv' := [(2, .int (nI ((sN (fun r => cls V (hol V r)) i) + (cls V (V (17 + i)))))), (3, .int (nI i)), (0, .ref g), (1, .int (nI 3))]) hx hb dX7_sum_52 rfl hl (by decide) rfl (fun ls hl => ?_)
        refine lv_iinc (v := nI (i + 1)) (lv' := [(3, .int (nI (i + 1))), (2, .int (nI ((sN (fun r => cls V (hol V r)) i) + (cls V (V (17 + i)))))), (0, .ref g), (1, .int (nI 3))]) hx hb dX7_sum_53 hl (k := 1) rfl (nI_add i 1) (by decide) rfl (fun ls hl => ?_)
        refine lv_goto (tgt := 4) hx hb dX7_sum_56 (by decide) ?_
        have e3 : ((sN (fun r => cls V (hol V r)) i) + (cls V (V (17 + i)))) = (sN (fun r => cls V (hol V r)) (i + 1)) := by rw [sN_s, hls]
        exact ih4 (i + 1) (by omega) (by omega) ls (xl_eq (b := [(3, .int (nI (i + 1))), (2, .int (nI (sN (fun r => cls V (hol V r)) (i + 1)))), (0, .ref g), (1, .int (nI 3))]) (lv_sub (l' := [(3, .int (nI (i + 1))), (2, .int (nI ((sN (fun r => cls V (hol V r)) i) + (cls V (V (17 + i)))))), (0, .ref g), (1, .int (nI 3))]) hl [0, 1, 2, 3] rfl) (xk rfl (xk (congrArg (fun z : Nat => Value.int (nI z)) e3) (xk rfl (xk rfl (rfl : ([] : List (Nat × Value)) = []))))))
  have e4 : 0 = (sN (fun r => cls V (hol V r)) 0) := rfl
  exact lp4 ((V 16 - 0) + 1) 0 (Nat.lt_succ_self _) (by omega) ls (xl_eq (b := [(3, .int (nI 0)), (2, .int (nI (sN (fun r => cls V (hol V r)) 0))), (0, .ref g), (1, .int (nI 3))]) (lv_sub (l' := [(3, .int (nI 0)), (2, .int (nI 0)), (0, .ref g), (1, .int (nI 3))]) hl [0, 1, 2, 3] rfl) (xk rfl (xk (congrArg (fun z : Nat => Value.int (nI z)) e4) (xk rfl (xk rfl (rfl : ([] : List (Nat × Value)) = []))))))
set_option maxHeartbeats 8000000 in
set_option maxRecDepth 100000 in
theorem c_X7_sum_4 (l : Launch) (D : va_G) (y : Nat → ClassId) (g s0 a0 b0 x0 kn L ta wr le : Nat) (o1 o2 : Int32) (po rs : Nat) (ca : Int32) (V : Nat → Nat) (hI : Inv V) : Met l yX7_sum wsX7_sum ({ frames := 3, cells := 0, slots := 0, locals := 69 }) (va_Pc [.ref g, .int (nI 4)] (xPr D y [(g, .inr (7, [.ref s0, .ref a0, .ref b0, .int (nI kn), .ref x0, .int (nI L), .int (nI ta), .int (nI wr), .int (nI le), .int o1, .int o2, .int (nI po), .int (nI rs), .int ca])), (s0, .inl (y 1, 72, .inl (fun j9 => nI (V j9))))])) (vp_Si (fun rz => rz = nI (loA V))) 0 0 (fun _ => False) := by
  refine Met.ofW (cc := cX7_sum) (maxL := 4) (ret := (some .int)) (by decide) rfl ?_
  intro p e s m args below meth c s₁ B hml hv
  obtain ⟨rfl, hP, hK⟩ := hv
  have hx := B.exec
  have hb := B.bytes
  have hr := B.returns
  have hts := atoms_spec (ws := wsX7_sum) B.pre
  have hown : s.vm.findClass RX7 = some m.cls := findClass_of_methodNamed B.named
  have hlocks := B.notSynchronized
  have f_7 := hts (.fieldLink RX7 7 "LoomTunesModel" "s" "[I") (by decide +kernel)
  have hin_X7 : ∀ w ∈ wsX70, w ∈ wsX7_sum := by decide +kernel
  have hP : va_P D vwCl [(g, .inr (7, [.ref s0, .ref a0, .ref b0, .int (nI kn), .ref x0, .int (nI L), .int (nI ta), .int (nI wr), .int (nI le), .int o1, .int o2, .int (nI po), .int (nI rs), .int ca])), (s0, .inl (y 1, 72, .inl (fun j9 => nI (V j9))))] s.heap := hP
  have hl := lv_entry ([.ref g, .int (nI 4)]) (n := 4) (Nat.le_of_ble_eq_true rfl)
  rw [lg_entry_eq]
  generalize (lg_sl ([.ref g, .int (nI 4)]) ++ List.replicate (4 - (lg_sl ([.ref g, .int (nI 4)])).length) Slot.unset).toArray = ls at hl ⊢
  have hl : lv_has ls 4 [(0, .ref g), (1, .int (nI 4))] := hl
  have hsz := hI.sz
  refine lv_iconst (v := nI 0) hx hb dX7_sum_0 (by decide) ?_
  refine lv_istore_n (lv' := [(2, .int (nI 0)), (0, .ref g), (1, .int (nI 4))]) hx hb dX7_sum_1 rfl hl (by decide) rfl (fun ls hl => ?_)
  refine lv_iconst (v := nI 0) hx hb dX7_sum_2 (by decide) ?_
  refine lv_istore_n (lv' := [(3, .int (nI 0)), (2, .int (nI 0)), (0, .ref g), (1, .int (nI 4))]) hx hb dX7_sum_3 rfl hl (by decide) rfl (fun ls hl => ?_)
  have lp4 : ∀ (n : Nat) (i : Nat), V 16 - i < n → (i ≤ V 16) → ∀ ls : Array Slot, lv_has ls 4 [(3, .int (nI i)), (2, .int (nI 0)), (0, .ref g), (1, .int (nI 4))] → W p l e (headSpec wsX7_sum ({ frames := 3, cells := 0, slots := 0, locals := 69 })).room s m ([.ref g, .int (nI 4)] : List Value).toArray below meth c s.heap [] 0 0 (MQ below (vp_Si (fun rz => rz = nI (loA V))) ([.ref g, .int (nI 4)] : List Value).toArray s 0 0 (fun _ => False)) (F0 m 4 ls []) := by
    intro n
    induction n with
    | zero => intro i hm; exact absurd hm (Nat.not_lt_zero _)
    | succ n ih4 =>
      intro i hm hi ls hl
      refine lv_iload_n hx hb dX7_sum_4 rfl (lv_at hl 0 rfl) ?_
      refine lv_aload_n hx hb dX7_sum_5 rfl (lv_at hl 2 rfl) ?_
      refine va_get (D := D) (ci := 7) (v := .ref s0) (C := RX7) (T := TX7) (N := 14) hx hb hts hin_X7 hown hK.1 hP 0 rfl rfl 0 (by decide) f_7 (fun _ h9 => h9) rfl dX7_sum_6 ?_
      refine lv_bipush (v := nI 16) hx hb dX7_sum_9 (by decide) ?_
      refine xn_iald hx hb hK hP 1 rfl (by omega) (by first | decide | omega) (v := nI (V 16)) (rfl) dX7_sum_11 ?_
      refine xn_icmp_ge hx hb (by omega) (by omega) (tgt := 59) dX7_sum_12 (by decide) (fun kc12 => ?_) (fun kc12 => ?_)
      · refine lv_iconst (v := nI 0) hx hb dX7_sum_59 (by decide) ?_
        refine lv_istore_n (lv' := [(3, .int (nI 0)), (2, .int (nI 0)), (0, .ref g), (1, .int (nI 4))]) hx hb dX7_sum_60 rfl hl (by decide) rfl (fun ls hl => ?_)
        have lp61 : ∀ (n : Nat) (j : Nat), 8 - j < n → (j ≤ 8) → ∀ ls : Array Slot, lv_has ls 4 [(3, .int (nI j)), (2, .int (nI (sN (loT V) j))), (0, .ref g), (1, .int (nI 4))] → W p l e (headSpec wsX7_sum ({ frames := 3, cells := 0, slots := 0, locals := 69 })).room s m ([.ref g, .int (nI 4)] : List Value).toArray below meth c s.heap [] 0 0 (MQ below (vp_Si (fun rz => rz = nI (loA V))) ([.ref g, .int (nI 4)] : List Value).toArray s 0 0 (fun _ => False)) (F0 m 61 ls []) := by
          intro n
          induction n with
          | zero => intro j hm; exact absurd hm (Nat.not_lt_zero _)
          | succ n ih61 =>
            intro j hm hj ls hl
            refine lv_iload_n hx hb dX7_sum_61 rfl (lv_at hl 0 rfl) ?_
            refine lv_bipush (v := nI 8) hx hb dX7_sum_62 (by decide) ?_
            refine xn_icmp_ge hx hb (by omega) (by omega) (tgt := 87) dX7_sum_64 (by decide) (fun kc64 => ?_) (fun kc64 => ?_)
            · refine lv_iload_n hx hb dX7_sum_87 rfl (lv_at hl 1 rfl) ?_
              exact xr_i hx hb hr hlocks dX7_sum_88 (congrArg nI (by rw [show j = 8 by omega]))
            · refine lv_iload_n hx hb dX7_sum_67 rfl (lv_at hl 3 rfl) ?_
              refine lv_iconst (v := nI 4) hx hb dX7_sum_68 (by decide) ?_
              refine lv_icmp_ne (tgt := 87) hx hb dX7_sum_69 (by decide) (fun h => absurd h (by decide)) (fun _ => ?_)
              refine lv_iload_n hx hb dX7_sum_72 rfl (lv_at hl 1 rfl) ?_
              refine lv_aload_n hx hb dX7_sum_73 rfl (lv_at hl 2 rfl) ?_
              refine lv_iload_n hx hb dX7_sum_74 rfl (lv_at hl 0 rfl) ?_
              refine lv_iconst (v := nI 5) hx hb dX7_sum_75 (by decide) ?_
              refine xc_V (As := [.int (nI j), .int (nI 5)]) (rest := [.int (nI (sN (loT V) j))]) ⟨hx, hb, hml, hown, hts⟩ (c_X7_floats l D y g s0 a0 b0 x0 kn L ta wr le o1 o2 po rs ca V hI j 5 (by omega) (by omega)) (cwV 2 hts gX7_sum_X7_floats rfl rfl rfl hd_X7_floats ⟨Nat.le_of_ble_eq_true rfl, Nat.le_of_ble_eq_true rfl⟩) (xpv_r hK hP [0, 1] 0 rfl rfl rfl) rfl hl.1 rfl (Nat.le_of_ble_eq_true rfl) dX7_sum_76 ⟨Nat.zero_le _, Nat.zero_le _⟩ (fun r1 hr1 => ?_)
              subst hr1
              refine xv (v := nI (loT V j)) rfl ?_
              refine xn_add hx hb (r := ((sN (loT V) j) + (loT V j))) rfl dX7_sum_79 ?_
              refine lv_istore_n (lv' := [(2, .int (nI ((sN (loT V) j) + (loT V j)))), (3, .int (nI j)), (0, .ref g), (1, .int (nI 4))]) hx hb dX7_sum_80 rfl hl (by decide) rfl (fun ls hl => ?_)
              refine lv_iinc (v := nI (j + 1)) (lv' := [(3, .int (nI (j + 1))), (2, .int (nI ((sN (loT V) j) + (loT V j)))), (0, .ref g), (1, .int (nI 4))]) hx hb dX7_sum_81 hl (k := 1) rfl (nI_add j 1) (by decide) rfl (fun ls hl => ?_)
              refine lv_goto (tgt := 61) hx hb dX7_sum_84 (by decide) ?_
              have e2 : ((sN (loT V) j) + (loT V j)) = (sN (loT V) (j + 1)) := rfl
              exact ih61 (j + 1) (by omega) (by omega) ls (xl_eq (b := [(3, .int (nI (j + 1))), (2, .int (nI (sN (loT V) (j + 1)))), (0, .ref g), (1, .int (nI 4))]) (lv_sub (l' := [(3, .int (nI (j + 1))), (2, .int (nI ((sN (loT V) j) + (loT V j)))), (0, .ref g), (1, .int (nI 4))]) hl [0, 1, 2, 3] rfl) (xk rfl (xk (congrArg (fun z : Nat => Value.int (nI z)) e2) (xk rfl (xk rfl (rfl : ([] : List (Nat × Value)) = []))))))
        have e3 : 0 = (sN (loT V) 0) := rfl
        exact lp61 ((8 - 0) + 1) 0 (Nat.lt_succ_self _) (by omega) ls (xl_eq (b := [(3, .int (nI 0)), (2, .int (nI (sN (loT V) 0))), (0, .ref g), (1, .int (nI 4))]) (lv_sub (l' := [(3, .int (nI 0)), (2, .int (nI 0)), (0, .ref g), (1, .int (nI 4))]) hl [0, 1, 2, 3] rfl) (xk rfl (xk (congrArg (fun z : Nat => Value.int (nI z)) e3) (xk rfl (xk rfl (rfl : ([] : List (Nat × Value)) = []))))))
      · have hho := hI.ho (k := i) (by omega)
        have hls : V (17 + i) = hol V i := (if_pos (by omega)).symm
        refine lv_iload_n hx hb dX7_sum_15 rfl (lv_at hl 3 rfl) ?_
        refine lv_iconst (v := nI 4) hx hb dX7_sum_16 (by decide) ?_
        refine lv_icmp_ge (tgt := 59) hx hb dX7_sum_17 (by decide) (fun _ => ?_) (fun h => absurd h (by decide))
        refine lv_iconst (v := nI 0) hx hb dX7_sum_59 (by decide) ?_
        refine lv_istore_n (lv' := [(3, .int (nI 0)), (2, .int (nI 0)), (0, .ref g), (1, .int (nI 4))]) hx hb dX7_sum_60 rfl hl (by decide) rfl (fun ls hl => ?_)
        have lp61 : ∀ (n : Nat) (j : Nat), 8 - j < n → (j ≤ 8) → ∀ ls : Array Slot, lv_has ls 4 [(3, .int (nI j)), (2, .int (nI (sN (loT V) j))), (0, .ref g), (1, .int (nI 4))] → W p l e (headSpec wsX7_sum ({ frames := 3, cells := 0, slots := 0, locals := 69 })).room s m ([.ref g, .int (nI 4)] : List Value).toArray below meth c s.heap [] 0 0 (MQ below (vp_Si (fun rz => rz = nI (loA V))) ([.ref g, .int (nI 4)] : List Value).toArray s 0 0 (fun _ => False)) (F0 m 61 ls []) := by
          intro n
          induction n with
          | zero => intro j hm; exact absurd hm (Nat.not_lt_zero _)
          | succ n ih61 =>
            intro j hm hj ls hl
            refine lv_iload_n hx hb dX7_sum_61 rfl (lv_at hl 0 rfl) ?_
            refine lv_bipush (v := nI 8) hx hb dX7_sum_62 (by decide) ?_
            refine xn_icmp_ge hx hb (by omega) (by omega) (tgt := 87) dX7_sum_64 (by decide) (fun kc64 => ?_) (fun kc64 => ?_)
            · refine lv_iload_n hx hb dX7_sum_87 rfl (lv_at hl 1 rfl) ?_
              exact xr_i hx hb hr hlocks dX7_sum_88 (congrArg nI (by rw [show j = 8 by omega]))
            · refine lv_iload_n hx hb dX7_sum_67 rfl (lv_at hl 3 rfl) ?_
              refine lv_iconst (v := nI 4) hx hb dX7_sum_68 (by decide) ?_
              refine lv_icmp_ne (tgt := 87) hx hb dX7_sum_69 (by decide) (fun h => absurd h (by decide)) (fun _ => ?_)
              refine lv_iload_n hx hb dX7_sum_72 rfl (lv_at hl 1 rfl) ?_
              refine lv_aload_n hx hb dX7_sum_73 rfl (lv_at hl 2 rfl) ?_
              refine lv_iload_n hx hb dX7_sum_74 rfl (lv_at hl 0 rfl) ?_
              refine lv_iconst (v := nI 5) hx hb dX7_sum_75 (by decide) ?_
              refine xc_V (As := [.int (nI j), .int (nI 5)]) (rest := [.int (nI (sN (loT V) j))]) ⟨hx, hb, hml, hown, hts⟩ (c_X7_floats l D y g s0 a0 b0 x0 kn L ta wr le o1 o2 po rs ca V hI j 5 (by omega) (by omega)) (cwV 2 hts gX7_sum_X7_floats rfl rfl rfl hd_X7_floats ⟨Nat.le_of_ble_eq_true rfl, Nat.le_of_ble_eq_true rfl⟩) (xpv_r hK hP [0, 1] 0 rfl rfl rfl) rfl hl.1 rfl (Nat.le_of_ble_eq_true rfl) dX7_sum_76 ⟨Nat.zero_le _, Nat.zero_le _⟩ (fun r4 hr4 => ?_)
              subst hr4
              refine xv (v := nI (loT V j)) rfl ?_
              refine xn_add hx hb (r := ((sN (loT V) j) + (loT V j))) rfl dX7_sum_79 ?_
              refine lv_istore_n (lv' := [(2, .int (nI ((sN (loT V) j) + (loT V j)))), (3, .int (nI j)), (0, .ref g), (1, .int (nI 4))]) hx hb dX7_sum_80 rfl hl (by decide) rfl (fun ls hl => ?_)
              refine lv_iinc (v := nI (j + 1)) (lv' := [(3, .int (nI (j + 1))), (2, .int (nI ((sN (loT V) j) + (loT V j)))), (0, .ref g), (1, .int (nI 4))]) hx hb dX7_sum_81 hl (k := 1) rfl (nI_add j 1) (by decide) rfl (fun ls hl => ?_)
              refine lv_goto (tgt := 61) hx hb dX7_sum_84 (by decide) ?_
              have e5 : ((sN (loT V) j) + (loT V j)) = (sN (loT V) (j + 1)) := rfl
              exact ih61 (j + 1) (by omega) (by omega) ls (xl_eq (b := [(3, .int (nI (j + 1))), (2, .int (nI (sN (loT V) (j + 1)))), (0, .ref g), (1, .int (nI 4))]) (lv_sub (l' := [(3, .int (nI (j + 1))), (2, .int (nI ((sN (loT V) j) + (loT V j)))), (0, .ref g), (1, .int (nI 4))]) hl [0, 1, 2, 3] rfl) (xk rfl (xk (congrArg (fun z : Nat => Value.int (nI z)) e5) (xk rfl (xk rfl (rfl : ([] : List (Nat × Value)) = []))))))
        have e6 : 0 = (sN (loT V) 0) := rfl
        exact lp61 ((8 - 0) + 1) 0 (Nat.lt_succ_self _) (by omega) ls (xl_eq (b := [(3, .int (nI 0)), (2, .int (nI (sN (loT V) 0))), (0, .ref g), (1, .int (nI 4))]) (lv_sub (l' := [(3, .int (nI 0)), (2, .int (nI 0)), (0, .ref g), (1, .int (nI 4))]) hl [0, 1, 2, 3] rfl) (xk rfl (xk (congrArg (fun z : Nat => Value.int (nI z)) e6) (xk rfl (xk rfl (rfl : ([] : List (Nat × Value)) = []))))))
  exact lp4 ((V 16 - 0) + 1) 0 (Nat.lt_succ_self _) (by omega) ls (lv_sub hl [0, 1, 2, 3] rfl)
set_option maxHeartbeats 8000000 in
set_option maxRecDepth 100000 in
theorem c_X7_count (l : Launch) (D : va_G) (y : Nat → ClassId) (g s0 a0 b0 x0 kn L ta wr le : Nat) (o1 o2 : Int32) (po rs : Nat) (ca : Int32) (V : Nat → Nat) (hI : Inv V) (w : Int32) : Met l yX7_count wsX7_count ({ frames := 5, cells := 0, slots := 0, locals := 110 }) (va_Pc [.ref g, .int w] (xPr D y [(g, .inr (7, [.ref s0, .ref a0, .ref b0, .int (nI kn), .ref x0, .int (nI L), .int (nI ta), .int (nI wr), .int (nI le), .int o1, .int o2, .int (nI po), .int (nI rs), .int ca])), (s0, .inl (y 1, 72, .inl (fun j9 => nI (V j9))))])) (vp_Si (fun rz => rz = coI V kn L w)) 0 0 (fun _ => False) := by
  refine Met.ofW (cc := cX7_count) (maxL := 2) (ret := (some .int)) (by decide) rfl ?_
  intro p e s m args below meth c s₁ B hml hv
  obtain ⟨rfl, hP, hK⟩ := hv
  have hx := B.exec
  have hb := B.bytes
  have hr := B.returns
  have hts := atoms_spec (ws := wsX7_count) B.pre
  have hown : s.vm.findClass RX7 = some m.cls := findClass_of_methodNamed B.named
  have hlocks := B.notSynchronized
  have f_138 := hts (.fieldLink RX7 138 "LoomTunesModel" "length" "I") (by decide +kernel)
  have f_26 := hts (.fieldLink RX7 26 "LoomTunesModel" "known" "I") (by decide +kernel)
  have f_51 := hts (.constant RX7 51 (-1000001)) (by decide +kernel)
  have f_7 := hts (.fieldLink RX7 7 "LoomTunesModel" "s" "[I") (by decide +kernel)
  have f_93 := hts (.constant RX7 93 (-1000004)) (by decide +kernel)
  have hin_X7 : ∀ w ∈ wsX70, w ∈ wsX7_count := by decide +kernel
  have hP : va_P D vwCl [(g, .inr (7, [.ref s0, .ref a0, .ref b0, .int (nI kn), .ref x0, .int (nI L), .int (nI ta), .int (nI wr), .int (nI le), .int o1, .int o2, .int (nI po), .int (nI rs), .int ca])), (s0, .inl (y 1, 72, .inl (fun j9 => nI (V j9))))] s.heap := hP
  have hl := lv_entry ([.ref g, .int w]) (n := 2) (Nat.le_of_ble_eq_true rfl)
  rw [lg_entry_eq]
  generalize (lg_sl ([.ref g, .int w]) ++ List.replicate (2 - (lg_sl ([.ref g, .int w])).length) Slot.unset).toArray = ls at hl ⊢
  have hl : lv_has ls 2 [(0, .ref g), (1, .int w)] := hl
  have hsz := hI.sz
  have hs0 := hI.s0
  have hti := hI.ti
  have hblw := bN_lt (c := ¬ w < nI 20 ∧ ¬ nI 23 < w)
  refine lv_iload_n hx hb dX7_count_0 rfl (lv_at hl 1 rfl) ?_
  rcases xsw w 11 (by decide) with hsw | ⟨kw, hkw, hke⟩
  · refine lv_tableOut (tgt := 154) hx hb dX7_count_1 (by have := hsw.1; omega) (by decide) ?_
    refine lv_iload_n hx hb dX7_count_154 rfl (lv_at hl 1 rfl) ?_
    refine lv_bipush (v := nI 20) hx hb dX7_count_155 (by decide) ?_
    refine lv_bipush (v := nI 23) hx hb dX7_count_157 (by decide) ?_
    refine xc_S (As := [.int w, .int (nI 20), .int (nI 23)]) (rest := []) ⟨hx, hb, hml, hown, hts⟩ (c_X7_in l w (nI 20) (nI 23)) (va_cwS 3 hts gX7_count_X7_in rfl rfl rfl hd_X7_in.2 ⟨Nat.le_of_ble_eq_true rfl, Nat.le_of_ble_eq_true rfl⟩) xps_0 rfl hl.1 rfl (Nat.le_of_ble_eq_true rfl) dX7_count_159 ⟨Nat.zero_le _, Nat.zero_le _⟩ (fun r1 hr1 => ?_)
    subst hr1
    refine xn_if_eq hx hb (by omega) (tgt := 180) dX7_count_162 (by decide) (fun kc162 => ?_) (fun kc162 => ?_)
    · refine lv_ldc hx hb hown f_51 dX7_count_180 ?_
      exact xr_i hx hb hr hlocks dX7_count_182 (co_d hsw.2 (bN_0.mp kc162))
    · obtain ⟨kw, hkw1, hkw2, rfl⟩ := ink (bN_n0.mp kc162) (by decide)
      refine lv_aload_n hx hb dX7_count_165 rfl (lv_at hl 0 rfl) ?_
      refine va_get (D := D) (ci := 7) (v := .ref s0) (C := RX7) (T := TX7) (N := 14) hx hb hts hin_X7 hown hK.1 hP 0 rfl rfl 0 (by decide) f_7 (fun _ h9 => h9) rfl dX7_count_166 ?_
      refine lv_bipush (v := nI 68) hx hb dX7_count_169 (by decide) ?_
      refine lv_iload_n hx hb dX7_count_171 rfl (lv_at hl 1 rfl) ?_
      refine xn_add hx hb (r := (68 + kw)) rfl dX7_count_172 ?_
      refine lv_bipush (v := nI 20) hx hb dX7_count_173 (by decide) ?_
      refine xn_sub hx hb (r := ((68 + kw) - 20)) (by omega) rfl dX7_count_175 ?_
      refine xn_iald hx hb hK hP 1 rfl (by omega) (by first | decide | omega) (v := nI (V ((68 + kw) - 20))) (rfl) dX7_count_176 ?_
      refine lv_goto (tgt := 182) hx hb dX7_count_177 (by decide) ?_
      exact xr_i hx hb hr hlocks dX7_count_182 (co_20 hkw1 hkw2)
  · rcases (show kw = 0 ∨ kw = 1 ∨ kw = 2 ∨ kw = 3 ∨ kw = 4 ∨ kw = 5 ∨ kw = 6 ∨ kw = 7 ∨ kw = 8 ∨ kw = 9 ∨ kw = 10 by omega) with rfl | rfl | rfl | rfl | rfl | rfl | rfl | rfl | rfl | rfl | rfl
    · subst hke
      refine lv_tableIn (tgt := 60) (off := 59) hx hb dX7_count_1 (by decide) (by decide) (by decide) (by decide) ?_
      refine lv_aload_n hx hb dX7_count_60 rfl (lv_at hl 0 rfl) ?_
      refine va_get (D := D) (ci := 7) (v := .ref s0) (C := RX7) (T := TX7) (N := 14) hx hb hts hin_X7 hown hK.1 hP 0 rfl rfl 0 (by decide) f_7 (fun _ h9 => h9) rfl dX7_count_61 ?_
      refine lv_bipush (v := nI 16) hx hb dX7_count_64 (by decide) ?_
      refine xn_iald hx hb hK hP 1 rfl (by omega) (by first | decide | omega) (v := nI (V 16)) (rfl) dX7_count_66 ?_
      exact xr_i hx hb hr hlocks dX7_count_67 ((coI_n (w := 0) (by decide)).symm)
    · subst hke
      refine lv_tableIn (tgt := 68) (off := 67) hx hb dX7_count_1 (by decide) (by decide) (by decide) (by decide) ?_
      refine lv_aload_n hx hb dX7_count_68 rfl (lv_at hl 0 rfl) ?_
      refine lv_iload_n hx hb dX7_count_69 rfl (lv_at hl 1 rfl) ?_
      refine xc_V (As := [.int (nI 1)]) (rest := []) ⟨hx, hb, hml, hown, hts⟩ (c_X7_sum_1 l D y g s0 a0 b0 x0 kn L ta wr le o1 o2 po rs ca V hI ) (cwV 1 hts gX7_count_X7_sum rfl rfl rfl hd_X7_sum ⟨Nat.le_of_ble_eq_true rfl, Nat.le_of_ble_eq_true rfl⟩) (xpv_r hK hP [0, 1] 0 rfl rfl rfl) rfl hl.1 rfl (Nat.le_of_ble_eq_true rfl) dX7_count_70 ⟨Nat.zero_le _, Nat.zero_le _⟩ (fun r2 hr2 => ?_)
      subst hr2
      exact xr_i hx hb hr hlocks dX7_count_73 ((coI_n (w := 1) (by decide)).symm)
    · subst hke
      refine lv_tableIn (tgt := 74) (off := 73) hx hb dX7_count_1 (by decide) (by decide) (by decide) (by decide) ?_
      refine lv_aload_n hx hb dX7_count_74 rfl (lv_at hl 0 rfl) ?_
      refine xc_V (As := []) (rest := []) ⟨hx, hb, hml, hown, hts⟩ (c_X7_tones l D y g s0 a0 b0 x0 kn L ta wr le o1 o2 po rs ca V hI ) (cwV 0 hts gX7_count_X7_tones rfl rfl rfl hd_X7_tones ⟨Nat.le_of_ble_eq_true rfl, Nat.le_of_ble_eq_true rfl⟩) (xpv_r hK hP [0, 1] 0 rfl rfl rfl) rfl hl.1 rfl (Nat.le_of_ble_eq_true rfl) dX7_count_75 ⟨Nat.zero_le _, Nat.zero_le _⟩ (fun r3 hr3 => ?_)
      subst hr3
      exact xr_i hx hb hr hlocks dX7_count_78 ((coI_n (w := 2) (by decide)).symm)
    · subst hke
      refine lv_tableIn (tgt := 68) (off := 67) hx hb dX7_count_1 (by decide) (by decide) (by decide) (by decide) ?_
      refine lv_aload_n hx hb dX7_count_68 rfl (lv_at hl 0 rfl) ?_
      refine lv_iload_n hx hb dX7_count_69 rfl (lv_at hl 1 rfl) ?_
      refine xc_V (As := [.int (nI 3)]) (rest := []) ⟨hx, hb, hml, hown, hts⟩ (c_X7_sum_3 l D y g s0 a0 b0 x0 kn L ta wr le o1 o2 po rs ca V hI ) (cwV 1 hts gX7_count_X7_sum rfl rfl rfl hd_X7_sum ⟨Nat.le_of_ble_eq_true rfl, Nat.le_of_ble_eq_true rfl⟩) (xpv_r hK hP [0, 1] 0 rfl rfl rfl) rfl hl.1 rfl (Nat.le_of_ble_eq_true rfl) dX7_count_70 ⟨Nat.zero_le _, Nat.zero_le _⟩ (fun r4 hr4 => ?_)
      subst hr4
      exact xr_i hx hb hr hlocks dX7_count_73 ((coI_n (w := 3) (by decide)).symm)
    · subst hke
      refine lv_tableIn (tgt := 68) (off := 67) hx hb dX7_count_1 (by decide) (by decide) (by decide) (by decide) ?_
      refine lv_aload_n hx hb dX7_count_68 rfl (lv_at hl 0 rfl) ?_
      refine lv_iload_n hx hb dX7_count_69 rfl (lv_at hl 1 rfl) ?_
      refine xc_V (As := [.int (nI 4)]) (rest := []) ⟨hx, hb, hml, hown, hts⟩ (c_X7_sum_4 l D y g s0 a0 b0 x0 kn L ta wr le o1 o2 po rs ca V hI ) (cwV 1 hts gX7_count_X7_sum rfl rfl rfl hd_X7_sum ⟨Nat.le_of_ble_eq_true rfl, Nat.le_of_ble_eq_true rfl⟩) (xpv_r hK hP [0, 1] 0 rfl rfl rfl) rfl hl.1 rfl (Nat.le_of_ble_eq_true rfl) dX7_count_70 ⟨Nat.zero_le _, Nat.zero_le _⟩ (fun r5 hr5 => ?_)
      subst hr5
      exact xr_i hx hb hr hlocks dX7_count_73 ((coI_n (w := 4) (by decide)).symm)
    · subst hke
      refine lv_tableIn (tgt := 79) (off := 78) hx hb dX7_count_1 (by decide) (by decide) (by decide) (by decide) ?_
      refine lv_aload_n hx hb dX7_count_79 rfl (lv_at hl 0 rfl) ?_
      refine va_get (D := D) (ci := 7) (v := .ref s0) (C := RX7) (T := TX7) (N := 14) hx hb hts hin_X7 hown hK.1 hP 0 rfl rfl 0 (by decide) f_7 (fun _ h9 => h9) rfl dX7_count_80 ?_
      refine lv_bipush (v := nI 67) hx hb dX7_count_83 (by decide) ?_
      refine xn_iald hx hb hK hP 1 rfl (by omega) (by first | decide | omega) (v := nI (V 67)) (rfl) dX7_count_85 ?_
      exact xr_i hx hb hr hlocks dX7_count_86 ((coI_n (w := 5) (by decide)).symm)
    · subst hke
      refine lv_tableIn (tgt := 87) (off := 86) hx hb dX7_count_1 (by decide) (by decide) (by decide) (by decide) ?_
      refine lv_aload_n hx hb dX7_count_87 rfl (lv_at hl 0 rfl) ?_
      refine va_get (D := D) (ci := 7) (v := .ref s0) (C := RX7) (T := TX7) (N := 14) hx hb hts hin_X7 hown hK.1 hP 0 rfl rfl 0 (by decide) f_7 (fun _ h9 => h9) rfl dX7_count_88 ?_
      refine lv_bipush (v := nI 66) hx hb dX7_count_91 (by decide) ?_
      refine xn_iald hx hb hK hP 1 rfl (by omega) (by first | decide | omega) (v := nI (V 66)) (rfl) dX7_count_93 ?_
      refine xn_if_ne hx hb (by omega) (tgt := 102) dX7_count_94 (by decide) (fun kc94 => ?_) (fun kc94 => ?_)
      · refine lv_aload_n hx hb dX7_count_102 rfl (lv_at hl 0 rfl) ?_
        refine va_get (D := D) (ci := 7) (v := .ref s0) (C := RX7) (T := TX7) (N := 14) hx hb hts hin_X7 hown hK.1 hP 0 rfl rfl 0 (by decide) f_7 (fun _ h9 => h9) rfl dX7_count_103 ?_
        refine lv_bipush (v := nI 65) hx hb dX7_count_106 (by decide) ?_
        refine xn_iald hx hb hK hP 1 rfl (by omega) (by first | decide | omega) (v := nI (V 65)) (rfl) dX7_count_108 ?_
        exact xr_i hx hb hr hlocks dX7_count_109 ((show _ = coN V kn L 6 from by show _ = (if V 66 = 0 then _ else _); first | (rw [if_pos kc94]; done) | (rw [if_neg kc94]; done)).trans (coI_n (w := 6) (by decide)).symm)
      · refine lv_ldc hx hb hown f_93 dX7_count_97 ?_
        refine lv_goto (tgt := 109) hx hb dX7_count_99 (by decide) ?_
        exact xr_i hx hb hr hlocks dX7_count_109 ((show _ = coN V kn L 6 from by show _ = (if V 66 = 0 then _ else _); first | (rw [if_pos kc94]; done) | (rw [if_neg kc94]; done)).trans (coI_n (w := 6) (by decide)).symm)
    · subst hke
      refine lv_tableIn (tgt := 110) (off := 109) hx hb dX7_count_1 (by decide) (by decide) (by decide) (by decide) ?_
      refine lv_aload_n hx hb dX7_count_110 rfl (lv_at hl 0 rfl) ?_
      refine va_get (D := D) (ci := 7) (v := .ref s0) (C := RX7) (T := TX7) (N := 14) hx hb hts hin_X7 hown hK.1 hP 0 rfl rfl 0 (by decide) f_7 (fun _ h9 => h9) rfl dX7_count_111 ?_
      refine lv_bipush (v := nI 66) hx hb dX7_count_114 (by decide) ?_
      refine xn_iald hx hb hK hP 1 rfl (by omega) (by first | decide | omega) (v := nI (V 66)) (rfl) dX7_count_116 ?_
      exact xr_i hx hb hr hlocks dX7_count_117 ((coI_n (w := 7) (by decide)).symm)
    · subst hke
      refine lv_tableIn (tgt := 118) (off := 117) hx hb dX7_count_1 (by decide) (by decide) (by decide) (by decide) ?_
      refine lv_aload_n hx hb dX7_count_118 rfl (lv_at hl 0 rfl) ?_
      refine va_get (D := D) (ci := 7) (v := .ref s0) (C := RX7) (T := TX7) (N := 14) hx hb hts hin_X7 hown hK.1 hP 0 rfl rfl 0 (by decide) f_7 (fun _ h9 => h9) rfl dX7_count_119 ?_
      refine lv_bipush (v := nI 16) hx hb dX7_count_122 (by decide) ?_
      refine xn_iald hx hb hK hP 1 rfl (by omega) (by first | decide | omega) (v := nI (V 16)) (rfl) dX7_count_124 ?_
      refine lv_aload_n hx hb dX7_count_125 rfl (lv_at hl 0 rfl) ?_
      refine va_get (D := D) (ci := 7) (v := .ref s0) (C := RX7) (T := TX7) (N := 14) hx hb hts hin_X7 hown hK.1 hP 0 rfl rfl 0 (by decide) f_7 (fun _ h9 => h9) rfl dX7_count_126 ?_
      refine lv_bipush (v := nI 68) hx hb dX7_count_129 (by decide) ?_
      refine xn_iald hx hb hK hP 1 rfl (by omega) (by first | decide | omega) (v := nI (V 68)) (rfl) dX7_count_131 ?_
      refine xn_add hx hb (r := ((V 16) + (V 68))) rfl dX7_count_132 ?_
      refine lv_iconst (v := nI 1) hx hb dX7_count_133 (by decide) ?_
      refine xn_sub hx hb (r := (((V 16) + (V 68)) - 1)) (by omega) rfl dX7_count_134 ?_
      refine lv_aload_n hx hb dX7_count_135 rfl (lv_at hl 0 rfl) ?_
      refine va_get (D := D) (ci := 7) (v := .ref s0) (C := RX7) (T := TX7) (N := 14) hx hb hts hin_X7 hown hK.1 hP 0 rfl rfl 0 (by decide) f_7 (fun _ h9 => h9) rfl dX7_count_136 ?_
      refine lv_bipush (v := nI 68) hx hb dX7_count_139 (by decide) ?_
      refine xn_iald hx hb hK hP 1 rfl (by omega) (by first | decide | omega) (v := nI (V 68)) (rfl) dX7_count_141 ?_
      refine xn_div hx hb (r := ((((V 16) + (V 68)) - 1) / (V 68))) (by omega) (by omega) (by omega) rfl dX7_count_142 ?_
      exact xr_i hx hb hr hlocks dX7_count_143 ((congrArg nI (ba8 hI)).trans (coI_n (w := 8) (by decide)).symm)
    · subst hke
      refine lv_tableIn (tgt := 144) (off := 143) hx hb dX7_count_1 (by decide) (by decide) (by decide) (by decide) ?_
      refine lv_aload_n hx hb dX7_count_144 rfl (lv_at hl 0 rfl) ?_
      refine va_get (D := D) (ci := 7) (v := .int (nI kn)) (C := RX7) (T := TX7) (N := 14) hx hb hts hin_X7 hown hK.1 hP 0 rfl rfl 3 (by decide) f_26 (fun _ h9 => h9) rfl dX7_count_145 ?_
      exact xr_i hx hb hr hlocks dX7_count_148 ((coI_n (w := 9) (by decide)).symm)
    · subst hke
      refine lv_tableIn (tgt := 149) (off := 148) hx hb dX7_count_1 (by decide) (by decide) (by decide) (by decide) ?_
      refine lv_aload_n hx hb dX7_count_149 rfl (lv_at hl 0 rfl) ?_
      refine va_get (D := D) (ci := 7) (v := .int (nI L)) (C := RX7) (T := TX7) (N := 14) hx hb hts hin_X7 hown hK.1 hP 0 rfl rfl 5 (by decide) f_138 (fun _ h9 => h9) rfl dX7_count_150 ?_
      exact xr_i hx hb hr hlocks dX7_count_153 ((coI_n (w := 10) (by decide)).symm)
