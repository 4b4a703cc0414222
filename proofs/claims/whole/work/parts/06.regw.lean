set_option maxHeartbeats 8000000 in
set_option maxRecDepth 100000 in
theorem c_X2_put (l : Launch) (D : va_G) (y : Nat → ClassId) (h : Nat → Nat) (V : Nat → Nat) (q : Nat → Nat → Int32) (k : Nat) (hk : k < 24) (x : Int32) : Met l yX2_put wsX2_put ({ frames := 0, cells := 0, slots := 0, locals := 0 }) (va_Pc [.ref (h 0), .int (nI k), .int x] (xPw D y [(h 0, .inr (2, [.ref (h 1), .ref (h 2), .ref (h 3), .ref (h 4), .int (nI (V 16)), .int (nI (V 67)), .int (rmb V), .int (nI (V 66))])), (h 1, .inl (y 1, 8, .inl (q 0))), (h 2, .inl (y 1, 8, .inl (q 1))), (h 3, .inl (y 1, 24, .inl (q 2))), (h 4, .inl (y 1, 4, .inl (q 3)))])) (va_Qv (fun (u : Unit) => True) (fun (u : Unit) t => va_P D vwCl [(h 0, .inr (2, [.ref (h 1), .ref (h 2), .ref (h 3), .ref (h 4), .int (nI (V 16)), .int (nI (V 67)), .int (rmb V), .int (nI (V 66))])), (h 1, .inl (y 1, 8, .inl ((qs q 2 (upd (q 2) k x)) 0))), (h 2, .inl (y 1, 8, .inl ((qs q 2 (upd (q 2) k x)) 1))), (h 3, .inl (y 1, 24, .inl ((qs q 2 (upd (q 2) k x)) 2))), (h 4, .inl (y 1, 4, .inl ((qs q 2 (upd (q 2) k x)) 3)))] t.heap) (xIn [(h 0, .inr (2, [.ref (h 1), .ref (h 2), .ref (h 3), .ref (h 4), .int (nI (V 16)), .int (nI (V 67)), .int (rmb V), .int (nI (V 66))])), (h 1, .inl (y 1, 8, .inl (q 0))), (h 2, .inl (y 1, 8, .inl (q 1))), (h 3, .inl (y 1, 24, .inl (q 2))), (h 4, .inl (y 1, 4, .inl (q 3)))])) 0 0 (xIn [(h 0, .inr (2, [.ref (h 1), .ref (h 2), .ref (h 3), .ref (h 4), .int (nI (V 16)), .int (nI (V 67)), .int (rmb V), .int (nI (V 66))])), (h 1, .inl (y 1, 8, .inl (q 0))), (h 2, .inl (y 1, 8, .inl (q 1))), (h 3, .inl (y 1, 24, .inl (q 2))), (h 4, .inl (y 1, 4, .inl (q 3)))]) := by
  refine Met.ofW (cc := cX2_put) (maxL := 3) (ret := none) (by decide) rfl ?_
  intro p e s m args below meth c s₁ B hml hv
  obtain ⟨rfl, hP, hK, hD0⟩ := hv
  have hx := B.exec
  have hb := B.bytes
  have hr := B.returns
  have hts := atoms_spec (ws := wsX2_put) B.pre
  have hown : s.vm.findClass RX2 = some m.cls := findClass_of_methodNamed B.named
  have hlocks := B.notSynchronized
  have f_18 := hts (.fieldLink RX2 18 "LoomTunes$Register" "cards" "[I") (by decide +kernel)
  have hin_X2 : ∀ w ∈ wsX20, w ∈ wsX2_put := by decide +kernel
  have hD := xD_self hD0
  generalize hAe : xIn [(h 0, .inr (2, [.ref (h 1), .ref (h 2), .ref (h 3), .ref (h 4), .int (nI (V 16)), .int (nI (V 67)), .int (rmb V), .int (nI (V 66))])), (h 1, .inl (y 1, 8, .inl (q 0))), (h 2, .inl (y 1, 8, .inl (q 1))), (h 3, .inl (y 1, 24, .inl (q 2))), (h 4, .inl (y 1, 4, .inl (q 3)))] = A at hD ⊢
  have hS : va_S A s.heap s.heap [] := va_S.rf
  have hP : va_P D vwCl [(h 0, .inr (2, [.ref (h 1), .ref (h 2), .ref (h 3), .ref (h 4), .int (nI (V 16)), .int (nI (V 67)), .int (rmb V), .int (nI (V 66))])), (h 1, .inl (y 1, 8, .inl (q 0))), (h 2, .inl (y 1, 8, .inl (q 1))), (h 3, .inl (y 1, 24, .inl (q 2))), (h 4, .inl (y 1, 4, .inl (q 3)))] s.heap := hP
  have hl := lv_entry ([.ref (h 0), .int (nI k), .int x]) (n := 3) (Nat.le_of_ble_eq_true rfl)
  rw [lg_entry_eq]
  generalize (lg_sl ([.ref (h 0), .int (nI k), .int x]) ++ List.replicate (3 - (lg_sl ([.ref (h 0), .int (nI k), .int x])).length) Slot.unset).toArray = ls at hl ⊢
  have hl : lv_has ls 3 [(0, .ref (h 0)), (1, .int (nI k)), (2, .int x)] := hl
  generalize hQe : (MQ below (va_Qv (fun (u : Unit) => True) (fun (u : Unit) t => va_P D vwCl [(h 0, .inr (2, [.ref (h 1), .ref (h 2), .ref (h 3), .ref (h 4), .int (nI (V 16)), .int (nI (V 67)), .int (rmb V), .int (nI (V 66))])), (h 1, .inl (y 1, 8, .inl ((qs q 2 (upd (q 2) k x)) 0))), (h 2, .inl (y 1, 8, .inl ((qs q 2 (upd (q 2) k x)) 1))), (h 3, .inl (y 1, 24, .inl ((qs q 2 (upd (q 2) k x)) 2))), (h 4, .inl (y 1, 4, .inl ((qs q 2 (upd (q 2) k x)) 3)))] t.heap) A) ([.ref (h 0), .int (nI k), .int x] : List Value).toArray s 0 0 A) = Q
  refine lv_iload_n hx hb dX2_put_0 rfl (lv_at hl 1 rfl) ?_
  refine xn_if_lt hx hb (by omega) (tgt := 20) dX2_put_1 (by decide) ?_
  refine lv_iload_n hx hb dX2_put_4 rfl (lv_at hl 1 rfl) ?_
  refine lv_aload_n hx hb dX2_put_5 rfl (lv_at hl 0 rfl) ?_
  refine va_get (D := D) (ci := 2) (v := .ref (h 3)) (C := RX2) (T := TX2) (N := 8) hx hb hts hin_X2 hown hK.1 hP 0 rfl rfl 2 (by decide) f_18 (fun _ h9 => h9) rfl dX2_put_6 ?_
  refine xn_alen hx hb hK hP 3 1 rfl rfl rfl dX2_put_9 ?_
  refine xn_icmp_ge hx hb (by omega) (by omega) (tgt := 20) dX2_put_10 (by decide) (fun h => absurd h (by omega)) (fun kc10 => ?_)
  refine lv_aload_n hx hb dX2_put_13 rfl (lv_at hl 0 rfl) ?_
  refine va_get (D := D) (ci := 2) (v := .ref (h 3)) (C := RX2) (T := TX2) (N := 8) hx hb hts hin_X2 hown hK.1 hP 0 rfl rfl 2 (by decide) f_18 (fun _ h9 => h9) rfl dX2_put_14 ?_
  refine lv_iload_n hx hb dX2_put_17 rfl (lv_at hl 1 rfl) ?_
  refine lv_iload_n hx hb dX2_put_18 rfl (lv_at hl 2 rfl) ?_
  refine xn_iast hx hb hK hP hD hS 3 (g := upd (q 2) k x) rfl (by omega) (by first | decide | omega) (rfl) dX2_put_19 (fun H locs hP1 hD1 hS1 => ?_)
  clear hP hD hS
  have hP : va_P D vwCl [(h 0, .inr (2, [.ref (h 1), .ref (h 2), .ref (h 3), .ref (h 4), .int (nI (V 16)), .int (nI (V 67)), .int (rmb V), .int (nI (V 66))])), (h 1, .inl (y 1, 8, .inl (q 0))), (h 2, .inl (y 1, 8, .inl (q 1))), (h 3, .inl (y 1, 24, .inl (upd (q 2) k x))), (h 4, .inl (y 1, 4, .inl (q 3)))] H := hP1
  have hD : va_D A [(h 0, .inr (2, [.ref (h 1), .ref (h 2), .ref (h 3), .ref (h 4), .int (nI (V 16)), .int (nI (V 67)), .int (rmb V), .int (nI (V 66))])), (h 1, .inl (y 1, 8, .inl (q 0))), (h 2, .inl (y 1, 8, .inl (q 1))), (h 3, .inl (y 1, 24, .inl (upd (q 2) k x))), (h 4, .inl (y 1, 4, .inl (q 3)))] := hD1
  have hS := hS1
  clear hP1 hD1 hS1
  subst hQe
  exact xw_v hx hb hr hlocks () hS dX2_put_20 (trivial) (fun t ht => by rw [ht]; exact (hP))
set_option maxHeartbeats 8000000 in
set_option maxRecDepth 100000 in
theorem c_X2_copyRow (l : Launch) (D : va_G) (y : Nat → ClassId) (a b m0 : Nat) (hn0 : m0 < 2 ^ 31) (f g : Nat → Int32) : Met l yX2_copyRow wsX2_copyRow ({ frames := 0, cells := 0, slots := 0, locals := 0 }) (va_Pc [.ref a, .ref b] (xPw D y [(a, .inl (y 1, m0, .inl f)), (b, .inl (y 1, m0, .inl g))])) (va_Qv (fun (u : Nat → Int32) => ∀ k, k < m0 → u k = f k) (fun (u : Nat → Int32) t => va_P D vwCl [(a, .inl (y 1, m0, .inl f)), (b, .inl (y 1, m0, .inl u))] t.heap) (xIn [(a, .inl (y 1, m0, .inl f)), (b, .inl (y 1, m0, .inl g))])) 0 0 (xIn [(a, .inl (y 1, m0, .inl f)), (b, .inl (y 1, m0, .inl g))]) := by
  refine Met.ofW (cc := cX2_copyRow) (maxL := 3) (ret := none) (by decide) rfl ?_
  intro p e s m args below meth c s₁ B hml hv
  obtain ⟨rfl, hP, hK, hD0⟩ := hv
  have hx := B.exec
  have hb := B.bytes
  have hr := B.returns
  have hts := atoms_spec (ws := wsX2_copyRow) B.pre
  have hown : s.vm.findClass RX2 = some m.cls := findClass_of_methodNamed B.named
  have hlocks := B.notSynchronized
  have hD := xD_self hD0
  generalize hAe : xIn [(a, .inl (y 1, m0, .inl f)), (b, .inl (y 1, m0, .inl g))] = A at hD ⊢
  have hS : va_S A s.heap s.heap [] := va_S.rf
  have hP : va_P D vwCl [(a, .inl (y 1, m0, .inl f)), (b, .inl (y 1, m0, .inl g))] s.heap := hP
  have hl := lv_entry ([.ref a, .ref b]) (n := 3) (Nat.le_of_ble_eq_true rfl)
  rw [lg_entry_eq]
  generalize (lg_sl ([.ref a, .ref b]) ++ List.replicate (3 - (lg_sl ([.ref a, .ref b])).length) Slot.unset).toArray = ls at hl ⊢
  have hl : lv_has ls 3 [(0, .ref a), (1, .ref b)] := hl
  generalize hQe : (MQ below (va_Qv (fun (u : Nat → Int32) => ∀ k, k < m0 → u k = f k) (fun (u : Nat → Int32) t => va_P D vwCl [(a, .inl (y 1, m0, .inl f)), (b, .inl (y 1, m0, .inl u))] t.heap) A) ([.ref a, .ref b] : List Value).toArray s 0 0 A) = Q
  refine lv_iconst (v := nI 0) hx hb dX2_copyRow_0 (by decide) ?_
  refine lv_istore_n (lv' := [(2, .int (nI 0)), (0, .ref a), (1, .ref b)]) hx hb dX2_copyRow_1 rfl hl (by decide) rfl (fun ls hl => ?_)
  have lp2 : ∀ (n : Nat) (i : Nat) (g2 : Nat → Int32), m0 - i < n → (i ≤ m0) → (∀ k, k < i → g2 k = f k) → ∀ (H : Heap) (locs : List Loc), va_P D vwCl [(a, .inl (y 1, m0, .inl f)), (b, .inl (y 1, m0, .inl g2))] H → va_D A [(a, .inl (y 1, m0, .inl f)), (b, .inl (y 1, m0, .inl g2))] → va_S A s.heap H locs → ∀ ls : Array Slot, lv_has ls 3 [(2, .int (nI i)), (0, .ref a), (1, .ref b)] → W p l e (headSpec wsX2_copyRow ({ frames := 0, cells := 0, slots := 0, locals := 0 })).room s m ([.ref a, .ref b] : List Value).toArray below meth c H locs 0 0 Q (F0 m 2 ls []) := by
    intro n
    induction n with
    | zero => intro i g2 hm; exact absurd hm (Nat.not_lt_zero _)
    | succ n ih2 =>
      intro i g2 hm hi hg H locs hP hD hS ls hl
      refine lv_iload_n hx hb dX2_copyRow_2 rfl (lv_at hl 0 rfl) ?_
      refine lv_aload_n hx hb dX2_copyRow_3 rfl (lv_at hl 1 rfl) ?_
      refine xn_alen hx hb hK hP 0 1 rfl rfl rfl dX2_copyRow_4 ?_
      refine xn_icmp_ge hx hb (by omega) (by omega) (tgt := 26) dX2_copyRow_5 (by decide) (fun kc5 => ?_) (fun kc5 => ?_)
      · subst hQe
        exact xw_v hx hb hr hlocks g2 hS dX2_copyRow_26 (fun k hk => hg k (by omega)) (fun t ht => by rw [ht]; exact (hP))
      · refine lv_iload_n hx hb dX2_copyRow_8 rfl (lv_at hl 0 rfl) ?_
        refine lv_aload_n hx hb dX2_copyRow_9 rfl (lv_at hl 2 rfl) ?_
        refine xn_alen hx hb hK hP 1 1 rfl rfl rfl dX2_copyRow_10 ?_
        refine xn_icmp_ge hx hb (by omega) (by omega) (tgt := 26) dX2_copyRow_11 (by decide) (fun h => absurd h (by omega)) (fun kc11 => ?_)
        refine lv_aload_n hx hb dX2_copyRow_14 rfl (lv_at hl 2 rfl) ?_
        refine lv_iload_n hx hb dX2_copyRow_15 rfl (lv_at hl 0 rfl) ?_
        refine lv_aload_n hx hb dX2_copyRow_16 rfl (lv_at hl 1 rfl) ?_
        refine lv_iload_n hx hb dX2_copyRow_17 rfl (lv_at hl 0 rfl) ?_
        refine xn_iald hx hb hK hP 0 rfl (by omega) (by first | decide | omega) (v := f i) (rfl) dX2_copyRow_18 ?_
        refine xn_iast hx hb hK hP hD hS 1 (g := upd g2 i (f i)) rfl (by omega) (by first | decide | omega) (rfl) dX2_copyRow_19 (fun H locs hP1 hD1 hS1 => ?_)
        clear hP hD hS
        have hP : va_P D vwCl [(a, .inl (y 1, m0, .inl f)), (b, .inl (y 1, m0, .inl (upd g2 i (f i))))] H := hP1
        have hD : va_D A [(a, .inl (y 1, m0, .inl f)), (b, .inl (y 1, m0, .inl (upd g2 i (f i))))] := hD1
        have hS := hS1
        clear hP1 hD1 hS1
        refine lv_iinc (v := nI (i + 1)) (lv' := [(2, .int (nI (i + 1))), (0, .ref a), (1, .ref b)]) hx hb dX2_copyRow_20 hl (k := 0) rfl (nI_add i 1) (by decide) rfl (fun ls hl => ?_)
        refine lv_goto (tgt := 2) hx hb dX2_copyRow_23 (by decide) ?_
        exact ih2 (i + 1) (upd g2 i (f i)) (by omega) (by omega) (upd_copy hg) _ _ hP hD hS ls (lv_sub hl [0, 1, 2] rfl)
  exact lp2 ((m0 - 0) + 1) 0 g (Nat.lt_succ_self _) (by omega) (fun k hk => absurd hk (Nat.not_lt_zero _)) _ _ hP hD hS ls (lv_sub hl [0, 1, 2] rfl)
set_option maxHeartbeats 8000000 in
set_option maxRecDepth 100000 in
theorem c_X2_copyFrom (l : Launch) (D : va_G) (y : Nat → ClassId) (h : Nat → Nat) (V : Nat → Nat) (q : Nat → Nat → Int32) (h2 : Nat → Nat) (V2 : Nat → Nat) (q2 : Nat → Nat → Int32) (hR2 : RepC V2 q2) (hz : V2 16 ≤ 24) : Met l yX2_copyFrom wsX2_copyFrom ({ frames := 1, cells := 0, slots := 0, locals := 22 }) (va_Pc [.ref (h 0), .ref (h2 0)] (xPw D y [(h 0, .inr (2, [.ref (h 1), .ref (h 2), .ref (h 3), .ref (h 4), .int (nI (V 16)), .int (nI (V 67)), .int (rmb V), .int (nI (V 66))])), (h 1, .inl (y 1, 8, .inl (q 0))), (h 2, .inl (y 1, 8, .inl (q 1))), (h 3, .inl (y 1, 24, .inl (q 2))), (h 4, .inl (y 1, 4, .inl (q 3))), (h2 0, .inr (2, [.ref (h2 1), .ref (h2 2), .ref (h2 3), .ref (h2 4), .int (nI (V2 16)), .int (nI (V2 67)), .int (rmb V2), .int (nI (V2 66))])), (h2 1, .inl (y 1, 8, .inl (q2 0))), (h2 2, .inl (y 1, 8, .inl (q2 1))), (h2 3, .inl (y 1, 24, .inl (q2 2))), (h2 4, .inl (y 1, 4, .inl (q2 3)))])) (va_Qv (fun (u : Nat → Nat → Int32) => RepC V2 u) (fun (u : Nat → Nat → Int32) t => va_P D vwCl [(h 0, .inr (2, [.ref (h 1), .ref (h 2), .ref (h 3), .ref (h 4), .int (nI (V2 16)), .int (nI (V2 67)), .int (rmb V2), .int (nI (V2 66))])), (h 1, .inl (y 1, 8, .inl (u 0))), (h 2, .inl (y 1, 8, .inl (u 1))), (h 3, .inl (y 1, 24, .inl (u 2))), (h 4, .inl (y 1, 4, .inl (u 3))), (h2 0, .inr (2, [.ref (h2 1), .ref (h2 2), .ref (h2 3), .ref (h2 4), .int (nI (V2 16)), .int (nI (V2 67)), .int (rmb V2), .int (nI (V2 66))])), (h2 1, .inl (y 1, 8, .inl (q2 0))), (h2 2, .inl (y 1, 8, .inl (q2 1))), (h2 3, .inl (y 1, 24, .inl (q2 2))), (h2 4, .inl (y 1, 4, .inl (q2 3)))] t.heap) (xIn [(h 0, .inr (2, [.ref (h 1), .ref (h 2), .ref (h 3), .ref (h 4), .int (nI (V 16)), .int (nI (V 67)), .int (rmb V), .int (nI (V 66))])), (h 1, .inl (y 1, 8, .inl (q 0))), (h 2, .inl (y 1, 8, .inl (q 1))), (h 3, .inl (y 1, 24, .inl (q 2))), (h 4, .inl (y 1, 4, .inl (q 3))), (h2 0, .inr (2, [.ref (h2 1), .ref (h2 2), .ref (h2 3), .ref (h2 4), .int (nI (V2 16)), .int (nI (V2 67)), .int (rmb V2), .int (nI (V2 66))])), (h2 1, .inl (y 1, 8, .inl (q2 0))), (h2 2, .inl (y 1, 8, .inl (q2 1))), (h2 3, .inl (y 1, 24, .inl (q2 2))), (h2 4, .inl (y 1, 4, .inl (q2 3)))])) 0 0 (xIn [(h 0, .inr (2, [.ref (h 1), .ref (h 2), .ref (h 3), .ref (h 4), .int (nI (V 16)), .int (nI (V 67)), .int (rmb V), .int (nI (V 66))])), (h 1, .inl (y 1, 8, .inl (q 0))), (h 2, .inl (y 1, 8, .inl (q 1))), (h 3, .inl (y 1, 24, .inl (q 2))), (h 4, .inl (y 1, 4, .inl (q 3))), (h2 0, .inr (2, [.ref (h2 1), .ref (h2 2), .ref (h2 3), .ref (h2 4), .int (nI (V2 16)), .int (nI (V2 67)), .int (rmb V2), .int (nI (V2 66))])), (h2 1, .inl (y 1, 8, .inl (q2 0))), (h2 2, .inl (y 1, 8, .inl (q2 1))), (h2 3, .inl (y 1, 24, .inl (q2 2))), (h2 4, .inl (y 1, 4, .inl (q2 3)))]) := by
  refine Met.ofW (cc := cX2_copyFrom) (maxL := 2) (ret := none) (by decide) rfl ?_
  intro p e s m args below meth c s₁ B hml hv
  obtain ⟨rfl, hP, hK, hD0⟩ := hv
  have hx := B.exec
  have hb := B.bytes
  have hr := B.returns
  have hts := atoms_spec (ws := wsX2_copyFrom) B.pre
  have hown : s.vm.findClass RX2 = some m.cls := findClass_of_methodNamed B.named
  have hlocks := B.notSynchronized
  have f_15 := hts (.fieldLink RX2 15 "LoomTunes$Register" "colours" "[I") (by decide +kernel)
  have f_18 := hts (.fieldLink RX2 18 "LoomTunes$Register" "cards" "[I") (by decide +kernel)
  have f_21 := hts (.fieldLink RX2 21 "LoomTunes$Register" "settings" "[I") (by decide +kernel)
  have f_24 := hts (.fieldLink RX2 24 "LoomTunes$Register" "size" "I") (by decide +kernel)
  have f_28 := hts (.fieldLink RX2 28 "LoomTunes$Register" "refusals" "I") (by decide +kernel)
  have f_31 := hts (.fieldLink RX2 31 "LoomTunes$Register" "refused" "I") (by decide +kernel)
  have f_34 := hts (.fieldLink RX2 34 "LoomTunes$Register" "refusedTimes" "I") (by decide +kernel)
  have f_9 := hts (.fieldLink RX2 9 "LoomTunes$Register" "notes" "[I") (by decide +kernel)
  have hin_X2 : ∀ w ∈ wsX20, w ∈ wsX2_copyFrom := by decide +kernel
  have hD := xD_self hD0
  generalize hAe : xIn [(h 0, .inr (2, [.ref (h 1), .ref (h 2), .ref (h 3), .ref (h 4), .int (nI (V 16)), .int (nI (V 67)), .int (rmb V), .int (nI (V 66))])), (h 1, .inl (y 1, 8, .inl (q 0))), (h 2, .inl (y 1, 8, .inl (q 1))), (h 3, .inl (y 1, 24, .inl (q 2))), (h 4, .inl (y 1, 4, .inl (q 3))), (h2 0, .inr (2, [.ref (h2 1), .ref (h2 2), .ref (h2 3), .ref (h2 4), .int (nI (V2 16)), .int (nI (V2 67)), .int (rmb V2), .int (nI (V2 66))])), (h2 1, .inl (y 1, 8, .inl (q2 0))), (h2 2, .inl (y 1, 8, .inl (q2 1))), (h2 3, .inl (y 1, 24, .inl (q2 2))), (h2 4, .inl (y 1, 4, .inl (q2 3)))] = A at hD ⊢
  have hS : va_S A s.heap s.heap [] := va_S.rf
  have hP : va_P D vwCl [(h 0, .inr (2, [.ref (h 1), .ref (h 2), .ref (h 3), .ref (h 4), .int (nI (V 16)), .int (nI (V 67)), .int (rmb V), .int (nI (V 66))])), (h 1, .inl (y 1, 8, .inl (q 0))), (h 2, .inl (y 1, 8, .inl (q 1))), (h 3, .inl (y 1, 24, .inl (q 2))), (h 4, .inl (y 1, 4, .inl (q 3))), (h2 0, .inr (2, [.ref (h2 1), .ref (h2 2), .ref (h2 3), .ref (h2 4), .int (nI (V2 16)), .int (nI (V2 67)), .int (rmb V2), .int (nI (V2 66))])), (h2 1, .inl (y 1, 8, .inl (q2 0))), (h2 2, .inl (y 1, 8, .inl (q2 1))), (h2 3, .inl (y 1, 24, .inl (q2 2))), (h2 4, .inl (y 1, 4, .inl (q2 3)))] s.heap := hP
  have hl := lv_entry ([.ref (h 0), .ref (h2 0)]) (n := 2) (Nat.le_of_ble_eq_true rfl)
  rw [lg_entry_eq]
  generalize (lg_sl ([.ref (h 0), .ref (h2 0)]) ++ List.replicate (2 - (lg_sl ([.ref (h 0), .ref (h2 0)])).length) Slot.unset).toArray = ls at hl ⊢
  have hl : lv_has ls 2 [(0, .ref (h 0)), (1, .ref (h2 0))] := hl
  generalize hQe : (MQ below (va_Qv (fun (u : Nat → Nat → Int32) => RepC V2 u) (fun (u : Nat → Nat → Int32) t => va_P D vwCl [(h 0, .inr (2, [.ref (h 1), .ref (h 2), .ref (h 3), .ref (h 4), .int (nI (V2 16)), .int (nI (V2 67)), .int (rmb V2), .int (nI (V2 66))])), (h 1, .inl (y 1, 8, .inl (u 0))), (h 2, .inl (y 1, 8, .inl (u 1))), (h 3, .inl (y 1, 24, .inl (u 2))), (h 4, .inl (y 1, 4, .inl (u 3))), (h2 0, .inr (2, [.ref (h2 1), .ref (h2 2), .ref (h2 3), .ref (h2 4), .int (nI (V2 16)), .int (nI (V2 67)), .int (rmb V2), .int (nI (V2 66))])), (h2 1, .inl (y 1, 8, .inl (q2 0))), (h2 2, .inl (y 1, 8, .inl (q2 1))), (h2 3, .inl (y 1, 24, .inl (q2 2))), (h2 4, .inl (y 1, 4, .inl (q2 3)))] t.heap) A) ([.ref (h 0), .ref (h2 0)] : List Value).toArray s 0 0 A) = Q
  refine lv_aload_n hx hb dX2_copyFrom_0 rfl (lv_at hl 1 rfl) ?_
  refine va_get (D := D) (ci := 2) (v := .ref (h2 1)) (C := RX2) (T := TX2) (N := 8) hx hb hts hin_X2 hown hK.1 hP 5 rfl rfl 0 (by decide) f_9 (fun _ h9 => h9) rfl dX2_copyFrom_1 ?_
  refine lv_aload_n hx hb dX2_copyFrom_4 rfl (lv_at hl 0 rfl) ?_
  refine va_get (D := D) (ci := 2) (v := .ref (h 1)) (C := RX2) (T := TX2) (N := 8) hx hb hts hin_X2 hown hK.1 hP 0 rfl rfl 0 (by decide) f_9 (fun _ h9 => h9) rfl dX2_copyFrom_5 ?_
  have hFc := xD_in (W0 := [(h2 1, .inl (y 1, 8, .inl (q2 0))), (h 1, .inl (y 1, 8, .inl (q 0)))]) hD [6, 1] rfl
  refine va_callv (va_runS (As := [.ref (h2 1), .ref (h 1)]) (rest := []) ⟨hx, hb, hml, hown, hts⟩ (c_X2_copyRow l D y (h2 1) (h 1) 8 (by omega) (q2 0) (q 0)) (va_cwS 2 hts gX2_copyFrom_X2_copyRow rfl rfl rfl hd_X2_copyRow.2 ⟨Nat.le_of_ble_eq_true rfl, Nat.le_of_ble_eq_true rfl⟩) (xps_w hK hP hD [6, 1] rfl rfl rfl) rfl rfl hl.1 rfl (lv_room (Nat.le_of_ble_eq_true rfl)) dX2_copyFrom_8 ⟨Nat.zero_le _, Nat.zero_le _⟩) hS (fun q _ h => hFc q h) hFc (fun u1 t H locs ht hvm hw1 hB hz1 hk1 hS1 => ?_)
  have hB : va_P D vwCl [(h2 1, .inl (y 1, 8, .inl (q2 0))), (h 1, .inl (y 1, 8, .inl u1))] t.heap := hB
  rw [ht] at hB
  have hw1 : ∀ k, k < 8 → u1 k = (q2 0) k := hw1
  have hJ := xj_join (ws2 := [(h 0, .inr (2, [.ref (h 1), .ref (h 2), .ref (h 3), .ref (h 4), .int (nI (V 16)), .int (nI (V 67)), .int (rmb V), .int (nI (V 66))])), (h 1, .inl (y 1, 8, .inl u1)), (h 2, .inl (y 1, 8, .inl (q 1))), (h 3, .inl (y 1, 24, .inl (q 2))), (h 4, .inl (y 1, 4, .inl (q 3))), (h2 0, .inr (2, [.ref (h2 1), .ref (h2 2), .ref (h2 3), .ref (h2 4), .int (nI (V2 16)), .int (nI (V2 67)), .int (rmb V2), .int (nI (V2 66))])), (h2 1, .inl (y 1, 8, .inl (q2 0))), (h2 2, .inl (y 1, 8, .inl (q2 1))), (h2 3, .inl (y 1, 24, .inl (q2 2))), (h2 4, .inl (y 1, 4, .inl (q2 3)))]) hP hD [6, 1] [0, 2, 3, 4, 5, 7, 8, 9] rfl rfl rfl rfl rfl rfl hk1 hB
  clear hP hD hS hB hk1 hz1 hFc hvm ht
  obtain ⟨hP, hD⟩ := hJ
  have hS := hS1
  clear hS1
  refine lv_aload_n hx hb dX2_copyFrom_11 rfl (lv_at hl 1 rfl) ?_
  refine va_get (D := D) (ci := 2) (v := .ref (h2 2)) (C := RX2) (T := TX2) (N := 8) hx hb hts hin_X2 hown hK.1 hP 5 rfl rfl 1 (by decide) f_15 (fun _ h9 => h9) rfl dX2_copyFrom_12 ?_
  refine lv_aload_n hx hb dX2_copyFrom_15 rfl (lv_at hl 0 rfl) ?_
  refine va_get (D := D) (ci := 2) (v := .ref (h 2)) (C := RX2) (T := TX2) (N := 8) hx hb hts hin_X2 hown hK.1 hP 0 rfl rfl 1 (by decide) f_15 (fun _ h9 => h9) rfl dX2_copyFrom_16 ?_
  have hFc := xD_in (W0 := [(h2 2, .inl (y 1, 8, .inl (q2 1))), (h 2, .inl (y 1, 8, .inl (q 1)))]) hD [7, 2] rfl
  refine va_callv (va_runS (As := [.ref (h2 2), .ref (h 2)]) (rest := []) ⟨hx, hb, hml, hown, hts⟩ (c_X2_copyRow l D y (h2 2) (h 2) 8 (by omega) (q2 1) (q 1)) (va_cwS 2 hts gX2_copyFrom_X2_copyRow rfl rfl rfl hd_X2_copyRow.2 ⟨Nat.le_of_ble_eq_true rfl, Nat.le_of_ble_eq_true rfl⟩) (xps_w hK hP hD [7, 2] rfl rfl rfl) rfl rfl hl.1 rfl (lv_room (Nat.le_of_ble_eq_true rfl)) dX2_copyFrom_19 ⟨Nat.zero_le _, Nat.zero_le _⟩) hS (fun q _ h => hFc q h) hFc (fun u2 t H locs ht hvm hw2 hB hz1 hk1 hS1 => ?_)
  have hB : va_P D vwCl [(h2 2, .inl (y 1, 8, .inl (q2 1))), (h 2, .inl (y 1, 8, .inl u2))] t.heap := hB
  rw [ht] at hB
  have hw2 : ∀ k, k < 8 → u2 k = (q2 1) k := hw2
  have hJ := xj_join (ws2 := [(h 0, .inr (2, [.ref (h 1), .ref (h 2), .ref (h 3), .ref (h 4), .int (nI (V 16)), .int (nI (V 67)), .int (rmb V), .int (nI (V 66))])), (h 1, .inl (y 1, 8, .inl u1)), (h 2, .inl (y 1, 8, .inl u2)), (h 3, .inl (y 1, 24, .inl (q 2))), (h 4, .inl (y 1, 4, .inl (q 3))), (h2 0, .inr (2, [.ref (h2 1), .ref (h2 2), .ref (h2 3), .ref (h2 4), .int (nI (V2 16)), .int (nI (V2 67)), .int (rmb V2), .int (nI (V2 66))])), (h2 1, .inl (y 1, 8, .inl (q2 0))), (h2 2, .inl (y 1, 8, .inl (q2 1))), (h2 3, .inl (y 1, 24, .inl (q2 2))), (h2 4, .inl (y 1, 4, .inl (q2 3)))]) hP hD [7, 2] [0, 1, 3, 4, 5, 6, 8, 9] rfl rfl rfl rfl rfl rfl hk1 hB
  clear hP hD hS hB hk1 hz1 hFc hvm ht
  obtain ⟨hP, hD⟩ := hJ
  have hS := hS1
  clear hS1
  refine lv_aload_n hx hb dX2_copyFrom_22 rfl (lv_at hl 1 rfl) ?_
  refine va_get (D := D) (ci := 2) (v := .ref (h2 3)) (C := RX2) (T := TX2) (N := 8) hx hb hts hin_X2 hown hK.1 hP 5 rfl rfl 2 (by decide) f_18 (fun _ h9 => h9) rfl dX2_copyFrom_23 ?_
  refine lv_aload_n hx hb dX2_copyFrom_26 rfl (lv_at hl 0 rfl) ?_
  refine va_get (D := D) (ci := 2) (v := .ref (h 3)) (C := RX2) (T := TX2) (N := 8) hx hb hts hin_X2 hown hK.1 hP 0 rfl rfl 2 (by decide) f_18 (fun _ h9 => h9) rfl dX2_copyFrom_27 ?_
  have hFc := xD_in (W0 := [(h2 3, .inl (y 1, 24, .inl (q2 2))), (h 3, .inl (y 1, 24, .inl (q 2)))]) hD [8, 3] rfl
  refine va_callv (va_runS (As := [.ref (h2 3), .ref (h 3)]) (rest := []) ⟨hx, hb, hml, hown, hts⟩ (c_X2_copyRow l D y (h2 3) (h 3) 24 (by omega) (q2 2) (q 2)) (va_cwS 2 hts gX2_copyFrom_X2_copyRow rfl rfl rfl hd_X2_copyRow.2 ⟨Nat.le_of_ble_eq_true rfl, Nat.le_of_ble_eq_true rfl⟩) (xps_w hK hP hD [8, 3] rfl rfl rfl) rfl rfl hl.1 rfl (lv_room (Nat.le_of_ble_eq_true rfl)) dX2_copyFrom_30 ⟨Nat.zero_le _, Nat.zero_le _⟩) hS (fun q _ h => hFc q h) hFc (fun u3 t H locs ht hvm hw3 hB hz1 hk1 hS1 => ?_)
  have hB : va_P D vwCl [(h2 3, .inl (y 1, 24, .inl (q2 2))), (h 3, .inl (y 1, 24, .inl u3))] t.heap := hB
  rw [ht] at hB
  have hw3 : ∀ k, k < 24 → u3 k = (q2 2) k := hw3
  have hJ := xj_join (ws2 := [(h 0, .inr (2, [.ref (h 1), .ref (h 2), .ref (h 3), .ref (h 4), .int (nI (V 16)), .int (nI (V 67)), .int (rmb V), .int (nI (V 66))])), (h 1, .inl (y 1, 8, .inl u1)), (h 2, .inl (y 1, 8, .inl u2)), (h 3, .inl (y 1, 24, .inl u3)), (h 4, .inl (y 1, 4, .inl (q 3))), (h2 0, .inr (2, [.ref (h2 1), .ref (h2 2), .ref (h2 3), .ref (h2 4), .int (nI (V2 16)), .int (nI (V2 67)), .int (rmb V2), .int (nI (V2 66))])), (h2 1, .inl (y 1, 8, .inl (q2 0))), (h2 2, .inl (y 1, 8, .inl (q2 1))), (h2 3, .inl (y 1, 24, .inl (q2 2))), (h2 4, .inl (y 1, 4, .inl (q2 3)))]) hP hD [8, 3] [0, 1, 2, 4, 5, 6, 7, 9] rfl rfl rfl rfl rfl rfl hk1 hB
  clear hP hD hS hB hk1 hz1 hFc hvm ht
  obtain ⟨hP, hD⟩ := hJ
  have hS := hS1
  clear hS1
  refine lv_aload_n hx hb dX2_copyFrom_33 rfl (lv_at hl 1 rfl) ?_
  refine va_get (D := D) (ci := 2) (v := .ref (h2 4)) (C := RX2) (T := TX2) (N := 8) hx hb hts hin_X2 hown hK.1 hP 5 rfl rfl 3 (by decide) f_21 (fun _ h9 => h9) rfl dX2_copyFrom_34 ?_
  refine lv_aload_n hx hb dX2_copyFrom_37 rfl (lv_at hl 0 rfl) ?_
  refine va_get (D := D) (ci := 2) (v := .ref (h 4)) (C := RX2) (T := TX2) (N := 8) hx hb hts hin_X2 hown hK.1 hP 0 rfl rfl 3 (by decide) f_21 (fun _ h9 => h9) rfl dX2_copyFrom_38 ?_
  have hFc := xD_in (W0 := [(h2 4, .inl (y 1, 4, .inl (q2 3))), (h 4, .inl (y 1, 4, .inl (q 3)))]) hD [9, 4] rfl
  refine va_callv (va_runS (As := [.ref (h2 4), .ref (h 4)]) (rest := []) ⟨hx, hb, hml, hown, hts⟩ (c_X2_copyRow l D y (h2 4) (h 4) 4 (by omega) (q2 3) (q 3)) (va_cwS 2 hts gX2_copyFrom_X2_copyRow rfl rfl rfl hd_X2_copyRow.2 ⟨Nat.le_of_ble_eq_true rfl, Nat.le_of_ble_eq_true rfl⟩) (xps_w hK hP hD [9, 4] rfl rfl rfl) rfl rfl hl.1 rfl (lv_room (Nat.le_of_ble_eq_true rfl)) dX2_copyFrom_41 ⟨Nat.zero_le _, Nat.zero_le _⟩) hS (fun q _ h => hFc q h) hFc (fun u4 t H locs ht hvm hw4 hB hz1 hk1 hS1 => ?_)
  have hB : va_P D vwCl [(h2 4, .inl (y 1, 4, .inl (q2 3))), (h 4, .inl (y 1, 4, .inl u4))] t.heap := hB
  rw [ht] at hB
  have hw4 : ∀ k, k < 4 → u4 k = (q2 3) k := hw4
  have hJ := xj_join (ws2 := [(h 0, .inr (2, [.ref (h 1), .ref (h 2), .ref (h 3), .ref (h 4), .int (nI (V 16)), .int (nI (V 67)), .int (rmb V), .int (nI (V 66))])), (h 1, .inl (y 1, 8, .inl u1)), (h 2, .inl (y 1, 8, .inl u2)), (h 3, .inl (y 1, 24, .inl u3)), (h 4, .inl (y 1, 4, .inl u4)), (h2 0, .inr (2, [.ref (h2 1), .ref (h2 2), .ref (h2 3), .ref (h2 4), .int (nI (V2 16)), .int (nI (V2 67)), .int (rmb V2), .int (nI (V2 66))])), (h2 1, .inl (y 1, 8, .inl (q2 0))), (h2 2, .inl (y 1, 8, .inl (q2 1))), (h2 3, .inl (y 1, 24, .inl (q2 2))), (h2 4, .inl (y 1, 4, .inl (q2 3)))]) hP hD [9, 4] [0, 1, 2, 3, 5, 6, 7, 8] rfl rfl rfl rfl rfl rfl hk1 hB
  clear hP hD hS hB hk1 hz1 hFc hvm ht
  obtain ⟨hP, hD⟩ := hJ
  have hS := hS1
  clear hS1
  refine lv_aload_n hx hb dX2_copyFrom_44 rfl (lv_at hl 0 rfl) ?_
  refine lv_aload_n hx hb dX2_copyFrom_45 rfl (lv_at hl 1 rfl) ?_
  refine va_get (D := D) (ci := 2) (v := .int (nI (V2 16))) (C := RX2) (T := TX2) (N := 8) hx hb hts hin_X2 hown hK.1 hP 5 rfl rfl 4 (by decide) f_24 (fun _ h9 => h9) rfl dX2_copyFrom_46 ?_
  refine va_put (D := D) (ci := 2) (v := .int (nI (V2 16))) (ty := .int) (C := RX2) (T := TX2) (N := 8) hx hb hts hin_X2 tyX2 tyX2_ok nmX2 hown hK.1 hP hD hS 0 rfl rfl 4 (by decide) f_24 (fun _ h9 => h9) rfl (by decide +kernel) rfl rfl (Nat.le_of_ble_eq_true rfl) dX2_copyFrom_49 (fun H locs hP1 hD1 hS1 => ?_)
  clear hP hD hS
  have hP : va_P D vwCl [(h 0, .inr (2, [.ref (h 1), .ref (h 2), .ref (h 3), .ref (h 4), .int (nI (V2 16)), .int (nI (V 67)), .int (rmb V), .int (nI (V 66))])), (h 1, .inl (y 1, 8, .inl u1)), (h 2, .inl (y 1, 8, .inl u2)), (h 3, .inl (y 1, 24, .inl u3)), (h 4, .inl (y 1, 4, .inl u4)), (h2 0, .inr (2, [.ref (h2 1), .ref (h2 2), .ref (h2 3), .ref (h2 4), .int (nI (V2 16)), .int (nI (V2 67)), .int (rmb V2), .int (nI (V2 66))])), (h2 1, .inl (y 1, 8, .inl (q2 0))), (h2 2, .inl (y 1, 8, .inl (q2 1))), (h2 3, .inl (y 1, 24, .inl (q2 2))), (h2 4, .inl (y 1, 4, .inl (q2 3)))] H := hP1
  have hD : va_D A [(h 0, .inr (2, [.ref (h 1), .ref (h 2), .ref (h 3), .ref (h 4), .int (nI (V2 16)), .int (nI (V 67)), .int (rmb V), .int (nI (V 66))])), (h 1, .inl (y 1, 8, .inl u1)), (h 2, .inl (y 1, 8, .inl u2)), (h 3, .inl (y 1, 24, .inl u3)), (h 4, .inl (y 1, 4, .inl u4)), (h2 0, .inr (2, [.ref (h2 1), .ref (h2 2), .ref (h2 3), .ref (h2 4), .int (nI (V2 16)), .int (nI (V2 67)), .int (rmb V2), .int (nI (V2 66))])), (h2 1, .inl (y 1, 8, .inl (q2 0))), (h2 2, .inl (y 1, 8, .inl (q2 1))), (h2 3, .inl (y 1, 24, .inl (q2 2))), (h2 4, .inl (y 1, 4, .inl (q2 3)))] := hD1
  have hS := hS1
  clear hP1 hD1 hS1
  refine lv_aload_n hx hb dX2_copyFrom_52 rfl (lv_at hl 0 rfl) ?_
  refine lv_aload_n hx hb dX2_copyFrom_53 rfl (lv_at hl 1 rfl) ?_
  refine va_get (D := D) (ci := 2) (v := .int (nI (V2 67))) (C := RX2) (T := TX2) (N := 8) hx hb hts hin_X2 hown hK.1 hP 5 rfl rfl 5 (by decide) f_28 (fun _ h9 => h9) rfl dX2_copyFrom_54 ?_
  refine va_put (D := D) (ci := 2) (v := .int (nI (V2 67))) (ty := .int) (C := RX2) (T := TX2) (N := 8) hx hb hts hin_X2 tyX2 tyX2_ok nmX2 hown hK.1 hP hD hS 0 rfl rfl 5 (by decide) f_28 (fun _ h9 => h9) rfl (by decide +kernel) rfl rfl (Nat.le_of_ble_eq_true rfl) dX2_copyFrom_57 (fun H locs hP1 hD1 hS1 => ?_)
  clear hP hD hS
  have hP : va_P D vwCl [(h 0, .inr (2, [.ref (h 1), .ref (h 2), .ref (h 3), .ref (h 4), .int (nI (V2 16)), .int (nI (V2 67)), .int (rmb V), .int (nI (V 66))])), (h 1, .inl (y 1, 8, .inl u1)), (h 2, .inl (y 1, 8, .inl u2)), (h 3, .inl (y 1, 24, .inl u3)), (h 4, .inl (y 1, 4, .inl u4)), (h2 0, .inr (2, [.ref (h2 1), .ref (h2 2), .ref (h2 3), .ref (h2 4), .int (nI (V2 16)), .int (nI (V2 67)), .int (rmb V2), .int (nI (V2 66))])), (h2 1, .inl (y 1, 8, .inl (q2 0))), (h2 2, .inl (y 1, 8, .inl (q2 1))), (h2 3, .inl (y 1, 24, .inl (q2 2))), (h2 4, .inl (y 1, 4, .inl (q2 3)))] H := hP1
  have hD : va_D A [(h 0, .inr (2, [.ref (h 1), .ref (h 2), .ref (h 3), .ref (h 4), .int (nI (V2 16)), .int (nI (V2 67)), .int (rmb V), .int (nI (V 66))])), (h 1, .inl (y 1, 8, .inl u1)), (h 2, .inl (y 1, 8, .inl u2)), (h 3, .inl (y 1, 24, .inl u3)), (h 4, .inl (y 1, 4, .inl u4)), (h2 0, .inr (2, [.ref (h2 1), .ref (h2 2), .ref (h2 3), .ref (h2 4), .int (nI (V2 16)), .int (nI (V2 67)), .int (rmb V2), .int (nI (V2 66))])), (h2 1, .inl (y 1, 8, .inl (q2 0))), (h2 2, .inl (y 1, 8, .inl (q2 1))), (h2 3, .inl (y 1, 24, .inl (q2 2))), (h2 4, .inl (y 1, 4, .inl (q2 3)))] := hD1
  have hS := hS1
  clear hP1 hD1 hS1
  refine lv_aload_n hx hb dX2_copyFrom_60 rfl (lv_at hl 0 rfl) ?_
  refine lv_aload_n hx hb dX2_copyFrom_61 rfl (lv_at hl 1 rfl) ?_
  refine va_get (D := D) (ci := 2) (v := .int (rmb V2)) (C := RX2) (T := TX2) (N := 8) hx hb hts hin_X2 hown hK.1 hP 5 rfl rfl 6 (by decide) f_31 (fun _ h9 => h9) rfl dX2_copyFrom_62 ?_
  refine va_put (D := D) (ci := 2) (v := .int (rmb V2)) (ty := .int) (C := RX2) (T := TX2) (N := 8) hx hb hts hin_X2 tyX2 tyX2_ok nmX2 hown hK.1 hP hD hS 0 rfl rfl 6 (by decide) f_31 (fun _ h9 => h9) rfl (by decide +kernel) rfl rfl (Nat.le_of_ble_eq_true rfl) dX2_copyFrom_65 (fun H locs hP1 hD1 hS1 => ?_)
  clear hP hD hS
  have hP : va_P D vwCl [(h 0, .inr (2, [.ref (h 1), .ref (h 2), .ref (h 3), .ref (h 4), .int (nI (V2 16)), .int (nI (V2 67)), .int (rmb V2), .int (nI (V 66))])), (h 1, .inl (y 1, 8, .inl u1)), (h 2, .inl (y 1, 8, .inl u2)), (h 3, .inl (y 1, 24, .inl u3)), (h 4, .inl (y 1, 4, .inl u4)), (h2 0, .inr (2, [.ref (h2 1), .ref (h2 2), .ref (h2 3), .ref (h2 4), .int (nI (V2 16)), .int (nI (V2 67)), .int (rmb V2), .int (nI (V2 66))])), (h2 1, .inl (y 1, 8, .inl (q2 0))), (h2 2, .inl (y 1, 8, .inl (q2 1))), (h2 3, .inl (y 1, 24, .inl (q2 2))), (h2 4, .inl (y 1, 4, .inl (q2 3)))] H := hP1
  have hD : va_D A [(h 0, .inr (2, [.ref (h 1), .ref (h 2), .ref (h 3), .ref (h 4), .int (nI (V2 16)), .int (nI (V2 67)), .int (rmb V2), .int (nI (V 66))])), (h 1, .inl (y 1, 8, .inl u1)), (h 2, .inl (y 1, 8, .inl u2)), (h 3, .inl (y 1, 24, .inl u3)), (h 4, .inl (y 1, 4, .inl u4)), (h2 0, .inr (2, [.ref (h2 1), .ref (h2 2), .ref (h2 3), .ref (h2 4), .int (nI (V2 16)), .int (nI (V2 67)), .int (rmb V2), .int (nI (V2 66))])), (h2 1, .inl (y 1, 8, .inl (q2 0))), (h2 2, .inl (y 1, 8, .inl (q2 1))), (h2 3, .inl (y 1, 24, .inl (q2 2))), (h2 4, .inl (y 1, 4, .inl (q2 3)))] := hD1
  have hS := hS1
  clear hP1 hD1 hS1
  refine lv_aload_n hx hb dX2_copyFrom_68 rfl (lv_at hl 0 rfl) ?_
  refine lv_aload_n hx hb dX2_copyFrom_69 rfl (lv_at hl 1 rfl) ?_
  refine va_get (D := D) (ci := 2) (v := .int (nI (V2 66))) (C := RX2) (T := TX2) (N := 8) hx hb hts hin_X2 hown hK.1 hP 5 rfl rfl 7 (by decide) f_34 (fun _ h9 => h9) rfl dX2_copyFrom_70 ?_
  refine va_put (D := D) (ci := 2) (v := .int (nI (V2 66))) (ty := .int) (C := RX2) (T := TX2) (N := 8) hx hb hts hin_X2 tyX2 tyX2_ok nmX2 hown hK.1 hP hD hS 0 rfl rfl 7 (by decide) f_34 (fun _ h9 => h9) rfl (by decide +kernel) rfl rfl (Nat.le_of_ble_eq_true rfl) dX2_copyFrom_73 (fun H locs hP1 hD1 hS1 => ?_)
  clear hP hD hS
  have hP : va_P D vwCl [(h 0, .inr (2, [.ref (h 1), .ref (h 2), .ref (h 3), .ref (h 4), .int (nI (V2 16)), .int (nI (V2 67)), .int (rmb V2), .int (nI (V2 66))])), (h 1, .inl (y 1, 8, .inl u1)), (h 2, .inl (y 1, 8, .inl u2)), (h 3, .inl (y 1, 24, .inl u3)), (h 4, .inl (y 1, 4, .inl u4)), (h2 0, .inr (2, [.ref (h2 1), .ref (h2 2), .ref (h2 3), .ref (h2 4), .int (nI (V2 16)), .int (nI (V2 67)), .int (rmb V2), .int (nI (V2 66))])), (h2 1, .inl (y 1, 8, .inl (q2 0))), (h2 2, .inl (y 1, 8, .inl (q2 1))), (h2 3, .inl (y 1, 24, .inl (q2 2))), (h2 4, .inl (y 1, 4, .inl (q2 3)))] H := hP1
  have hD : va_D A [(h 0, .inr (2, [.ref (h 1), .ref (h 2), .ref (h 3), .ref (h 4), .int (nI (V2 16)), .int (nI (V2 67)), .int (rmb V2), .int (nI (V2 66))])), (h 1, .inl (y 1, 8, .inl u1)), (h 2, .inl (y 1, 8, .inl u2)), (h 3, .inl (y 1, 24, .inl u3)), (h 4, .inl (y 1, 4, .inl u4)), (h2 0, .inr (2, [.ref (h2 1), .ref (h2 2), .ref (h2 3), .ref (h2 4), .int (nI (V2 16)), .int (nI (V2 67)), .int (rmb V2), .int (nI (V2 66))])), (h2 1, .inl (y 1, 8, .inl (q2 0))), (h2 2, .inl (y 1, 8, .inl (q2 1))), (h2 3, .inl (y 1, 24, .inl (q2 2))), (h2 4, .inl (y 1, 4, .inl (q2 3)))] := hD1
  have hS := hS1
  clear hP1 hD1 hS1
  subst hQe
  exact xw_v hx hb hr hlocks (q4 u1 u2 u3 u4) hS dX2_copyFrom_76 (q4_rep hR2 hz hw1 hw2 hw3 hw4) (fun t ht => by rw [ht]; exact (hP))
set_option maxHeartbeats 8000000 in
set_option maxRecDepth 100000 in
theorem c_X2_tune (l : Launch) (D : va_G) (y : Nat → ClassId) (h : Nat → Nat) (V : Nat → Nat) (q : Nat → Nat → Int32) (hR : RepC V q) (hI : Inv V) (x z : Int32) : Met l yX2_tune wsX2_tune ({ frames := 0, cells := 0, slots := 0, locals := 0 }) (va_Pc [.ref (h 0), .int x, .int z] (xPw D y [(h 0, .inr (2, [.ref (h 1), .ref (h 2), .ref (h 3), .ref (h 4), .int (nI (V 16)), .int (nI (V 67)), .int (rmb V), .int (nI (V 66))])), (h 1, .inl (y 1, 8, .inl (q 0))), (h 2, .inl (y 1, 8, .inl (q 1))), (h 3, .inl (y 1, 24, .inl (q 2))), (h 4, .inl (y 1, 4, .inl (q 3)))])) (va_Qi (fun r (u : Nat → Nat → Int32) => r = tuI V x z ∧ RepC (tuV V x z) u) (fun (u : Nat → Nat → Int32) t => va_P D vwCl [(h 0, .inr (2, [.ref (h 1), .ref (h 2), .ref (h 3), .ref (h 4), .int (nI ((tuV V x z) 16)), .int (nI ((tuV V x z) 67)), .int (rmb (tuV V x z)), .int (nI ((tuV V x z) 66))])), (h 1, .inl (y 1, 8, .inl (u 0))), (h 2, .inl (y 1, 8, .inl (u 1))), (h 3, .inl (y 1, 24, .inl (u 2))), (h 4, .inl (y 1, 4, .inl (u 3)))] t.heap) (xIn [(h 0, .inr (2, [.ref (h 1), .ref (h 2), .ref (h 3), .ref (h 4), .int (nI (V 16)), .int (nI (V 67)), .int (rmb V), .int (nI (V 66))])), (h 1, .inl (y 1, 8, .inl (q 0))), (h 2, .inl (y 1, 8, .inl (q 1))), (h 3, .inl (y 1, 24, .inl (q 2))), (h 4, .inl (y 1, 4, .inl (q 3)))])) 0 0 (xIn [(h 0, .inr (2, [.ref (h 1), .ref (h 2), .ref (h 3), .ref (h 4), .int (nI (V 16)), .int (nI (V 67)), .int (rmb V), .int (nI (V 66))])), (h 1, .inl (y 1, 8, .inl (q 0))), (h 2, .inl (y 1, 8, .inl (q 1))), (h 3, .inl (y 1, 24, .inl (q 2))), (h 4, .inl (y 1, 4, .inl (q 3)))]) := by
  refine Met.ofW (cc := cX2_tune) (maxL := 4) (ret := (some .int)) (by decide) rfl ?_
  intro p e s m args below meth c s₁ B hml hv
  obtain ⟨rfl, hP, hK, hD0⟩ := hv
  have hx := B.exec
  have hb := B.bytes
  have hr := B.returns
  have hts := atoms_spec (ws := wsX2_tune) B.pre
  have hown : s.vm.findClass RX2 = some m.cls := findClass_of_methodNamed B.named
  have hlocks := B.notSynchronized
  have f_52 := hts (.constant RX2 52 (-1000001)) (by decide +kernel)
  have f_9 := hts (.fieldLink RX2 9 "LoomTunes$Register" "notes" "[I") (by decide +kernel)
  have hin_X2 : ∀ w ∈ wsX20, w ∈ wsX2_tune := by decide +kernel
  have hD := xD_self hD0
  generalize hAe : xIn [(h 0, .inr (2, [.ref (h 1), .ref (h 2), .ref (h 3), .ref (h 4), .int (nI (V 16)), .int (nI (V 67)), .int (rmb V), .int (nI (V 66))])), (h 1, .inl (y 1, 8, .inl (q 0))), (h 2, .inl (y 1, 8, .inl (q 1))), (h 3, .inl (y 1, 24, .inl (q 2))), (h 4, .inl (y 1, 4, .inl (q 3)))] = A at hD ⊢
  have hS : va_S A s.heap s.heap [] := va_S.rf
  have hP : va_P D vwCl [(h 0, .inr (2, [.ref (h 1), .ref (h 2), .ref (h 3), .ref (h 4), .int (nI (V 16)), .int (nI (V 67)), .int (rmb V), .int (nI (V 66))])), (h 1, .inl (y 1, 8, .inl (q 0))), (h 2, .inl (y 1, 8, .inl (q 1))), (h 3, .inl (y 1, 24, .inl (q 2))), (h 4, .inl (y 1, 4, .inl (q 3)))] s.heap := hP
  have hl := lv_entry ([.ref (h 0), .int x, .int z]) (n := 4) (Nat.le_of_ble_eq_true rfl)
  rw [lg_entry_eq]
  generalize (lg_sl ([.ref (h 0), .int x, .int z]) ++ List.replicate (4 - (lg_sl ([.ref (h 0), .int x, .int z])).length) Slot.unset).toArray = ls at hl ⊢
  have hl : lv_has ls 4 [(0, .ref (h 0)), (1, .int x), (2, .int z)] := hl
  generalize hQe : (MQ below (va_Qi (fun r (u : Nat → Nat → Int32) => r = tuI V x z ∧ RepC (tuV V x z) u) (fun (u : Nat → Nat → Int32) t => va_P D vwCl [(h 0, .inr (2, [.ref (h 1), .ref (h 2), .ref (h 3), .ref (h 4), .int (nI ((tuV V x z) 16)), .int (nI ((tuV V x z) 67)), .int (rmb (tuV V x z)), .int (nI ((tuV V x z) 66))])), (h 1, .inl (y 1, 8, .inl (u 0))), (h 2, .inl (y 1, 8, .inl (u 1))), (h 3, .inl (y 1, 24, .inl (u 2))), (h 4, .inl (y 1, 4, .inl (u 3)))] t.heap) A) ([.ref (h 0), .int x, .int z] : List Value).toArray s 0 0 A) = Q
  refine lv_iload_n hx hb dX2_tune_0 rfl (lv_at hl 1 rfl) ?_
  refine lv_if_lt (tgt := 23) hx hb dX2_tune_1 (by decide) (fun kc1 => ?_) (fun kc1 => ?_)
  · refine lv_ldc hx hb hown f_52 dX2_tune_23 ?_
    have ef := tune_f (V := V) (x := x) (z := z) (by first | exact fun h => h.1.1 kc1 | exact fun h => h.1.2 kc10 | exact fun h => h.2.1 kc14 | exact fun h => h.2.2 (xle_of kc20))
    subst hQe
    exact xw_i hx hb hr hlocks q hS dX2_tune_25 (⟨ef.1.symm, by rw [ef.2]; exact hR⟩) (fun t ht => by rw [ht]; exact (by rw [ef.2]; exact hP))
  · refine lv_iload_n hx hb dX2_tune_4 rfl (lv_at hl 1 rfl) ?_
    refine lv_aload_n hx hb dX2_tune_5 rfl (lv_at hl 0 rfl) ?_
    refine va_get (D := D) (ci := 2) (v := .ref (h 1)) (C := RX2) (T := TX2) (N := 8) hx hb hts hin_X2 hown hK.1 hP 0 rfl rfl 0 (by decide) f_9 (fun _ h9 => h9) rfl dX2_tune_6 ?_
    refine xn_alen hx hb hK hP 1 1 rfl rfl rfl dX2_tune_9 ?_
    refine lv_icmp_ge (tgt := 23) hx hb dX2_tune_10 (by decide) (fun kc10 => ?_) (fun kc10 => ?_)
    · refine lv_ldc hx hb hown f_52 dX2_tune_23 ?_
      have ef := tune_f (V := V) (x := x) (z := z) (by first | exact fun h => h.1.1 kc1 | exact fun h => h.1.2 kc10 | exact fun h => h.2.1 kc14 | exact fun h => h.2.2 (xle_of kc20))
      subst hQe
      exact xw_i hx hb hr hlocks q hS dX2_tune_25 (⟨ef.1.symm, by rw [ef.2]; exact hR⟩) (fun t ht => by rw [ht]; exact (by rw [ef.2]; exact hP))
    · refine lv_iload_n hx hb dX2_tune_13 rfl (lv_at hl 2 rfl) ?_
      refine lv_if_lt (tgt := 23) hx hb dX2_tune_14 (by decide) (fun kc14 => ?_) (fun kc14 => ?_)
      · refine lv_ldc hx hb hown f_52 dX2_tune_23 ?_
        have ef := tune_f (V := V) (x := x) (z := z) (by first | exact fun h => h.1.1 kc1 | exact fun h => h.1.2 kc10 | exact fun h => h.2.1 kc14 | exact fun h => h.2.2 (xle_of kc20))
        subst hQe
        exact xw_i hx hb hr hlocks q hS dX2_tune_25 (⟨ef.1.symm, by rw [ef.2]; exact hR⟩) (fun t ht => by rw [ht]; exact (by rw [ef.2]; exact hP))
      · refine lv_iload_n hx hb dX2_tune_17 rfl (lv_at hl 2 rfl) ?_
        refine lv_bipush (v := nI 48) hx hb dX2_tune_18 (by decide) ?_
        refine lv_icmp_lt (tgt := 26) hx hb dX2_tune_20 (by decide) (fun kc20 => ?_) (fun kc20 => ?_)
        · obtain ⟨k, hk, rfl⟩ := inR_k (n := 8) (by decide) ⟨kc1, kc10⟩
          obtain ⟨j, hj, rfl⟩ := inR_k (n := 48) (by decide) ⟨kc14, xnle kc20⟩
          have e1 := tune_t (V := V) hk hj
          refine lv_aload_n hx hb dX2_tune_26 rfl (lv_at hl 0 rfl) ?_
          refine va_get (D := D) (ci := 2) (v := .ref (h 1)) (C := RX2) (T := TX2) (N := 8) hx hb hts hin_X2 hown hK.1 hP 0 rfl rfl 0 (by decide) f_9 (fun _ h9 => h9) rfl dX2_tune_27 ?_
          refine lv_iload_n hx hb dX2_tune_30 rfl (lv_at hl 1 rfl) ?_
          refine xn_iald hx hb hK hP 1 rfl (by omega) (by first | decide | omega) (v := nI (V k)) (hR.1 k hk) dX2_tune_31 ?_
          refine lv_istore_n (lv' := [(3, .int (nI (V k))), (0, .ref (h 0)), (1, .int (nI k)), (2, .int (nI j))]) hx hb dX2_tune_32 rfl hl (by decide) rfl (fun ls hl => ?_)
          refine lv_aload_n hx hb dX2_tune_33 rfl (lv_at hl 1 rfl) ?_
          refine va_get (D := D) (ci := 2) (v := .ref (h 1)) (C := RX2) (T := TX2) (N := 8) hx hb hts hin_X2 hown hK.1 hP 0 rfl rfl 0 (by decide) f_9 (fun _ h9 => h9) rfl dX2_tune_34 ?_
          refine lv_iload_n hx hb dX2_tune_37 rfl (lv_at hl 2 rfl) ?_
          refine lv_iload_n hx hb dX2_tune_38 rfl (lv_at hl 3 rfl) ?_
          refine xn_iast hx hb hK hP hD hS 1 (g := upd (q 0) k (nI j)) rfl (by omega) (by first | decide | omega) (rfl) dX2_tune_39 (fun H locs hP1 hD1 hS1 => ?_)
          clear hP hD hS
          have hP : va_P D vwCl [(h 0, .inr (2, [.ref (h 1), .ref (h 2), .ref (h 3), .ref (h 4), .int (nI (V 16)), .int (nI (V 67)), .int (rmb V), .int (nI (V 66))])), (h 1, .inl (y 1, 8, .inl (upd (q 0) k (nI j)))), (h 2, .inl (y 1, 8, .inl (q 1))), (h 3, .inl (y 1, 24, .inl (q 2))), (h 4, .inl (y 1, 4, .inl (q 3)))] H := hP1
          have hD : va_D A [(h 0, .inr (2, [.ref (h 1), .ref (h 2), .ref (h 3), .ref (h 4), .int (nI (V 16)), .int (nI (V 67)), .int (rmb V), .int (nI (V 66))])), (h 1, .inl (y 1, 8, .inl (upd (q 0) k (nI j)))), (h 2, .inl (y 1, 8, .inl (q 1))), (h 3, .inl (y 1, 24, .inl (q 2))), (h 4, .inl (y 1, 4, .inl (q 3)))] := hD1
          have hS := hS1
          clear hP1 hD1 hS1
          refine lv_iload_n hx hb dX2_tune_40 rfl (lv_at hl 0 rfl) ?_
          subst hQe
          exact xw_i hx hb hr hlocks (qs q 0 (upd (q 0) k (nI j))) hS dX2_tune_41 (⟨e1.1.symm, by rw [e1.2]; exact tune_r hR hk⟩) (fun t ht => by rw [ht]; exact (by rw [e1.2]; exact xP_eq hP (reg_eq (q := qs q 0 (upd (q 0) k (nI j))) (uN_n (by omega)).symm (uN_n (by omega)).symm (uN_n (by omega)).symm (uN_n (by omega)).symm)))
        · refine lv_ldc hx hb hown f_52 dX2_tune_23 ?_
          have ef := tune_f (V := V) (x := x) (z := z) (by first | exact fun h => h.1.1 kc1 | exact fun h => h.1.2 kc10 | exact fun h => h.2.1 kc14 | exact fun h => h.2.2 (xle_of kc20))
          subst hQe
          exact xw_i hx hb hr hlocks q hS dX2_tune_25 (⟨ef.1.symm, by rw [ef.2]; exact hR⟩) (fun t ht => by rw [ht]; exact (by rw [ef.2]; exact hP))
set_option maxHeartbeats 8000000 in
set_option maxRecDepth 100000 in
theorem c_X2_dye (l : Launch) (D : va_G) (y : Nat → ClassId) (h : Nat → Nat) (V : Nat → Nat) (q : Nat → Nat → Int32) (hR : RepC V q) (hI : Inv V) (x z : Int32) : Met l yX2_dye wsX2_dye ({ frames := 0, cells := 0, slots := 0, locals := 0 }) (va_Pc [.ref (h 0), .int x, .int z] (xPw D y [(h 0, .inr (2, [.ref (h 1), .ref (h 2), .ref (h 3), .ref (h 4), .int (nI (V 16)), .int (nI (V 67)), .int (rmb V), .int (nI (V 66))])), (h 1, .inl (y 1, 8, .inl (q 0))), (h 2, .inl (y 1, 8, .inl (q 1))), (h 3, .inl (y 1, 24, .inl (q 2))), (h 4, .inl (y 1, 4, .inl (q 3)))])) (va_Qi (fun r (u : Nat → Nat → Int32) => r = dyI V x z ∧ RepC (dyV V x z) u) (fun (u : Nat → Nat → Int32) t => va_P D vwCl [(h 0, .inr (2, [.ref (h 1), .ref (h 2), .ref (h 3), .ref (h 4), .int (nI ((dyV V x z) 16)), .int (nI ((dyV V x z) 67)), .int (rmb (dyV V x z)), .int (nI ((dyV V x z) 66))])), (h 1, .inl (y 1, 8, .inl (u 0))), (h 2, .inl (y 1, 8, .inl (u 1))), (h 3, .inl (y 1, 24, .inl (u 2))), (h 4, .inl (y 1, 4, .inl (u 3)))] t.heap) (xIn [(h 0, .inr (2, [.ref (h 1), .ref (h 2), .ref (h 3), .ref (h 4), .int (nI (V 16)), .int (nI (V 67)), .int (rmb V), .int (nI (V 66))])), (h 1, .inl (y 1, 8, .inl (q 0))), (h 2, .inl (y 1, 8, .inl (q 1))), (h 3, .inl (y 1, 24, .inl (q 2))), (h 4, .inl (y 1, 4, .inl (q 3)))])) 0 0 (xIn [(h 0, .inr (2, [.ref (h 1), .ref (h 2), .ref (h 3), .ref (h 4), .int (nI (V 16)), .int (nI (V 67)), .int (rmb V), .int (nI (V 66))])), (h 1, .inl (y 1, 8, .inl (q 0))), (h 2, .inl (y 1, 8, .inl (q 1))), (h 3, .inl (y 1, 24, .inl (q 2))), (h 4, .inl (y 1, 4, .inl (q 3)))]) := by
  refine Met.ofW (cc := cX2_dye) (maxL := 4) (ret := (some .int)) (by decide) rfl ?_
  intro p e s m args below meth c s₁ B hml hv
  obtain ⟨rfl, hP, hK, hD0⟩ := hv
  have hx := B.exec
  have hb := B.bytes
  have hr := B.returns
  have hts := atoms_spec (ws := wsX2_dye) B.pre
  have hown : s.vm.findClass RX2 = some m.cls := findClass_of_methodNamed B.named
  have hlocks := B.notSynchronized
  have f_15 := hts (.fieldLink RX2 15 "LoomTunes$Register" "colours" "[I") (by decide +kernel)
  have f_52 := hts (.constant RX2 52 (-1000001)) (by decide +kernel)
  have hin_X2 : ∀ w ∈ wsX20, w ∈ wsX2_dye := by decide +kernel
  have hD := xD_self hD0
  generalize hAe : xIn [(h 0, .inr (2, [.ref (h 1), .ref (h 2), .ref (h 3), .ref (h 4), .int (nI (V 16)), .int (nI (V 67)), .int (rmb V), .int (nI (V 66))])), (h 1, .inl (y 1, 8, .inl (q 0))), (h 2, .inl (y 1, 8, .inl (q 1))), (h 3, .inl (y 1, 24, .inl (q 2))), (h 4, .inl (y 1, 4, .inl (q 3)))] = A at hD ⊢
  have hS : va_S A s.heap s.heap [] := va_S.rf
  have hP : va_P D vwCl [(h 0, .inr (2, [.ref (h 1), .ref (h 2), .ref (h 3), .ref (h 4), .int (nI (V 16)), .int (nI (V 67)), .int (rmb V), .int (nI (V 66))])), (h 1, .inl (y 1, 8, .inl (q 0))), (h 2, .inl (y 1, 8, .inl (q 1))), (h 3, .inl (y 1, 24, .inl (q 2))), (h 4, .inl (y 1, 4, .inl (q 3)))] s.heap := hP
  have hl := lv_entry ([.ref (h 0), .int x, .int z]) (n := 4) (Nat.le_of_ble_eq_true rfl)
  rw [lg_entry_eq]
  generalize (lg_sl ([.ref (h 0), .int x, .int z]) ++ List.replicate (4 - (lg_sl ([.ref (h 0), .int x, .int z])).length) Slot.unset).toArray = ls at hl ⊢
  have hl : lv_has ls 4 [(0, .ref (h 0)), (1, .int x), (2, .int z)] := hl
  generalize hQe : (MQ below (va_Qi (fun r (u : Nat → Nat → Int32) => r = dyI V x z ∧ RepC (dyV V x z) u) (fun (u : Nat → Nat → Int32) t => va_P D vwCl [(h 0, .inr (2, [.ref (h 1), .ref (h 2), .ref (h 3), .ref (h 4), .int (nI ((dyV V x z) 16)), .int (nI ((dyV V x z) 67)), .int (rmb (dyV V x z)), .int (nI ((dyV V x z) 66))])), (h 1, .inl (y 1, 8, .inl (u 0))), (h 2, .inl (y 1, 8, .inl (u 1))), (h 3, .inl (y 1, 24, .inl (u 2))), (h 4, .inl (y 1, 4, .inl (u 3)))] t.heap) A) ([.ref (h 0), .int x, .int z] : List Value).toArray s 0 0 A) = Q
  refine lv_iload_n hx hb dX2_dye_0 rfl (lv_at hl 1 rfl) ?_
  refine lv_if_lt (tgt := 22) hx hb dX2_dye_1 (by decide) (fun kc1 => ?_) (fun kc1 => ?_)
  · refine lv_ldc hx hb hown f_52 dX2_dye_22 ?_
    have ef := dye_f (V := V) (x := x) (z := z) (by first | exact fun h => h.1.1 kc1 | exact fun h => h.1.2 kc10 | exact fun h => h.2.1 kc14 | exact fun h => h.2.2 (xle_of kc19))
    subst hQe
    exact xw_i hx hb hr hlocks q hS dX2_dye_24 (⟨ef.1.symm, by rw [ef.2]; exact hR⟩) (fun t ht => by rw [ht]; exact (by rw [ef.2]; exact hP))
  · refine lv_iload_n hx hb dX2_dye_4 rfl (lv_at hl 1 rfl) ?_
    refine lv_aload_n hx hb dX2_dye_5 rfl (lv_at hl 0 rfl) ?_
    refine va_get (D := D) (ci := 2) (v := .ref (h 2)) (C := RX2) (T := TX2) (N := 8) hx hb hts hin_X2 hown hK.1 hP 0 rfl rfl 1 (by decide) f_15 (fun _ h9 => h9) rfl dX2_dye_6 ?_
    refine xn_alen hx hb hK hP 2 1 rfl rfl rfl dX2_dye_9 ?_
    refine lv_icmp_ge (tgt := 22) hx hb dX2_dye_10 (by decide) (fun kc10 => ?_) (fun kc10 => ?_)
    · refine lv_ldc hx hb hown f_52 dX2_dye_22 ?_
      have ef := dye_f (V := V) (x := x) (z := z) (by first | exact fun h => h.1.1 kc1 | exact fun h => h.1.2 kc10 | exact fun h => h.2.1 kc14 | exact fun h => h.2.2 (xle_of kc19))
      subst hQe
      exact xw_i hx hb hr hlocks q hS dX2_dye_24 (⟨ef.1.symm, by rw [ef.2]; exact hR⟩) (fun t ht => by rw [ht]; exact (by rw [ef.2]; exact hP))
    · refine lv_iload_n hx hb dX2_dye_13 rfl (lv_at hl 2 rfl) ?_
      refine lv_if_lt (tgt := 22) hx hb dX2_dye_14 (by decide) (fun kc14 => ?_) (fun kc14 => ?_)
      · refine lv_ldc hx hb hown f_52 dX2_dye_22 ?_
        have ef := dye_f (V := V) (x := x) (z := z) (by first | exact fun h => h.1.1 kc1 | exact fun h => h.1.2 kc10 | exact fun h => h.2.1 kc14 | exact fun h => h.2.2 (xle_of kc19))
        subst hQe
        exact xw_i hx hb hr hlocks q hS dX2_dye_24 (⟨ef.1.symm, by rw [ef.2]; exact hR⟩) (fun t ht => by rw [ht]; exact (by rw [ef.2]; exact hP))
      · refine lv_iload_n hx hb dX2_dye_17 rfl (lv_at hl 2 rfl) ?_
        refine lv_iconst (v := nI 4) hx hb dX2_dye_18 (by decide) ?_
        refine lv_icmp_lt (tgt := 25) hx hb dX2_dye_19 (by decide) (fun kc19 => ?_) (fun kc19 => ?_)
        · obtain ⟨k, hk, rfl⟩ := inR_k (n := 8) (by decide) ⟨kc1, kc10⟩
          obtain ⟨j, hj, rfl⟩ := inR_k (n := 4) (by decide) ⟨kc14, xnle kc19⟩
          have e1 := dye_t (V := V) hk hj
          refine lv_aload_n hx hb dX2_dye_25 rfl (lv_at hl 0 rfl) ?_
          refine va_get (D := D) (ci := 2) (v := .ref (h 2)) (C := RX2) (T := TX2) (N := 8) hx hb hts hin_X2 hown hK.1 hP 0 rfl rfl 1 (by decide) f_15 (fun _ h9 => h9) rfl dX2_dye_26 ?_
          refine lv_iload_n hx hb dX2_dye_29 rfl (lv_at hl 1 rfl) ?_
          refine xn_iald hx hb hK hP 2 rfl (by omega) (by first | decide | omega) (v := nI (V (8 + k))) (hR.2.1 k hk) dX2_dye_30 ?_
          refine lv_istore_n (lv' := [(3, .int (nI (V (8 + k)))), (0, .ref (h 0)), (1, .int (nI k)), (2, .int (nI j))]) hx hb dX2_dye_31 rfl hl (by decide) rfl (fun ls hl => ?_)
          refine lv_aload_n hx hb dX2_dye_32 rfl (lv_at hl 1 rfl) ?_
          refine va_get (D := D) (ci := 2) (v := .ref (h 2)) (C := RX2) (T := TX2) (N := 8) hx hb hts hin_X2 hown hK.1 hP 0 rfl rfl 1 (by decide) f_15 (fun _ h9 => h9) rfl dX2_dye_33 ?_
          refine lv_iload_n hx hb dX2_dye_36 rfl (lv_at hl 2 rfl) ?_
          refine lv_iload_n hx hb dX2_dye_37 rfl (lv_at hl 3 rfl) ?_
          refine xn_iast hx hb hK hP hD hS 2 (g := upd (q 1) k (nI j)) rfl (by omega) (by first | decide | omega) (rfl) dX2_dye_38 (fun H locs hP1 hD1 hS1 => ?_)
          clear hP hD hS
          have hP : va_P D vwCl [(h 0, .inr (2, [.ref (h 1), .ref (h 2), .ref (h 3), .ref (h 4), .int (nI (V 16)), .int (nI (V 67)), .int (rmb V), .int (nI (V 66))])), (h 1, .inl (y 1, 8, .inl (q 0))), (h 2, .inl (y 1, 8, .inl (upd (q 1) k (nI j)))), (h 3, .inl (y 1, 24, .inl (q 2))), (h 4, .inl (y 1, 4, .inl (q 3)))] H := hP1
          have hD : va_D A [(h 0, .inr (2, [.ref (h 1), .ref (h 2), .ref (h 3), .ref (h 4), .int (nI (V 16)), .int (nI (V 67)), .int (rmb V), .int (nI (V 66))])), (h 1, .inl (y 1, 8, .inl (q 0))), (h 2, .inl (y 1, 8, .inl (upd (q 1) k (nI j)))), (h 3, .inl (y 1, 24, .inl (q 2))), (h 4, .inl (y 1, 4, .inl (q 3)))] := hD1
          have hS := hS1
          clear hP1 hD1 hS1
          refine lv_iload_n hx hb dX2_dye_39 rfl (lv_at hl 0 rfl) ?_
          subst hQe
          exact xw_i hx hb hr hlocks (qs q 1 (upd (q 1) k (nI j))) hS dX2_dye_40 (⟨e1.1.symm, by rw [e1.2]; exact dye_r hR hk⟩) (fun t ht => by rw [ht]; exact (by rw [e1.2]; exact xP_eq hP (reg_eq (q := qs q 1 (upd (q 1) k (nI j))) (uN_n (by omega)).symm (uN_n (by omega)).symm (uN_n (by omega)).symm (uN_n (by omega)).symm)))
        · refine lv_ldc hx hb hown f_52 dX2_dye_22 ?_
          have ef := dye_f (V := V) (x := x) (z := z) (by first | exact fun h => h.1.1 kc1 | exact fun h => h.1.2 kc10 | exact fun h => h.2.1 kc14 | exact fun h => h.2.2 (xle_of kc19))
          subst hQe
          exact xw_i hx hb hr hlocks q hS dX2_dye_24 (⟨ef.1.symm, by rw [ef.2]; exact hR⟩) (fun t ht => by rw [ht]; exact (by rw [ef.2]; exact hP))
set_option maxHeartbeats 8000000 in
set_option maxRecDepth 100000 in
theorem c_X2_take (l : Launch) (D : va_G) (y : Nat → ClassId) (h : Nat → Nat) (V : Nat → Nat) (q : Nat → Nat → Int32) (hR : RepC V q) (hI : Inv V) (ho st : Nat) (hz : V 16 < 24) : Met l yX2_take wsX2_take ({ frames := 1, cells := 0, slots := 0, locals := 22 }) (va_Pc [.ref (h 0), .int (nI (ho + 256 * st))] (xPw D y [(h 0, .inr (2, [.ref (h 1), .ref (h 2), .ref (h 3), .ref (h 4), .int (nI (V 16)), .int (nI (V 67)), .int (rmb V), .int (nI (V 66))])), (h 1, .inl (y 1, 8, .inl (q 0))), (h 2, .inl (y 1, 8, .inl (q 1))), (h 3, .inl (y 1, 24, .inl (q 2))), (h 4, .inl (y 1, 4, .inl (q 3)))])) (va_Qv (fun (u : Nat → Nat → Int32) => RepC (tkV V ho st) u) (fun (u : Nat → Nat → Int32) t => va_P D vwCl [(h 0, .inr (2, [.ref (h 1), .ref (h 2), .ref (h 3), .ref (h 4), .int (nI ((tkV V ho st) 16)), .int (nI ((tkV V ho st) 67)), .int (rmb (tkV V ho st)), .int (nI ((tkV V ho st) 66))])), (h 1, .inl (y 1, 8, .inl (u 0))), (h 2, .inl (y 1, 8, .inl (u 1))), (h 3, .inl (y 1, 24, .inl (u 2))), (h 4, .inl (y 1, 4, .inl (u 3)))] t.heap) (xIn [(h 0, .inr (2, [.ref (h 1), .ref (h 2), .ref (h 3), .ref (h 4), .int (nI (V 16)), .int (nI (V 67)), .int (rmb V), .int (nI (V 66))])), (h 1, .inl (y 1, 8, .inl (q 0))), (h 2, .inl (y 1, 8, .inl (q 1))), (h 3, .inl (y 1, 24, .inl (q 2))), (h 4, .inl (y 1, 4, .inl (q 3)))])) 0 0 (xIn [(h 0, .inr (2, [.ref (h 1), .ref (h 2), .ref (h 3), .ref (h 4), .int (nI (V 16)), .int (nI (V 67)), .int (rmb V), .int (nI (V 66))])), (h 1, .inl (y 1, 8, .inl (q 0))), (h 2, .inl (y 1, 8, .inl (q 1))), (h 3, .inl (y 1, 24, .inl (q 2))), (h 4, .inl (y 1, 4, .inl (q 3)))]) := by
  refine Met.ofW (cc := cX2_take) (maxL := 2) (ret := none) (by decide) rfl ?_
  intro p e s m args below meth c s₁ B hml hv
  obtain ⟨rfl, hP, hK, hD0⟩ := hv
  have hx := B.exec
  have hb := B.bytes
  have hr := B.returns
  have hts := atoms_spec (ws := wsX2_take) B.pre
  have hown : s.vm.findClass RX2 = some m.cls := findClass_of_methodNamed B.named
  have hlocks := B.notSynchronized
  have f_24 := hts (.fieldLink RX2 24 "LoomTunes$Register" "size" "I") (by decide +kernel)
  have f_31 := hts (.fieldLink RX2 31 "LoomTunes$Register" "refused" "I") (by decide +kernel)
  have f_34 := hts (.fieldLink RX2 34 "LoomTunes$Register" "refusedTimes" "I") (by decide +kernel)
  have hin_X2 : ∀ w ∈ wsX20, w ∈ wsX2_take := by decide +kernel
  have hD := xD_self hD0
  generalize hAe : xIn [(h 0, .inr (2, [.ref (h 1), .ref (h 2), .ref (h 3), .ref (h 4), .int (nI (V 16)), .int (nI (V 67)), .int (rmb V), .int (nI (V 66))])), (h 1, .inl (y 1, 8, .inl (q 0))), (h 2, .inl (y 1, 8, .inl (q 1))), (h 3, .inl (y 1, 24, .inl (q 2))), (h 4, .inl (y 1, 4, .inl (q 3)))] = A at hD ⊢
  have hS : va_S A s.heap s.heap [] := va_S.rf
  have hP : va_P D vwCl [(h 0, .inr (2, [.ref (h 1), .ref (h 2), .ref (h 3), .ref (h 4), .int (nI (V 16)), .int (nI (V 67)), .int (rmb V), .int (nI (V 66))])), (h 1, .inl (y 1, 8, .inl (q 0))), (h 2, .inl (y 1, 8, .inl (q 1))), (h 3, .inl (y 1, 24, .inl (q 2))), (h 4, .inl (y 1, 4, .inl (q 3)))] s.heap := hP
  have hl := lv_entry ([.ref (h 0), .int (nI (ho + 256 * st))]) (n := 2) (Nat.le_of_ble_eq_true rfl)
  rw [lg_entry_eq]
  generalize (lg_sl ([.ref (h 0), .int (nI (ho + 256 * st))]) ++ List.replicate (2 - (lg_sl ([.ref (h 0), .int (nI (ho + 256 * st))])).length) Slot.unset).toArray = ls at hl ⊢
  have hl : lv_has ls 2 [(0, .ref (h 0)), (1, .int (nI (ho + 256 * st)))] := hl
  generalize hQe : (MQ below (va_Qv (fun (u : Nat → Nat → Int32) => RepC (tkV V ho st) u) (fun (u : Nat → Nat → Int32) t => va_P D vwCl [(h 0, .inr (2, [.ref (h 1), .ref (h 2), .ref (h 3), .ref (h 4), .int (nI ((tkV V ho st) 16)), .int (nI ((tkV V ho st) 67)), .int (rmb (tkV V ho st)), .int (nI ((tkV V ho st) 66))])), (h 1, .inl (y 1, 8, .inl (u 0))), (h 2, .inl (y 1, 8, .inl (u 1))), (h 3, .inl (y 1, 24, .inl (u 2))), (h 4, .inl (y 1, 4, .inl (u 3)))] t.heap) A) ([.ref (h 0), .int (nI (ho + 256 * st))] : List Value).toArray s 0 0 A) = Q
  refine lv_aload_n hx hb dX2_take_0 rfl (lv_at hl 0 rfl) ?_
  refine lv_aload_n hx hb dX2_take_1 rfl (lv_at hl 0 rfl) ?_
  refine va_get (D := D) (ci := 2) (v := .int (nI (V 16))) (C := RX2) (T := TX2) (N := 8) hx hb hts hin_X2 hown hK.1 hP 0 rfl rfl 4 (by decide) f_24 (fun _ h9 => h9) rfl dX2_take_2 ?_
  refine lv_iload_n hx hb dX2_take_5 rfl (lv_at hl 1 rfl) ?_
  have hFc := xD_in (W0 := [(h 0, .inr (2, [.ref (h 1), .ref (h 2), .ref (h 3), .ref (h 4), .int (nI (V 16)), .int (nI (V 67)), .int (rmb V), .int (nI (V 66))])), (h 1, .inl (y 1, 8, .inl (q 0))), (h 2, .inl (y 1, 8, .inl (q 1))), (h 3, .inl (y 1, 24, .inl (q 2))), (h 4, .inl (y 1, 4, .inl (q 3)))]) hD [0, 1, 2, 3, 4] rfl
  refine va_callv (va_runV (As := [.int (nI (V 16)), .int (nI (ho + 256 * st))]) (rest := []) ⟨hx, hb, hml, hown, hts⟩ (c_X2_put l D y h V q (V 16) (by omega) (nI (ho + 256 * st))) (cwV 2 hts gX2_take_X2_put rfl rfl rfl hd_X2_put ⟨Nat.le_of_ble_eq_true rfl, Nat.le_of_ble_eq_true rfl⟩) (xpv_w hK hP hD [0, 1, 2, 3, 4] 0 rfl rfl rfl rfl rfl) rfl rfl hl.1 rfl (lv_room (Nat.le_of_ble_eq_true rfl)) dX2_take_6 ⟨Nat.zero_le _, Nat.zero_le _⟩) hS (fun q _ h => hFc q h) hFc (fun u1 t H locs ht hvm hw1 hB hz1 hk1 hS1 => ?_)
  have hB : va_P D vwCl [(h 0, .inr (2, [.ref (h 1), .ref (h 2), .ref (h 3), .ref (h 4), .int (nI (V 16)), .int (nI (V 67)), .int (rmb V), .int (nI (V 66))])), (h 1, .inl (y 1, 8, .inl ((qs q 2 (upd (q 2) (V 16) (nI (ho + 256 * st)))) 0))), (h 2, .inl (y 1, 8, .inl ((qs q 2 (upd (q 2) (V 16) (nI (ho + 256 * st)))) 1))), (h 3, .inl (y 1, 24, .inl ((qs q 2 (upd (q 2) (V 16) (nI (ho + 256 * st)))) 2))), (h 4, .inl (y 1, 4, .inl ((qs q 2 (upd (q 2) (V 16) (nI (ho + 256 * st)))) 3)))] t.heap := hB
  rw [ht] at hB
  have hJ := xj_join (ws2 := [(h 0, .inr (2, [.ref (h 1), .ref (h 2), .ref (h 3), .ref (h 4), .int (nI (V 16)), .int (nI (V 67)), .int (rmb V), .int (nI (V 66))])), (h 1, .inl (y 1, 8, .inl ((qs q 2 (upd (q 2) (V 16) (nI (ho + 256 * st)))) 0))), (h 2, .inl (y 1, 8, .inl ((qs q 2 (upd (q 2) (V 16) (nI (ho + 256 * st)))) 1))), (h 3, .inl (y 1, 24, .inl ((qs q 2 (upd (q 2) (V 16) (nI (ho + 256 * st)))) 2))), (h 4, .inl (y 1, 4, .inl ((qs q 2 (upd (q 2) (V 16) (nI (ho + 256 * st)))) 3)))]) hP hD [0, 1, 2, 3, 4] [] rfl rfl rfl rfl rfl rfl hk1 hB
  clear hP hD hS hB hk1 hz1 hFc hvm ht
  obtain ⟨hP, hD⟩ := hJ
  have hS := hS1
  clear hS1
  refine lv_aload_n hx hb dX2_take_9 rfl (lv_at hl 0 rfl) ?_
  refine lv_dup hx hb dX2_take_10 rfl ?_
  refine va_get (D := D) (ci := 2) (v := .int (nI (V 16))) (C := RX2) (T := TX2) (N := 8) hx hb hts hin_X2 hown hK.1 hP 0 rfl rfl 4 (by decide) f_24 (fun _ h9 => h9) rfl dX2_take_11 ?_
  refine lv_iconst (v := nI 1) hx hb dX2_take_14 (by decide) ?_
  refine xn_add hx hb (r := ((V 16) + 1)) rfl dX2_take_15 ?_
  refine va_put (D := D) (ci := 2) (v := .int (nI ((V 16) + 1))) (ty := .int) (C := RX2) (T := TX2) (N := 8) hx hb hts hin_X2 tyX2 tyX2_ok nmX2 hown hK.1 hP hD hS 0 rfl rfl 4 (by decide) f_24 (fun _ h9 => h9) rfl (by decide +kernel) rfl rfl (Nat.le_of_ble_eq_true rfl) dX2_take_16 (fun H locs hP1 hD1 hS1 => ?_)
  clear hP hD hS
  have hP : va_P D vwCl [(h 0, .inr (2, [.ref (h 1), .ref (h 2), .ref (h 3), .ref (h 4), .int (nI ((V 16) + 1)), .int (nI (V 67)), .int (rmb V), .int (nI (V 66))])), (h 1, .inl (y 1, 8, .inl ((qs q 2 (upd (q 2) (V 16) (nI (ho + 256 * st)))) 0))), (h 2, .inl (y 1, 8, .inl ((qs q 2 (upd (q 2) (V 16) (nI (ho + 256 * st)))) 1))), (h 3, .inl (y 1, 24, .inl ((qs q 2 (upd (q 2) (V 16) (nI (ho + 256 * st)))) 2))), (h 4, .inl (y 1, 4, .inl ((qs q 2 (upd (q 2) (V 16) (nI (ho + 256 * st)))) 3)))] H := hP1
  have hD : va_D A [(h 0, .inr (2, [.ref (h 1), .ref (h 2), .ref (h 3), .ref (h 4), .int (nI ((V 16) + 1)), .int (nI (V 67)), .int (rmb V), .int (nI (V 66))])), (h 1, .inl (y 1, 8, .inl ((qs q 2 (upd (q 2) (V 16) (nI (ho + 256 * st)))) 0))), (h 2, .inl (y 1, 8, .inl ((qs q 2 (upd (q 2) (V 16) (nI (ho + 256 * st)))) 1))), (h 3, .inl (y 1, 24, .inl ((qs q 2 (upd (q 2) (V 16) (nI (ho + 256 * st)))) 2))), (h 4, .inl (y 1, 4, .inl ((qs q 2 (upd (q 2) (V 16) (nI (ho + 256 * st)))) 3)))] := hD1
  have hS := hS1
  clear hP1 hD1 hS1
  refine lv_aload_n hx hb dX2_take_19 rfl (lv_at hl 0 rfl) ?_
  refine lv_iconst (v := (-1)) hx hb dX2_take_20 (by decide) ?_
  refine va_put (D := D) (ci := 2) (v := .int (-1)) (ty := .int) (C := RX2) (T := TX2) (N := 8) hx hb hts hin_X2 tyX2 tyX2_ok nmX2 hown hK.1 hP hD hS 0 rfl rfl 6 (by decide) f_31 (fun _ h9 => h9) rfl (by decide +kernel) rfl rfl (Nat.le_of_ble_eq_true rfl) dX2_take_21 (fun H locs hP1 hD1 hS1 => ?_)
  clear hP hD hS
  have hP : va_P D vwCl [(h 0, .inr (2, [.ref (h 1), .ref (h 2), .ref (h 3), .ref (h 4), .int (nI ((V 16) + 1)), .int (nI (V 67)), .int (-1), .int (nI (V 66))])), (h 1, .inl (y 1, 8, .inl ((qs q 2 (upd (q 2) (V 16) (nI (ho + 256 * st)))) 0))), (h 2, .inl (y 1, 8, .inl ((qs q 2 (upd (q 2) (V 16) (nI (ho + 256 * st)))) 1))), (h 3, .inl (y 1, 24, .inl ((qs q 2 (upd (q 2) (V 16) (nI (ho + 256 * st)))) 2))), (h 4, .inl (y 1, 4, .inl ((qs q 2 (upd (q 2) (V 16) (nI (ho + 256 * st)))) 3)))] H := hP1
  have hD : va_D A [(h 0, .inr (2, [.ref (h 1), .ref (h 2), .ref (h 3), .ref (h 4), .int (nI ((V 16) + 1)), .int (nI (V 67)), .int (-1), .int (nI (V 66))])), (h 1, .inl (y 1, 8, .inl ((qs q 2 (upd (q 2) (V 16) (nI (ho + 256 * st)))) 0))), (h 2, .inl (y 1, 8, .inl ((qs q 2 (upd (q 2) (V 16) (nI (ho + 256 * st)))) 1))), (h 3, .inl (y 1, 24, .inl ((qs q 2 (upd (q 2) (V 16) (nI (ho + 256 * st)))) 2))), (h 4, .inl (y 1, 4, .inl ((qs q 2 (upd (q 2) (V 16) (nI (ho + 256 * st)))) 3)))] := hD1
  have hS := hS1
  clear hP1 hD1 hS1
  refine lv_aload_n hx hb dX2_take_24 rfl (lv_at hl 0 rfl) ?_
  refine lv_iconst (v := nI 0) hx hb dX2_take_25 (by decide) ?_
  refine va_put (D := D) (ci := 2) (v := .int (nI 0)) (ty := .int) (C := RX2) (T := TX2) (N := 8) hx hb hts hin_X2 tyX2 tyX2_ok nmX2 hown hK.1 hP hD hS 0 rfl rfl 7 (by decide) f_34 (fun _ h9 => h9) rfl (by decide +kernel) rfl rfl (Nat.le_of_ble_eq_true rfl) dX2_take_26 (fun H locs hP1 hD1 hS1 => ?_)
  clear hP hD hS
  have hP : va_P D vwCl [(h 0, .inr (2, [.ref (h 1), .ref (h 2), .ref (h 3), .ref (h 4), .int (nI ((V 16) + 1)), .int (nI (V 67)), .int (-1), .int (nI 0)])), (h 1, .inl (y 1, 8, .inl ((qs q 2 (upd (q 2) (V 16) (nI (ho + 256 * st)))) 0))), (h 2, .inl (y 1, 8, .inl ((qs q 2 (upd (q 2) (V 16) (nI (ho + 256 * st)))) 1))), (h 3, .inl (y 1, 24, .inl ((qs q 2 (upd (q 2) (V 16) (nI (ho + 256 * st)))) 2))), (h 4, .inl (y 1, 4, .inl ((qs q 2 (upd (q 2) (V 16) (nI (ho + 256 * st)))) 3)))] H := hP1
  have hD : va_D A [(h 0, .inr (2, [.ref (h 1), .ref (h 2), .ref (h 3), .ref (h 4), .int (nI ((V 16) + 1)), .int (nI (V 67)), .int (-1), .int (nI 0)])), (h 1, .inl (y 1, 8, .inl ((qs q 2 (upd (q 2) (V 16) (nI (ho + 256 * st)))) 0))), (h 2, .inl (y 1, 8, .inl ((qs q 2 (upd (q 2) (V 16) (nI (ho + 256 * st)))) 1))), (h 3, .inl (y 1, 24, .inl ((qs q 2 (upd (q 2) (V 16) (nI (ho + 256 * st)))) 2))), (h 4, .inl (y 1, 4, .inl ((qs q 2 (upd (q 2) (V 16) (nI (ho + 256 * st)))) 3)))] := hD1
  have hS := hS1
  clear hP1 hD1 hS1
  subst hQe
  exact xw_v hx hb hr hlocks (qs q 2 (upd (q 2) (V 16) (nI (ho + 256 * st)))) hS dX2_take_29 (tk_r hR hz) (fun t ht => by rw [ht]; exact (xP_eq hP (reg_mk (q := qs q 2 (upd (q 2) (V 16) (nI (ho + 256 * st)))) tk_16 (tk_o hz (by omega) (by omega)) tk_rm tk_66)))
set_option maxHeartbeats 8000000 in
set_option maxRecDepth 100000 in
theorem c_X2_refuse (l : Launch) (D : va_G) (y : Nat → ClassId) (h : Nat → Nat) (V : Nat → Nat) (q : Nat → Nat → Int32) (hR : RepC V q) (hI : Inv V) (ho : Nat) (hh : ho < 256) : Met l yX2_refuse wsX2_refuse ({ frames := 0, cells := 0, slots := 0, locals := 0 }) (va_Pc [.ref (h 0), .int (nI ho)] (xPw D y [(h 0, .inr (2, [.ref (h 1), .ref (h 2), .ref (h 3), .ref (h 4), .int (nI (V 16)), .int (nI (V 67)), .int (rmb V), .int (nI (V 66))])), (h 1, .inl (y 1, 8, .inl (q 0))), (h 2, .inl (y 1, 8, .inl (q 1))), (h 3, .inl (y 1, 24, .inl (q 2))), (h 4, .inl (y 1, 4, .inl (q 3)))])) (va_Qv (fun (u : Unit) => True) (fun (u : Unit) t => va_P D vwCl [(h 0, .inr (2, [.ref (h 1), .ref (h 2), .ref (h 3), .ref (h 4), .int (nI ((rfV V ho) 16)), .int (nI ((rfV V ho) 67)), .int (rmb (rfV V ho)), .int (nI ((rfV V ho) 66))])), (h 1, .inl (y 1, 8, .inl (q 0))), (h 2, .inl (y 1, 8, .inl (q 1))), (h 3, .inl (y 1, 24, .inl (q 2))), (h 4, .inl (y 1, 4, .inl (q 3)))] t.heap) (xIn [(h 0, .inr (2, [.ref (h 1), .ref (h 2), .ref (h 3), .ref (h 4), .int (nI (V 16)), .int (nI (V 67)), .int (rmb V), .int (nI (V 66))])), (h 1, .inl (y 1, 8, .inl (q 0))), (h 2, .inl (y 1, 8, .inl (q 1))), (h 3, .inl (y 1, 24, .inl (q 2))), (h 4, .inl (y 1, 4, .inl (q 3)))])) 0 0 (xIn [(h 0, .inr (2, [.ref (h 1), .ref (h 2), .ref (h 3), .ref (h 4), .int (nI (V 16)), .int (nI (V 67)), .int (rmb V), .int (nI (V 66))])), (h 1, .inl (y 1, 8, .inl (q 0))), (h 2, .inl (y 1, 8, .inl (q 1))), (h 3, .inl (y 1, 24, .inl (q 2))), (h 4, .inl (y 1, 4, .inl (q 3)))]) := by
  refine Met.ofW (cc := cX2_refuse) (maxL := 2) (ret := none) (by decide) rfl ?_
  intro p e s m args below meth c s₁ B hml hv
  obtain ⟨rfl, hP, hK, hD0⟩ := hv
  have hx := B.exec
  have hb := B.bytes
  have hr := B.returns
  have hts := atoms_spec (ws := wsX2_refuse) B.pre
  have hown : s.vm.findClass RX2 = some m.cls := findClass_of_methodNamed B.named
  have hlocks := B.notSynchronized
  have f_28 := hts (.fieldLink RX2 28 "LoomTunes$Register" "refusals" "I") (by decide +kernel)
  have f_31 := hts (.fieldLink RX2 31 "LoomTunes$Register" "refused" "I") (by decide +kernel)
  have f_34 := hts (.fieldLink RX2 34 "LoomTunes$Register" "refusedTimes" "I") (by decide +kernel)
  have hin_X2 : ∀ w ∈ wsX20, w ∈ wsX2_refuse := by decide +kernel
  have hD := xD_self hD0
  generalize hAe : xIn [(h 0, .inr (2, [.ref (h 1), .ref (h 2), .ref (h 3), .ref (h 4), .int (nI (V 16)), .int (nI (V 67)), .int (rmb V), .int (nI (V 66))])), (h 1, .inl (y 1, 8, .inl (q 0))), (h 2, .inl (y 1, 8, .inl (q 1))), (h 3, .inl (y 1, 24, .inl (q 2))), (h 4, .inl (y 1, 4, .inl (q 3)))] = A at hD ⊢
  have hS : va_S A s.heap s.heap [] := va_S.rf
  have hP : va_P D vwCl [(h 0, .inr (2, [.ref (h 1), .ref (h 2), .ref (h 3), .ref (h 4), .int (nI (V 16)), .int (nI (V 67)), .int (rmb V), .int (nI (V 66))])), (h 1, .inl (y 1, 8, .inl (q 0))), (h 2, .inl (y 1, 8, .inl (q 1))), (h 3, .inl (y 1, 24, .inl (q 2))), (h 4, .inl (y 1, 4, .inl (q 3)))] s.heap := hP
  have hl := lv_entry ([.ref (h 0), .int (nI ho)]) (n := 2) (Nat.le_of_ble_eq_true rfl)
  rw [lg_entry_eq]
  generalize (lg_sl ([.ref (h 0), .int (nI ho)]) ++ List.replicate (2 - (lg_sl ([.ref (h 0), .int (nI ho)])).length) Slot.unset).toArray = ls at hl ⊢
  have hl : lv_has ls 2 [(0, .ref (h 0)), (1, .int (nI ho))] := hl
  generalize hQe : (MQ below (va_Qv (fun (u : Unit) => True) (fun (u : Unit) t => va_P D vwCl [(h 0, .inr (2, [.ref (h 1), .ref (h 2), .ref (h 3), .ref (h 4), .int (nI ((rfV V ho) 16)), .int (nI ((rfV V ho) 67)), .int (rmb (rfV V ho)), .int (nI ((rfV V ho) 66))])), (h 1, .inl (y 1, 8, .inl (q 0))), (h 2, .inl (y 1, 8, .inl (q 1))), (h 3, .inl (y 1, 24, .inl (q 2))), (h 4, .inl (y 1, 4, .inl (q 3)))] t.heap) A) ([.ref (h 0), .int (nI ho)] : List Value).toArray s 0 0 A) = Q
  have hrm := rmb_eq hI (h := ho) (by omega)
  refine lv_aload_n hx hb dX2_refuse_0 rfl (lv_at hl 0 rfl) ?_
  refine lv_dup hx hb dX2_refuse_1 rfl ?_
  refine va_get (D := D) (ci := 2) (v := .int (nI (V 67))) (C := RX2) (T := TX2) (N := 8) hx hb hts hin_X2 hown hK.1 hP 0 rfl rfl 5 (by decide) f_28 (fun _ h9 => h9) rfl dX2_refuse_2 ?_
  refine lv_iconst (v := nI 1) hx hb dX2_refuse_5 (by decide) ?_
  refine xn_add hx hb (r := ((V 67) + 1)) rfl dX2_refuse_6 ?_
  refine va_put (D := D) (ci := 2) (v := .int (nI ((V 67) + 1))) (ty := .int) (C := RX2) (T := TX2) (N := 8) hx hb hts hin_X2 tyX2 tyX2_ok nmX2 hown hK.1 hP hD hS 0 rfl rfl 5 (by decide) f_28 (fun _ h9 => h9) rfl (by decide +kernel) rfl rfl (Nat.le_of_ble_eq_true rfl) dX2_refuse_7 (fun H locs hP1 hD1 hS1 => ?_)
  clear hP hD hS
  have hP : va_P D vwCl [(h 0, .inr (2, [.ref (h 1), .ref (h 2), .ref (h 3), .ref (h 4), .int (nI (V 16)), .int (nI ((V 67) + 1)), .int (rmb V), .int (nI (V 66))])), (h 1, .inl (y 1, 8, .inl (q 0))), (h 2, .inl (y 1, 8, .inl (q 1))), (h 3, .inl (y 1, 24, .inl (q 2))), (h 4, .inl (y 1, 4, .inl (q 3)))] H := hP1
  have hD : va_D A [(h 0, .inr (2, [.ref (h 1), .ref (h 2), .ref (h 3), .ref (h 4), .int (nI (V 16)), .int (nI ((V 67) + 1)), .int (rmb V), .int (nI (V 66))])), (h 1, .inl (y 1, 8, .inl (q 0))), (h 2, .inl (y 1, 8, .inl (q 1))), (h 3, .inl (y 1, 24, .inl (q 2))), (h 4, .inl (y 1, 4, .inl (q 3)))] := hD1
  have hS := hS1
  clear hP1 hD1 hS1
  refine lv_aload_n hx hb dX2_refuse_10 rfl (lv_at hl 0 rfl) ?_
  refine lv_aload_n hx hb dX2_refuse_11 rfl (lv_at hl 0 rfl) ?_
  refine va_get (D := D) (ci := 2) (v := .int (rmb V)) (C := RX2) (T := TX2) (N := 8) hx hb hts hin_X2 hown hK.1 hP 0 rfl rfl 6 (by decide) f_31 (fun _ h9 => h9) rfl dX2_refuse_12 ?_
  refine lv_iload_n hx hb dX2_refuse_15 rfl (lv_at hl 1 rfl) ?_
  refine lv_icmp_ne (tgt := 28) hx hb dX2_refuse_16 (by decide) (fun kc16 => ?_) (fun kc16 => ?_)
  · have e66 : rfV V ho 66 = 1 := by rw [rf_66, if_neg (fun hh => kc16 (hrm.mpr hh))]
    refine lv_iconst (v := nI 1) hx hb dX2_refuse_28 (by decide) ?_
    refine va_put (D := D) (ci := 2) (v := .int (nI 1)) (ty := .int) (C := RX2) (T := TX2) (N := 8) hx hb hts hin_X2 tyX2 tyX2_ok nmX2 hown hK.1 hP hD hS 0 rfl rfl 7 (by decide) f_34 (fun _ h9 => h9) rfl (by decide +kernel) rfl rfl (Nat.le_of_ble_eq_true rfl) dX2_refuse_29 (fun H locs hP1 hD1 hS1 => ?_)
    clear hP hD hS
    have hP : va_P D vwCl [(h 0, .inr (2, [.ref (h 1), .ref (h 2), .ref (h 3), .ref (h 4), .int (nI (V 16)), .int (nI ((V 67) + 1)), .int (rmb V), .int (nI 1)])), (h 1, .inl (y 1, 8, .inl (q 0))), (h 2, .inl (y 1, 8, .inl (q 1))), (h 3, .inl (y 1, 24, .inl (q 2))), (h 4, .inl (y 1, 4, .inl (q 3)))] H := hP1
    have hD : va_D A [(h 0, .inr (2, [.ref (h 1), .ref (h 2), .ref (h 3), .ref (h 4), .int (nI (V 16)), .int (nI ((V 67) + 1)), .int (rmb V), .int (nI 1)])), (h 1, .inl (y 1, 8, .inl (q 0))), (h 2, .inl (y 1, 8, .inl (q 1))), (h 3, .inl (y 1, 24, .inl (q 2))), (h 4, .inl (y 1, 4, .inl (q 3)))] := hD1
    have hS := hS1
    clear hP1 hD1 hS1
    refine lv_aload_n hx hb dX2_refuse_32 rfl (lv_at hl 0 rfl) ?_
    refine lv_iload_n hx hb dX2_refuse_33 rfl (lv_at hl 1 rfl) ?_
    refine va_put (D := D) (ci := 2) (v := .int (nI ho)) (ty := .int) (C := RX2) (T := TX2) (N := 8) hx hb hts hin_X2 tyX2 tyX2_ok nmX2 hown hK.1 hP hD hS 0 rfl rfl 6 (by decide) f_31 (fun _ h9 => h9) rfl (by decide +kernel) rfl rfl (Nat.le_of_ble_eq_true rfl) dX2_refuse_34 (fun H locs hP1 hD1 hS1 => ?_)
    clear hP hD hS
    have hP : va_P D vwCl [(h 0, .inr (2, [.ref (h 1), .ref (h 2), .ref (h 3), .ref (h 4), .int (nI (V 16)), .int (nI ((V 67) + 1)), .int (nI ho), .int (nI 1)])), (h 1, .inl (y 1, 8, .inl (q 0))), (h 2, .inl (y 1, 8, .inl (q 1))), (h 3, .inl (y 1, 24, .inl (q 2))), (h 4, .inl (y 1, 4, .inl (q 3)))] H := hP1
    have hD : va_D A [(h 0, .inr (2, [.ref (h 1), .ref (h 2), .ref (h 3), .ref (h 4), .int (nI (V 16)), .int (nI ((V 67) + 1)), .int (nI ho), .int (nI 1)])), (h 1, .inl (y 1, 8, .inl (q 0))), (h 2, .inl (y 1, 8, .inl (q 1))), (h 3, .inl (y 1, 24, .inl (q 2))), (h 4, .inl (y 1, 4, .inl (q 3)))] := hD1
    have hS := hS1
    clear hP1 hD1 hS1
    subst hQe
    exact xw_v hx hb hr hlocks () hS dX2_refuse_37 (trivial) (fun t ht => by rw [ht]; exact (xP_eq hP (reg_mk (V := rfV V ho) (q := q) (by unfold rfV; rw [uN_n (by omega), uN_n (by omega), uN_n (by omega)]) (by unfold rfV; rw [uN_s]) rf_rm e66)))
  · have e66 : rfV V ho 66 = V 66 + 1 := by rw [rf_66, if_pos (hrm.mp kc16)]
    refine lv_aload_n hx hb dX2_refuse_19 rfl (lv_at hl 0 rfl) ?_
    refine va_get (D := D) (ci := 2) (v := .int (nI (V 66))) (C := RX2) (T := TX2) (N := 8) hx hb hts hin_X2 hown hK.1 hP 0 rfl rfl 7 (by decide) f_34 (fun _ h9 => h9) rfl dX2_refuse_20 ?_
    refine lv_iconst (v := nI 1) hx hb dX2_refuse_23 (by decide) ?_
    refine xn_add hx hb (r := ((V 66) + 1)) rfl dX2_refuse_24 ?_
    refine lv_goto (tgt := 29) hx hb dX2_refuse_25 (by decide) ?_
    refine va_put (D := D) (ci := 2) (v := .int (nI ((V 66) + 1))) (ty := .int) (C := RX2) (T := TX2) (N := 8) hx hb hts hin_X2 tyX2 tyX2_ok nmX2 hown hK.1 hP hD hS 0 rfl rfl 7 (by decide) f_34 (fun _ h9 => h9) rfl (by decide +kernel) rfl rfl (Nat.le_of_ble_eq_true rfl) dX2_refuse_29 (fun H locs hP1 hD1 hS1 => ?_)
    clear hP hD hS
    have hP : va_P D vwCl [(h 0, .inr (2, [.ref (h 1), .ref (h 2), .ref (h 3), .ref (h 4), .int (nI (V 16)), .int (nI ((V 67) + 1)), .int (rmb V), .int (nI ((V 66) + 1))])), (h 1, .inl (y 1, 8, .inl (q 0))), (h 2, .inl (y 1, 8, .inl (q 1))), (h 3, .inl (y 1, 24, .inl (q 2))), (h 4, .inl (y 1, 4, .inl (q 3)))] H := hP1
    have hD : va_D A [(h 0, .inr (2, [.ref (h 1), .ref (h 2), .ref (h 3), .ref (h 4), .int (nI (V 16)), .int (nI ((V 67) + 1)), .int (rmb V), .int (nI ((V 66) + 1))])), (h 1, .inl (y 1, 8, .inl (q 0))), (h 2, .inl (y 1, 8, .inl (q 1))), (h 3, .inl (y 1, 24, .inl (q 2))), (h 4, .inl (y 1, 4, .inl (q 3)))] := hD1
    have hS := hS1
    clear hP1 hD1 hS1
    refine lv_aload_n hx hb dX2_refuse_32 rfl (lv_at hl 0 rfl) ?_
    refine lv_iload_n hx hb dX2_refuse_33 rfl (lv_at hl 1 rfl) ?_
    refine va_put (D := D) (ci := 2) (v := .int (nI ho)) (ty := .int) (C := RX2) (T := TX2) (N := 8) hx hb hts hin_X2 tyX2 tyX2_ok nmX2 hown hK.1 hP hD hS 0 rfl rfl 6 (by decide) f_31 (fun _ h9 => h9) rfl (by decide +kernel) rfl rfl (Nat.le_of_ble_eq_true rfl) dX2_refuse_34 (fun H locs hP1 hD1 hS1 => ?_)
    clear hP hD hS
    have hP : va_P D vwCl [(h 0, .inr (2, [.ref (h 1), .ref (h 2), .ref (h 3), .ref (h 4), .int (nI (V 16)), .int (nI ((V 67) + 1)), .int (nI ho), .int (nI ((V 66) + 1))])), (h 1, .inl (y 1, 8, .inl (q 0))), (h 2, .inl (y 1, 8, .inl (q 1))), (h 3, .inl (y 1, 24, .inl (q 2))), (h 4, .inl (y 1, 4, .inl (q 3)))] H := hP1
    have hD : va_D A [(h 0, .inr (2, [.ref (h 1), .ref (h 2), .ref (h 3), .ref (h 4), .int (nI (V 16)), .int (nI ((V 67) + 1)), .int (nI ho), .int (nI ((V 66) + 1))])), (h 1, .inl (y 1, 8, .inl (q 0))), (h 2, .inl (y 1, 8, .inl (q 1))), (h 3, .inl (y 1, 24, .inl (q 2))), (h 4, .inl (y 1, 4, .inl (q 3)))] := hD1
    have hS := hS1
    clear hP1 hD1 hS1
    subst hQe
    exact xw_v hx hb hr hlocks () hS dX2_refuse_37 (trivial) (fun t ht => by rw [ht]; exact (xP_eq hP (reg_mk (V := rfV V ho) (q := q) (by unfold rfV; rw [uN_n (by omega), uN_n (by omega), uN_n (by omega)]) (by unfold rfV; rw [uN_s]) rf_rm e66)))
set_option maxHeartbeats 8000000 in
set_option maxRecDepth 100000 in
theorem c_X2_offer (l : Launch) (D : va_G) (y : Nat → ClassId) (h : Nat → Nat) (V : Nat → Nat) (q : Nat → Nat → Int32) (hR : RepC V q) (hI : Inv V) (x : Int32) : Met l yX2_offer wsX2_offer ({ frames := 3, cells := 0, slots := 0, locals := 69 }) (va_Pc [.ref (h 0), .int x] (xPw D y [(h 0, .inr (2, [.ref (h 1), .ref (h 2), .ref (h 3), .ref (h 4), .int (nI (V 16)), .int (nI (V 67)), .int (rmb V), .int (nI (V 66))])), (h 1, .inl (y 1, 8, .inl (q 0))), (h 2, .inl (y 1, 8, .inl (q 1))), (h 3, .inl (y 1, 24, .inl (q 2))), (h 4, .inl (y 1, 4, .inl (q 3)))])) (va_Qi (fun r (u : Nat → Nat → Int32) => r = ansI V x ∧ RepC (ofV V x) u) (fun (u : Nat → Nat → Int32) t => va_P D vwCl [(h 0, .inr (2, [.ref (h 1), .ref (h 2), .ref (h 3), .ref (h 4), .int (nI ((ofV V x) 16)), .int (nI ((ofV V x) 67)), .int (rmb (ofV V x)), .int (nI ((ofV V x) 66))])), (h 1, .inl (y 1, 8, .inl (u 0))), (h 2, .inl (y 1, 8, .inl (u 1))), (h 3, .inl (y 1, 24, .inl (u 2))), (h 4, .inl (y 1, 4, .inl (u 3)))] t.heap) (xIn [(h 0, .inr (2, [.ref (h 1), .ref (h 2), .ref (h 3), .ref (h 4), .int (nI (V 16)), .int (nI (V 67)), .int (rmb V), .int (nI (V 66))])), (h 1, .inl (y 1, 8, .inl (q 0))), (h 2, .inl (y 1, 8, .inl (q 1))), (h 3, .inl (y 1, 24, .inl (q 2))), (h 4, .inl (y 1, 4, .inl (q 3)))])) 0 0 (xIn [(h 0, .inr (2, [.ref (h 1), .ref (h 2), .ref (h 3), .ref (h 4), .int (nI (V 16)), .int (nI (V 67)), .int (rmb V), .int (nI (V 66))])), (h 1, .inl (y 1, 8, .inl (q 0))), (h 2, .inl (y 1, 8, .inl (q 1))), (h 3, .inl (y 1, 24, .inl (q 2))), (h 4, .inl (y 1, 4, .inl (q 3)))]) := by
  refine Met.ofW (cc := cX2_offer) (maxL := 3) (ret := (some .int)) (by decide) rfl ?_
  intro p e s m args below meth c s₁ B hml hv
  obtain ⟨rfl, hP, hK, hD0⟩ := hv
  have hx := B.exec
  have hb := B.bytes
  have hr := B.returns
  have hts := atoms_spec (ws := wsX2_offer) B.pre
  have hown : s.vm.findClass RX2 = some m.cls := findClass_of_methodNamed B.named
  have hlocks := B.notSynchronized
  have hD := xD_self hD0
  generalize hAe : xIn [(h 0, .inr (2, [.ref (h 1), .ref (h 2), .ref (h 3), .ref (h 4), .int (nI (V 16)), .int (nI (V 67)), .int (rmb V), .int (nI (V 66))])), (h 1, .inl (y 1, 8, .inl (q 0))), (h 2, .inl (y 1, 8, .inl (q 1))), (h 3, .inl (y 1, 24, .inl (q 2))), (h 4, .inl (y 1, 4, .inl (q 3)))] = A at hD ⊢
  have hS : va_S A s.heap s.heap [] := va_S.rf
  have hP : va_P D vwCl [(h 0, .inr (2, [.ref (h 1), .ref (h 2), .ref (h 3), .ref (h 4), .int (nI (V 16)), .int (nI (V 67)), .int (rmb V), .int (nI (V 66))])), (h 1, .inl (y 1, 8, .inl (q 0))), (h 2, .inl (y 1, 8, .inl (q 1))), (h 3, .inl (y 1, 24, .inl (q 2))), (h 4, .inl (y 1, 4, .inl (q 3)))] s.heap := hP
  have hl := lv_entry ([.ref (h 0), .int x]) (n := 3) (Nat.le_of_ble_eq_true rfl)
  rw [lg_entry_eq]
  generalize (lg_sl ([.ref (h 0), .int x]) ++ List.replicate (3 - (lg_sl ([.ref (h 0), .int x])).length) Slot.unset).toArray = ls at hl ⊢
  have hl : lv_has ls 3 [(0, .ref (h 0)), (1, .int x)] := hl
  generalize hQe : (MQ below (va_Qi (fun r (u : Nat → Nat → Int32) => r = ansI V x ∧ RepC (ofV V x) u) (fun (u : Nat → Nat → Int32) t => va_P D vwCl [(h 0, .inr (2, [.ref (h 1), .ref (h 2), .ref (h 3), .ref (h 4), .int (nI ((ofV V x) 16)), .int (nI ((ofV V x) 67)), .int (rmb (ofV V x)), .int (nI ((ofV V x) 66))])), (h 1, .inl (y 1, 8, .inl (u 0))), (h 2, .inl (y 1, 8, .inl (u 1))), (h 3, .inl (y 1, 24, .inl (u 2))), (h 4, .inl (y 1, 4, .inl (u 3)))] t.heap) A) ([.ref (h 0), .int x] : List Value).toArray s 0 0 A) = Q
  have hsz := hI.sz
  refine lv_aload_n hx hb dX2_offer_0 rfl (lv_at hl 0 rfl) ?_
  refine lv_iload_n hx hb dX2_offer_1 rfl (lv_at hl 1 rfl) ?_
  refine xc_V (As := [.int x]) (rest := []) ⟨hx, hb, hml, hown, hts⟩ (c_X2_answerTo l D y h V q hR hI x) (cwV 1 hts gX2_offer_X2_answerTo rfl rfl rfl hd_X2_answerTo ⟨Nat.le_of_ble_eq_true rfl, Nat.le_of_ble_eq_true rfl⟩) (xpv_r hK hP [0, 1, 2, 3, 4] 0 rfl rfl rfl) rfl hl.1 rfl (Nat.le_of_ble_eq_true rfl) dX2_offer_2 ⟨Nat.zero_le _, Nat.zero_le _⟩ (fun r1 hr1 => ?_)
  subst hr1
  refine lv_istore_n (lv' := [(2, .int (ansI V x)), (0, .ref (h 0)), (1, .int x)]) hx hb dX2_offer_5 rfl hl (by decide) rfl (fun ls hl => ?_)
  rcases of_c hI x with ⟨hn, hv⟩ | ⟨k, hk, hz, rfl, he, hv⟩
  · refine lv_iload_n hx hb dX2_offer_6 rfl (lv_at hl 0 rfl) ?_
    refine lv_if_ne (tgt := 18) hx hb dX2_offer_7 (by decide) (fun kc7 => ?_) (fun h => absurd h (by intro q; rw [q] at hn; exact absurd hn (by decide)))
    refine lv_iload_n hx hb dX2_offer_18 rfl (lv_at hl 0 rfl) ?_
    refine lv_bipush (v := nI 10) hx hb dX2_offer_19 (by decide) ?_
    refine lv_icmp_le (tgt := 36) hx hb dX2_offer_21 (by decide) (fun kc21 => ?_) (fun h => absurd (lt10 hn) h)
    refine lv_iload_n hx hb dX2_offer_36 rfl (lv_at hl 0 rfl) ?_
    refine lv_if_le (tgt := 45) hx hb dX2_offer_37 (by decide) (fun kc37 => ?_) (fun h => absurd (Int32.le_of_lt hn) h)
    refine lv_iload_n hx hb dX2_offer_45 rfl (lv_at hl 0 rfl) ?_
    subst hQe
    exact xw_i hx hb hr hlocks q hS dX2_offer_46 (⟨rfl, by rw [hv]; exact hR⟩) (fun t ht => by rw [ht]; exact (by rw [hv]; exact hP))
  · have hl : lv_has ls 3 [(2, .int (ansI V (nI k))), (0, .ref (h 0)), (1, .int (nI k))] := hl
    rw [he] at hl
    have hal := ans_le (V := V) (h := k)
    have hal2 := ans_in (V := V) (h := k)
    refine lv_iload_n hx hb dX2_offer_6 rfl (lv_at hl 0 rfl) ?_
    refine xn_if_ne hx hb (by omega) (tgt := 18) dX2_offer_7 (by decide) (fun kc7 => ?_) (fun kc7 => ?_)
    · refine lv_iload_n hx hb dX2_offer_18 rfl (lv_at hl 0 rfl) ?_
      refine lv_bipush (v := nI 10) hx hb dX2_offer_19 (by decide) ?_
      refine xn_icmp_le hx hb (by omega) (by omega) (tgt := 36) dX2_offer_21 (by decide) (fun kc21 => ?_) (fun kc21 => ?_)
      · refine lv_iload_n hx hb dX2_offer_36 rfl (lv_at hl 0 rfl) ?_
        refine xn_if_le hx hb (by omega) (tgt := 45) dX2_offer_37 (by decide) (fun h => absurd h (kc7)) (fun kc37 => ?_)
        refine lv_aload_n hx hb dX2_offer_40 rfl (lv_at hl 1 rfl) ?_
        refine lv_iload_n hx hb dX2_offer_41 rfl (lv_at hl 2 rfl) ?_
        have hFc := xD_in (W0 := [(h 0, .inr (2, [.ref (h 1), .ref (h 2), .ref (h 3), .ref (h 4), .int (nI (V 16)), .int (nI (V 67)), .int (rmb V), .int (nI (V 66))])), (h 1, .inl (y 1, 8, .inl (q 0))), (h 2, .inl (y 1, 8, .inl (q 1))), (h 3, .inl (y 1, 24, .inl (q 2))), (h 4, .inl (y 1, 4, .inl (q 3)))]) hD [0, 1, 2, 3, 4] rfl
        refine va_callv (va_runV (As := [.int (nI k)]) (rest := []) ⟨hx, hb, hml, hown, hts⟩ (c_X2_refuse l D y h V q hR hI k (by omega)) (cwV 1 hts gX2_offer_X2_refuse rfl rfl rfl hd_X2_refuse ⟨Nat.le_of_ble_eq_true rfl, Nat.le_of_ble_eq_true rfl⟩) (xpv_w hK hP hD [0, 1, 2, 3, 4] 0 rfl rfl rfl rfl rfl) rfl rfl hl.1 rfl (lv_room (Nat.le_of_ble_eq_true rfl)) dX2_offer_42 ⟨Nat.zero_le _, Nat.zero_le _⟩) hS (fun q _ h => hFc q h) hFc (fun u2 t H locs ht hvm hw2 hB hz1 hk1 hS1 => ?_)
        have hB : va_P D vwCl [(h 0, .inr (2, [.ref (h 1), .ref (h 2), .ref (h 3), .ref (h 4), .int (nI ((rfV V k) 16)), .int (nI ((rfV V k) 67)), .int (rmb (rfV V k)), .int (nI ((rfV V k) 66))])), (h 1, .inl (y 1, 8, .inl (q 0))), (h 2, .inl (y 1, 8, .inl (q 1))), (h 3, .inl (y 1, 24, .inl (q 2))), (h 4, .inl (y 1, 4, .inl (q 3)))] t.heap := hB
        rw [ht] at hB
        have hJ := xj_join (ws2 := [(h 0, .inr (2, [.ref (h 1), .ref (h 2), .ref (h 3), .ref (h 4), .int (nI ((rfV V k) 16)), .int (nI ((rfV V k) 67)), .int (rmb (rfV V k)), .int (nI ((rfV V k) 66))])), (h 1, .inl (y 1, 8, .inl (q 0))), (h 2, .inl (y 1, 8, .inl (q 1))), (h 3, .inl (y 1, 24, .inl (q 2))), (h 4, .inl (y 1, 4, .inl (q 3)))]) hP hD [0, 1, 2, 3, 4] [] rfl rfl rfl rfl rfl rfl hk1 hB
        clear hP hD hS hB hk1 hz1 hFc hvm ht
        obtain ⟨hP, hD⟩ := hJ
        have hS := hS1
        clear hS1
        refine lv_iload_n hx hb dX2_offer_45 rfl (lv_at hl 0 rfl) ?_
        subst hQe
        exact xw_i hx hb hr hlocks q hS dX2_offer_46 (⟨he.symm, by rw [hv, br_r kc7 kc21 hal2]; exact rf_r hR hsz⟩) (fun t ht => by rw [ht]; exact (by rw [hv, br_r kc7 kc21 hal2]; exact hP))
      · refine lv_aload_n hx hb dX2_offer_24 rfl (lv_at hl 1 rfl) ?_
        refine lv_iload_n hx hb dX2_offer_25 rfl (lv_at hl 2 rfl) ?_
        refine lv_sipush (v := nI 256) hx hb dX2_offer_26 (by decide) ?_
        refine xn_add hx hb (r := (k + 256)) rfl dX2_offer_29 ?_
        refine xv (show nI (k + 256) = nI (k + 256 * 1) from rfl) ?_
        have hFc := xD_in (W0 := [(h 0, .inr (2, [.ref (h 1), .ref (h 2), .ref (h 3), .ref (h 4), .int (nI (V 16)), .int (nI (V 67)), .int (rmb V), .int (nI (V 66))])), (h 1, .inl (y 1, 8, .inl (q 0))), (h 2, .inl (y 1, 8, .inl (q 1))), (h 3, .inl (y 1, 24, .inl (q 2))), (h 4, .inl (y 1, 4, .inl (q 3)))]) hD [0, 1, 2, 3, 4] rfl
        refine va_callv (va_runV (As := [.int (nI (k + 256 * 1))]) (rest := []) ⟨hx, hb, hml, hown, hts⟩ (c_X2_take l D y h V q hR hI k 1 (by omega)) (cwV 1 hts gX2_offer_X2_take rfl rfl rfl hd_X2_take ⟨Nat.le_of_ble_eq_true rfl, Nat.le_of_ble_eq_true rfl⟩) (xpv_w hK hP hD [0, 1, 2, 3, 4] 0 rfl rfl rfl rfl rfl) rfl rfl hl.1 rfl (lv_room (Nat.le_of_ble_eq_true rfl)) dX2_offer_30 ⟨Nat.zero_le _, Nat.zero_le _⟩) hS (fun q _ h => hFc q h) hFc (fun u3 t H locs ht hvm hw3 hB hz1 hk1 hS1 => ?_)
        have hB : va_P D vwCl [(h 0, .inr (2, [.ref (h 1), .ref (h 2), .ref (h 3), .ref (h 4), .int (nI ((tkV V k 1) 16)), .int (nI ((tkV V k 1) 67)), .int (rmb (tkV V k 1)), .int (nI ((tkV V k 1) 66))])), (h 1, .inl (y 1, 8, .inl (u3 0))), (h 2, .inl (y 1, 8, .inl (u3 1))), (h 3, .inl (y 1, 24, .inl (u3 2))), (h 4, .inl (y 1, 4, .inl (u3 3)))] t.heap := hB
        rw [ht] at hB
        have hw3 : RepC (tkV V k 1) u3 := hw3
        have hJ := xj_join (ws2 := [(h 0, .inr (2, [.ref (h 1), .ref (h 2), .ref (h 3), .ref (h 4), .int (nI ((tkV V k 1) 16)), .int (nI ((tkV V k 1) 67)), .int (rmb (tkV V k 1)), .int (nI ((tkV V k 1) 66))])), (h 1, .inl (y 1, 8, .inl (u3 0))), (h 2, .inl (y 1, 8, .inl (u3 1))), (h 3, .inl (y 1, 24, .inl (u3 2))), (h 4, .inl (y 1, 4, .inl (u3 3)))]) hP hD [0, 1, 2, 3, 4] [] rfl rfl rfl rfl rfl rfl hk1 hB
        clear hP hD hS hB hk1 hz1 hFc hvm ht
        obtain ⟨hP, hD⟩ := hJ
        have hS := hS1
        clear hS1
        refine lv_goto (tgt := 45) hx hb dX2_offer_33 (by decide) ?_
        refine lv_iload_n hx hb dX2_offer_45 rfl (lv_at hl 0 rfl) ?_
        subst hQe
        exact xw_i hx hb hr hlocks u3 hS dX2_offer_46 (⟨he.symm, by rw [hv, br_1 kc7 kc21 hal2]; exact hw3⟩) (fun t ht => by rw [ht]; exact (by rw [hv, br_1 kc7 kc21 hal2]; exact hP))
    · refine lv_aload_n hx hb dX2_offer_10 rfl (lv_at hl 1 rfl) ?_
      refine lv_iload_n hx hb dX2_offer_11 rfl (lv_at hl 2 rfl) ?_
      refine xv (show nI (k) = nI (k + 256 * 0) from rfl) ?_
      have hFc := xD_in (W0 := [(h 0, .inr (2, [.ref (h 1), .ref (h 2), .ref (h 3), .ref (h 4), .int (nI (V 16)), .int (nI (V 67)), .int (rmb V), .int (nI (V 66))])), (h 1, .inl (y 1, 8, .inl (q 0))), (h 2, .inl (y 1, 8, .inl (q 1))), (h 3, .inl (y 1, 24, .inl (q 2))), (h 4, .inl (y 1, 4, .inl (q 3)))]) hD [0, 1, 2, 3, 4] rfl
      refine va_callv (va_runV (As := [.int (nI (k + 256 * 0))]) (rest := []) ⟨hx, hb, hml, hown, hts⟩ (c_X2_take l D y h V q hR hI k 0 (by omega)) (cwV 1 hts gX2_offer_X2_take rfl rfl rfl hd_X2_take ⟨Nat.le_of_ble_eq_true rfl, Nat.le_of_ble_eq_true rfl⟩) (xpv_w hK hP hD [0, 1, 2, 3, 4] 0 rfl rfl rfl rfl rfl) rfl rfl hl.1 rfl (lv_room (Nat.le_of_ble_eq_true rfl)) dX2_offer_12 ⟨Nat.zero_le _, Nat.zero_le _⟩) hS (fun q _ h => hFc q h) hFc (fun u4 t H locs ht hvm hw4 hB hz1 hk1 hS1 => ?_)
      have hB : va_P D vwCl [(h 0, .inr (2, [.ref (h 1), .ref (h 2), .ref (h 3), .ref (h 4), .int (nI ((tkV V k 0) 16)), .int (nI ((tkV V k 0) 67)), .int (rmb (tkV V k 0)), .int (nI ((tkV V k 0) 66))])), (h 1, .inl (y 1, 8, .inl (u4 0))), (h 2, .inl (y 1, 8, .inl (u4 1))), (h 3, .inl (y 1, 24, .inl (u4 2))), (h 4, .inl (y 1, 4, .inl (u4 3)))] t.heap := hB
      rw [ht] at hB
      have hw4 : RepC (tkV V k 0) u4 := hw4
      have hJ := xj_join (ws2 := [(h 0, .inr (2, [.ref (h 1), .ref (h 2), .ref (h 3), .ref (h 4), .int (nI ((tkV V k 0) 16)), .int (nI ((tkV V k 0) 67)), .int (rmb (tkV V k 0)), .int (nI ((tkV V k 0) 66))])), (h 1, .inl (y 1, 8, .inl (u4 0))), (h 2, .inl (y 1, 8, .inl (u4 1))), (h 3, .inl (y 1, 24, .inl (u4 2))), (h 4, .inl (y 1, 4, .inl (u4 3)))]) hP hD [0, 1, 2, 3, 4] [] rfl rfl rfl rfl rfl rfl hk1 hB
      clear hP hD hS hB hk1 hz1 hFc hvm ht
      obtain ⟨hP, hD⟩ := hJ
      have hS := hS1
      clear hS1
      refine lv_goto (tgt := 45) hx hb dX2_offer_15 (by decide) ?_
      refine lv_iload_n hx hb dX2_offer_45 rfl (lv_at hl 0 rfl) ?_
      subst hQe
      exact xw_i hx hb hr hlocks u4 hS dX2_offer_46 (⟨he.symm, by rw [hv, br_0 kc7]; exact hw4⟩) (fun t ht => by rw [ht]; exact (by rw [hv, br_0 kc7]; exact hP))
set_option maxHeartbeats 8000000 in
set_option maxRecDepth 100000 in
theorem c_X2_exchangeCards (l : Launch) (D : va_G) (y : Nat → ClassId) (h : Nat → Nat) (V : Nat → Nat) (q : Nat → Nat → Int32) (hR : RepC V q) (hI : Inv V) (a b : Nat) (ha : a < V 16) (hb2 : b < V 16) : Met l yX2_exchangeCards wsX2_exchangeCards ({ frames := 1, cells := 0, slots := 0, locals := 22 }) (va_Pc [.ref (h 0), .int (nI a), .int (nI b)] (xPw D y [(h 0, .inr (2, [.ref (h 1), .ref (h 2), .ref (h 3), .ref (h 4), .int (nI (V 16)), .int (nI (V 67)), .int (rmb V), .int (nI (V 66))])), (h 1, .inl (y 1, 8, .inl (q 0))), (h 2, .inl (y 1, 8, .inl (q 1))), (h 3, .inl (y 1, 24, .inl (q 2))), (h 4, .inl (y 1, 4, .inl (q 3)))])) (va_Qv (fun (u : Nat → Nat → Int32) => RepC (exc V a b) u) (fun (u : Nat → Nat → Int32) t => va_P D vwCl [(h 0, .inr (2, [.ref (h 1), .ref (h 2), .ref (h 3), .ref (h 4), .int (nI ((exc V a b) 16)), .int (nI ((exc V a b) 67)), .int (rmb (exc V a b)), .int (nI ((exc V a b) 66))])), (h 1, .inl (y 1, 8, .inl (u 0))), (h 2, .inl (y 1, 8, .inl (u 1))), (h 3, .inl (y 1, 24, .inl (u 2))), (h 4, .inl (y 1, 4, .inl (u 3)))] t.heap) (xIn [(h 0, .inr (2, [.ref (h 1), .ref (h 2), .ref (h 3), .ref (h 4), .int (nI (V 16)), .int (nI (V 67)), .int (rmb V), .int (nI (V 66))])), (h 1, .inl (y 1, 8, .inl (q 0))), (h 2, .inl (y 1, 8, .inl (q 1))), (h 3, .inl (y 1, 24, .inl (q 2))), (h 4, .inl (y 1, 4, .inl (q 3)))])) 0 0 (xIn [(h 0, .inr (2, [.ref (h 1), .ref (h 2), .ref (h 3), .ref (h 4), .int (nI (V 16)), .int (nI (V 67)), .int (rmb V), .int (nI (V 66))])), (h 1, .inl (y 1, 8, .inl (q 0))), (h 2, .inl (y 1, 8, .inl (q 1))), (h 3, .inl (y 1, 24, .inl (q 2))), (h 4, .inl (y 1, 4, .inl (q 3)))]) := by
  refine Met.ofW (cc := cX2_exchangeCards) (maxL := 4) (ret := none) (by decide) rfl ?_
  intro p e s m args below meth c s₁ B hml hv
  obtain ⟨rfl, hP, hK, hD0⟩ := hv
  have hx := B.exec
  have hb := B.bytes
  have hr := B.returns
  have hts := atoms_spec (ws := wsX2_exchangeCards) B.pre
  have hown : s.vm.findClass RX2 = some m.cls := findClass_of_methodNamed B.named
  have hlocks := B.notSynchronized
  have hD := xD_self hD0
  generalize hAe : xIn [(h 0, .inr (2, [.ref (h 1), .ref (h 2), .ref (h 3), .ref (h 4), .int (nI (V 16)), .int (nI (V 67)), .int (rmb V), .int (nI (V 66))])), (h 1, .inl (y 1, 8, .inl (q 0))), (h 2, .inl (y 1, 8, .inl (q 1))), (h 3, .inl (y 1, 24, .inl (q 2))), (h 4, .inl (y 1, 4, .inl (q 3)))] = A at hD ⊢
  have hS : va_S A s.heap s.heap [] := va_S.rf
  have hP : va_P D vwCl [(h 0, .inr (2, [.ref (h 1), .ref (h 2), .ref (h 3), .ref (h 4), .int (nI (V 16)), .int (nI (V 67)), .int (rmb V), .int (nI (V 66))])), (h 1, .inl (y 1, 8, .inl (q 0))), (h 2, .inl (y 1, 8, .inl (q 1))), (h 3, .inl (y 1, 24, .inl (q 2))), (h 4, .inl (y 1, 4, .inl (q 3)))] s.heap := hP
  have hl := lv_entry ([.ref (h 0), .int (nI a), .int (nI b)]) (n := 4) (Nat.le_of_ble_eq_true rfl)
  rw [lg_entry_eq]
  generalize (lg_sl ([.ref (h 0), .int (nI a), .int (nI b)]) ++ List.replicate (4 - (lg_sl ([.ref (h 0), .int (nI a), .int (nI b)])).length) Slot.unset).toArray = ls at hl ⊢
  have hl : lv_has ls 4 [(0, .ref (h 0)), (1, .int (nI a)), (2, .int (nI b))] := hl
  generalize hQe : (MQ below (va_Qv (fun (u : Nat → Nat → Int32) => RepC (exc V a b) u) (fun (u : Nat → Nat → Int32) t => va_P D vwCl [(h 0, .inr (2, [.ref (h 1), .ref (h 2), .ref (h 3), .ref (h 4), .int (nI ((exc V a b) 16)), .int (nI ((exc V a b) 67)), .int (rmb (exc V a b)), .int (nI ((exc V a b) 66))])), (h 1, .inl (y 1, 8, .inl (u 0))), (h 2, .inl (y 1, 8, .inl (u 1))), (h 3, .inl (y 1, 24, .inl (u 2))), (h 4, .inl (y 1, 4, .inl (u 3)))] t.heap) A) ([.ref (h 0), .int (nI a), .int (nI b)] : List Value).toArray s 0 0 A) = Q
  have hsz := hI.sz
  refine lv_aload_n hx hb dX2_exchangeCards_0 rfl (lv_at hl 0 rfl) ?_
  refine lv_iload_n hx hb dX2_exchangeCards_1 rfl (lv_at hl 1 rfl) ?_
  refine xc_V (As := [.int (nI a)]) (rest := []) ⟨hx, hb, hml, hown, hts⟩ (c_X2_cardAt l D y h V q hR hI a (by omega)) (cwV 1 hts gX2_exchangeCards_X2_cardAt rfl rfl rfl hd_X2_cardAt ⟨Nat.le_of_ble_eq_true rfl, Nat.le_of_ble_eq_true rfl⟩) (xpv_r hK hP [0, 1, 2, 3, 4] 0 rfl rfl rfl) rfl hl.1 rfl (Nat.le_of_ble_eq_true rfl) dX2_exchangeCards_2 ⟨Nat.zero_le _, Nat.zero_le _⟩ (fun r1 hr1 => ?_)
  subst hr1
  refine lv_istore_n (lv' := [(3, .int (nI (V (17 + a) + 256 * V (41 + a)))), (0, .ref (h 0)), (1, .int (nI a)), (2, .int (nI b))]) hx hb dX2_exchangeCards_5 rfl hl (by decide) rfl (fun ls hl => ?_)
  refine lv_aload_n hx hb dX2_exchangeCards_6 rfl (lv_at hl 1 rfl) ?_
  refine lv_iload_n hx hb dX2_exchangeCards_7 rfl (lv_at hl 2 rfl) ?_
  refine lv_aload_n hx hb dX2_exchangeCards_8 rfl (lv_at hl 1 rfl) ?_
  refine lv_iload_n hx hb dX2_exchangeCards_9 rfl (lv_at hl 3 rfl) ?_
  refine xc_V (As := [.int (nI b)]) (rest := [.int (nI a), .ref (h 0)]) ⟨hx, hb, hml, hown, hts⟩ (c_X2_cardAt l D y h V q hR hI b (by omega)) (cwV 1 hts gX2_exchangeCards_X2_cardAt rfl rfl rfl hd_X2_cardAt ⟨Nat.le_of_ble_eq_true rfl, Nat.le_of_ble_eq_true rfl⟩) (xpv_r hK hP [0, 1, 2, 3, 4] 0 rfl rfl rfl) rfl hl.1 rfl (Nat.le_of_ble_eq_true rfl) dX2_exchangeCards_10 ⟨Nat.zero_le _, Nat.zero_le _⟩ (fun r2 hr2 => ?_)
  subst hr2
  have hFc := xD_in (W0 := [(h 0, .inr (2, [.ref (h 1), .ref (h 2), .ref (h 3), .ref (h 4), .int (nI (V 16)), .int (nI (V 67)), .int (rmb V), .int (nI (V 66))])), (h 1, .inl (y 1, 8, .inl (q 0))), (h 2, .inl (y 1, 8, .inl (q 1))), (h 3, .inl (y 1, 24, .inl (q 2))), (h 4, .inl (y 1, 4, .inl (q 3)))]) hD [0, 1, 2, 3, 4] rfl
  refine va_callv (va_runV (As := [.int (nI a), .int (nI (V (17 + b) + 256 * V (41 + b)))]) (rest := []) ⟨hx, hb, hml, hown, hts⟩ (c_X2_put l D y h V q a (by omega) (nI (V (17 + b) + 256 * V (41 + b)))) (cwV 2 hts gX2_exchangeCards_X2_put rfl rfl rfl hd_X2_put ⟨Nat.le_of_ble_eq_true rfl, Nat.le_of_ble_eq_true rfl⟩) (xpv_w hK hP hD [0, 1, 2, 3, 4] 0 rfl rfl rfl rfl rfl) rfl rfl hl.1 rfl (lv_room (Nat.le_of_ble_eq_true rfl)) dX2_exchangeCards_13 ⟨Nat.zero_le _, Nat.zero_le _⟩) hS (fun q _ h => hFc q h) hFc (fun u3 t H locs ht hvm hw3 hB hz1 hk1 hS1 => ?_)
  have hB : va_P D vwCl [(h 0, .inr (2, [.ref (h 1), .ref (h 2), .ref (h 3), .ref (h 4), .int (nI (V 16)), .int (nI (V 67)), .int (rmb V), .int (nI (V 66))])), (h 1, .inl (y 1, 8, .inl ((qs q 2 (upd (q 2) a (nI (V (17 + b) + 256 * V (41 + b))))) 0))), (h 2, .inl (y 1, 8, .inl ((qs q 2 (upd (q 2) a (nI (V (17 + b) + 256 * V (41 + b))))) 1))), (h 3, .inl (y 1, 24, .inl ((qs q 2 (upd (q 2) a (nI (V (17 + b) + 256 * V (41 + b))))) 2))), (h 4, .inl (y 1, 4, .inl ((qs q 2 (upd (q 2) a (nI (V (17 + b) + 256 * V (41 + b))))) 3)))] t.heap := hB
  rw [ht] at hB
  have hJ := xj_join (ws2 := [(h 0, .inr (2, [.ref (h 1), .ref (h 2), .ref (h 3), .ref (h 4), .int (nI (V 16)), .int (nI (V 67)), .int (rmb V), .int (nI (V 66))])), (h 1, .inl (y 1, 8, .inl ((qs q 2 (upd (q 2) a (nI (V (17 + b) + 256 * V (41 + b))))) 0))), (h 2, .inl (y 1, 8, .inl ((qs q 2 (upd (q 2) a (nI (V (17 + b) + 256 * V (41 + b))))) 1))), (h 3, .inl (y 1, 24, .inl ((qs q 2 (upd (q 2) a (nI (V (17 + b) + 256 * V (41 + b))))) 2))), (h 4, .inl (y 1, 4, .inl ((qs q 2 (upd (q 2) a (nI (V (17 + b) + 256 * V (41 + b))))) 3)))]) hP hD [0, 1, 2, 3, 4] [] rfl rfl rfl rfl rfl rfl hk1 hB
  clear hP hD hS hB hk1 hz1 hFc hvm ht
  obtain ⟨hP, hD⟩ := hJ
  have hS := hS1
  clear hS1
  refine lv_aload_n hx hb dX2_exchangeCards_16 rfl (lv_at hl 1 rfl) ?_
  refine lv_iload_n hx hb dX2_exchangeCards_17 rfl (lv_at hl 3 rfl) ?_
  refine lv_iload_n hx hb dX2_exchangeCards_18 rfl (lv_at hl 0 rfl) ?_
  have hFc := xD_in (W0 := [(h 0, .inr (2, [.ref (h 1), .ref (h 2), .ref (h 3), .ref (h 4), .int (nI (V 16)), .int (nI (V 67)), .int (rmb V), .int (nI (V 66))])), (h 1, .inl (y 1, 8, .inl ((qs q 2 (upd (q 2) a (nI (V (17 + b) + 256 * V (41 + b))))) 0))), (h 2, .inl (y 1, 8, .inl ((qs q 2 (upd (q 2) a (nI (V (17 + b) + 256 * V (41 + b))))) 1))), (h 3, .inl (y 1, 24, .inl ((qs q 2 (upd (q 2) a (nI (V (17 + b) + 256 * V (41 + b))))) 2))), (h 4, .inl (y 1, 4, .inl ((qs q 2 (upd (q 2) a (nI (V (17 + b) + 256 * V (41 + b))))) 3)))]) hD [0, 1, 2, 3, 4] rfl
  refine va_callv (va_runV (As := [.int (nI b), .int (nI (V (17 + a) + 256 * V (41 + a)))]) (rest := []) ⟨hx, hb, hml, hown, hts⟩ (c_X2_put l D y h V (qs q 2 (upd (q 2) a (nI (V (17 + b) + 256 * V (41 + b))))) b (by omega) (nI (V (17 + a) + 256 * V (41 + a)))) (cwV 2 hts gX2_exchangeCards_X2_put rfl rfl rfl hd_X2_put ⟨Nat.le_of_ble_eq_true rfl, Nat.le_of_ble_eq_true rfl⟩) (xpv_w hK hP hD [0, 1, 2, 3, 4] 0 rfl rfl rfl rfl rfl) rfl rfl hl.1 rfl (lv_room (Nat.le_of_ble_eq_true rfl)) dX2_exchangeCards_19 ⟨Nat.zero_le _, Nat.zero_le _⟩) hS (fun q _ h => hFc q h) hFc (fun u4 t H locs ht hvm hw4 hB hz1 hk1 hS1 => ?_)
  have hB : va_P D vwCl [(h 0, .inr (2, [.ref (h 1), .ref (h 2), .ref (h 3), .ref (h 4), .int (nI (V 16)), .int (nI (V 67)), .int (rmb V), .int (nI (V 66))])), (h 1, .inl (y 1, 8, .inl ((qs (qs q 2 (upd (q 2) a (nI (V (17 + b) + 256 * V (41 + b))))) 2 (upd ((qs q 2 (upd (q 2) a (nI (V (17 + b) + 256 * V (41 + b))))) 2) b (nI (V (17 + a) + 256 * V (41 + a))))) 0))), (h 2, .inl (y 1, 8, .inl ((qs (qs q 2 (upd (q 2) a (nI (V (17 + b) + 256 * V (41 + b))))) 2 (upd ((qs q 2 (upd (q 2) a (nI (V (17 + b) + 256 * V (41 + b))))) 2) b (nI (V (17 + a) + 256 * V (41 + a))))) 1))), (h 3, .inl (y 1, 24, .inl ((qs (qs q 2 (upd (q 2) a (nI (V (17 + b) + 256 * V (41 + b))))) 2 (upd ((qs q 2 (upd (q 2) a (nI (V (17 + b) + 256 * V (41 + b))))) 2) b (nI (V (17 + a) + 256 * V (41 + a))))) 2))), (h 4, .inl (y 1, 4, .inl ((qs (qs q 2 (upd (q 2) a (nI (V (17 + b) + 256 * V (41 + b))))) 2 (upd ((qs q 2 (upd (q 2) a (nI (V (17 + b) + 256 * V (41 + b))))) 2) b (nI (V (17 + a) + 256 * V (41 + a))))) 3)))] t.heap := hB
  rw [ht] at hB
  have hJ := xj_join (ws2 := [(h 0, .inr (2, [.ref (h 1), .ref (h 2), .ref (h 3), .ref (h 4), .int (nI (V 16)), .int (nI (V 67)), .int (rmb V), .int (nI (V 66))])), (h 1, .inl (y 1, 8, .inl ((qs (qs q 2 (upd (q 2) a (nI (V (17 + b) + 256 * V (41 + b))))) 2 (upd ((qs q 2 (upd (q 2) a (nI (V (17 + b) + 256 * V (41 + b))))) 2) b (nI (V (17 + a) + 256 * V (41 + a))))) 0))), (h 2, .inl (y 1, 8, .inl ((qs (qs q 2 (upd (q 2) a (nI (V (17 + b) + 256 * V (41 + b))))) 2 (upd ((qs q 2 (upd (q 2) a (nI (V (17 + b) + 256 * V (41 + b))))) 2) b (nI (V (17 + a) + 256 * V (41 + a))))) 1))), (h 3, .inl (y 1, 24, .inl ((qs (qs q 2 (upd (q 2) a (nI (V (17 + b) + 256 * V (41 + b))))) 2 (upd ((qs q 2 (upd (q 2) a (nI (V (17 + b) + 256 * V (41 + b))))) 2) b (nI (V (17 + a) + 256 * V (41 + a))))) 2))), (h 4, .inl (y 1, 4, .inl ((qs (qs q 2 (upd (q 2) a (nI (V (17 + b) + 256 * V (41 + b))))) 2 (upd ((qs q 2 (upd (q 2) a (nI (V (17 + b) + 256 * V (41 + b))))) 2) b (nI (V (17 + a) + 256 * V (41 + a))))) 3)))]) hP hD [0, 1, 2, 3, 4] [] rfl rfl rfl rfl rfl rfl hk1 hB
  clear hP hD hS hB hk1 hz1 hFc hvm ht
  obtain ⟨hP, hD⟩ := hJ
  have hS := hS1
  clear hS1
  subst hQe
  exact xw_v hx hb hr hlocks (qs (qs q 2 (upd (q 2) a (nI (V (17 + b) + 256 * V (41 + b))))) 2 (upd (upd (q 2) a (nI (V (17 + b) + 256 * V (41 + b)))) b (nI (V (17 + a) + 256 * V (41 + a))))) hS dX2_exchangeCards_22 (exc_rep hR hsz ha hb2) (fun t ht => by rw [ht]; exact (xP_eq hP (reg_eq (q := qs (qs q 2 (upd (q 2) a (nI (V (17 + b) + 256 * V (41 + b))))) 2 (upd (upd (q 2) a (nI (V (17 + b) + 256 * V (41 + b)))) b (nI (V (17 + a) + 256 * V (41 + a))))) (exc_fix (by omega) (by omega) (by omega)).symm (exc_fix (by omega) (by omega) (by omega)).symm (exc_fix (by omega) (by omega) (by omega)).symm (exc_fix (by omega) (by omega) (by omega)).symm)))
set_option maxHeartbeats 8000000 in
set_option maxRecDepth 100000 in
theorem c_X2_exchange (l : Launch) (D : va_G) (y : Nat → ClassId) (h : Nat → Nat) (V : Nat → Nat) (q : Nat → Nat → Int32) (hR : RepC V q) (hI : Inv V) (x z : Int32) : Met l yX2_exchange wsX2_exchange ({ frames := 2, cells := 0, slots := 0, locals := 45 }) (va_Pc [.ref (h 0), .int x, .int z] (xPw D y [(h 0, .inr (2, [.ref (h 1), .ref (h 2), .ref (h 3), .ref (h 4), .int (nI (V 16)), .int (nI (V 67)), .int (rmb V), .int (nI (V 66))])), (h 1, .inl (y 1, 8, .inl (q 0))), (h 2, .inl (y 1, 8, .inl (q 1))), (h 3, .inl (y 1, 24, .inl (q 2))), (h 4, .inl (y 1, 4, .inl (q 3)))])) (va_Qi (fun r (u : Nat → Nat → Int32) => r = exI V x z ∧ RepC (exV V x z) u) (fun (u : Nat → Nat → Int32) t => va_P D vwCl [(h 0, .inr (2, [.ref (h 1), .ref (h 2), .ref (h 3), .ref (h 4), .int (nI ((exV V x z) 16)), .int (nI ((exV V x z) 67)), .int (rmb (exV V x z)), .int (nI ((exV V x z) 66))])), (h 1, .inl (y 1, 8, .inl (u 0))), (h 2, .inl (y 1, 8, .inl (u 1))), (h 3, .inl (y 1, 24, .inl (u 2))), (h 4, .inl (y 1, 4, .inl (u 3)))] t.heap) (xIn [(h 0, .inr (2, [.ref (h 1), .ref (h 2), .ref (h 3), .ref (h 4), .int (nI (V 16)), .int (nI (V 67)), .int (rmb V), .int (nI (V 66))])), (h 1, .inl (y 1, 8, .inl (q 0))), (h 2, .inl (y 1, 8, .inl (q 1))), (h 3, .inl (y 1, 24, .inl (q 2))), (h 4, .inl (y 1, 4, .inl (q 3)))])) 0 0 (xIn [(h 0, .inr (2, [.ref (h 1), .ref (h 2), .ref (h 3), .ref (h 4), .int (nI (V 16)), .int (nI (V 67)), .int (rmb V), .int (nI (V 66))])), (h 1, .inl (y 1, 8, .inl (q 0))), (h 2, .inl (y 1, 8, .inl (q 1))), (h 3, .inl (y 1, 24, .inl (q 2))), (h 4, .inl (y 1, 4, .inl (q 3)))]) := by
  refine Met.ofW (cc := cX2_exchange) (maxL := 3) (ret := (some .int)) (by decide) rfl ?_
  intro p e s m args below meth c s₁ B hml hv
  obtain ⟨rfl, hP, hK, hD0⟩ := hv
  have hx := B.exec
  have hb := B.bytes
  have hr := B.returns
  have hts := atoms_spec (ws := wsX2_exchange) B.pre
  have hown : s.vm.findClass RX2 = some m.cls := findClass_of_methodNamed B.named
  have hlocks := B.notSynchronized
  have f_52 := hts (.constant RX2 52 (-1000001)) (by decide +kernel)
  have hD := xD_self hD0
  generalize hAe : xIn [(h 0, .inr (2, [.ref (h 1), .ref (h 2), .ref (h 3), .ref (h 4), .int (nI (V 16)), .int (nI (V 67)), .int (rmb V), .int (nI (V 66))])), (h 1, .inl (y 1, 8, .inl (q 0))), (h 2, .inl (y 1, 8, .inl (q 1))), (h 3, .inl (y 1, 24, .inl (q 2))), (h 4, .inl (y 1, 4, .inl (q 3)))] = A at hD ⊢
  have hS : va_S A s.heap s.heap [] := va_S.rf
  have hP : va_P D vwCl [(h 0, .inr (2, [.ref (h 1), .ref (h 2), .ref (h 3), .ref (h 4), .int (nI (V 16)), .int (nI (V 67)), .int (rmb V), .int (nI (V 66))])), (h 1, .inl (y 1, 8, .inl (q 0))), (h 2, .inl (y 1, 8, .inl (q 1))), (h 3, .inl (y 1, 24, .inl (q 2))), (h 4, .inl (y 1, 4, .inl (q 3)))] s.heap := hP
  have hl := lv_entry ([.ref (h 0), .int x, .int z]) (n := 3) (Nat.le_of_ble_eq_true rfl)
  rw [lg_entry_eq]
  generalize (lg_sl ([.ref (h 0), .int x, .int z]) ++ List.replicate (3 - (lg_sl ([.ref (h 0), .int x, .int z])).length) Slot.unset).toArray = ls at hl ⊢
  have hl : lv_has ls 3 [(0, .ref (h 0)), (1, .int x), (2, .int z)] := hl
  generalize hQe : (MQ below (va_Qi (fun r (u : Nat → Nat → Int32) => r = exI V x z ∧ RepC (exV V x z) u) (fun (u : Nat → Nat → Int32) t => va_P D vwCl [(h 0, .inr (2, [.ref (h 1), .ref (h 2), .ref (h 3), .ref (h 4), .int (nI ((exV V x z) 16)), .int (nI ((exV V x z) 67)), .int (rmb (exV V x z)), .int (nI ((exV V x z) 66))])), (h 1, .inl (y 1, 8, .inl (u 0))), (h 2, .inl (y 1, 8, .inl (u 1))), (h 3, .inl (y 1, 24, .inl (u 2))), (h 4, .inl (y 1, 4, .inl (u 3)))] t.heap) A) ([.ref (h 0), .int x, .int z] : List Value).toArray s 0 0 A) = Q
  have hsz := hI.sz
  have hb1 := bN_lt (c := inR x (V 16))
  have hb3 := bN_lt (c := inR z (V 16))
  refine lv_aload_n hx hb dX2_exchange_0 rfl (lv_at hl 0 rfl) ?_
  refine lv_iload_n hx hb dX2_exchange_1 rfl (lv_at hl 1 rfl) ?_
  refine xc_V (As := [.int x]) (rest := []) ⟨hx, hb, hml, hown, hts⟩ (c_X2_hasCard l D y h V q hR hI x) (cwV 1 hts gX2_exchange_X2_hasCard rfl rfl rfl hd_X2_hasCard ⟨Nat.le_of_ble_eq_true rfl, Nat.le_of_ble_eq_true rfl⟩) (xpv_r hK hP [0, 1, 2, 3, 4] 0 rfl rfl rfl) rfl hl.1 rfl (Nat.le_of_ble_eq_true rfl) dX2_exchange_2 ⟨Nat.zero_le _, Nat.zero_le _⟩ (fun r1 hr1 => ?_)
  subst hr1
  refine xn_if_eq hx hb (by omega) (tgt := 21) dX2_exchange_5 (by decide) (fun kc5 => ?_) (fun kc5 => ?_)
  · refine lv_ldc hx hb hown f_52 dX2_exchange_21 ?_
    have ef := ex_f (V := V) (x := x) (z := z) (by first | exact fun h => bN_0.mp kc5 h.1 | exact fun h => bN_0.mp kc13 h.2.1 | exact fun h => h.2.2 kc18)
    subst hQe
    exact xw_i hx hb hr hlocks q hS dX2_exchange_23 (⟨ef.1.symm, by rw [ef.2]; exact hR⟩) (fun t ht => by rw [ht]; exact (by rw [ef.2]; exact hP))
  · refine lv_aload_n hx hb dX2_exchange_8 rfl (lv_at hl 0 rfl) ?_
    refine lv_iload_n hx hb dX2_exchange_9 rfl (lv_at hl 2 rfl) ?_
    refine xc_V (As := [.int z]) (rest := []) ⟨hx, hb, hml, hown, hts⟩ (c_X2_hasCard l D y h V q hR hI z) (cwV 1 hts gX2_exchange_X2_hasCard rfl rfl rfl hd_X2_hasCard ⟨Nat.le_of_ble_eq_true rfl, Nat.le_of_ble_eq_true rfl⟩) (xpv_r hK hP [0, 1, 2, 3, 4] 0 rfl rfl rfl) rfl hl.1 rfl (Nat.le_of_ble_eq_true rfl) dX2_exchange_10 ⟨Nat.zero_le _, Nat.zero_le _⟩ (fun r2 hr2 => ?_)
    subst hr2
    refine xn_if_eq hx hb (by omega) (tgt := 21) dX2_exchange_13 (by decide) (fun kc13 => ?_) (fun kc13 => ?_)
    · refine lv_ldc hx hb hown f_52 dX2_exchange_21 ?_
      have ef := ex_f (V := V) (x := x) (z := z) (by first | exact fun h => bN_0.mp kc5 h.1 | exact fun h => bN_0.mp kc13 h.2.1 | exact fun h => h.2.2 kc18)
      subst hQe
      exact xw_i hx hb hr hlocks q hS dX2_exchange_23 (⟨ef.1.symm, by rw [ef.2]; exact hR⟩) (fun t ht => by rw [ht]; exact (by rw [ef.2]; exact hP))
    · refine lv_iload_n hx hb dX2_exchange_16 rfl (lv_at hl 1 rfl) ?_
      refine lv_iload_n hx hb dX2_exchange_17 rfl (lv_at hl 2 rfl) ?_
      refine lv_icmp_ne (tgt := 24) hx hb dX2_exchange_18 (by decide) (fun kc18 => ?_) (fun kc18 => ?_)
      · obtain ⟨a, ha, rfl⟩ := inR_k (by omega) (bN_n0.mp kc5)
        obtain ⟨b, hb2, rfl⟩ := inR_k (by omega) (bN_n0.mp kc13)
        have hne : ¬ a = b := fun q => kc18 (by rw [q])
        have e1 := ex_t ha hb2 hsz hne
        refine lv_aload_n hx hb dX2_exchange_24 rfl (lv_at hl 0 rfl) ?_
        refine lv_iload_n hx hb dX2_exchange_25 rfl (lv_at hl 1 rfl) ?_
        refine lv_iload_n hx hb dX2_exchange_26 rfl (lv_at hl 2 rfl) ?_
        have hFc := xD_in (W0 := [(h 0, .inr (2, [.ref (h 1), .ref (h 2), .ref (h 3), .ref (h 4), .int (nI (V 16)), .int (nI (V 67)), .int (rmb V), .int (nI (V 66))])), (h 1, .inl (y 1, 8, .inl (q 0))), (h 2, .inl (y 1, 8, .inl (q 1))), (h 3, .inl (y 1, 24, .inl (q 2))), (h 4, .inl (y 1, 4, .inl (q 3)))]) hD [0, 1, 2, 3, 4] rfl
        refine va_callv (va_runV (As := [.int (nI a), .int (nI b)]) (rest := []) ⟨hx, hb, hml, hown, hts⟩ (c_X2_exchangeCards l D y h V q hR hI a b (by omega) (by omega)) (cwV 2 hts gX2_exchange_X2_exchangeCards rfl rfl rfl hd_X2_exchangeCards ⟨Nat.le_of_ble_eq_true rfl, Nat.le_of_ble_eq_true rfl⟩) (xpv_w hK hP hD [0, 1, 2, 3, 4] 0 rfl rfl rfl rfl rfl) rfl rfl hl.1 rfl (lv_room (Nat.le_of_ble_eq_true rfl)) dX2_exchange_27 ⟨Nat.zero_le _, Nat.zero_le _⟩) hS (fun q _ h => hFc q h) hFc (fun u3 t H locs ht hvm hw3 hB hz1 hk1 hS1 => ?_)
        have hB : va_P D vwCl [(h 0, .inr (2, [.ref (h 1), .ref (h 2), .ref (h 3), .ref (h 4), .int (nI ((exc V a b) 16)), .int (nI ((exc V a b) 67)), .int (rmb (exc V a b)), .int (nI ((exc V a b) 66))])), (h 1, .inl (y 1, 8, .inl (u3 0))), (h 2, .inl (y 1, 8, .inl (u3 1))), (h 3, .inl (y 1, 24, .inl (u3 2))), (h 4, .inl (y 1, 4, .inl (u3 3)))] t.heap := hB
        rw [ht] at hB
        have hw3 : RepC (exc V a b) u3 := hw3
        have hJ := xj_join (ws2 := [(h 0, .inr (2, [.ref (h 1), .ref (h 2), .ref (h 3), .ref (h 4), .int (nI ((exc V a b) 16)), .int (nI ((exc V a b) 67)), .int (rmb (exc V a b)), .int (nI ((exc V a b) 66))])), (h 1, .inl (y 1, 8, .inl (u3 0))), (h 2, .inl (y 1, 8, .inl (u3 1))), (h 3, .inl (y 1, 24, .inl (u3 2))), (h 4, .inl (y 1, 4, .inl (u3 3)))]) hP hD [0, 1, 2, 3, 4] [] rfl rfl rfl rfl rfl rfl hk1 hB
        clear hP hD hS hB hk1 hz1 hFc hvm ht
        obtain ⟨hP, hD⟩ := hJ
        have hS := hS1
        clear hS1
        have hIu3 := exc_inv (a := a) (b := b) hI (by omega) (by omega)
        refine lv_aload_n hx hb dX2_exchange_30 rfl (lv_at hl 0 rfl) ?_
        refine lv_iload_n hx hb dX2_exchange_31 rfl (lv_at hl 1 rfl) ?_
        refine xc_V (As := [.int (nI a)]) (rest := []) ⟨hx, hb, hml, hown, hts⟩ (c_X2_holesAt_n l D y h (exc V a b) u3 hw3 hIu3 a (by omega)) (cwV 1 hts gX2_exchange_X2_holesAt rfl rfl rfl hd_X2_holesAt ⟨Nat.le_of_ble_eq_true rfl, Nat.le_of_ble_eq_true rfl⟩) (xpv_r hK hP [0, 1, 2, 3, 4] 0 rfl rfl rfl) rfl hl.1 rfl (Nat.le_of_ble_eq_true rfl) dX2_exchange_32 ⟨Nat.zero_le _, Nat.zero_le _⟩ (fun r4 hr4 => ?_)
        subst hr4
        subst hQe
        exact xw_i hx hb hr hlocks u3 hS dX2_exchange_35 (⟨by rw [e1.1, ex_h ha hb2 hsz hne], by rw [e1.2]; exact hw3⟩) (fun t ht => by rw [ht]; exact (by rw [e1.2]; exact hP))
      · refine lv_ldc hx hb hown f_52 dX2_exchange_21 ?_
        have ef := ex_f (V := V) (x := x) (z := z) (by first | exact fun h => bN_0.mp kc5 h.1 | exact fun h => bN_0.mp kc13 h.2.1 | exact fun h => h.2.2 kc18)
        subst hQe
        exact xw_i hx hb hr hlocks q hS dX2_exchange_23 (⟨ef.1.symm, by rw [ef.2]; exact hR⟩) (fun t ht => by rw [ht]; exact (by rw [ef.2]; exact hP))
set_option maxHeartbeats 8000000 in
set_option maxRecDepth 100000 in
theorem c_X2_tearOut (l : Launch) (D : va_G) (y : Nat → ClassId) (h : Nat → Nat) (V : Nat → Nat) (q : Nat → Nat → Int32) (hR : RepC V q) (hI : Inv V) (x : Int32) : Met l yX2_tearOut wsX2_tearOut ({ frames := 1, cells := 0, slots := 0, locals := 22 }) (va_Pc [.ref (h 0), .int x] (xPw D y [(h 0, .inr (2, [.ref (h 1), .ref (h 2), .ref (h 3), .ref (h 4), .int (nI (V 16)), .int (nI (V 67)), .int (rmb V), .int (nI (V 66))])), (h 1, .inl (y 1, 8, .inl (q 0))), (h 2, .inl (y 1, 8, .inl (q 1))), (h 3, .inl (y 1, 24, .inl (q 2))), (h 4, .inl (y 1, 4, .inl (q 3)))])) (va_Qi (fun r (u : Nat → Nat → Int32) => r = teI V x ∧ RepC (teV V x) u) (fun (u : Nat → Nat → Int32) t => va_P D vwCl [(h 0, .inr (2, [.ref (h 1), .ref (h 2), .ref (h 3), .ref (h 4), .int (nI ((teV V x) 16)), .int (nI ((teV V x) 67)), .int (rmb (teV V x)), .int (nI ((teV V x) 66))])), (h 1, .inl (y 1, 8, .inl (u 0))), (h 2, .inl (y 1, 8, .inl (u 1))), (h 3, .inl (y 1, 24, .inl (u 2))), (h 4, .inl (y 1, 4, .inl (u 3)))] t.heap) (xIn [(h 0, .inr (2, [.ref (h 1), .ref (h 2), .ref (h 3), .ref (h 4), .int (nI (V 16)), .int (nI (V 67)), .int (rmb V), .int (nI (V 66))])), (h 1, .inl (y 1, 8, .inl (q 0))), (h 2, .inl (y 1, 8, .inl (q 1))), (h 3, .inl (y 1, 24, .inl (q 2))), (h 4, .inl (y 1, 4, .inl (q 3)))])) 0 0 (xIn [(h 0, .inr (2, [.ref (h 1), .ref (h 2), .ref (h 3), .ref (h 4), .int (nI (V 16)), .int (nI (V 67)), .int (rmb V), .int (nI (V 66))])), (h 1, .inl (y 1, 8, .inl (q 0))), (h 2, .inl (y 1, 8, .inl (q 1))), (h 3, .inl (y 1, 24, .inl (q 2))), (h 4, .inl (y 1, 4, .inl (q 3)))]) := by
  refine Met.ofW (cc := cX2_tearOut) (maxL := 4) (ret := (some .int)) (by decide) rfl ?_
  intro p e s m args below meth c s₁ B hml hv
  obtain ⟨rfl, hP, hK, hD0⟩ := hv
  have hx := B.exec
  have hb := B.bytes
  have hr := B.returns
  have hts := atoms_spec (ws := wsX2_tearOut) B.pre
  have hown : s.vm.findClass RX2 = some m.cls := findClass_of_methodNamed B.named
  have hlocks := B.notSynchronized
  have f_24 := hts (.fieldLink RX2 24 "LoomTunes$Register" "size" "I") (by decide +kernel)
  have f_52 := hts (.constant RX2 52 (-1000001)) (by decide +kernel)
  have hin_X2 : ∀ w ∈ wsX20, w ∈ wsX2_tearOut := by decide +kernel
  have hD := xD_self hD0
  generalize hAe : xIn [(h 0, .inr (2, [.ref (h 1), .ref (h 2), .ref (h 3), .ref (h 4), .int (nI (V 16)), .int (nI (V 67)), .int (rmb V), .int (nI (V 66))])), (h 1, .inl (y 1, 8, .inl (q 0))), (h 2, .inl (y 1, 8, .inl (q 1))), (h 3, .inl (y 1, 24, .inl (q 2))), (h 4, .inl (y 1, 4, .inl (q 3)))] = A at hD ⊢
  have hS : va_S A s.heap s.heap [] := va_S.rf
  have hP : va_P D vwCl [(h 0, .inr (2, [.ref (h 1), .ref (h 2), .ref (h 3), .ref (h 4), .int (nI (V 16)), .int (nI (V 67)), .int (rmb V), .int (nI (V 66))])), (h 1, .inl (y 1, 8, .inl (q 0))), (h 2, .inl (y 1, 8, .inl (q 1))), (h 3, .inl (y 1, 24, .inl (q 2))), (h 4, .inl (y 1, 4, .inl (q 3)))] s.heap := hP
  have hl := lv_entry ([.ref (h 0), .int x]) (n := 4) (Nat.le_of_ble_eq_true rfl)
  rw [lg_entry_eq]
  generalize (lg_sl ([.ref (h 0), .int x]) ++ List.replicate (4 - (lg_sl ([.ref (h 0), .int x])).length) Slot.unset).toArray = ls at hl ⊢
  have hl : lv_has ls 4 [(0, .ref (h 0)), (1, .int x)] := hl
  generalize hQe : (MQ below (va_Qi (fun r (u : Nat → Nat → Int32) => r = teI V x ∧ RepC (teV V x) u) (fun (u : Nat → Nat → Int32) t => va_P D vwCl [(h 0, .inr (2, [.ref (h 1), .ref (h 2), .ref (h 3), .ref (h 4), .int (nI ((teV V x) 16)), .int (nI ((teV V x) 67)), .int (rmb (teV V x)), .int (nI ((teV V x) 66))])), (h 1, .inl (y 1, 8, .inl (u 0))), (h 2, .inl (y 1, 8, .inl (u 1))), (h 3, .inl (y 1, 24, .inl (u 2))), (h 4, .inl (y 1, 4, .inl (u 3)))] t.heap) A) ([.ref (h 0), .int x] : List Value).toArray s 0 0 A) = Q
  have hsz := hI.sz
  have hb1 := bN_lt (c := inR x (V 16))
  refine lv_aload_n hx hb dX2_tearOut_0 rfl (lv_at hl 0 rfl) ?_
  refine lv_iload_n hx hb dX2_tearOut_1 rfl (lv_at hl 1 rfl) ?_
  refine xc_V (As := [.int x]) (rest := []) ⟨hx, hb, hml, hown, hts⟩ (c_X2_hasCard l D y h V q hR hI x) (cwV 1 hts gX2_tearOut_X2_hasCard rfl rfl rfl hd_X2_hasCard ⟨Nat.le_of_ble_eq_true rfl, Nat.le_of_ble_eq_true rfl⟩) (xpv_r hK hP [0, 1, 2, 3, 4] 0 rfl rfl rfl) rfl hl.1 rfl (Nat.le_of_ble_eq_true rfl) dX2_tearOut_2 ⟨Nat.zero_le _, Nat.zero_le _⟩ (fun r1 hr1 => ?_)
  subst hr1
  refine xn_if_ne hx hb (by omega) (tgt := 11) dX2_tearOut_5 (by decide) (fun kc5 => ?_) (fun kc5 => ?_)
  · obtain ⟨k, hk, rfl⟩ := inR_k (by omega) (bN_n0.mp kc5)
    have e1 := te_t hk hsz
    refine lv_aload_n hx hb dX2_tearOut_11 rfl (lv_at hl 0 rfl) ?_
    refine lv_iload_n hx hb dX2_tearOut_12 rfl (lv_at hl 1 rfl) ?_
    refine xc_V (As := [.int (nI k)]) (rest := []) ⟨hx, hb, hml, hown, hts⟩ (c_X2_holesAt_n l D y h V q hR hI k (by omega)) (cwV 1 hts gX2_tearOut_X2_holesAt rfl rfl rfl hd_X2_holesAt ⟨Nat.le_of_ble_eq_true rfl, Nat.le_of_ble_eq_true rfl⟩) (xpv_r hK hP [0, 1, 2, 3, 4] 0 rfl rfl rfl) rfl hl.1 rfl (Nat.le_of_ble_eq_true rfl) dX2_tearOut_13 ⟨Nat.zero_le _, Nat.zero_le _⟩ (fun r2 hr2 => ?_)
    subst hr2
    refine lv_istore_n (lv' := [(2, .int (nI (hol V k))), (0, .ref (h 0)), (1, .int (nI k))]) hx hb dX2_tearOut_16 rfl hl (by decide) rfl (fun ls hl => ?_)
    refine lv_iload_n hx hb dX2_tearOut_17 rfl (lv_at hl 2 rfl) ?_
    refine lv_istore_n (lv' := [(3, .int (nI k)), (2, .int (nI (hol V k))), (0, .ref (h 0)), (1, .int (nI k))]) hx hb dX2_tearOut_18 rfl hl (by decide) rfl (fun ls hl => ?_)
    have lp19 : ∀ (n : Nat) (i : Nat) (q2 : Nat → Nat → Int32), V 16 - 1 - i < n → (k ≤ i) → (i ≤ V 16 - 1) → (RepC (trA V k i) q2) → ∀ (H : Heap) (locs : List Loc), va_P D vwCl [(h 0, .inr (2, [.ref (h 1), .ref (h 2), .ref (h 3), .ref (h 4), .int (nI ((trA V k i) 16)), .int (nI ((trA V k i) 67)), .int (rmb (trA V k i)), .int (nI ((trA V k i) 66))])), (h 1, .inl (y 1, 8, .inl (q2 0))), (h 2, .inl (y 1, 8, .inl (q2 1))), (h 3, .inl (y 1, 24, .inl (q2 2))), (h 4, .inl (y 1, 4, .inl (q2 3)))] H → va_D A [(h 0, .inr (2, [.ref (h 1), .ref (h 2), .ref (h 3), .ref (h 4), .int (nI ((trA V k i) 16)), .int (nI ((trA V k i) 67)), .int (rmb (trA V k i)), .int (nI ((trA V k i) 66))])), (h 1, .inl (y 1, 8, .inl (q2 0))), (h 2, .inl (y 1, 8, .inl (q2 1))), (h 3, .inl (y 1, 24, .inl (q2 2))), (h 4, .inl (y 1, 4, .inl (q2 3)))] → va_S A s.heap H locs → ∀ ls : Array Slot, lv_has ls 4 [(3, .int (nI i)), (2, .int (nI (hol V k))), (0, .ref (h 0)), (1, .int (nI k))] → W p l e (headSpec wsX2_tearOut ({ frames := 1, cells := 0, slots := 0, locals := 22 })).room s m ([.ref (h 0), .int (nI k)] : List Value).toArray below meth c H locs 0 0 Q (F0 m 19 ls []) := by
      intro n
      induction n with
      | zero => intro i q2 hm; exact absurd hm (Nat.not_lt_zero _)
      | succ n ih19 =>
        intro i q2 hm h0 hi hR2 H locs hP hD hS ls hl
        refine lv_iload_n hx hb dX2_tearOut_19 rfl (lv_at hl 0 rfl) ?_
        have hI2 := trA_inv (c := k) (i := i) hI (by omega)
        have e16 : trA V k i 16 = V 16 := trA_fix (by omega) (by omega)
        refine lv_aload_n hx hb dX2_tearOut_20 rfl (lv_at hl 2 rfl) ?_
        refine va_get (D := D) (ci := 2) (v := .int (nI ((trA V k i) 16))) (C := RX2) (T := TX2) (N := 8) hx hb hts hin_X2 hown hK.1 hP 0 rfl rfl 4 (by decide) f_24 (fun _ h9 => h9) rfl dX2_tearOut_21 ?_
        refine xv (congrArg nI (trA_fix (by omega) (by omega))) ?_
        refine lv_iconst (v := nI 1) hx hb dX2_tearOut_24 (by decide) ?_
        refine xn_sub hx hb (r := ((V 16) - 1)) (by omega) rfl dX2_tearOut_25 ?_
        refine xn_icmp_ge hx hb (by omega) (by omega) (tgt := 47) dX2_tearOut_26 (by decide) (fun kc26 => ?_) (fun kc26 => ?_)
        · have hi9 : i = V 16 - 1 := by omega
          refine lv_aload_n hx hb dX2_tearOut_47 rfl (lv_at hl 2 rfl) ?_
          refine lv_dup hx hb dX2_tearOut_48 rfl ?_
          refine va_get (D := D) (ci := 2) (v := .int (nI ((trA V k i) 16))) (C := RX2) (T := TX2) (N := 8) hx hb hts hin_X2 hown hK.1 hP 0 rfl rfl 4 (by decide) f_24 (fun _ h9 => h9) rfl dX2_tearOut_49 ?_
          refine xv (congrArg nI (trA_fix (by omega) (by omega))) ?_
          refine lv_iconst (v := nI 1) hx hb dX2_tearOut_52 (by decide) ?_
          refine xn_sub hx hb (r := ((V 16) - 1)) (by omega) rfl dX2_tearOut_53 ?_
          refine va_put (D := D) (ci := 2) (v := .int (nI ((V 16) - 1))) (ty := .int) (C := RX2) (T := TX2) (N := 8) hx hb hts hin_X2 tyX2 tyX2_ok nmX2 hown hK.1 hP hD hS 0 rfl rfl 4 (by decide) f_24 (fun _ h9 => h9) rfl (by decide +kernel) rfl rfl (Nat.le_of_ble_eq_true rfl) dX2_tearOut_54 (fun H locs hP1 hD1 hS1 => ?_)
          clear hP hD hS
          have hP : va_P D vwCl [(h 0, .inr (2, [.ref (h 1), .ref (h 2), .ref (h 3), .ref (h 4), .int (nI ((V 16) - 1)), .int (nI ((trA V k i) 67)), .int (rmb (trA V k i)), .int (nI ((trA V k i) 66))])), (h 1, .inl (y 1, 8, .inl (q2 0))), (h 2, .inl (y 1, 8, .inl (q2 1))), (h 3, .inl (y 1, 24, .inl (q2 2))), (h 4, .inl (y 1, 4, .inl (q2 3)))] H := hP1
          have hD : va_D A [(h 0, .inr (2, [.ref (h 1), .ref (h 2), .ref (h 3), .ref (h 4), .int (nI ((V 16) - 1)), .int (nI ((trA V k i) 67)), .int (rmb (trA V k i)), .int (nI ((trA V k i) 66))])), (h 1, .inl (y 1, 8, .inl (q2 0))), (h 2, .inl (y 1, 8, .inl (q2 1))), (h 3, .inl (y 1, 24, .inl (q2 2))), (h 4, .inl (y 1, 4, .inl (q2 3)))] := hD1
          have hS := hS1
          clear hP1 hD1 hS1
          refine lv_iload_n hx hb dX2_tearOut_57 rfl (lv_at hl 1 rfl) ?_
          subst hQe
          exact xw_i hx hb hr hlocks q2 hS dX2_tearOut_58 (⟨by rw [e1.1, hol, if_pos hk], by rw [e1.2]; exact te_r (hi9 ▸ hR2) hsz⟩) (fun t ht => by rw [ht]; exact (by rw [e1.2]; exact xP_eq hP (reg_mk (V := teA V k) (q := q2) (by unfold teA; rw [uN_s]) (by rw [hi9]; exact uN_n (by omega)) (by rw [hi9]; unfold rmb teA; rw [uN_n (by omega), uN_n (by omega)]) (by rw [hi9]; exact uN_n (by omega)))))
        · refine lv_aload_n hx hb dX2_tearOut_29 rfl (lv_at hl 2 rfl) ?_
          refine lv_iload_n hx hb dX2_tearOut_30 rfl (lv_at hl 0 rfl) ?_
          refine lv_aload_n hx hb dX2_tearOut_31 rfl (lv_at hl 2 rfl) ?_
          refine lv_iload_n hx hb dX2_tearOut_32 rfl (lv_at hl 0 rfl) ?_
          refine lv_iconst (v := nI 1) hx hb dX2_tearOut_33 (by decide) ?_
          refine xn_add hx hb (r := (i + 1)) rfl dX2_tearOut_34 ?_
          refine xc_V (As := [.int (nI (i + 1))]) (rest := [.int (nI i), .ref (h 0)]) ⟨hx, hb, hml, hown, hts⟩ (c_X2_cardAt l D y h (trA V k i) q2 hR2 hI2 (i + 1) (by omega)) (cwV 1 hts gX2_tearOut_X2_cardAt rfl rfl rfl hd_X2_cardAt ⟨Nat.le_of_ble_eq_true rfl, Nat.le_of_ble_eq_true rfl⟩) (xpv_r hK hP [0, 1, 2, 3, 4] 0 rfl rfl rfl) rfl hl.1 rfl (Nat.le_of_ble_eq_true rfl) dX2_tearOut_35 ⟨Nat.zero_le _, Nat.zero_le _⟩ (fun r3 hr3 => ?_)
          subst hr3
          refine xv (congrArg nI (by rw [(trA_nx (V := V) (c := k) (i := i) (k := i + 1) (by omega) (by omega) (by omega)).1, (trA_nx (V := V) (c := k) (i := i) (k := i + 1) (by omega) (by omega) (by omega)).2])) ?_
          have hFc := xD_in (W0 := [(h 0, .inr (2, [.ref (h 1), .ref (h 2), .ref (h 3), .ref (h 4), .int (nI ((trA V k i) 16)), .int (nI ((trA V k i) 67)), .int (rmb (trA V k i)), .int (nI ((trA V k i) 66))])), (h 1, .inl (y 1, 8, .inl (q2 0))), (h 2, .inl (y 1, 8, .inl (q2 1))), (h 3, .inl (y 1, 24, .inl (q2 2))), (h 4, .inl (y 1, 4, .inl (q2 3)))]) hD [0, 1, 2, 3, 4] rfl
          refine va_callv (va_runV (As := [.int (nI i), .int (nI (V (17 + (i + 1)) + 256 * V (41 + (i + 1))))]) (rest := []) ⟨hx, hb, hml, hown, hts⟩ (c_X2_put l D y h (trA V k i) q2 i (by omega) (nI (V (17 + (i + 1)) + 256 * V (41 + (i + 1))))) (cwV 2 hts gX2_tearOut_X2_put rfl rfl rfl hd_X2_put ⟨Nat.le_of_ble_eq_true rfl, Nat.le_of_ble_eq_true rfl⟩) (xpv_w hK hP hD [0, 1, 2, 3, 4] 0 rfl rfl rfl rfl rfl) rfl rfl hl.1 rfl (lv_room (Nat.le_of_ble_eq_true rfl)) dX2_tearOut_38 ⟨Nat.zero_le _, Nat.zero_le _⟩) hS (fun q _ h => hFc q h) hFc (fun u4 t H locs ht hvm hw4 hB hz1 hk1 hS1 => ?_)
          have hB : va_P D vwCl [(h 0, .inr (2, [.ref (h 1), .ref (h 2), .ref (h 3), .ref (h 4), .int (nI ((trA V k i) 16)), .int (nI ((trA V k i) 67)), .int (rmb (trA V k i)), .int (nI ((trA V k i) 66))])), (h 1, .inl (y 1, 8, .inl ((qs q2 2 (upd (q2 2) i (nI (V (17 + (i + 1)) + 256 * V (41 + (i + 1)))))) 0))), (h 2, .inl (y 1, 8, .inl ((qs q2 2 (upd (q2 2) i (nI (V (17 + (i + 1)) + 256 * V (41 + (i + 1)))))) 1))), (h 3, .inl (y 1, 24, .inl ((qs q2 2 (upd (q2 2) i (nI (V (17 + (i + 1)) + 256 * V (41 + (i + 1)))))) 2))), (h 4, .inl (y 1, 4, .inl ((qs q2 2 (upd (q2 2) i (nI (V (17 + (i + 1)) + 256 * V (41 + (i + 1)))))) 3)))] t.heap := hB
          rw [ht] at hB
          have hJ := xj_join (ws2 := [(h 0, .inr (2, [.ref (h 1), .ref (h 2), .ref (h 3), .ref (h 4), .int (nI ((trA V k i) 16)), .int (nI ((trA V k i) 67)), .int (rmb (trA V k i)), .int (nI ((trA V k i) 66))])), (h 1, .inl (y 1, 8, .inl ((qs q2 2 (upd (q2 2) i (nI (V (17 + (i + 1)) + 256 * V (41 + (i + 1)))))) 0))), (h 2, .inl (y 1, 8, .inl ((qs q2 2 (upd (q2 2) i (nI (V (17 + (i + 1)) + 256 * V (41 + (i + 1)))))) 1))), (h 3, .inl (y 1, 24, .inl ((qs q2 2 (upd (q2 2) i (nI (V (17 + (i + 1)) + 256 * V (41 + (i + 1)))))) 2))), (h 4, .inl (y 1, 4, .inl ((qs q2 2 (upd (q2 2) i (nI (V (17 + (i + 1)) + 256 * V (41 + (i + 1)))))) 3)))]) hP hD [0, 1, 2, 3, 4] [] rfl rfl rfl rfl rfl rfl hk1 hB
          clear hP hD hS hB hk1 hz1 hFc hvm ht
          obtain ⟨hP, hD⟩ := hJ
          have hS := hS1
          clear hS1
          refine lv_iinc (v := nI (i + 1)) (lv' := [(3, .int (nI (i + 1))), (2, .int (nI (hol V k))), (0, .ref (h 0)), (1, .int (nI k))]) hx hb dX2_tearOut_41 hl (k := 0) rfl (nI_add i 1) (by decide) rfl (fun ls hl => ?_)
          refine lv_goto (tgt := 19) hx hb dX2_tearOut_44 (by decide) ?_
          have hW5 : ([(h 0, .inr (2, [.ref (h 1), .ref (h 2), .ref (h 3), .ref (h 4), .int (nI ((trA V k i) 16)), .int (nI ((trA V k i) 67)), .int (rmb (trA V k i)), .int (nI ((trA V k i) 66))])), (h 1, .inl (y 1, 8, .inl ((qs q2 2 (upd (q2 2) i (nI (V (17 + (i + 1)) + 256 * V (41 + (i + 1)))))) 0))), (h 2, .inl (y 1, 8, .inl ((qs q2 2 (upd (q2 2) i (nI (V (17 + (i + 1)) + 256 * V (41 + (i + 1)))))) 1))), (h 3, .inl (y 1, 24, .inl ((qs q2 2 (upd (q2 2) i (nI (V (17 + (i + 1)) + 256 * V (41 + (i + 1)))))) 2))), (h 4, .inl (y 1, 4, .inl ((qs q2 2 (upd (q2 2) i (nI (V (17 + (i + 1)) + 256 * V (41 + (i + 1)))))) 3)))] : va_W) = [(h 0, .inr (2, [.ref (h 1), .ref (h 2), .ref (h 3), .ref (h 4), .int (nI ((trA V k (i + 1)) 16)), .int (nI ((trA V k (i + 1)) 67)), .int (rmb (trA V k (i + 1))), .int (nI ((trA V k (i + 1)) 66))])), (h 1, .inl (y 1, 8, .inl ((qs q2 2 (upd (q2 2) i (nI (V (17 + (i + 1)) + 256 * V (41 + (i + 1)))))) 0))), (h 2, .inl (y 1, 8, .inl ((qs q2 2 (upd (q2 2) i (nI (V (17 + (i + 1)) + 256 * V (41 + (i + 1)))))) 1))), (h 3, .inl (y 1, 24, .inl ((qs q2 2 (upd (q2 2) i (nI (V (17 + (i + 1)) + 256 * V (41 + (i + 1)))))) 2))), (h 4, .inl (y 1, 4, .inl ((qs q2 2 (upd (q2 2) i (nI (V (17 + (i + 1)) + 256 * V (41 + (i + 1)))))) 3)))] := reg_eq (q := qs q2 2 (upd (q2 2) i (nI (V (17 + (i + 1)) + 256 * V (41 + (i + 1)))))) ((trA_fix (by omega) (by omega)).trans (trA_fix (by omega) (by omega)).symm) ((trA_fix (by omega) (by omega)).trans (trA_fix (by omega) (by omega)).symm) ((trA_fix (by omega) (by omega)).trans (trA_fix (by omega) (by omega)).symm) ((trA_fix (by omega) (by omega)).trans (trA_fix (by omega) (by omega)).symm)
          exact ih19 (i + 1) (qs q2 2 (upd (q2 2) i (nI (V (17 + (i + 1)) + 256 * V (41 + (i + 1)))))) (by omega) (by omega) (by omega) (by rw [trA_s (by omega) (by omega)]; exact rep_u hR2 (by rw [trA_fix (by omega) (by omega)]; exact hsz) (by omega)) _ _ (xP_eq hP hW5) (xD_eq hD hW5) hS ls (lv_sub hl [0, 1, 2, 3] rfl)
    have hW6 : ([(h 0, .inr (2, [.ref (h 1), .ref (h 2), .ref (h 3), .ref (h 4), .int (nI (V 16)), .int (nI (V 67)), .int (rmb V), .int (nI (V 66))])), (h 1, .inl (y 1, 8, .inl (q 0))), (h 2, .inl (y 1, 8, .inl (q 1))), (h 3, .inl (y 1, 24, .inl (q 2))), (h 4, .inl (y 1, 4, .inl (q 3)))] : va_W) = [(h 0, .inr (2, [.ref (h 1), .ref (h 2), .ref (h 3), .ref (h 4), .int (nI ((trA V k k) 16)), .int (nI ((trA V k k) 67)), .int (rmb (trA V k k)), .int (nI ((trA V k k) 66))])), (h 1, .inl (y 1, 8, .inl (q 0))), (h 2, .inl (y 1, 8, .inl (q 1))), (h 3, .inl (y 1, 24, .inl (q 2))), (h 4, .inl (y 1, 4, .inl (q 3)))] := by rw [trA_0]
    exact lp19 ((V 16 - 1 - k) + 1) k q (Nat.lt_succ_self _) (by omega) (by omega) (by rw [trA_0]; exact hR) _ _ (xP_eq hP hW6) (xD_eq hD hW6) hS ls (lv_sub hl [0, 1, 2, 3] rfl)
  · refine lv_ldc hx hb hown f_52 dX2_tearOut_8 ?_
    have ef := te_f (V := V) (x := x) (by first | exact bN_0.mp kc5)
    subst hQe
    exact xw_i hx hb hr hlocks q hS dX2_tearOut_10 (⟨ef.1.symm, by rw [ef.2]; exact hR⟩) (fun t ht => by rw [ht]; exact (by rw [ef.2]; exact hP))
set_option maxHeartbeats 8000000 in
set_option maxRecDepth 100000 in
theorem c_X2_reverse (l : Launch) (D : va_G) (y : Nat → ClassId) (h : Nat → Nat) (V : Nat → Nat) (q : Nat → Nat → Int32) (hR : RepC V q) (hI : Inv V) : Met l yX2_reverse wsX2_reverse ({ frames := 2, cells := 0, slots := 0, locals := 45 }) (va_Pc [.ref (h 0)] (xPw D y [(h 0, .inr (2, [.ref (h 1), .ref (h 2), .ref (h 3), .ref (h 4), .int (nI (V 16)), .int (nI (V 67)), .int (rmb V), .int (nI (V 66))])), (h 1, .inl (y 1, 8, .inl (q 0))), (h 2, .inl (y 1, 8, .inl (q 1))), (h 3, .inl (y 1, 24, .inl (q 2))), (h 4, .inl (y 1, 4, .inl (q 3)))])) (va_Qi (fun r (u : Nat → Nat → Int32) => r = reI V ∧ RepC (reV V) u) (fun (u : Nat → Nat → Int32) t => va_P D vwCl [(h 0, .inr (2, [.ref (h 1), .ref (h 2), .ref (h 3), .ref (h 4), .int (nI ((reV V) 16)), .int (nI ((reV V) 67)), .int (rmb (reV V)), .int (nI ((reV V) 66))])), (h 1, .inl (y 1, 8, .inl (u 0))), (h 2, .inl (y 1, 8, .inl (u 1))), (h 3, .inl (y 1, 24, .inl (u 2))), (h 4, .inl (y 1, 4, .inl (u 3)))] t.heap) (xIn [(h 0, .inr (2, [.ref (h 1), .ref (h 2), .ref (h 3), .ref (h 4), .int (nI (V 16)), .int (nI (V 67)), .int (rmb V), .int (nI (V 66))])), (h 1, .inl (y 1, 8, .inl (q 0))), (h 2, .inl (y 1, 8, .inl (q 1))), (h 3, .inl (y 1, 24, .inl (q 2))), (h 4, .inl (y 1, 4, .inl (q 3)))])) 0 0 (xIn [(h 0, .inr (2, [.ref (h 1), .ref (h 2), .ref (h 3), .ref (h 4), .int (nI (V 16)), .int (nI (V 67)), .int (rmb V), .int (nI (V 66))])), (h 1, .inl (y 1, 8, .inl (q 0))), (h 2, .inl (y 1, 8, .inl (q 1))), (h 3, .inl (y 1, 24, .inl (q 2))), (h 4, .inl (y 1, 4, .inl (q 3)))]) := by
  refine Met.ofW (cc := cX2_reverse) (maxL := 2) (ret := (some .int)) (by decide) rfl ?_
  intro p e s m args below meth c s₁ B hml hv
  obtain ⟨rfl, hP, hK, hD0⟩ := hv
  have hx := B.exec
  have hb := B.bytes
  have hr := B.returns
  have hts := atoms_spec (ws := wsX2_reverse) B.pre
  have hown : s.vm.findClass RX2 = some m.cls := findClass_of_methodNamed B.named
  have hlocks := B.notSynchronized
  have f_24 := hts (.fieldLink RX2 24 "LoomTunes$Register" "size" "I") (by decide +kernel)
  have f_74 := hts (.constant RX2 74 (-1000002)) (by decide +kernel)
  have hin_X2 : ∀ w ∈ wsX20, w ∈ wsX2_reverse := by decide +kernel
  have hD := xD_self hD0
  generalize hAe : xIn [(h 0, .inr (2, [.ref (h 1), .ref (h 2), .ref (h 3), .ref (h 4), .int (nI (V 16)), .int (nI (V 67)), .int (rmb V), .int (nI (V 66))])), (h 1, .inl (y 1, 8, .inl (q 0))), (h 2, .inl (y 1, 8, .inl (q 1))), (h 3, .inl (y 1, 24, .inl (q 2))), (h 4, .inl (y 1, 4, .inl (q 3)))] = A at hD ⊢
  have hS : va_S A s.heap s.heap [] := va_S.rf
  have hP : va_P D vwCl [(h 0, .inr (2, [.ref (h 1), .ref (h 2), .ref (h 3), .ref (h 4), .int (nI (V 16)), .int (nI (V 67)), .int (rmb V), .int (nI (V 66))])), (h 1, .inl (y 1, 8, .inl (q 0))), (h 2, .inl (y 1, 8, .inl (q 1))), (h 3, .inl (y 1, 24, .inl (q 2))), (h 4, .inl (y 1, 4, .inl (q 3)))] s.heap := hP
  have hl := lv_entry ([.ref (h 0)]) (n := 2) (Nat.le_of_ble_eq_true rfl)
  rw [lg_entry_eq]
  generalize (lg_sl ([.ref (h 0)]) ++ List.replicate (2 - (lg_sl ([.ref (h 0)])).length) Slot.unset).toArray = ls at hl ⊢
  have hl : lv_has ls 2 [(0, .ref (h 0))] := hl
  generalize hQe : (MQ below (va_Qi (fun r (u : Nat → Nat → Int32) => r = reI V ∧ RepC (reV V) u) (fun (u : Nat → Nat → Int32) t => va_P D vwCl [(h 0, .inr (2, [.ref (h 1), .ref (h 2), .ref (h 3), .ref (h 4), .int (nI ((reV V) 16)), .int (nI ((reV V) 67)), .int (rmb (reV V)), .int (nI ((reV V) 66))])), (h 1, .inl (y 1, 8, .inl (u 0))), (h 2, .inl (y 1, 8, .inl (u 1))), (h 3, .inl (y 1, 24, .inl (u 2))), (h 4, .inl (y 1, 4, .inl (u 3)))] t.heap) A) ([.ref (h 0)] : List Value).toArray s 0 0 A) = Q
  have hsz := hI.sz
  refine lv_aload_n hx hb dX2_reverse_0 rfl (lv_at hl 0 rfl) ?_
  refine va_get (D := D) (ci := 2) (v := .int (nI (V 16))) (C := RX2) (T := TX2) (N := 8) hx hb hts hin_X2 hown hK.1 hP 0 rfl rfl 4 (by decide) f_24 (fun _ h9 => h9) rfl dX2_reverse_1 ?_
  refine lv_iconst (v := nI 2) hx hb dX2_reverse_4 (by decide) ?_
  refine xn_icmp_ge hx hb (by omega) (by omega) (tgt := 11) dX2_reverse_5 (by decide) (fun kc5 => ?_) (fun kc5 => ?_)
  · have e1 := re_t kc5
    refine lv_iconst (v := nI 0) hx hb dX2_reverse_11 (by decide) ?_
    refine lv_istore_n (lv' := [(1, .int (nI 0)), (0, .ref (h 0))]) hx hb dX2_reverse_12 rfl hl (by decide) rfl (fun ls hl => ?_)
    have lp13 : ∀ (n : Nat) (i : Nat) (q2 : Nat → Nat → Int32), V 16 / 2 - i < n → (2 * i ≤ V 16) → (RepC (rvA V i) q2) → ∀ (H : Heap) (locs : List Loc), va_P D vwCl [(h 0, .inr (2, [.ref (h 1), .ref (h 2), .ref (h 3), .ref (h 4), .int (nI ((rvA V i) 16)), .int (nI ((rvA V i) 67)), .int (rmb (rvA V i)), .int (nI ((rvA V i) 66))])), (h 1, .inl (y 1, 8, .inl (q2 0))), (h 2, .inl (y 1, 8, .inl (q2 1))), (h 3, .inl (y 1, 24, .inl (q2 2))), (h 4, .inl (y 1, 4, .inl (q2 3)))] H → va_D A [(h 0, .inr (2, [.ref (h 1), .ref (h 2), .ref (h 3), .ref (h 4), .int (nI ((rvA V i) 16)), .int (nI ((rvA V i) 67)), .int (rmb (rvA V i)), .int (nI ((rvA V i) 66))])), (h 1, .inl (y 1, 8, .inl (q2 0))), (h 2, .inl (y 1, 8, .inl (q2 1))), (h 3, .inl (y 1, 24, .inl (q2 2))), (h 4, .inl (y 1, 4, .inl (q2 3)))] → va_S A s.heap H locs → ∀ ls : Array Slot, lv_has ls 2 [(1, .int (nI i)), (0, .ref (h 0))] → W p l e (headSpec wsX2_reverse ({ frames := 2, cells := 0, slots := 0, locals := 45 })).room s m ([.ref (h 0)] : List Value).toArray below meth c H locs 0 0 Q (F0 m 13 ls []) := by
      intro n
      induction n with
      | zero => intro i q2 hm; exact absurd hm (Nat.not_lt_zero _)
      | succ n ih13 =>
        intro i q2 hm hi hR2 H locs hP hD hS ls hl
        refine lv_iload_n hx hb dX2_reverse_13 rfl (lv_at hl 0 rfl) ?_
        have hI2 := rvA_inv hI i (by omega)
        have e16 : rvA V i 16 = V 16 := rvA_fix hsz (by omega) i (by omega)
        refine lv_aload_n hx hb dX2_reverse_14 rfl (lv_at hl 1 rfl) ?_
        refine va_get (D := D) (ci := 2) (v := .int (nI ((rvA V i) 16))) (C := RX2) (T := TX2) (N := 8) hx hb hts hin_X2 hown hK.1 hP 0 rfl rfl 4 (by decide) f_24 (fun _ h9 => h9) rfl dX2_reverse_15 ?_
        refine xv (congrArg nI (e16)) ?_
        refine lv_iconst (v := nI 2) hx hb dX2_reverse_18 (by decide) ?_
        refine xn_div hx hb (r := ((V 16) / 2)) (by omega) (by omega) (by omega) rfl dX2_reverse_19 ?_
        refine xn_icmp_ge hx hb (by omega) (by omega) (tgt := 42) dX2_reverse_20 (by decide) (fun kc20 => ?_) (fun kc20 => ?_)
        · have hi9 : i = V 16 / 2 := by omega
          refine lv_aload_n hx hb dX2_reverse_42 rfl (lv_at hl 1 rfl) ?_
          refine va_get (D := D) (ci := 2) (v := .int (nI ((rvA V i) 16))) (C := RX2) (T := TX2) (N := 8) hx hb hts hin_X2 hown hK.1 hP 0 rfl rfl 4 (by decide) f_24 (fun _ h9 => h9) rfl dX2_reverse_43 ?_
          refine xv (congrArg nI (e16)) ?_
          subst hQe
          exact xw_i hx hb hr hlocks q2 hS dX2_reverse_46 (⟨e1.1.symm, by rw [e1.2, ← hi9]; exact hR2⟩) (fun t ht => by rw [ht]; exact (by rw [e1.2, ← hi9]; exact hP))
        · refine lv_aload_n hx hb dX2_reverse_23 rfl (lv_at hl 1 rfl) ?_
          refine lv_iload_n hx hb dX2_reverse_24 rfl (lv_at hl 0 rfl) ?_
          refine lv_aload_n hx hb dX2_reverse_25 rfl (lv_at hl 1 rfl) ?_
          refine va_get (D := D) (ci := 2) (v := .int (nI ((rvA V i) 16))) (C := RX2) (T := TX2) (N := 8) hx hb hts hin_X2 hown hK.1 hP 0 rfl rfl 4 (by decide) f_24 (fun _ h9 => h9) rfl dX2_reverse_26 ?_
          refine xv (congrArg nI (e16)) ?_
          refine lv_iconst (v := nI 1) hx hb dX2_reverse_29 (by decide) ?_
          refine xn_sub hx hb (r := ((V 16) - 1)) (by omega) rfl dX2_reverse_30 ?_
          refine lv_iload_n hx hb dX2_reverse_31 rfl (lv_at hl 0 rfl) ?_
          refine xn_sub hx hb (r := (((V 16) - 1) - i)) (by omega) rfl dX2_reverse_32 ?_
          have hFc := xD_in (W0 := [(h 0, .inr (2, [.ref (h 1), .ref (h 2), .ref (h 3), .ref (h 4), .int (nI ((rvA V i) 16)), .int (nI ((rvA V i) 67)), .int (rmb (rvA V i)), .int (nI ((rvA V i) 66))])), (h 1, .inl (y 1, 8, .inl (q2 0))), (h 2, .inl (y 1, 8, .inl (q2 1))), (h 3, .inl (y 1, 24, .inl (q2 2))), (h 4, .inl (y 1, 4, .inl (q2 3)))]) hD [0, 1, 2, 3, 4] rfl
          refine va_callv (va_runV (As := [.int (nI i), .int (nI (((V 16) - 1) - i))]) (rest := []) ⟨hx, hb, hml, hown, hts⟩ (c_X2_exchangeCards l D y h (rvA V i) q2 hR2 hI2 i (((V 16) - 1) - i) (by rw [e16]; omega) (by rw [e16]; omega)) (cwV 2 hts gX2_reverse_X2_exchangeCards rfl rfl rfl hd_X2_exchangeCards ⟨Nat.le_of_ble_eq_true rfl, Nat.le_of_ble_eq_true rfl⟩) (xpv_w hK hP hD [0, 1, 2, 3, 4] 0 rfl rfl rfl rfl rfl) rfl rfl hl.1 rfl (lv_room (Nat.le_of_ble_eq_true rfl)) dX2_reverse_33 ⟨Nat.zero_le _, Nat.zero_le _⟩) hS (fun q _ h => hFc q h) hFc (fun u1 t H locs ht hvm hw1 hB hz1 hk1 hS1 => ?_)
          have hB : va_P D vwCl [(h 0, .inr (2, [.ref (h 1), .ref (h 2), .ref (h 3), .ref (h 4), .int (nI ((exc (rvA V i) i (((V 16) - 1) - i)) 16)), .int (nI ((exc (rvA V i) i (((V 16) - 1) - i)) 67)), .int (rmb (exc (rvA V i) i (((V 16) - 1) - i))), .int (nI ((exc (rvA V i) i (((V 16) - 1) - i)) 66))])), (h 1, .inl (y 1, 8, .inl (u1 0))), (h 2, .inl (y 1, 8, .inl (u1 1))), (h 3, .inl (y 1, 24, .inl (u1 2))), (h 4, .inl (y 1, 4, .inl (u1 3)))] t.heap := hB
          rw [ht] at hB
          have hw1 : RepC (exc (rvA V i) i (((V 16) - 1) - i)) u1 := hw1
          have hJ := xj_join (ws2 := [(h 0, .inr (2, [.ref (h 1), .ref (h 2), .ref (h 3), .ref (h 4), .int (nI ((exc (rvA V i) i (((V 16) - 1) - i)) 16)), .int (nI ((exc (rvA V i) i (((V 16) - 1) - i)) 67)), .int (rmb (exc (rvA V i) i (((V 16) - 1) - i))), .int (nI ((exc (rvA V i) i (((V 16) - 1) - i)) 66))])), (h 1, .inl (y 1, 8, .inl (u1 0))), (h 2, .inl (y 1, 8, .inl (u1 1))), (h 3, .inl (y 1, 24, .inl (u1 2))), (h 4, .inl (y 1, 4, .inl (u1 3)))]) hP hD [0, 1, 2, 3, 4] [] rfl rfl rfl rfl rfl rfl hk1 hB
          clear hP hD hS hB hk1 hz1 hFc hvm ht
          obtain ⟨hP, hD⟩ := hJ
          have hS := hS1
          clear hS1
          refine lv_iinc (v := nI (i + 1)) (lv' := [(1, .int (nI (i + 1))), (0, .ref (h 0))]) hx hb dX2_reverse_36 hl (k := 0) rfl (nI_add i 1) (by decide) rfl (fun ls hl => ?_)
          refine lv_goto (tgt := 13) hx hb dX2_reverse_39 (by decide) ?_
          have hW2 : ([(h 0, .inr (2, [.ref (h 1), .ref (h 2), .ref (h 3), .ref (h 4), .int (nI ((exc (rvA V i) i (((V 16) - 1) - i)) 16)), .int (nI ((exc (rvA V i) i (((V 16) - 1) - i)) 67)), .int (rmb (exc (rvA V i) i (((V 16) - 1) - i))), .int (nI ((exc (rvA V i) i (((V 16) - 1) - i)) 66))])), (h 1, .inl (y 1, 8, .inl (u1 0))), (h 2, .inl (y 1, 8, .inl (u1 1))), (h 3, .inl (y 1, 24, .inl (u1 2))), (h 4, .inl (y 1, 4, .inl (u1 3)))] : va_W) = [(h 0, .inr (2, [.ref (h 1), .ref (h 2), .ref (h 3), .ref (h 4), .int (nI ((rvA V (i + 1)) 16)), .int (nI ((rvA V (i + 1)) 67)), .int (rmb (rvA V (i + 1))), .int (nI ((rvA V (i + 1)) 66))])), (h 1, .inl (y 1, 8, .inl (u1 0))), (h 2, .inl (y 1, 8, .inl (u1 1))), (h 3, .inl (y 1, 24, .inl (u1 2))), (h 4, .inl (y 1, 4, .inl (u1 3)))] := rfl
          exact ih13 (i + 1) u1 (by omega) (by omega) (hw1) _ _ (xP_eq hP hW2) (xD_eq hD hW2) hS ls (lv_sub hl [0, 1] rfl)
    have hW3 : ([(h 0, .inr (2, [.ref (h 1), .ref (h 2), .ref (h 3), .ref (h 4), .int (nI (V 16)), .int (nI (V 67)), .int (rmb V), .int (nI (V 66))])), (h 1, .inl (y 1, 8, .inl (q 0))), (h 2, .inl (y 1, 8, .inl (q 1))), (h 3, .inl (y 1, 24, .inl (q 2))), (h 4, .inl (y 1, 4, .inl (q 3)))] : va_W) = [(h 0, .inr (2, [.ref (h 1), .ref (h 2), .ref (h 3), .ref (h 4), .int (nI ((rvA V 0) 16)), .int (nI ((rvA V 0) 67)), .int (rmb (rvA V 0)), .int (nI ((rvA V 0) 66))])), (h 1, .inl (y 1, 8, .inl (q 0))), (h 2, .inl (y 1, 8, .inl (q 1))), (h 3, .inl (y 1, 24, .inl (q 2))), (h 4, .inl (y 1, 4, .inl (q 3)))] := rfl
    exact lp13 ((V 16 / 2 - 0) + 1) 0 q (Nat.lt_succ_self _) (by omega) (hR) _ _ (xP_eq hP hW3) (xD_eq hD hW3) hS ls (lv_sub hl [0, 1] rfl)
  · refine lv_ldc hx hb hown f_74 dX2_reverse_8 ?_
    have ef := re_f kc5
    subst hQe
    exact xw_i hx hb hr hlocks q hS dX2_reverse_10 (⟨ef.1.symm, by rw [ef.2]; exact hR⟩) (fun t ht => by rw [ht]; exact (by rw [ef.2]; exact hP))
set_option maxHeartbeats 8000000 in
set_option maxRecDepth 100000 in
theorem c_X2_flip (l : Launch) (D : va_G) (y : Nat → ClassId) (h : Nat → Nat) (V : Nat → Nat) (q : Nat → Nat → Int32) (hR : RepC V q) (hI : Inv V) : Met l yX2_flip wsX2_flip ({ frames := 2, cells := 0, slots := 0, locals := 43 }) (va_Pc [.ref (h 0)] (xPw D y [(h 0, .inr (2, [.ref (h 1), .ref (h 2), .ref (h 3), .ref (h 4), .int (nI (V 16)), .int (nI (V 67)), .int (rmb V), .int (nI (V 66))])), (h 1, .inl (y 1, 8, .inl (q 0))), (h 2, .inl (y 1, 8, .inl (q 1))), (h 3, .inl (y 1, 24, .inl (q 2))), (h 4, .inl (y 1, 4, .inl (q 3)))])) (va_Qi (fun r (u : Nat → Nat → Int32) => r = flI V ∧ RepC (flV V) u) (fun (u : Nat → Nat → Int32) t => va_P D vwCl [(h 0, .inr (2, [.ref (h 1), .ref (h 2), .ref (h 3), .ref (h 4), .int (nI ((flV V) 16)), .int (nI ((flV V) 67)), .int (rmb (flV V)), .int (nI ((flV V) 66))])), (h 1, .inl (y 1, 8, .inl (u 0))), (h 2, .inl (y 1, 8, .inl (u 1))), (h 3, .inl (y 1, 24, .inl (u 2))), (h 4, .inl (y 1, 4, .inl (u 3)))] t.heap) (xIn [(h 0, .inr (2, [.ref (h 1), .ref (h 2), .ref (h 3), .ref (h 4), .int (nI (V 16)), .int (nI (V 67)), .int (rmb V), .int (nI (V 66))])), (h 1, .inl (y 1, 8, .inl (q 0))), (h 2, .inl (y 1, 8, .inl (q 1))), (h 3, .inl (y 1, 24, .inl (q 2))), (h 4, .inl (y 1, 4, .inl (q 3)))])) 0 0 (xIn [(h 0, .inr (2, [.ref (h 1), .ref (h 2), .ref (h 3), .ref (h 4), .int (nI (V 16)), .int (nI (V 67)), .int (rmb V), .int (nI (V 66))])), (h 1, .inl (y 1, 8, .inl (q 0))), (h 2, .inl (y 1, 8, .inl (q 1))), (h 3, .inl (y 1, 24, .inl (q 2))), (h 4, .inl (y 1, 4, .inl (q 3)))]) := by
  refine Met.ofW (cc := cX2_flip) (maxL := 5) (ret := (some .int)) (by decide) rfl ?_
  intro p e s m args below meth c s₁ B hml hv
  obtain ⟨rfl, hP, hK, hD0⟩ := hv
  have hx := B.exec
  have hb := B.bytes
  have hr := B.returns
  have hts := atoms_spec (ws := wsX2_flip) B.pre
  have hown : s.vm.findClass RX2 = some m.cls := findClass_of_methodNamed B.named
  have hlocks := B.notSynchronized
  have f_24 := hts (.fieldLink RX2 24 "LoomTunes$Register" "size" "I") (by decide +kernel)
  have f_74 := hts (.constant RX2 74 (-1000002)) (by decide +kernel)
  have hin_X2 : ∀ w ∈ wsX20, w ∈ wsX2_flip := by decide +kernel
  have hD := xD_self hD0
  generalize hAe : xIn [(h 0, .inr (2, [.ref (h 1), .ref (h 2), .ref (h 3), .ref (h 4), .int (nI (V 16)), .int (nI (V 67)), .int (rmb V), .int (nI (V 66))])), (h 1, .inl (y 1, 8, .inl (q 0))), (h 2, .inl (y 1, 8, .inl (q 1))), (h 3, .inl (y 1, 24, .inl (q 2))), (h 4, .inl (y 1, 4, .inl (q 3)))] = A at hD ⊢
  have hS : va_S A s.heap s.heap [] := va_S.rf
  have hP : va_P D vwCl [(h 0, .inr (2, [.ref (h 1), .ref (h 2), .ref (h 3), .ref (h 4), .int (nI (V 16)), .int (nI (V 67)), .int (rmb V), .int (nI (V 66))])), (h 1, .inl (y 1, 8, .inl (q 0))), (h 2, .inl (y 1, 8, .inl (q 1))), (h 3, .inl (y 1, 24, .inl (q 2))), (h 4, .inl (y 1, 4, .inl (q 3)))] s.heap := hP
  have hl := lv_entry ([.ref (h 0)]) (n := 5) (Nat.le_of_ble_eq_true rfl)
  rw [lg_entry_eq]
  generalize (lg_sl ([.ref (h 0)]) ++ List.replicate (5 - (lg_sl ([.ref (h 0)])).length) Slot.unset).toArray = ls at hl ⊢
  have hl : lv_has ls 5 [(0, .ref (h 0))] := hl
  generalize hQe : (MQ below (va_Qi (fun r (u : Nat → Nat → Int32) => r = flI V ∧ RepC (flV V) u) (fun (u : Nat → Nat → Int32) t => va_P D vwCl [(h 0, .inr (2, [.ref (h 1), .ref (h 2), .ref (h 3), .ref (h 4), .int (nI ((flV V) 16)), .int (nI ((flV V) 67)), .int (rmb (flV V)), .int (nI ((flV V) 66))])), (h 1, .inl (y 1, 8, .inl (u 0))), (h 2, .inl (y 1, 8, .inl (u 1))), (h 3, .inl (y 1, 24, .inl (u 2))), (h 4, .inl (y 1, 4, .inl (u 3)))] t.heap) A) ([.ref (h 0)] : List Value).toArray s 0 0 A) = Q
  have hsz := hI.sz
  refine lv_aload_n hx hb dX2_flip_0 rfl (lv_at hl 0 rfl) ?_
  refine va_get (D := D) (ci := 2) (v := .int (nI (V 16))) (C := RX2) (T := TX2) (N := 8) hx hb hts hin_X2 hown hK.1 hP 0 rfl rfl 4 (by decide) f_24 (fun _ h9 => h9) rfl dX2_flip_1 ?_
  refine xn_if_ne hx hb (by omega) (tgt := 10) dX2_flip_4 (by decide) (fun kc4 => ?_) (fun kc4 => ?_)
  · have e1 := fl_t kc4
    refine lv_iconst (v := nI 0) hx hb dX2_flip_10 (by decide) ?_
    refine lv_istore_n (lv' := [(1, .int (nI 0)), (0, .ref (h 0))]) hx hb dX2_flip_11 rfl hl (by decide) rfl (fun ls hl => ?_)
    refine lv_iconst (v := nI 0) hx hb dX2_flip_12 (by decide) ?_
    refine lv_istore_n (lv' := [(2, .int (nI 0)), (1, .int (nI 0)), (0, .ref (h 0))]) hx hb dX2_flip_13 rfl hl (by decide) rfl (fun ls hl => ?_)
    have lp14 : ∀ (n : Nat) (i : Nat) (q2 : Nat → Nat → Int32), V 16 - i < n → (i ≤ V 16) → (RepC (flA V i) q2) → ∀ (H : Heap) (locs : List Loc), va_P D vwCl [(h 0, .inr (2, [.ref (h 1), .ref (h 2), .ref (h 3), .ref (h 4), .int (nI ((flA V i) 16)), .int (nI ((flA V i) 67)), .int (rmb (flA V i)), .int (nI ((flA V i) 66))])), (h 1, .inl (y 1, 8, .inl (q2 0))), (h 2, .inl (y 1, 8, .inl (q2 1))), (h 3, .inl (y 1, 24, .inl (q2 2))), (h 4, .inl (y 1, 4, .inl (q2 3)))] H → va_D A [(h 0, .inr (2, [.ref (h 1), .ref (h 2), .ref (h 3), .ref (h 4), .int (nI ((flA V i) 16)), .int (nI ((flA V i) 67)), .int (rmb (flA V i)), .int (nI ((flA V i) 66))])), (h 1, .inl (y 1, 8, .inl (q2 0))), (h 2, .inl (y 1, 8, .inl (q2 1))), (h 3, .inl (y 1, 24, .inl (q2 2))), (h 4, .inl (y 1, 4, .inl (q2 3)))] → va_S A s.heap H locs → ∀ ls : Array Slot, lv_has ls 5 [(2, .int (nI i)), (1, .int (nI (sN (fun k => if mir (V (17 + k)) = V (17 + k) then 0 else 1) i))), (0, .ref (h 0))] → W p l e (headSpec wsX2_flip ({ frames := 2, cells := 0, slots := 0, locals := 43 })).room s m ([.ref (h 0)] : List Value).toArray below meth c H locs 0 0 Q (F0 m 14 ls []) := by
      intro n
      induction n with
      | zero => intro i q2 hm; exact absurd hm (Nat.not_lt_zero _)
      | succ n ih14 =>
        intro i q2 hm hi hR2 H locs hP hD hS ls hl
        refine lv_iload_n hx hb dX2_flip_14 rfl (lv_at hl 0 rfl) ?_
        have hI2 := flA_inv hI (i := i) (by omega)
        have e16 : flA V i 16 = V 16 := flA_fix i (by omega)
        refine lv_aload_n hx hb dX2_flip_15 rfl (lv_at hl 2 rfl) ?_
        refine va_get (D := D) (ci := 2) (v := .int (nI ((flA V i) 16))) (C := RX2) (T := TX2) (N := 8) hx hb hts hin_X2 hown hK.1 hP 0 rfl rfl 4 (by decide) f_24 (fun _ h9 => h9) rfl dX2_flip_16 ?_
        refine xv (congrArg nI (e16)) ?_
        refine xn_icmp_ge hx hb (by omega) (by omega) (tgt := 64) dX2_flip_19 (by decide) (fun kc19 => ?_) (fun kc19 => ?_)
        · have hi9 : i = V 16 := by omega
          refine lv_iload_n hx hb dX2_flip_64 rfl (lv_at hl 1 rfl) ?_
          subst hQe
          exact xw_i hx hb hr hlocks q2 hS dX2_flip_65 (⟨by rw [e1.1, hi9], by rw [e1.2, ← hi9]; exact hR2⟩) (fun t ht => by rw [ht]; exact (by rw [e1.2, ← hi9]; exact hP))
        · have ehol : hol (flA V i) i = V (17 + i) := by rw [hol, e16, if_pos kc19]; exact flA_fix i (by omega)
          have ecr : flA V i (17 + i) + 256 * flA V i (41 + i) = V (17 + i) + 256 * V (41 + i) := by rw [flA_fix i (by omega), flA_fix i (by omega)]
          have hlo := hI.ho (k := i) (by omega)
          have hlm := mir_lt hlo
          refine lv_aload_n hx hb dX2_flip_22 rfl (lv_at hl 2 rfl) ?_
          refine lv_iload_n hx hb dX2_flip_23 rfl (lv_at hl 0 rfl) ?_
          refine xc_V (As := [.int (nI i)]) (rest := []) ⟨hx, hb, hml, hown, hts⟩ (c_X2_holesAt_n l D y h (flA V i) q2 hR2 hI2 i (by omega)) (cwV 1 hts gX2_flip_X2_holesAt rfl rfl rfl hd_X2_holesAt ⟨Nat.le_of_ble_eq_true rfl, Nat.le_of_ble_eq_true rfl⟩) (xpv_r hK hP [0, 1, 2, 3, 4] 0 rfl rfl rfl) rfl hl.1 rfl (Nat.le_of_ble_eq_true rfl) dX2_flip_24 ⟨Nat.zero_le _, Nat.zero_le _⟩ (fun r1 hr1 => ?_)
          subst hr1
          refine xv (congrArg nI (ehol)) ?_
          refine lv_istore_n (lv' := [(3, .int (nI (V (17 + i)))), (2, .int (nI i)), (1, .int (nI (sN (fun k => if mir (V (17 + k)) = V (17 + k) then 0 else 1) i))), (0, .ref (h 0))]) hx hb dX2_flip_27 rfl hl (by decide) rfl (fun ls hl => ?_)
          refine lv_iload_n hx hb dX2_flip_28 rfl (lv_at hl 0 rfl) ?_
          refine xc_SN (As := [.int (nI (V (17 + i)))]) (rest := []) ⟨hx, hb, hml, hown, hts⟩ (c_X6_mirrored l (V (17 + i)) (by omega)) ⟨va_cnB 1 hts gX2_flip_X6_mirrored_n75 rfl rfl rfl hK.2.2.1 (hts (.initialized RX6) (by decide +kernel)) hd_X6_mirrored.2 ⟨Nat.le_of_ble_eq_true rfl, Nat.le_of_ble_eq_true rfl⟩, hts (.static yX6_mirrored) (by decide +kernel), trivial⟩ xps_0 rfl hl.1 rfl (Nat.le_of_ble_eq_true rfl) dX2_flip_29 ⟨Nat.zero_le _, Nat.zero_le _⟩ (fun r2 hr2 => ?_)
          subst hr2
          refine lv_istore (lv' := [(4, .int (nI (mir (V (17 + i))))), (3, .int (nI (V (17 + i)))), (2, .int (nI i)), (1, .int (nI (sN (fun k => if mir (V (17 + k)) = V (17 + k) then 0 else 1) i))), (0, .ref (h 0))]) hx hb dX2_flip_32 hl (by decide) rfl (fun ls hl => ?_)
          refine lv_iload hx hb dX2_flip_34 (lv_at hl 0 rfl) ?_
          refine lv_iload_n hx hb dX2_flip_36 rfl (lv_at hl 1 rfl) ?_
          refine xn_icmp_eq hx hb (by omega) (by omega) (tgt := 43) dX2_flip_37 (by decide) (fun kc37 => ?_) (fun kc37 => ?_)
          · refine lv_aload_n hx hb dX2_flip_43 rfl (lv_at hl 4 rfl) ?_
            refine lv_iload_n hx hb dX2_flip_44 rfl (lv_at hl 2 rfl) ?_
            refine lv_aload_n hx hb dX2_flip_45 rfl (lv_at hl 4 rfl) ?_
            refine lv_iload_n hx hb dX2_flip_46 rfl (lv_at hl 2 rfl) ?_
            refine xc_V (As := [.int (nI i)]) (rest := [.int (nI i), .ref (h 0)]) ⟨hx, hb, hml, hown, hts⟩ (c_X2_cardAt l D y h (flA V i) q2 hR2 hI2 i (by omega)) (cwV 1 hts gX2_flip_X2_cardAt rfl rfl rfl hd_X2_cardAt ⟨Nat.le_of_ble_eq_true rfl, Nat.le_of_ble_eq_true rfl⟩) (xpv_r hK hP [0, 1, 2, 3, 4] 0 rfl rfl rfl) rfl hl.1 rfl (Nat.le_of_ble_eq_true rfl) dX2_flip_47 ⟨Nat.zero_le _, Nat.zero_le _⟩ (fun r3 hr3 => ?_)
            subst hr3
            refine xv (congrArg nI (ecr)) ?_
            refine lv_iload_n hx hb dX2_flip_50 rfl (lv_at hl 1 rfl) ?_
            refine xn_sub hx hb (r := ((V (17 + i) + 256 * V (41 + i)) - (V (17 + i)))) (by omega) rfl dX2_flip_51 ?_
            refine lv_iload hx hb dX2_flip_52 (lv_at hl 0 rfl) ?_
            refine xn_add hx hb (r := (((V (17 + i) + 256 * V (41 + i)) - (V (17 + i))) + (mir (V (17 + i))))) rfl dX2_flip_54 ?_
            refine xv (congrArg nI (show V (17 + i) + 256 * V (41 + i) - V (17 + i) + mir (V (17 + i)) = mir (V (17 + i)) + 256 * V (41 + i) by omega)) ?_
            have hFc := xD_in (W0 := [(h 0, .inr (2, [.ref (h 1), .ref (h 2), .ref (h 3), .ref (h 4), .int (nI ((flA V i) 16)), .int (nI ((flA V i) 67)), .int (rmb (flA V i)), .int (nI ((flA V i) 66))])), (h 1, .inl (y 1, 8, .inl (q2 0))), (h 2, .inl (y 1, 8, .inl (q2 1))), (h 3, .inl (y 1, 24, .inl (q2 2))), (h 4, .inl (y 1, 4, .inl (q2 3)))]) hD [0, 1, 2, 3, 4] rfl
            refine va_callv (va_runV (As := [.int (nI i), .int (nI (mir (V (17 + i)) + 256 * V (41 + i)))]) (rest := []) ⟨hx, hb, hml, hown, hts⟩ (c_X2_put l D y h (flA V i) q2 i (by omega) (nI (mir (V (17 + i)) + 256 * V (41 + i)))) (cwV 2 hts gX2_flip_X2_put rfl rfl rfl hd_X2_put ⟨Nat.le_of_ble_eq_true rfl, Nat.le_of_ble_eq_true rfl⟩) (xpv_w hK hP hD [0, 1, 2, 3, 4] 0 rfl rfl rfl rfl rfl) rfl rfl hl.1 rfl (lv_room (Nat.le_of_ble_eq_true rfl)) dX2_flip_55 ⟨Nat.zero_le _, Nat.zero_le _⟩) hS (fun q _ h => hFc q h) hFc (fun u4 t H locs ht hvm hw4 hB hz1 hk1 hS1 => ?_)
            have hB : va_P D vwCl [(h 0, .inr (2, [.ref (h 1), .ref (h 2), .ref (h 3), .ref (h 4), .int (nI ((flA V i) 16)), .int (nI ((flA V i) 67)), .int (rmb (flA V i)), .int (nI ((flA V i) 66))])), (h 1, .inl (y 1, 8, .inl ((qs q2 2 (upd (q2 2) i (nI (mir (V (17 + i)) + 256 * V (41 + i))))) 0))), (h 2, .inl (y 1, 8, .inl ((qs q2 2 (upd (q2 2) i (nI (mir (V (17 + i)) + 256 * V (41 + i))))) 1))), (h 3, .inl (y 1, 24, .inl ((qs q2 2 (upd (q2 2) i (nI (mir (V (17 + i)) + 256 * V (41 + i))))) 2))), (h 4, .inl (y 1, 4, .inl ((qs q2 2 (upd (q2 2) i (nI (mir (V (17 + i)) + 256 * V (41 + i))))) 3)))] t.heap := hB
            rw [ht] at hB
            have hJ := xj_join (ws2 := [(h 0, .inr (2, [.ref (h 1), .ref (h 2), .ref (h 3), .ref (h 4), .int (nI ((flA V i) 16)), .int (nI ((flA V i) 67)), .int (rmb (flA V i)), .int (nI ((flA V i) 66))])), (h 1, .inl (y 1, 8, .inl ((qs q2 2 (upd (q2 2) i (nI (mir (V (17 + i)) + 256 * V (41 + i))))) 0))), (h 2, .inl (y 1, 8, .inl ((qs q2 2 (upd (q2 2) i (nI (mir (V (17 + i)) + 256 * V (41 + i))))) 1))), (h 3, .inl (y 1, 24, .inl ((qs q2 2 (upd (q2 2) i (nI (mir (V (17 + i)) + 256 * V (41 + i))))) 2))), (h 4, .inl (y 1, 4, .inl ((qs q2 2 (upd (q2 2) i (nI (mir (V (17 + i)) + 256 * V (41 + i))))) 3)))]) hP hD [0, 1, 2, 3, 4] [] rfl rfl rfl rfl rfl rfl hk1 hB
            clear hP hD hS hB hk1 hz1 hFc hvm ht
            obtain ⟨hP, hD⟩ := hJ
            have hS := hS1
            clear hS1
            refine lv_iinc (v := nI (i + 1)) (lv' := [(2, .int (nI (i + 1))), (4, .int (nI (mir (V (17 + i))))), (3, .int (nI (V (17 + i)))), (1, .int (nI (sN (fun k => if mir (V (17 + k)) = V (17 + k) then 0 else 1) i))), (0, .ref (h 0))]) hx hb dX2_flip_58 hl (k := 2) rfl (nI_add i 1) (by decide) rfl (fun ls hl => ?_)
            refine lv_goto (tgt := 14) hx hb dX2_flip_61 (by decide) ?_
            have e5 : (sN (fun k => if mir (V (17 + k)) = V (17 + k) then 0 else 1) i) = (sN (fun k => if mir (V (17 + k)) = V (17 + k) then 0 else 1) (i + 1)) := by rw [sN_s]; first | rw [if_neg kc37] | rw [if_pos kc37, Nat.add_zero]
            have hW6 : ([(h 0, .inr (2, [.ref (h 1), .ref (h 2), .ref (h 3), .ref (h 4), .int (nI ((flA V i) 16)), .int (nI ((flA V i) 67)), .int (rmb (flA V i)), .int (nI ((flA V i) 66))])), (h 1, .inl (y 1, 8, .inl ((qs q2 2 (upd (q2 2) i (nI (mir (V (17 + i)) + 256 * V (41 + i))))) 0))), (h 2, .inl (y 1, 8, .inl ((qs q2 2 (upd (q2 2) i (nI (mir (V (17 + i)) + 256 * V (41 + i))))) 1))), (h 3, .inl (y 1, 24, .inl ((qs q2 2 (upd (q2 2) i (nI (mir (V (17 + i)) + 256 * V (41 + i))))) 2))), (h 4, .inl (y 1, 4, .inl ((qs q2 2 (upd (q2 2) i (nI (mir (V (17 + i)) + 256 * V (41 + i))))) 3)))] : va_W) = [(h 0, .inr (2, [.ref (h 1), .ref (h 2), .ref (h 3), .ref (h 4), .int (nI ((flA V (i + 1)) 16)), .int (nI ((flA V (i + 1)) 67)), .int (rmb (flA V (i + 1))), .int (nI ((flA V (i + 1)) 66))])), (h 1, .inl (y 1, 8, .inl ((qs q2 2 (upd (q2 2) i (nI (mir (V (17 + i)) + 256 * V (41 + i))))) 0))), (h 2, .inl (y 1, 8, .inl ((qs q2 2 (upd (q2 2) i (nI (mir (V (17 + i)) + 256 * V (41 + i))))) 1))), (h 3, .inl (y 1, 24, .inl ((qs q2 2 (upd (q2 2) i (nI (mir (V (17 + i)) + 256 * V (41 + i))))) 2))), (h 4, .inl (y 1, 4, .inl ((qs q2 2 (upd (q2 2) i (nI (mir (V (17 + i)) + 256 * V (41 + i))))) 3)))] := reg_eq (q := qs q2 2 (upd (q2 2) i (nI (mir (V (17 + i)) + 256 * V (41 + i))))) ((flA_fix _ (by omega)).trans (flA_fix _ (by omega)).symm) ((flA_fix _ (by omega)).trans (flA_fix _ (by omega)).symm) ((flA_fix _ (by omega)).trans (flA_fix _ (by omega)).symm) ((flA_fix _ (by omega)).trans (flA_fix _ (by omega)).symm)
            exact ih14 (i + 1) (qs q2 2 (upd (q2 2) i (nI (mir (V (17 + i)) + 256 * V (41 + i))))) (by omega) (by omega) (fl_r hR2 hsz (by omega)) _ _ (xP_eq hP hW6) (xD_eq hD hW6) hS ls (xl_eq (b := [(2, .int (nI (i + 1))), (1, .int (nI (sN (fun k => if mir (V (17 + k)) = V (17 + k) then 0 else 1) (i + 1)))), (0, .ref (h 0))]) (lv_sub (l' := [(2, .int (nI (i + 1))), (1, .int (nI (sN (fun k => if mir (V (17 + k)) = V (17 + k) then 0 else 1) i))), (0, .ref (h 0))]) hl [0, 3, 4] rfl) (xk rfl (xk (congrArg (fun z : Nat => Value.int (nI z)) e5) (xk rfl (rfl : ([] : List (Nat × Value)) = [])))))
          · refine lv_iinc (v := nI (sN (fun k => if mir (V (17 + k)) = V (17 + k) then 0 else 1) i + 1)) (lv' := [(1, .int (nI (sN (fun k => if mir (V (17 + k)) = V (17 + k) then 0 else 1) i + 1))), (4, .int (nI (mir (V (17 + i))))), (3, .int (nI (V (17 + i)))), (2, .int (nI i)), (0, .ref (h 0))]) hx hb dX2_flip_40 hl (k := 3) rfl (nI_add (sN (fun k => if mir (V (17 + k)) = V (17 + k) then 0 else 1) i) 1) (by decide) rfl (fun ls hl => ?_)
            refine lv_aload_n hx hb dX2_flip_43 rfl (lv_at hl 4 rfl) ?_
            refine lv_iload_n hx hb dX2_flip_44 rfl (lv_at hl 3 rfl) ?_
            refine lv_aload_n hx hb dX2_flip_45 rfl (lv_at hl 4 rfl) ?_
            refine lv_iload_n hx hb dX2_flip_46 rfl (lv_at hl 3 rfl) ?_
            refine xc_V (As := [.int (nI i)]) (rest := [.int (nI i), .ref (h 0)]) ⟨hx, hb, hml, hown, hts⟩ (c_X2_cardAt l D y h (flA V i) q2 hR2 hI2 i (by omega)) (cwV 1 hts gX2_flip_X2_cardAt rfl rfl rfl hd_X2_cardAt ⟨Nat.le_of_ble_eq_true rfl, Nat.le_of_ble_eq_true rfl⟩) (xpv_r hK hP [0, 1, 2, 3, 4] 0 rfl rfl rfl) rfl hl.1 rfl (Nat.le_of_ble_eq_true rfl) dX2_flip_47 ⟨Nat.zero_le _, Nat.zero_le _⟩ (fun r7 hr7 => ?_)
            subst hr7
            refine xv (congrArg nI (ecr)) ?_
            refine lv_iload_n hx hb dX2_flip_50 rfl (lv_at hl 2 rfl) ?_
            refine xn_sub hx hb (r := ((V (17 + i) + 256 * V (41 + i)) - (V (17 + i)))) (by omega) rfl dX2_flip_51 ?_
            refine lv_iload hx hb dX2_flip_52 (lv_at hl 1 rfl) ?_
            refine xn_add hx hb (r := (((V (17 + i) + 256 * V (41 + i)) - (V (17 + i))) + (mir (V (17 + i))))) rfl dX2_flip_54 ?_
            refine xv (congrArg nI (show V (17 + i) + 256 * V (41 + i) - V (17 + i) + mir (V (17 + i)) = mir (V (17 + i)) + 256 * V (41 + i) by omega)) ?_
            have hFc := xD_in (W0 := [(h 0, .inr (2, [.ref (h 1), .ref (h 2), .ref (h 3), .ref (h 4), .int (nI ((flA V i) 16)), .int (nI ((flA V i) 67)), .int (rmb (flA V i)), .int (nI ((flA V i) 66))])), (h 1, .inl (y 1, 8, .inl (q2 0))), (h 2, .inl (y 1, 8, .inl (q2 1))), (h 3, .inl (y 1, 24, .inl (q2 2))), (h 4, .inl (y 1, 4, .inl (q2 3)))]) hD [0, 1, 2, 3, 4] rfl
            refine va_callv (va_runV (As := [.int (nI i), .int (nI (mir (V (17 + i)) + 256 * V (41 + i)))]) (rest := []) ⟨hx, hb, hml, hown, hts⟩ (c_X2_put l D y h (flA V i) q2 i (by omega) (nI (mir (V (17 + i)) + 256 * V (41 + i)))) (cwV 2 hts gX2_flip_X2_put rfl rfl rfl hd_X2_put ⟨Nat.le_of_ble_eq_true rfl, Nat.le_of_ble_eq_true rfl⟩) (xpv_w hK hP hD [0, 1, 2, 3, 4] 0 rfl rfl rfl rfl rfl) rfl rfl hl.1 rfl (lv_room (Nat.le_of_ble_eq_true rfl)) dX2_flip_55 ⟨Nat.zero_le _, Nat.zero_le _⟩) hS (fun q _ h => hFc q h) hFc (fun u8 t H locs ht hvm hw8 hB hz1 hk1 hS1 => ?_)
            have hB : va_P D vwCl [(h 0, .inr (2, [.ref (h 1), .ref (h 2), .ref (h 3), .ref (h 4), .int (nI ((flA V i) 16)), .int (nI ((flA V i) 67)), .int (rmb (flA V i)), .int (nI ((flA V i) 66))])), (h 1, .inl (y 1, 8, .inl ((qs q2 2 (upd (q2 2) i (nI (mir (V (17 + i)) + 256 * V (41 + i))))) 0))), (h 2, .inl (y 1, 8, .inl ((qs q2 2 (upd (q2 2) i (nI (mir (V (17 + i)) + 256 * V (41 + i))))) 1))), (h 3, .inl (y 1, 24, .inl ((qs q2 2 (upd (q2 2) i (nI (mir (V (17 + i)) + 256 * V (41 + i))))) 2))), (h 4, .inl (y 1, 4, .inl ((qs q2 2 (upd (q2 2) i (nI (mir (V (17 + i)) + 256 * V (41 + i))))) 3)))] t.heap := hB
            rw [ht] at hB
            have hJ := xj_join (ws2 := [(h 0, .inr (2, [.ref (h 1), .ref (h 2), .ref (h 3), .ref (h 4), .int (nI ((flA V i) 16)), .int (nI ((flA V i) 67)), .int (rmb (flA V i)), .int (nI ((flA V i) 66))])), (h 1, .inl (y 1, 8, .inl ((qs q2 2 (upd (q2 2) i (nI (mir (V (17 + i)) + 256 * V (41 + i))))) 0))), (h 2, .inl (y 1, 8, .inl ((qs q2 2 (upd (q2 2) i (nI (mir (V (17 + i)) + 256 * V (41 + i))))) 1))), (h 3, .inl (y 1, 24, .inl ((qs q2 2 (upd (q2 2) i (nI (mir (V (17 + i)) + 256 * V (41 + i))))) 2))), (h 4, .inl (y 1, 4, .inl ((qs q2 2 (upd (q2 2) i (nI (mir (V (17 + i)) + 256 * V (41 + i))))) 3)))]) hP hD [0, 1, 2, 3, 4] [] rfl rfl rfl rfl rfl rfl hk1 hB
            clear hP hD hS hB hk1 hz1 hFc hvm ht
            obtain ⟨hP, hD⟩ := hJ
            have hS := hS1
            clear hS1
            refine lv_iinc (v := nI (i + 1)) (lv' := [(2, .int (nI (i + 1))), (1, .int (nI (sN (fun k => if mir (V (17 + k)) = V (17 + k) then 0 else 1) i + 1))), (4, .int (nI (mir (V (17 + i))))), (3, .int (nI (V (17 + i)))), (0, .ref (h 0))]) hx hb dX2_flip_58 hl (k := 3) rfl (nI_add i 1) (by decide) rfl (fun ls hl => ?_)
            refine lv_goto (tgt := 14) hx hb dX2_flip_61 (by decide) ?_
            have e9 : (sN (fun k => if mir (V (17 + k)) = V (17 + k) then 0 else 1) i + 1) = (sN (fun k => if mir (V (17 + k)) = V (17 + k) then 0 else 1) (i + 1)) := by rw [sN_s]; first | rw [if_neg kc37] | rw [if_pos kc37, Nat.add_zero]
            have hW10 : ([(h 0, .inr (2, [.ref (h 1), .ref (h 2), .ref (h 3), .ref (h 4), .int (nI ((flA V i) 16)), .int (nI ((flA V i) 67)), .int (rmb (flA V i)), .int (nI ((flA V i) 66))])), (h 1, .inl (y 1, 8, .inl ((qs q2 2 (upd (q2 2) i (nI (mir (V (17 + i)) + 256 * V (41 + i))))) 0))), (h 2, .inl (y 1, 8, .inl ((qs q2 2 (upd (q2 2) i (nI (mir (V (17 + i)) + 256 * V (41 + i))))) 1))), (h 3, .inl (y 1, 24, .inl ((qs q2 2 (upd (q2 2) i (nI (mir (V (17 + i)) + 256 * V (41 + i))))) 2))), (h 4, .inl (y 1, 4, .inl ((qs q2 2 (upd (q2 2) i (nI (mir (V (17 + i)) + 256 * V (41 + i))))) 3)))] : va_W) = [(h 0, .inr (2, [.ref (h 1), .ref (h 2), .ref (h 3), .ref (h 4), .int (nI ((flA V (i + 1)) 16)), .int (nI ((flA V (i + 1)) 67)), .int (rmb (flA V (i + 1))), .int (nI ((flA V (i + 1)) 66))])), (h 1, .inl (y 1, 8, .inl ((qs q2 2 (upd (q2 2) i (nI (mir (V (17 + i)) + 256 * V (41 + i))))) 0))), (h 2, .inl (y 1, 8, .inl ((qs q2 2 (upd (q2 2) i (nI (mir (V (17 + i)) + 256 * V (41 + i))))) 1))), (h 3, .inl (y 1, 24, .inl ((qs q2 2 (upd (q2 2) i (nI (mir (V (17 + i)) + 256 * V (41 + i))))) 2))), (h 4, .inl (y 1, 4, .inl ((qs q2 2 (upd (q2 2) i (nI (mir (V (17 + i)) + 256 * V (41 + i))))) 3)))] := reg_eq (q := qs q2 2 (upd (q2 2) i (nI (mir (V (17 + i)) + 256 * V (41 + i))))) ((flA_fix _ (by omega)).trans (flA_fix _ (by omega)).symm) ((flA_fix _ (by omega)).trans (flA_fix _ (by omega)).symm) ((flA_fix _ (by omega)).trans (flA_fix _ (by omega)).symm) ((flA_fix _ (by omega)).trans (flA_fix _ (by omega)).symm)
            exact ih14 (i + 1) (qs q2 2 (upd (q2 2) i (nI (mir (V (17 + i)) + 256 * V (41 + i))))) (by omega) (by omega) (fl_r hR2 hsz (by omega)) _ _ (xP_eq hP hW10) (xD_eq hD hW10) hS ls (xl_eq (b := [(2, .int (nI (i + 1))), (1, .int (nI (sN (fun k => if mir (V (17 + k)) = V (17 + k) then 0 else 1) (i + 1)))), (0, .ref (h 0))]) (lv_sub (l' := [(2, .int (nI (i + 1))), (1, .int (nI (sN (fun k => if mir (V (17 + k)) = V (17 + k) then 0 else 1) i + 1))), (0, .ref (h 0))]) hl [0, 1, 4] rfl) (xk rfl (xk (congrArg (fun z : Nat => Value.int (nI z)) e9) (xk rfl (rfl : ([] : List (Nat × Value)) = [])))))
    have e11 : 0 = (sN (fun k => if mir (V (17 + k)) = V (17 + k) then 0 else 1) 0) := rfl
    have hW12 : ([(h 0, .inr (2, [.ref (h 1), .ref (h 2), .ref (h 3), .ref (h 4), .int (nI (V 16)), .int (nI (V 67)), .int (rmb V), .int (nI (V 66))])), (h 1, .inl (y 1, 8, .inl (q 0))), (h 2, .inl (y 1, 8, .inl (q 1))), (h 3, .inl (y 1, 24, .inl (q 2))), (h 4, .inl (y 1, 4, .inl (q 3)))] : va_W) = [(h 0, .inr (2, [.ref (h 1), .ref (h 2), .ref (h 3), .ref (h 4), .int (nI ((flA V 0) 16)), .int (nI ((flA V 0) 67)), .int (rmb (flA V 0)), .int (nI ((flA V 0) 66))])), (h 1, .inl (y 1, 8, .inl (q 0))), (h 2, .inl (y 1, 8, .inl (q 1))), (h 3, .inl (y 1, 24, .inl (q 2))), (h 4, .inl (y 1, 4, .inl (q 3)))] := rfl
    exact lp14 ((V 16 - 0) + 1) 0 q (Nat.lt_succ_self _) (by omega) (hR) _ _ (xP_eq hP hW12) (xD_eq hD hW12) hS ls (xl_eq (b := [(2, .int (nI 0)), (1, .int (nI (sN (fun k => if mir (V (17 + k)) = V (17 + k) then 0 else 1) 0))), (0, .ref (h 0))]) (lv_sub (l' := [(2, .int (nI 0)), (1, .int (nI 0)), (0, .ref (h 0))]) hl [0, 1, 2] rfl) (xk rfl (xk (congrArg (fun z : Nat => Value.int (nI z)) e11) (xk rfl (rfl : ([] : List (Nat × Value)) = [])))))
  · refine lv_ldc hx hb hown f_74 dX2_flip_7 ?_
    have ef := fl_f kc4
    subst hQe
    exact xw_i hx hb hr hlocks q hS dX2_flip_9 (⟨ef.1.symm, by rw [ef.2]; exact hR⟩) (fun t ht => by rw [ht]; exact (by rw [ef.2]; exact hP))
