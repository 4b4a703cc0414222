set_option maxHeartbeats 8000000 in
set_option maxRecDepth 100000 in
theorem c_X2_adjust (l : Launch) (D : va_G) (y : Nat → ClassId) (h : Nat → Nat) (V : Nat → Nat) (q : Nat → Nat → Int32) (hR : RepC V q) (hI : Inv V) (x z : Int32) (tl tm : Nat) : Met l yX2_adjust wsX2_adjust ({ frames := 0, cells := 0, slots := 0, locals := 0 }) (va_Pc [.ref (h 0), .int x, .int z] (xPs D y [(h 0, .inr (2, [.ref (h 1), .ref (h 2), .ref (h 3), .ref (h 4), .int (nI (V 16)), .int (nI (V 67)), .int (rmb V), .int (nI (V 66))])), (h 1, .inl (y 1, 8, .inl (q 0))), (h 2, .inl (y 1, 8, .inl (q 1))), (h 3, .inl (y 1, 24, .inl (q 2))), (h 4, .inl (y 1, 4, .inl (q 3)))] tl tm)) (va_Qi (fun r (u : Nat → Nat → Int32) => r = adI V x z ∧ RepC (adV V x z) u) (fun (u : Nat → Nat → Int32) t => va_P D vwCl [(h 0, .inr (2, [.ref (h 1), .ref (h 2), .ref (h 3), .ref (h 4), .int (nI ((adV V x z) 16)), .int (nI ((adV V x z) 67)), .int (rmb (adV V x z)), .int (nI ((adV V x z) 66))])), (h 1, .inl (y 1, 8, .inl (u 0))), (h 2, .inl (y 1, 8, .inl (u 1))), (h 3, .inl (y 1, 24, .inl (u 2))), (h 4, .inl (y 1, 4, .inl (u 3)))] t.heap) (xIn [(h 0, .inr (2, [.ref (h 1), .ref (h 2), .ref (h 3), .ref (h 4), .int (nI (V 16)), .int (nI (V 67)), .int (rmb V), .int (nI (V 66))])), (h 1, .inl (y 1, 8, .inl (q 0))), (h 2, .inl (y 1, 8, .inl (q 1))), (h 3, .inl (y 1, 24, .inl (q 2))), (h 4, .inl (y 1, 4, .inl (q 3)))])) 0 0 (xIn [(h 0, .inr (2, [.ref (h 1), .ref (h 2), .ref (h 3), .ref (h 4), .int (nI (V 16)), .int (nI (V 67)), .int (rmb V), .int (nI (V 66))])), (h 1, .inl (y 1, 8, .inl (q 0))), (h 2, .inl (y 1, 8, .inl (q 1))), (h 3, .inl (y 1, 24, .inl (q 2))), (h 4, .inl (y 1, 4, .inl (q 3)))]) := by
  refine Met.ofW (cc := cX2_adjust) (maxL := 4) (ret := (some .int)) (by decide) rfl ?_
  intro p e s m args below meth c s₁ B hml hv
  obtain ⟨rfl, hP, hK, hD0, hST⟩ := hv
  have hx := B.exec
  have hb := B.bytes
  have hr := B.returns
  have hts := atoms_spec (ws := wsX2_adjust) B.pre
  have hown : s.vm.findClass RX2 = some m.cls := findClass_of_methodNamed B.named
  have hlocks := B.notSynchronized
  have f_21 := hts (.fieldLink RX2 21 "LoomTunes$Register" "settings" "[I") (by decide +kernel)
  have f_52 := hts (.constant RX2 52 (-1000001)) (by decide +kernel)
  have hin_X2 : ∀ w ∈ wsX20, w ∈ wsX2_adjust := by decide +kernel
  have hD := xD_self hD0
  generalize hAe : xIn [(h 0, .inr (2, [.ref (h 1), .ref (h 2), .ref (h 3), .ref (h 4), .int (nI (V 16)), .int (nI (V 67)), .int (rmb V), .int (nI (V 66))])), (h 1, .inl (y 1, 8, .inl (q 0))), (h 2, .inl (y 1, 8, .inl (q 1))), (h 3, .inl (y 1, 24, .inl (q 2))), (h 4, .inl (y 1, 4, .inl (q 3)))] = A at hD hST ⊢
  have hS : va_S A s.heap s.heap [] := va_S.rf
  have hP : va_P D vwCl [(h 0, .inr (2, [.ref (h 1), .ref (h 2), .ref (h 3), .ref (h 4), .int (nI (V 16)), .int (nI (V 67)), .int (rmb V), .int (nI (V 66))])), (h 1, .inl (y 1, 8, .inl (q 0))), (h 2, .inl (y 1, 8, .inl (q 1))), (h 3, .inl (y 1, 24, .inl (q 2))), (h 4, .inl (y 1, 4, .inl (q 3)))] s.heap := hP
  have hl := lv_entry ([.ref (h 0), .int x, .int z]) (n := 4) (Nat.le_of_ble_eq_true rfl)
  rw [lg_entry_eq]
  generalize (lg_sl ([.ref (h 0), .int x, .int z]) ++ List.replicate (4 - (lg_sl ([.ref (h 0), .int x, .int z])).length) Slot.unset).toArray = ls at hl ⊢
  have hl : lv_has ls 4 [(0, .ref (h 0)), (1, .int x), (2, .int z)] := hl
  generalize hQe : (MQ below (va_Qi (fun r (u : Nat → Nat → Int32) => r = adI V x z ∧ RepC (adV V x z) u) (fun (u : Nat → Nat → Int32) t => va_P D vwCl [(h 0, .inr (2, [.ref (h 1), .ref (h 2), .ref (h 3), .ref (h 4), .int (nI ((adV V x z) 16)), .int (nI ((adV V x z) 67)), .int (rmb (adV V x z)), .int (nI ((adV V x z) 66))])), (h 1, .inl (y 1, 8, .inl (u 0))), (h 2, .inl (y 1, 8, .inl (u 1))), (h 3, .inl (y 1, 24, .inl (u 2))), (h 4, .inl (y 1, 4, .inl (u 3)))] t.heap) A) ([.ref (h 0), .int x, .int z] : List Value).toArray s 0 0 A) = Q
  obtain ⟨hZl, hZm, hTl, hTm, hNl, hNm⟩ := id hST
  have hsz := hI.sz
  refine lv_iload_n hx hb dX2_adjust_0 rfl (lv_at hl 1 rfl) ?_
  refine lv_if_lt (tgt := 29) hx hb dX2_adjust_1 (by decide) (fun kc1 => ?_) (fun kc1 => ?_)
  · refine lv_ldc hx hb hown f_52 dX2_adjust_29 ?_
    have ef := ad_f (V := V) (x := x) (z := z) (fun q9 => by first | exact q9.1.1 kc1 | exact q9.1.2 kc10)
    subst hQe
    exact xw_i hx hb hr hlocks q hS dX2_adjust_31 (⟨ef.1.symm, by rw [ef.2]; exact hR⟩) (fun t ht => by rw [ht]; exact (by rw [ef.2]; exact hP))
  · refine lv_iload_n hx hb dX2_adjust_4 rfl (lv_at hl 1 rfl) ?_
    refine lv_aload_n hx hb dX2_adjust_5 rfl (lv_at hl 0 rfl) ?_
    refine va_get (D := D) (ci := 2) (v := .ref (h 4)) (C := RX2) (T := TX2) (N := 8) hx hb hts hin_X2 hown hK.1 hP 0 rfl rfl 3 (by decide) f_21 (fun _ h9 => h9) rfl dX2_adjust_6 ?_
    refine xn_alen hx hb hK hP 4 1 rfl rfl rfl dX2_adjust_9 ?_
    refine lv_icmp_ge (tgt := 29) hx hb dX2_adjust_10 (by decide) (fun kc10 => ?_) (fun kc10 => ?_)
    · refine lv_ldc hx hb hown f_52 dX2_adjust_29 ?_
      have ef := ad_f (V := V) (x := x) (z := z) (fun q9 => by first | exact q9.1.1 kc1 | exact q9.1.2 kc10)
      subst hQe
      exact xw_i hx hb hr hlocks q hS dX2_adjust_31 (⟨ef.1.symm, by rw [ef.2]; exact hR⟩) (fun t ht => by rw [ht]; exact (by rw [ef.2]; exact hP))
    · refine lv_iload_n hx hb dX2_adjust_13 rfl (lv_at hl 1 rfl) ?_
      refine va_getsN hx hb hZl hS hown (va_Nw.use rfl hNl) (fun _ h9 => h9) dX2_adjust_14 ?_
      refine va_tlen hx hb hTl hS (v := nI 4) rfl dX2_adjust_17 ?_
      refine lv_icmp_ge (tgt := 29) hx hb dX2_adjust_18 (by decide) (fun h => absurd h (kc10)) (fun kc18 => ?_)
      refine lv_iload_n hx hb dX2_adjust_21 rfl (lv_at hl 1 rfl) ?_
      refine va_getsN hx hb hZm hS hown (va_Nw.use rfl hNm) (fun _ h9 => h9) dX2_adjust_22 ?_
      refine va_tlen hx hb hTm hS (v := nI 4) rfl dX2_adjust_25 ?_
      refine lv_icmp_lt (tgt := 32) hx hb dX2_adjust_26 (by decide) (fun kc26 => ?_) (fun h => absurd (Int32.not_le.mp kc10) h)
      obtain ⟨k, hk, rfl⟩ := inR_k (n := 4) (by decide) ⟨kc1, kc10⟩
      refine lv_iload_n hx hb dX2_adjust_32 rfl (lv_at hl 2 rfl) ?_
      refine va_getsN hx hb hZl hS hown (va_Nw.use rfl hNl) (fun _ h9 => h9) dX2_adjust_33 ?_
      refine lv_iload_n hx hb dX2_adjust_36 rfl (lv_at hl 1 rfl) ?_
      refine va_ti hx hb hTl hS (vp_in_nI (by omega) (by decide)) (v := .int (nI (adL k))) (by rw [nI_clamp (by omega)]) dX2_adjust_37 ?_
      refine lv_icmp_lt (tgt := 50) hx hb dX2_adjust_38 (by decide) (fun kc38 => ?_) (fun kc38 => ?_)
      · refine lv_ldc hx hb hown f_52 dX2_adjust_50 ?_
        have ef := ad_f (V := V) (x := nI k) (z := z) (ad_no hk (fun q9 => by first | exact q9.1 kc38 | exact q9.2 (Int32.not_le.mp kc47)))
        subst hQe
        exact xw_i hx hb hr hlocks q hS dX2_adjust_52 (⟨ef.1.symm, by rw [ef.2]; exact hR⟩) (fun t ht => by rw [ht]; exact (by rw [ef.2]; exact hP))
      · refine lv_iload_n hx hb dX2_adjust_41 rfl (lv_at hl 2 rfl) ?_
        refine va_getsN hx hb hZm hS hown (va_Nw.use rfl hNm) (fun _ h9 => h9) dX2_adjust_42 ?_
        refine lv_iload_n hx hb dX2_adjust_45 rfl (lv_at hl 1 rfl) ?_
        refine va_ti hx hb hTm hS (vp_in_nI (by omega) (by decide)) (v := .int (nI (adM k))) (by rw [nI_clamp (by omega)]) dX2_adjust_46 ?_
        refine lv_icmp_le (tgt := 53) hx hb dX2_adjust_47 (by decide) (fun kc47 => ?_) (fun kc47 => ?_)
        · obtain ⟨j, hj1, hj2, rfl⟩ := ink (a := adL k) (b := adM k) ⟨kc38, Int32.not_lt.mpr kc47⟩ (adLM k)
          have e1 := ad_t (V := V) hk hj1 hj2
          refine lv_aload_n hx hb dX2_adjust_53 rfl (lv_at hl 0 rfl) ?_
          refine va_get (D := D) (ci := 2) (v := .ref (h 4)) (C := RX2) (T := TX2) (N := 8) hx hb hts hin_X2 hown hK.1 hP 0 rfl rfl 3 (by decide) f_21 (fun _ h9 => h9) rfl dX2_adjust_54 ?_
          refine lv_iload_n hx hb dX2_adjust_57 rfl (lv_at hl 1 rfl) ?_
          refine xn_iald hx hb hK hP 4 rfl (by omega) (by first | decide | omega) (v := nI (V (68 + k))) (hR.2.2.2 k hk) dX2_adjust_58 ?_
          refine lv_istore_n (lv' := [(3, .int (nI (V (68 + k)))), (0, .ref (h 0)), (1, .int (nI k)), (2, .int (nI j))]) hx hb dX2_adjust_59 rfl hl (by decide) rfl (fun ls hl => ?_)
          refine lv_aload_n hx hb dX2_adjust_60 rfl (lv_at hl 1 rfl) ?_
          refine va_get (D := D) (ci := 2) (v := .ref (h 4)) (C := RX2) (T := TX2) (N := 8) hx hb hts hin_X2 hown hK.1 hP 0 rfl rfl 3 (by decide) f_21 (fun _ h9 => h9) rfl dX2_adjust_61 ?_
          refine lv_iload_n hx hb dX2_adjust_64 rfl (lv_at hl 2 rfl) ?_
          refine lv_iload_n hx hb dX2_adjust_65 rfl (lv_at hl 3 rfl) ?_
          refine xn_iast hx hb hK hP hD hS 4 (g := upd (q 3) k (nI j)) rfl (by omega) (by first | decide | omega) (rfl) dX2_adjust_66 (fun H locs hP1 hD1 hS1 => ?_)
          clear hP hD hS
          have hP : va_P D vwCl [(h 0, .inr (2, [.ref (h 1), .ref (h 2), .ref (h 3), .ref (h 4), .int (nI (V 16)), .int (nI (V 67)), .int (rmb V), .int (nI (V 66))])), (h 1, .inl (y 1, 8, .inl (q 0))), (h 2, .inl (y 1, 8, .inl (q 1))), (h 3, .inl (y 1, 24, .inl (q 2))), (h 4, .inl (y 1, 4, .inl (upd (q 3) k (nI j))))] H := hP1
          have hD : va_D A [(h 0, .inr (2, [.ref (h 1), .ref (h 2), .ref (h 3), .ref (h 4), .int (nI (V 16)), .int (nI (V 67)), .int (rmb V), .int (nI (V 66))])), (h 1, .inl (y 1, 8, .inl (q 0))), (h 2, .inl (y 1, 8, .inl (q 1))), (h 3, .inl (y 1, 24, .inl (q 2))), (h 4, .inl (y 1, 4, .inl (upd (q 3) k (nI j))))] := hD1
          have hS := hS1
          clear hP1 hD1 hS1
          refine lv_iload_n hx hb dX2_adjust_67 rfl (lv_at hl 0 rfl) ?_
          subst hQe
          exact xw_i hx hb hr hlocks (qs q 3 (upd (q 3) k (nI j))) hS dX2_adjust_68 (⟨e1.1.symm, by rw [e1.2]; exact adj_r hR hsz hk⟩) (fun t ht => by rw [ht]; exact (by rw [e1.2]; exact xP_eq hP (reg_eq (q := qs q 3 (upd (q 3) k (nI j))) (uN_n (by omega)).symm (uN_n (by omega)).symm (uN_n (by omega)).symm (uN_n (by omega)).symm)))
        · refine lv_ldc hx hb hown f_52 dX2_adjust_50 ?_
          have ef := ad_f (V := V) (x := nI k) (z := z) (ad_no hk (fun q9 => by first | exact q9.1 kc38 | exact q9.2 (Int32.not_le.mp kc47)))
          subst hQe
          exact xw_i hx hb hr hlocks q hS dX2_adjust_52 (⟨ef.1.symm, by rw [ef.2]; exact hR⟩) (fun t ht => by rw [ht]; exact (by rw [ef.2]; exact hP))
set_option maxHeartbeats 8000000 in
set_option maxRecDepth 100000 in
theorem c_X6_set (l : Launch) (D : va_G) (y : Nat → ClassId) (g : Nat) (tt : Nat → Nat) (gr gt gc sa : Nat) (a b n d : Nat) (ro : Nat → Option Nat) (hh : Nat → Nat → Nat) (BB : Nat → Nat → Nat) (qq : Nat → Nat → Nat → Int32) (hro : RoH d hh ro) (hn : n ≤ 4) (Bk : Nat → Nat → Nat) (hH : RepH n d BB qq Bk) (h : Nat → Nat) (V : Nat → Nat) (q : Nat → Nat → Int32) (hR : RepC V q) (hI : Inv V) (U : Nat → Nat) (z : Nat → Nat → Int32) (x w : Int32) (tl tm : Nat) : Met l yX6_set wsX6_set ({ frames := 4, cells := 0, slots := 0, locals := 86 }) (va_Pc [.ref g, .int x, .int w] (xPs D y [(g, .inr (6, [.ref (h 0), .ref (tt 0), .ref a, .ref gr, .ref gt, .ref gc, .ref sa])), (h 0, .inr (2, [.ref (h 1), .ref (h 2), .ref (h 3), .ref (h 4), .int (nI (V 16)), .int (nI (V 67)), .int (rmb V), .int (nI (V 66))])), (h 1, .inl (y 1, 8, .inl (q 0))), (h 2, .inl (y 1, 8, .inl (q 1))), (h 3, .inl (y 1, 24, .inl (q 2))), (h 4, .inl (y 1, 4, .inl (q 3))), (tt 0, .inr (2, [.ref (tt 1), .ref (tt 2), .ref (tt 3), .ref (tt 4), .int (nI (U 16)), .int (nI (U 67)), .int (rmb U), .int (nI (U 66))])), (tt 1, .inl (y 1, 8, .inl (z 0))), (tt 2, .inl (y 1, 8, .inl (z 1))), (tt 3, .inl (y 1, 24, .inl (z 2))), (tt 4, .inl (y 1, 4, .inl (z 3))), (a, .inr (1, [.ref b, .int (nI n)])), (b, .inl (y 2, 4, .inr (.inr (.inr (.inr ro))))), (hh 0 0, .inr (2, [.ref (hh 0 1), .ref (hh 0 2), .ref (hh 0 3), .ref (hh 0 4), .int (nI ((BB 0) 16)), .int (nI ((BB 0) 67)), .int (rmb (BB 0)), .int (nI ((BB 0) 66))])), (hh 0 1, .inl (y 1, 8, .inl ((qq 0) 0))), (hh 0 2, .inl (y 1, 8, .inl ((qq 0) 1))), (hh 0 3, .inl (y 1, 24, .inl ((qq 0) 2))), (hh 0 4, .inl (y 1, 4, .inl ((qq 0) 3))), (hh 1 0, .inr (2, [.ref (hh 1 1), .ref (hh 1 2), .ref (hh 1 3), .ref (hh 1 4), .int (nI ((BB 1) 16)), .int (nI ((BB 1) 67)), .int (rmb (BB 1)), .int (nI ((BB 1) 66))])), (hh 1 1, .inl (y 1, 8, .inl ((qq 1) 0))), (hh 1 2, .inl (y 1, 8, .inl ((qq 1) 1))), (hh 1 3, .inl (y 1, 24, .inl ((qq 1) 2))), (hh 1 4, .inl (y 1, 4, .inl ((qq 1) 3))), (hh 2 0, .inr (2, [.ref (hh 2 1), .ref (hh 2 2), .ref (hh 2 3), .ref (hh 2 4), .int (nI ((BB 2) 16)), .int (nI ((BB 2) 67)), .int (rmb (BB 2)), .int (nI ((BB 2) 66))])), (hh 2 1, .inl (y 1, 8, .inl ((qq 2) 0))), (hh 2 2, .inl (y 1, 8, .inl ((qq 2) 1))), (hh 2 3, .inl (y 1, 24, .inl ((qq 2) 2))), (hh 2 4, .inl (y 1, 4, .inl ((qq 2) 3))), (hh 3 0, .inr (2, [.ref (hh 3 1), .ref (hh 3 2), .ref (hh 3 3), .ref (hh 3 4), .int (nI ((BB 3) 16)), .int (nI ((BB 3) 67)), .int (rmb (BB 3)), .int (nI ((BB 3) 66))])), (hh 3 1, .inl (y 1, 8, .inl ((qq 3) 0))), (hh 3 2, .inl (y 1, 8, .inl ((qq 3) 1))), (hh 3 3, .inl (y 1, 24, .inl ((qq 3) 2))), (hh 3 4, .inl (y 1, 4, .inl ((qq 3) 3)))] tl tm)) (va_Qi (fun r (u : ((Nat × (Nat → Option Nat) × (Nat → Nat → Nat) × (Nat → Nat → Nat → Int32)) × (Nat → Nat → Int32)) × (Nat → Nat → Int32)) => r = (adI V x w) ∧ RoH u.1.1.1 hh u.1.1.2.1 ∧ RepH (stN (adI V x w) n) u.1.1.1 u.1.1.2.2.1 u.1.1.2.2.2 (stB (adI V x w) n Bk V) ∧ RepC (stV (adI V x w) V (adV V x w)) u.1.2) (fun (u : ((Nat × (Nat → Option Nat) × (Nat → Nat → Nat) × (Nat → Nat → Nat → Int32)) × (Nat → Nat → Int32)) × (Nat → Nat → Int32)) t => va_P D vwCl [(g, .inr (6, [.ref (h 0), .ref (tt 0), .ref a, .ref gr, .ref gt, .ref gc, .ref sa])), (h 0, .inr (2, [.ref (h 1), .ref (h 2), .ref (h 3), .ref (h 4), .int (nI ((stV (adI V x w) V (adV V x w)) 16)), .int (nI ((stV (adI V x w) V (adV V x w)) 67)), .int (rmb (stV (adI V x w) V (adV V x w))), .int (nI ((stV (adI V x w) V (adV V x w)) 66))])), (h 1, .inl (y 1, 8, .inl (u.1.2 0))), (h 2, .inl (y 1, 8, .inl (u.1.2 1))), (h 3, .inl (y 1, 24, .inl (u.1.2 2))), (h 4, .inl (y 1, 4, .inl (u.1.2 3))), (tt 0, .inr (2, [.ref (tt 1), .ref (tt 2), .ref (tt 3), .ref (tt 4), .int (nI ((adV V x w) 16)), .int (nI ((adV V x w) 67)), .int (rmb (adV V x w)), .int (nI ((adV V x w) 66))])), (tt 1, .inl (y 1, 8, .inl (u.2 0))), (tt 2, .inl (y 1, 8, .inl (u.2 1))), (tt 3, .inl (y 1, 24, .inl (u.2 2))), (tt 4, .inl (y 1, 4, .inl (u.2 3))), (a, .inr (1, [.ref b, .int (nI (stN (adI V x w) n))])), (b, .inl (y 2, 4, .inr (.inr (.inr (.inr u.1.1.2.1))))), (hh 0 0, .inr (2, [.ref (hh 0 1), .ref (hh 0 2), .ref (hh 0 3), .ref (hh 0 4), .int (nI ((u.1.1.2.2.1 0) 16)), .int (nI ((u.1.1.2.2.1 0) 67)), .int (rmb (u.1.1.2.2.1 0)), .int (nI ((u.1.1.2.2.1 0) 66))])), (hh 0 1, .inl (y 1, 8, .inl ((u.1.1.2.2.2 0) 0))), (hh 0 2, .inl (y 1, 8, .inl ((u.1.1.2.2.2 0) 1))), (hh 0 3, .inl (y 1, 24, .inl ((u.1.1.2.2.2 0) 2))), (hh 0 4, .inl (y 1, 4, .inl ((u.1.1.2.2.2 0) 3))), (hh 1 0, .inr (2, [.ref (hh 1 1), .ref (hh 1 2), .ref (hh 1 3), .ref (hh 1 4), .int (nI ((u.1.1.2.2.1 1) 16)), .int (nI ((u.1.1.2.2.1 1) 67)), .int (rmb (u.1.1.2.2.1 1)), .int (nI ((u.1.1.2.2.1 1) 66))])), (hh 1 1, .inl (y 1, 8, .inl ((u.1.1.2.2.2 1) 0))), (hh 1 2, .inl (y 1, 8, .inl ((u.1.1.2.2.2 1) 1))), (hh 1 3, .inl (y 1, 24, .inl ((u.1.1.2.2.2 1) 2))), (hh 1 4, .inl (y 1, 4, .inl ((u.1.1.2.2.2 1) 3))), (hh 2 0, .inr (2, [.ref (hh 2 1), .ref (hh 2 2), .ref (hh 2 3), .ref (hh 2 4), .int (nI ((u.1.1.2.2.1 2) 16)), .int (nI ((u.1.1.2.2.1 2) 67)), .int (rmb (u.1.1.2.2.1 2)), .int (nI ((u.1.1.2.2.1 2) 66))])), (hh 2 1, .inl (y 1, 8, .inl ((u.1.1.2.2.2 2) 0))), (hh 2 2, .inl (y 1, 8, .inl ((u.1.1.2.2.2 2) 1))), (hh 2 3, .inl (y 1, 24, .inl ((u.1.1.2.2.2 2) 2))), (hh 2 4, .inl (y 1, 4, .inl ((u.1.1.2.2.2 2) 3))), (hh 3 0, .inr (2, [.ref (hh 3 1), .ref (hh 3 2), .ref (hh 3 3), .ref (hh 3 4), .int (nI ((u.1.1.2.2.1 3) 16)), .int (nI ((u.1.1.2.2.1 3) 67)), .int (rmb (u.1.1.2.2.1 3)), .int (nI ((u.1.1.2.2.1 3) 66))])), (hh 3 1, .inl (y 1, 8, .inl ((u.1.1.2.2.2 3) 0))), (hh 3 2, .inl (y 1, 8, .inl ((u.1.1.2.2.2 3) 1))), (hh 3 3, .inl (y 1, 24, .inl ((u.1.1.2.2.2 3) 2))), (hh 3 4, .inl (y 1, 4, .inl ((u.1.1.2.2.2 3) 3)))] t.heap) (xIn [(g, .inr (6, [.ref (h 0), .ref (tt 0), .ref a, .ref gr, .ref gt, .ref gc, .ref sa])), (h 0, .inr (2, [.ref (h 1), .ref (h 2), .ref (h 3), .ref (h 4), .int (nI (V 16)), .int (nI (V 67)), .int (rmb V), .int (nI (V 66))])), (h 1, .inl (y 1, 8, .inl (q 0))), (h 2, .inl (y 1, 8, .inl (q 1))), (h 3, .inl (y 1, 24, .inl (q 2))), (h 4, .inl (y 1, 4, .inl (q 3))), (tt 0, .inr (2, [.ref (tt 1), .ref (tt 2), .ref (tt 3), .ref (tt 4), .int (nI (U 16)), .int (nI (U 67)), .int (rmb U), .int (nI (U 66))])), (tt 1, .inl (y 1, 8, .inl (z 0))), (tt 2, .inl (y 1, 8, .inl (z 1))), (tt 3, .inl (y 1, 24, .inl (z 2))), (tt 4, .inl (y 1, 4, .inl (z 3))), (a, .inr (1, [.ref b, .int (nI n)])), (b, .inl (y 2, 4, .inr (.inr (.inr (.inr ro))))), (hh 0 0, .inr (2, [.ref (hh 0 1), .ref (hh 0 2), .ref (hh 0 3), .ref (hh 0 4), .int (nI ((BB 0) 16)), .int (nI ((BB 0) 67)), .int (rmb (BB 0)), .int (nI ((BB 0) 66))])), (hh 0 1, .inl (y 1, 8, .inl ((qq 0) 0))), (hh 0 2, .inl (y 1, 8, .inl ((qq 0) 1))), (hh 0 3, .inl (y 1, 24, .inl ((qq 0) 2))), (hh 0 4, .inl (y 1, 4, .inl ((qq 0) 3))), (hh 1 0, .inr (2, [.ref (hh 1 1), .ref (hh 1 2), .ref (hh 1 3), .ref (hh 1 4), .int (nI ((BB 1) 16)), .int (nI ((BB 1) 67)), .int (rmb (BB 1)), .int (nI ((BB 1) 66))])), (hh 1 1, .inl (y 1, 8, .inl ((qq 1) 0))), (hh 1 2, .inl (y 1, 8, .inl ((qq 1) 1))), (hh 1 3, .inl (y 1, 24, .inl ((qq 1) 2))), (hh 1 4, .inl (y 1, 4, .inl ((qq 1) 3))), (hh 2 0, .inr (2, [.ref (hh 2 1), .ref (hh 2 2), .ref (hh 2 3), .ref (hh 2 4), .int (nI ((BB 2) 16)), .int (nI ((BB 2) 67)), .int (rmb (BB 2)), .int (nI ((BB 2) 66))])), (hh 2 1, .inl (y 1, 8, .inl ((qq 2) 0))), (hh 2 2, .inl (y 1, 8, .inl ((qq 2) 1))), (hh 2 3, .inl (y 1, 24, .inl ((qq 2) 2))), (hh 2 4, .inl (y 1, 4, .inl ((qq 2) 3))), (hh 3 0, .inr (2, [.ref (hh 3 1), .ref (hh 3 2), .ref (hh 3 3), .ref (hh 3 4), .int (nI ((BB 3) 16)), .int (nI ((BB 3) 67)), .int (rmb (BB 3)), .int (nI ((BB 3) 66))])), (hh 3 1, .inl (y 1, 8, .inl ((qq 3) 0))), (hh 3 2, .inl (y 1, 8, .inl ((qq 3) 1))), (hh 3 3, .inl (y 1, 24, .inl ((qq 3) 2))), (hh 3 4, .inl (y 1, 4, .inl ((qq 3) 3)))])) 0 0 (xIn [(g, .inr (6, [.ref (h 0), .ref (tt 0), .ref a, .ref gr, .ref gt, .ref gc, .ref sa])), (h 0, .inr (2, [.ref (h 1), .ref (h 2), .ref (h 3), .ref (h 4), .int (nI (V 16)), .int (nI (V 67)), .int (rmb V), .int (nI (V 66))])), (h 1, .inl (y 1, 8, .inl (q 0))), (h 2, .inl (y 1, 8, .inl (q 1))), (h 3, .inl (y 1, 24, .inl (q 2))), (h 4, .inl (y 1, 4, .inl (q 3))), (tt 0, .inr (2, [.ref (tt 1), .ref (tt 2), .ref (tt 3), .ref (tt 4), .int (nI (U 16)), .int (nI (U 67)), .int (rmb U), .int (nI (U 66))])), (tt 1, .inl (y 1, 8, .inl (z 0))), (tt 2, .inl (y 1, 8, .inl (z 1))), (tt 3, .inl (y 1, 24, .inl (z 2))), (tt 4, .inl (y 1, 4, .inl (z 3))), (a, .inr (1, [.ref b, .int (nI n)])), (b, .inl (y 2, 4, .inr (.inr (.inr (.inr ro))))), (hh 0 0, .inr (2, [.ref (hh 0 1), .ref (hh 0 2), .ref (hh 0 3), .ref (hh 0 4), .int (nI ((BB 0) 16)), .int (nI ((BB 0) 67)), .int (rmb (BB 0)), .int (nI ((BB 0) 66))])), (hh 0 1, .inl (y 1, 8, .inl ((qq 0) 0))), (hh 0 2, .inl (y 1, 8, .inl ((qq 0) 1))), (hh 0 3, .inl (y 1, 24, .inl ((qq 0) 2))), (hh 0 4, .inl (y 1, 4, .inl ((qq 0) 3))), (hh 1 0, .inr (2, [.ref (hh 1 1), .ref (hh 1 2), .ref (hh 1 3), .ref (hh 1 4), .int (nI ((BB 1) 16)), .int (nI ((BB 1) 67)), .int (rmb (BB 1)), .int (nI ((BB 1) 66))])), (hh 1 1, .inl (y 1, 8, .inl ((qq 1) 0))), (hh 1 2, .inl (y 1, 8, .inl ((qq 1) 1))), (hh 1 3, .inl (y 1, 24, .inl ((qq 1) 2))), (hh 1 4, .inl (y 1, 4, .inl ((qq 1) 3))), (hh 2 0, .inr (2, [.ref (hh 2 1), .ref (hh 2 2), .ref (hh 2 3), .ref (hh 2 4), .int (nI ((BB 2) 16)), .int (nI ((BB 2) 67)), .int (rmb (BB 2)), .int (nI ((BB 2) 66))])), (hh 2 1, .inl (y 1, 8, .inl ((qq 2) 0))), (hh 2 2, .inl (y 1, 8, .inl ((qq 2) 1))), (hh 2 3, .inl (y 1, 24, .inl ((qq 2) 2))), (hh 2 4, .inl (y 1, 4, .inl ((qq 2) 3))), (hh 3 0, .inr (2, [.ref (hh 3 1), .ref (hh 3 2), .ref (hh 3 3), .ref (hh 3 4), .int (nI ((BB 3) 16)), .int (nI ((BB 3) 67)), .int (rmb (BB 3)), .int (nI ((BB 3) 66))])), (hh 3 1, .inl (y 1, 8, .inl ((qq 3) 0))), (hh 3 2, .inl (y 1, 8, .inl ((qq 3) 1))), (hh 3 3, .inl (y 1, 24, .inl ((qq 3) 2))), (hh 3 4, .inl (y 1, 4, .inl ((qq 3) 3)))]) := by
  refine Met.ofW (cc := cX6_set) (maxL := 3) (ret := (some .int)) (by decide) rfl ?_
  intro p e s m args below meth c s₁ B hml hv
  obtain ⟨rfl, hP, hK, hD0, hST⟩ := hv
  have hx := B.exec
  have hb := B.bytes
  have hr := B.returns
  have hts := atoms_spec (ws := wsX6_set) B.pre
  have hown : s.vm.findClass RX6 = some m.cls := findClass_of_methodNamed B.named
  have hlocks := B.notSynchronized
  have f_10 := hts (.fieldLink RX6 10 "LoomTunes" "now" "LLoomTunes$Register;") (by decide +kernel)
  have f_16 := hts (.fieldLink RX6 16 "LoomTunes" "trial" "LLoomTunes$Register;") (by decide +kernel)
  have hin_X6 : ∀ w ∈ wsX60, w ∈ wsX6_set := by decide +kernel
  have hD := xD_self hD0
  generalize hAe : xIn [(g, .inr (6, [.ref (h 0), .ref (tt 0), .ref a, .ref gr, .ref gt, .ref gc, .ref sa])), (h 0, .inr (2, [.ref (h 1), .ref (h 2), .ref (h 3), .ref (h 4), .int (nI (V 16)), .int (nI (V 67)), .int (rmb V), .int (nI (V 66))])), (h 1, .inl (y 1, 8, .inl (q 0))), (h 2, .inl (y 1, 8, .inl (q 1))), (h 3, .inl (y 1, 24, .inl (q 2))), (h 4, .inl (y 1, 4, .inl (q 3))), (tt 0, .inr (2, [.ref (tt 1), .ref (tt 2), .ref (tt 3), .ref (tt 4), .int (nI (U 16)), .int (nI (U 67)), .int (rmb U), .int (nI (U 66))])), (tt 1, .inl (y 1, 8, .inl (z 0))), (tt 2, .inl (y 1, 8, .inl (z 1))), (tt 3, .inl (y 1, 24, .inl (z 2))), (tt 4, .inl (y 1, 4, .inl (z 3))), (a, .inr (1, [.ref b, .int (nI n)])), (b, .inl (y 2, 4, .inr (.inr (.inr (.inr ro))))), (hh 0 0, .inr (2, [.ref (hh 0 1), .ref (hh 0 2), .ref (hh 0 3), .ref (hh 0 4), .int (nI ((BB 0) 16)), .int (nI ((BB 0) 67)), .int (rmb (BB 0)), .int (nI ((BB 0) 66))])), (hh 0 1, .inl (y 1, 8, .inl ((qq 0) 0))), (hh 0 2, .inl (y 1, 8, .inl ((qq 0) 1))), (hh 0 3, .inl (y 1, 24, .inl ((qq 0) 2))), (hh 0 4, .inl (y 1, 4, .inl ((qq 0) 3))), (hh 1 0, .inr (2, [.ref (hh 1 1), .ref (hh 1 2), .ref (hh 1 3), .ref (hh 1 4), .int (nI ((BB 1) 16)), .int (nI ((BB 1) 67)), .int (rmb (BB 1)), .int (nI ((BB 1) 66))])), (hh 1 1, .inl (y 1, 8, .inl ((qq 1) 0))), (hh 1 2, .inl (y 1, 8, .inl ((qq 1) 1))), (hh 1 3, .inl (y 1, 24, .inl ((qq 1) 2))), (hh 1 4, .inl (y 1, 4, .inl ((qq 1) 3))), (hh 2 0, .inr (2, [.ref (hh 2 1), .ref (hh 2 2), .ref (hh 2 3), .ref (hh 2 4), .int (nI ((BB 2) 16)), .int (nI ((BB 2) 67)), .int (rmb (BB 2)), .int (nI ((BB 2) 66))])), (hh 2 1, .inl (y 1, 8, .inl ((qq 2) 0))), (hh 2 2, .inl (y 1, 8, .inl ((qq 2) 1))), (hh 2 3, .inl (y 1, 24, .inl ((qq 2) 2))), (hh 2 4, .inl (y 1, 4, .inl ((qq 2) 3))), (hh 3 0, .inr (2, [.ref (hh 3 1), .ref (hh 3 2), .ref (hh 3 3), .ref (hh 3 4), .int (nI ((BB 3) 16)), .int (nI ((BB 3) 67)), .int (rmb (BB 3)), .int (nI ((BB 3) 66))])), (hh 3 1, .inl (y 1, 8, .inl ((qq 3) 0))), (hh 3 2, .inl (y 1, 8, .inl ((qq 3) 1))), (hh 3 3, .inl (y 1, 24, .inl ((qq 3) 2))), (hh 3 4, .inl (y 1, 4, .inl ((qq 3) 3)))] = A at hD hST ⊢
  have hS : va_S A s.heap s.heap [] := va_S.rf
  have hP : va_P D vwCl [(g, .inr (6, [.ref (h 0), .ref (tt 0), .ref a, .ref gr, .ref gt, .ref gc, .ref sa])), (h 0, .inr (2, [.ref (h 1), .ref (h 2), .ref (h 3), .ref (h 4), .int (nI (V 16)), .int (nI (V 67)), .int (rmb V), .int (nI (V 66))])), (h 1, .inl (y 1, 8, .inl (q 0))), (h 2, .inl (y 1, 8, .inl (q 1))), (h 3, .inl (y 1, 24, .inl (q 2))), (h 4, .inl (y 1, 4, .inl (q 3))), (tt 0, .inr (2, [.ref (tt 1), .ref (tt 2), .ref (tt 3), .ref (tt 4), .int (nI (U 16)), .int (nI (U 67)), .int (rmb U), .int (nI (U 66))])), (tt 1, .inl (y 1, 8, .inl (z 0))), (tt 2, .inl (y 1, 8, .inl (z 1))), (tt 3, .inl (y 1, 24, .inl (z 2))), (tt 4, .inl (y 1, 4, .inl (z 3))), (a, .inr (1, [.ref b, .int (nI n)])), (b, .inl (y 2, 4, .inr (.inr (.inr (.inr ro))))), (hh 0 0, .inr (2, [.ref (hh 0 1), .ref (hh 0 2), .ref (hh 0 3), .ref (hh 0 4), .int (nI ((BB 0) 16)), .int (nI ((BB 0) 67)), .int (rmb (BB 0)), .int (nI ((BB 0) 66))])), (hh 0 1, .inl (y 1, 8, .inl ((qq 0) 0))), (hh 0 2, .inl (y 1, 8, .inl ((qq 0) 1))), (hh 0 3, .inl (y 1, 24, .inl ((qq 0) 2))), (hh 0 4, .inl (y 1, 4, .inl ((qq 0) 3))), (hh 1 0, .inr (2, [.ref (hh 1 1), .ref (hh 1 2), .ref (hh 1 3), .ref (hh 1 4), .int (nI ((BB 1) 16)), .int (nI ((BB 1) 67)), .int (rmb (BB 1)), .int (nI ((BB 1) 66))])), (hh 1 1, .inl (y 1, 8, .inl ((qq 1) 0))), (hh 1 2, .inl (y 1, 8, .inl ((qq 1) 1))), (hh 1 3, .inl (y 1, 24, .inl ((qq 1) 2))), (hh 1 4, .inl (y 1, 4, .inl ((qq 1) 3))), (hh 2 0, .inr (2, [.ref (hh 2 1), .ref (hh 2 2), .ref (hh 2 3), .ref (hh 2 4), .int (nI ((BB 2) 16)), .int (nI ((BB 2) 67)), .int (rmb (BB 2)), .int (nI ((BB 2) 66))])), (hh 2 1, .inl (y 1, 8, .inl ((qq 2) 0))), (hh 2 2, .inl (y 1, 8, .inl ((qq 2) 1))), (hh 2 3, .inl (y 1, 24, .inl ((qq 2) 2))), (hh 2 4, .inl (y 1, 4, .inl ((qq 2) 3))), (hh 3 0, .inr (2, [.ref (hh 3 1), .ref (hh 3 2), .ref (hh 3 3), .ref (hh 3 4), .int (nI ((BB 3) 16)), .int (nI ((BB 3) 67)), .int (rmb (BB 3)), .int (nI ((BB 3) 66))])), (hh 3 1, .inl (y 1, 8, .inl ((qq 3) 0))), (hh 3 2, .inl (y 1, 8, .inl ((qq 3) 1))), (hh 3 3, .inl (y 1, 24, .inl ((qq 3) 2))), (hh 3 4, .inl (y 1, 4, .inl ((qq 3) 3)))] s.heap := hP
  have hl := lv_entry ([.ref g, .int x, .int w]) (n := 3) (Nat.le_of_ble_eq_true rfl)
  rw [lg_entry_eq]
  generalize (lg_sl ([.ref g, .int x, .int w]) ++ List.replicate (3 - (lg_sl ([.ref g, .int x, .int w])).length) Slot.unset).toArray = ls at hl ⊢
  have hl : lv_has ls 3 [(0, .ref g), (1, .int x), (2, .int w)] := hl
  generalize hQe : (MQ below (va_Qi (fun r (u : ((Nat × (Nat → Option Nat) × (Nat → Nat → Nat) × (Nat → Nat → Nat → Int32)) × (Nat → Nat → Int32)) × (Nat → Nat → Int32)) => r = (adI V x w) ∧ RoH u.1.1.1 hh u.1.1.2.1 ∧ RepH (stN (adI V x w) n) u.1.1.1 u.1.1.2.2.1 u.1.1.2.2.2 (stB (adI V x w) n Bk V) ∧ RepC (stV (adI V x w) V (adV V x w)) u.1.2) (fun (u : ((Nat × (Nat → Option Nat) × (Nat → Nat → Nat) × (Nat → Nat → Nat → Int32)) × (Nat → Nat → Int32)) × (Nat → Nat → Int32)) t => va_P D vwCl [(g, .inr (6, [.ref (h 0), .ref (tt 0), .ref a, .ref gr, .ref gt, .ref gc, .ref sa])), (h 0, .inr (2, [.ref (h 1), .ref (h 2), .ref (h 3), .ref (h 4), .int (nI ((stV (adI V x w) V (adV V x w)) 16)), .int (nI ((stV (adI V x w) V (adV V x w)) 67)), .int (rmb (stV (adI V x w) V (adV V x w))), .int (nI ((stV (adI V x w) V (adV V x w)) 66))])), (h 1, .inl (y 1, 8, .inl (u.1.2 0))), (h 2, .inl (y 1, 8, .inl (u.1.2 1))), (h 3, .inl (y 1, 24, .inl (u.1.2 2))), (h 4, .inl (y 1, 4, .inl (u.1.2 3))), (tt 0, .inr (2, [.ref (tt 1), .ref (tt 2), .ref (tt 3), .ref (tt 4), .int (nI ((adV V x w) 16)), .int (nI ((adV V x w) 67)), .int (rmb (adV V x w)), .int (nI ((adV V x w) 66))])), (tt 1, .inl (y 1, 8, .inl (u.2 0))), (tt 2, .inl (y 1, 8, .inl (u.2 1))), (tt 3, .inl (y 1, 24, .inl (u.2 2))), (tt 4, .inl (y 1, 4, .inl (u.2 3))), (a, .inr (1, [.ref b, .int (nI (stN (adI V x w) n))])), (b, .inl (y 2, 4, .inr (.inr (.inr (.inr u.1.1.2.1))))), (hh 0 0, .inr (2, [.ref (hh 0 1), .ref (hh 0 2), .ref (hh 0 3), .ref (hh 0 4), .int (nI ((u.1.1.2.2.1 0) 16)), .int (nI ((u.1.1.2.2.1 0) 67)), .int (rmb (u.1.1.2.2.1 0)), .int (nI ((u.1.1.2.2.1 0) 66))])), (hh 0 1, .inl (y 1, 8, .inl ((u.1.1.2.2.2 0) 0))), (hh 0 2, .inl (y 1, 8, .inl ((u.1.1.2.2.2 0) 1))), (hh 0 3, .inl (y 1, 24, .inl ((u.1.1.2.2.2 0) 2))), (hh 0 4, .inl (y 1, 4, .inl ((u.1.1.2.2.2 0) 3))), (hh 1 0, .inr (2, [.ref (hh 1 1), .ref (hh 1 2), .ref (hh 1 3), .ref (hh 1 4), .int (nI ((u.1.1.2.2.1 1) 16)), .int (nI ((u.1.1.2.2.1 1) 67)), .int (rmb (u.1.1.2.2.1 1)), .int (nI ((u.1.1.2.2.1 1) 66))])), (hh 1 1, .inl (y 1, 8, .inl ((u.1.1.2.2.2 1) 0))), (hh 1 2, .inl (y 1, 8, .inl ((u.1.1.2.2.2 1) 1))), (hh 1 3, .inl (y 1, 24, .inl ((u.1.1.2.2.2 1) 2))), (hh 1 4, .inl (y 1, 4, .inl ((u.1.1.2.2.2 1) 3))), (hh 2 0, .inr (2, [.ref (hh 2 1), .ref (hh 2 2), .ref (hh 2 3), .ref (hh 2 4), .int (nI ((u.1.1.2.2.1 2) 16)), .int (nI ((u.1.1.2.2.1 2) 67)), .int (rmb (u.1.1.2.2.1 2)), .int (nI ((u.1.1.2.2.1 2) 66))])), (hh 2 1, .inl (y 1, 8, .inl ((u.1.1.2.2.2 2) 0))), (hh 2 2, .inl (y 1, 8, .inl ((u.1.1.2.2.2 2) 1))), (hh 2 3, .inl (y 1, 24, .inl ((u.1.1.2.2.2 2) 2))), (hh 2 4, .inl (y 1, 4, .inl ((u.1.1.2.2.2 2) 3))), (hh 3 0, .inr (2, [.ref (hh 3 1), .ref (hh 3 2), .ref (hh 3 3), .ref (hh 3 4), .int (nI ((u.1.1.2.2.1 3) 16)), .int (nI ((u.1.1.2.2.1 3) 67)), .int (rmb (u.1.1.2.2.1 3)), .int (nI ((u.1.1.2.2.1 3) 66))])), (hh 3 1, .inl (y 1, 8, .inl ((u.1.1.2.2.2 3) 0))), (hh 3 2, .inl (y 1, 8, .inl ((u.1.1.2.2.2 3) 1))), (hh 3 3, .inl (y 1, 24, .inl ((u.1.1.2.2.2 3) 2))), (hh 3 4, .inl (y 1, 4, .inl ((u.1.1.2.2.2 3) 3)))] t.heap) A) ([.ref g, .int x, .int w] : List Value).toArray s 0 0 A) = Q
  obtain ⟨hZl, hZm, hTl, hTm, hNl, hNm⟩ := id hST
  generalize hcz1 : ((a, .inr (1, [.ref b, .int (nI n)])) : Nat × va_E) = cz1 at hP hD
  generalize hcz2 : ((b, .inl (y 2, 4, .inr (.inr (.inr (.inr ro))))) : Nat × va_E) = cz2 at hP hD
  generalize hcz3 : ((hh 0 0, .inr (2, [.ref (hh 0 1), .ref (hh 0 2), .ref (hh 0 3), .ref (hh 0 4), .int (nI ((BB 0) 16)), .int (nI ((BB 0) 67)), .int (rmb (BB 0)), .int (nI ((BB 0) 66))])) : Nat × va_E) = cz3 at hP hD
  generalize hcz4 : ((hh 0 1, .inl (y 1, 8, .inl ((qq 0) 0))) : Nat × va_E) = cz4 at hP hD
  generalize hcz5 : ((hh 0 2, .inl (y 1, 8, .inl ((qq 0) 1))) : Nat × va_E) = cz5 at hP hD
  generalize hcz6 : ((hh 0 3, .inl (y 1, 24, .inl ((qq 0) 2))) : Nat × va_E) = cz6 at hP hD
  generalize hcz7 : ((hh 0 4, .inl (y 1, 4, .inl ((qq 0) 3))) : Nat × va_E) = cz7 at hP hD
  generalize hcz8 : ((hh 1 0, .inr (2, [.ref (hh 1 1), .ref (hh 1 2), .ref (hh 1 3), .ref (hh 1 4), .int (nI ((BB 1) 16)), .int (nI ((BB 1) 67)), .int (rmb (BB 1)), .int (nI ((BB 1) 66))])) : Nat × va_E) = cz8 at hP hD
  generalize hcz9 : ((hh 1 1, .inl (y 1, 8, .inl ((qq 1) 0))) : Nat × va_E) = cz9 at hP hD
  generalize hcz10 : ((hh 1 2, .inl (y 1, 8, .inl ((qq 1) 1))) : Nat × va_E) = cz10 at hP hD
  generalize hcz11 : ((hh 1 3, .inl (y 1, 24, .inl ((qq 1) 2))) : Nat × va_E) = cz11 at hP hD
  generalize hcz12 : ((hh 1 4, .inl (y 1, 4, .inl ((qq 1) 3))) : Nat × va_E) = cz12 at hP hD
  generalize hcz13 : ((hh 2 0, .inr (2, [.ref (hh 2 1), .ref (hh 2 2), .ref (hh 2 3), .ref (hh 2 4), .int (nI ((BB 2) 16)), .int (nI ((BB 2) 67)), .int (rmb (BB 2)), .int (nI ((BB 2) 66))])) : Nat × va_E) = cz13 at hP hD
  generalize hcz14 : ((hh 2 1, .inl (y 1, 8, .inl ((qq 2) 0))) : Nat × va_E) = cz14 at hP hD
  generalize hcz15 : ((hh 2 2, .inl (y 1, 8, .inl ((qq 2) 1))) : Nat × va_E) = cz15 at hP hD
  generalize hcz16 : ((hh 2 3, .inl (y 1, 24, .inl ((qq 2) 2))) : Nat × va_E) = cz16 at hP hD
  generalize hcz17 : ((hh 2 4, .inl (y 1, 4, .inl ((qq 2) 3))) : Nat × va_E) = cz17 at hP hD
  generalize hcz18 : ((hh 3 0, .inr (2, [.ref (hh 3 1), .ref (hh 3 2), .ref (hh 3 3), .ref (hh 3 4), .int (nI ((BB 3) 16)), .int (nI ((BB 3) 67)), .int (rmb (BB 3)), .int (nI ((BB 3) 66))])) : Nat × va_E) = cz18 at hP hD
  generalize hcz19 : ((hh 3 1, .inl (y 1, 8, .inl ((qq 3) 0))) : Nat × va_E) = cz19 at hP hD
  generalize hcz20 : ((hh 3 2, .inl (y 1, 8, .inl ((qq 3) 1))) : Nat × va_E) = cz20 at hP hD
  generalize hcz21 : ((hh 3 3, .inl (y 1, 24, .inl ((qq 3) 2))) : Nat × va_E) = cz21 at hP hD
  generalize hcz22 : ((hh 3 4, .inl (y 1, 4, .inl ((qq 3) 3))) : Nat × va_E) = cz22 at hP hD
  refine lv_aload_n hx hb dX6_set_0 rfl (lv_at hl 0 rfl) ?_
  refine va_get (D := D) (ci := 6) (v := .ref (tt 0)) (C := RX6) (T := TX6) (N := 7) hx hb hts hin_X6 hown hK.1 hP 0 rfl rfl 1 (by decide) f_16 (fun _ h9 => h9) rfl dX6_set_1 ?_
  refine lv_aload_n hx hb dX6_set_4 rfl (lv_at hl 0 rfl) ?_
  refine va_get (D := D) (ci := 6) (v := .ref (h 0)) (C := RX6) (T := TX6) (N := 7) hx hb hts hin_X6 hown hK.1 hP 0 rfl rfl 0 (by decide) f_10 (fun _ h9 => h9) rfl dX6_set_5 ?_
  have hFc := xD_in (W0 := [(tt 0, .inr (2, [.ref (tt 1), .ref (tt 2), .ref (tt 3), .ref (tt 4), .int (nI (U 16)), .int (nI (U 67)), .int (rmb U), .int (nI (U 66))])), (tt 1, .inl (y 1, 8, .inl (z 0))), (tt 2, .inl (y 1, 8, .inl (z 1))), (tt 3, .inl (y 1, 24, .inl (z 2))), (tt 4, .inl (y 1, 4, .inl (z 3))), (h 0, .inr (2, [.ref (h 1), .ref (h 2), .ref (h 3), .ref (h 4), .int (nI (V 16)), .int (nI (V 67)), .int (rmb V), .int (nI (V 66))])), (h 1, .inl (y 1, 8, .inl (q 0))), (h 2, .inl (y 1, 8, .inl (q 1))), (h 3, .inl (y 1, 24, .inl (q 2))), (h 4, .inl (y 1, 4, .inl (q 3)))]) hD [6, 7, 8, 9, 10, 1, 2, 3, 4, 5] rfl
  refine va_callv (va_runV (As := [.ref (h 0)]) (rest := []) ⟨hx, hb, hml, hown, hts⟩ (c_X2_copyFrom l D y tt U z h V q hR (hI.sz)) (cwV 1 hts gX6_set_X2_copyFrom rfl rfl rfl hd_X2_copyFrom ⟨Nat.le_of_ble_eq_true rfl, Nat.le_of_ble_eq_true rfl⟩) (xpv_w hK hP hD [6, 7, 8, 9, 10, 1, 2, 3, 4, 5] 6 rfl rfl rfl rfl rfl) rfl rfl hl.1 rfl (lv_room (Nat.le_of_ble_eq_true rfl)) dX6_set_8 ⟨Nat.zero_le _, Nat.zero_le _⟩) hS (fun q _ h => hFc q h) hFc (fun u1 t H locs ht hvm hw1 hB hz1 hk1 hS1 => ?_)
  have hB : va_P D vwCl [(tt 0, .inr (2, [.ref (tt 1), .ref (tt 2), .ref (tt 3), .ref (tt 4), .int (nI (V 16)), .int (nI (V 67)), .int (rmb V), .int (nI (V 66))])), (tt 1, .inl (y 1, 8, .inl (u1 0))), (tt 2, .inl (y 1, 8, .inl (u1 1))), (tt 3, .inl (y 1, 24, .inl (u1 2))), (tt 4, .inl (y 1, 4, .inl (u1 3))), (h 0, .inr (2, [.ref (h 1), .ref (h 2), .ref (h 3), .ref (h 4), .int (nI (V 16)), .int (nI (V 67)), .int (rmb V), .int (nI (V 66))])), (h 1, .inl (y 1, 8, .inl (q 0))), (h 2, .inl (y 1, 8, .inl (q 1))), (h 3, .inl (y 1, 24, .inl (q 2))), (h 4, .inl (y 1, 4, .inl (q 3)))] t.heap := hB
  rw [ht] at hB
  have hw1 : RepC V u1 := hw1
  have hJ := xj_join2 (ws2 := [(g, .inr (6, [.ref (h 0), .ref (tt 0), .ref a, .ref gr, .ref gt, .ref gc, .ref sa])), (h 0, .inr (2, [.ref (h 1), .ref (h 2), .ref (h 3), .ref (h 4), .int (nI (V 16)), .int (nI (V 67)), .int (rmb V), .int (nI (V 66))])), (h 1, .inl (y 1, 8, .inl (q 0))), (h 2, .inl (y 1, 8, .inl (q 1))), (h 3, .inl (y 1, 24, .inl (q 2))), (h 4, .inl (y 1, 4, .inl (q 3))), (tt 0, .inr (2, [.ref (tt 1), .ref (tt 2), .ref (tt 3), .ref (tt 4), .int (nI (V 16)), .int (nI (V 67)), .int (rmb V), .int (nI (V 66))])), (tt 1, .inl (y 1, 8, .inl (u1 0))), (tt 2, .inl (y 1, 8, .inl (u1 1))), (tt 3, .inl (y 1, 24, .inl (u1 2))), (tt 4, .inl (y 1, 4, .inl (u1 3))), cz1, cz2, cz3, cz4, cz5, cz6, cz7, cz8, cz9, cz10, cz11, cz12, cz13, cz14, cz15, cz16, cz17, cz18, cz19, cz20, cz21, cz22]) hP hD [6, 7, 8, 9, 10, 1, 2, 3, 4, 5] [0, 11, 12, 13, 14, 15, 16, 17, 18, 19, 20, 21, 22, 23, 24, 25, 26, 27, 28, 29, 30, 31, 32] [(g, .inr (6, [.ref (h 0), .ref (tt 0), .ref a, .ref gr, .ref gt, .ref gc, .ref sa])), cz1, cz2, cz3, cz4, cz5, cz6, cz7, cz8, cz9, cz10, cz11, cz12, cz13, cz14, cz15, cz16, cz17, cz18, cz19, cz20, cz21, cz22] [g, h 0, h 1, h 2, h 3, h 4, tt 0, tt 1, tt 2, tt 3, tt 4, cz1.1, cz2.1, cz3.1, cz4.1, cz5.1, cz6.1, cz7.1, cz8.1, cz9.1, cz10.1, cz11.1, cz12.1, cz13.1, cz14.1, cz15.1, cz16.1, cz17.1, cz18.1, cz19.1, cz20.1, cz21.1, cz22.1] rfl rfl rfl rfl rfl rfl rfl rfl hk1 hB
  clear hP hD hS hB hk1 hz1 hFc hvm ht
  obtain ⟨hP, hD⟩ := hJ
  have hS := hS1
  clear hS1
  refine lv_aload_n hx hb dX6_set_11 rfl (lv_at hl 0 rfl) ?_
  refine lv_aload_n hx hb dX6_set_12 rfl (lv_at hl 0 rfl) ?_
  refine va_get (D := D) (ci := 6) (v := .ref (tt 0)) (C := RX6) (T := TX6) (N := 7) hx hb hts hin_X6 hown hK.1 hP 0 rfl rfl 1 (by decide) f_16 (fun _ h9 => h9) rfl dX6_set_13 ?_
  refine lv_iload_n hx hb dX6_set_16 rfl (lv_at hl 1 rfl) ?_
  refine lv_iload_n hx hb dX6_set_17 rfl (lv_at hl 2 rfl) ?_
  have hFc := xD_in (W0 := [(tt 0, .inr (2, [.ref (tt 1), .ref (tt 2), .ref (tt 3), .ref (tt 4), .int (nI (V 16)), .int (nI (V 67)), .int (rmb V), .int (nI (V 66))])), (tt 1, .inl (y 1, 8, .inl (u1 0))), (tt 2, .inl (y 1, 8, .inl (u1 1))), (tt 3, .inl (y 1, 24, .inl (u1 2))), (tt 4, .inl (y 1, 4, .inl (u1 3)))]) hD [6, 7, 8, 9, 10] rfl
  refine va_calli (va_runV (As := [.int x, .int w]) (rest := [.ref g]) ⟨hx, hb, hml, hown, hts⟩ (c_X2_adjust l D y tt V u1 hw1 hI x w tl tm) (cwV 2 hts gX6_set_X2_adjust rfl rfl rfl hd_X2_adjust ⟨Nat.le_of_ble_eq_true rfl, Nat.le_of_ble_eq_true rfl⟩) (xpv_s hK hP hD hST hS hFc [6, 7, 8, 9, 10] 6 rfl rfl rfl rfl rfl) rfl rfl hl.1 rfl (lv_room (Nat.le_of_ble_eq_true rfl)) dX6_set_18 ⟨Nat.zero_le _, Nat.zero_le _⟩) hS (fun q _ h => hFc q h) hFc (fun r2 u2 t H locs ht hvm hw2 hB hz1 hk1 hS1 => ?_)
  have hB : va_P D vwCl [(tt 0, .inr (2, [.ref (tt 1), .ref (tt 2), .ref (tt 3), .ref (tt 4), .int (nI ((adV V x w) 16)), .int (nI ((adV V x w) 67)), .int (rmb (adV V x w)), .int (nI ((adV V x w) 66))])), (tt 1, .inl (y 1, 8, .inl (u2 0))), (tt 2, .inl (y 1, 8, .inl (u2 1))), (tt 3, .inl (y 1, 24, .inl (u2 2))), (tt 4, .inl (y 1, 4, .inl (u2 3)))] t.heap := hB
  rw [ht] at hB
  have hw2 : r2 = adI V x w ∧ RepC (adV V x w) u2 := hw2
  have hJ := xj_join2 (ws2 := [(g, .inr (6, [.ref (h 0), .ref (tt 0), .ref a, .ref gr, .ref gt, .ref gc, .ref sa])), (h 0, .inr (2, [.ref (h 1), .ref (h 2), .ref (h 3), .ref (h 4), .int (nI (V 16)), .int (nI (V 67)), .int (rmb V), .int (nI (V 66))])), (h 1, .inl (y 1, 8, .inl (q 0))), (h 2, .inl (y 1, 8, .inl (q 1))), (h 3, .inl (y 1, 24, .inl (q 2))), (h 4, .inl (y 1, 4, .inl (q 3))), (tt 0, .inr (2, [.ref (tt 1), .ref (tt 2), .ref (tt 3), .ref (tt 4), .int (nI ((adV V x w) 16)), .int (nI ((adV V x w) 67)), .int (rmb (adV V x w)), .int (nI ((adV V x w) 66))])), (tt 1, .inl (y 1, 8, .inl (u2 0))), (tt 2, .inl (y 1, 8, .inl (u2 1))), (tt 3, .inl (y 1, 24, .inl (u2 2))), (tt 4, .inl (y 1, 4, .inl (u2 3))), cz1, cz2, cz3, cz4, cz5, cz6, cz7, cz8, cz9, cz10, cz11, cz12, cz13, cz14, cz15, cz16, cz17, cz18, cz19, cz20, cz21, cz22]) hP hD [6, 7, 8, 9, 10] [0, 1, 2, 3, 4, 5, 11, 12, 13, 14, 15, 16, 17, 18, 19, 20, 21, 22, 23, 24, 25, 26, 27, 28, 29, 30, 31, 32] [(g, .inr (6, [.ref (h 0), .ref (tt 0), .ref a, .ref gr, .ref gt, .ref gc, .ref sa])), (h 0, .inr (2, [.ref (h 1), .ref (h 2), .ref (h 3), .ref (h 4), .int (nI (V 16)), .int (nI (V 67)), .int (rmb V), .int (nI (V 66))])), (h 1, .inl (y 1, 8, .inl (q 0))), (h 2, .inl (y 1, 8, .inl (q 1))), (h 3, .inl (y 1, 24, .inl (q 2))), (h 4, .inl (y 1, 4, .inl (q 3))), cz1, cz2, cz3, cz4, cz5, cz6, cz7, cz8, cz9, cz10, cz11, cz12, cz13, cz14, cz15, cz16, cz17, cz18, cz19, cz20, cz21, cz22] [g, h 0, h 1, h 2, h 3, h 4, tt 0, tt 1, tt 2, tt 3, tt 4, cz1.1, cz2.1, cz3.1, cz4.1, cz5.1, cz6.1, cz7.1, cz8.1, cz9.1, cz10.1, cz11.1, cz12.1, cz13.1, cz14.1, cz15.1, cz16.1, cz17.1, cz18.1, cz19.1, cz20.1, cz21.1, cz22.1] rfl rfl rfl rfl rfl rfl rfl rfl hk1 hB
  clear hP hD hS hB hk1 hz1 hFc hvm ht
  obtain ⟨hP, hD⟩ := hJ
  have hS := hS1
  clear hS1
  obtain ⟨hr2, hRu2⟩ := hw2
  subst hr2
  have hIu2 : Inv (adV V x w) := ad_inv hI x w
  subst hcz1 hcz2 hcz3 hcz4 hcz5 hcz6 hcz7 hcz8 hcz9 hcz10 hcz11 hcz12 hcz13 hcz14 hcz15 hcz16 hcz17 hcz18 hcz19 hcz20 hcz21 hcz22
  have hFc := xD_in (W0 := [(g, .inr (6, [.ref (h 0), .ref (tt 0), .ref a, .ref gr, .ref gt, .ref gc, .ref sa])), (h 0, .inr (2, [.ref (h 1), .ref (h 2), .ref (h 3), .ref (h 4), .int (nI (V 16)), .int (nI (V 67)), .int (rmb V), .int (nI (V 66))])), (h 1, .inl (y 1, 8, .inl (q 0))), (h 2, .inl (y 1, 8, .inl (q 1))), (h 3, .inl (y 1, 24, .inl (q 2))), (h 4, .inl (y 1, 4, .inl (q 3))), (tt 0, .inr (2, [.ref (tt 1), .ref (tt 2), .ref (tt 3), .ref (tt 4), .int (nI ((adV V x w) 16)), .int (nI ((adV V x w) 67)), .int (rmb (adV V x w)), .int (nI ((adV V x w) 66))])), (tt 1, .inl (y 1, 8, .inl (u2 0))), (tt 2, .inl (y 1, 8, .inl (u2 1))), (tt 3, .inl (y 1, 24, .inl (u2 2))), (tt 4, .inl (y 1, 4, .inl (u2 3))), (a, .inr (1, [.ref b, .int (nI n)])), (b, .inl (y 2, 4, .inr (.inr (.inr (.inr ro))))), (hh 0 0, .inr (2, [.ref (hh 0 1), .ref (hh 0 2), .ref (hh 0 3), .ref (hh 0 4), .int (nI ((BB 0) 16)), .int (nI ((BB 0) 67)), .int (rmb (BB 0)), .int (nI ((BB 0) 66))])), (hh 0 1, .inl (y 1, 8, .inl ((qq 0) 0))), (hh 0 2, .inl (y 1, 8, .inl ((qq 0) 1))), (hh 0 3, .inl (y 1, 24, .inl ((qq 0) 2))), (hh 0 4, .inl (y 1, 4, .inl ((qq 0) 3))), (hh 1 0, .inr (2, [.ref (hh 1 1), .ref (hh 1 2), .ref (hh 1 3), .ref (hh 1 4), .int (nI ((BB 1) 16)), .int (nI ((BB 1) 67)), .int (rmb (BB 1)), .int (nI ((BB 1) 66))])), (hh 1 1, .inl (y 1, 8, .inl ((qq 1) 0))), (hh 1 2, .inl (y 1, 8, .inl ((qq 1) 1))), (hh 1 3, .inl (y 1, 24, .inl ((qq 1) 2))), (hh 1 4, .inl (y 1, 4, .inl ((qq 1) 3))), (hh 2 0, .inr (2, [.ref (hh 2 1), .ref (hh 2 2), .ref (hh 2 3), .ref (hh 2 4), .int (nI ((BB 2) 16)), .int (nI ((BB 2) 67)), .int (rmb (BB 2)), .int (nI ((BB 2) 66))])), (hh 2 1, .inl (y 1, 8, .inl ((qq 2) 0))), (hh 2 2, .inl (y 1, 8, .inl ((qq 2) 1))), (hh 2 3, .inl (y 1, 24, .inl ((qq 2) 2))), (hh 2 4, .inl (y 1, 4, .inl ((qq 2) 3))), (hh 3 0, .inr (2, [.ref (hh 3 1), .ref (hh 3 2), .ref (hh 3 3), .ref (hh 3 4), .int (nI ((BB 3) 16)), .int (nI ((BB 3) 67)), .int (rmb (BB 3)), .int (nI ((BB 3) 66))])), (hh 3 1, .inl (y 1, 8, .inl ((qq 3) 0))), (hh 3 2, .inl (y 1, 8, .inl ((qq 3) 1))), (hh 3 3, .inl (y 1, 24, .inl ((qq 3) 2))), (hh 3 4, .inl (y 1, 4, .inl ((qq 3) 3)))]) hD [0, 1, 2, 3, 4, 5, 6, 7, 8, 9, 10, 11, 12, 13, 14, 15, 16, 17, 18, 19, 20, 21, 22, 23, 24, 25, 26, 27, 28, 29, 30, 31, 32] rfl
  refine va_calli (va_runV (As := [.int (adI V x w)]) (rest := []) ⟨hx, hb, hml, hown, hts⟩ (c_X6_settle l D y g tt gr gt gc sa a b n d ro hh BB qq hro hn Bk hH h V q hR hI (adV V x w) u2 (adI V x w) (fun _ => hRu2) (fun _ => hIu2)) (cwV 1 hts gX6_set_X6_settle rfl rfl rfl hd_X6_settle ⟨Nat.le_of_ble_eq_true rfl, Nat.le_of_ble_eq_true rfl⟩) (xpv_w hK hP hD [0, 1, 2, 3, 4, 5, 6, 7, 8, 9, 10, 11, 12, 13, 14, 15, 16, 17, 18, 19, 20, 21, 22, 23, 24, 25, 26, 27, 28, 29, 30, 31, 32] 0 rfl rfl rfl rfl rfl) rfl rfl hl.1 rfl (lv_room (Nat.le_of_ble_eq_true rfl)) dX6_set_21 ⟨Nat.zero_le _, Nat.zero_le _⟩) hS (fun q _ h => hFc q h) hFc (fun r3 u3 t H locs ht hvm hw3 hB hz1 hk1 hS1 => ?_)
  have hB : va_P D vwCl [(g, .inr (6, [.ref (h 0), .ref (tt 0), .ref a, .ref gr, .ref gt, .ref gc, .ref sa])), (h 0, .inr (2, [.ref (h 1), .ref (h 2), .ref (h 3), .ref (h 4), .int (nI ((stV (adI V x w) V (adV V x w)) 16)), .int (nI ((stV (adI V x w) V (adV V x w)) 67)), .int (rmb (stV (adI V x w) V (adV V x w))), .int (nI ((stV (adI V x w) V (adV V x w)) 66))])), (h 1, .inl (y 1, 8, .inl (u3.2 0))), (h 2, .inl (y 1, 8, .inl (u3.2 1))), (h 3, .inl (y 1, 24, .inl (u3.2 2))), (h 4, .inl (y 1, 4, .inl (u3.2 3))), (tt 0, .inr (2, [.ref (tt 1), .ref (tt 2), .ref (tt 3), .ref (tt 4), .int (nI ((adV V x w) 16)), .int (nI ((adV V x w) 67)), .int (rmb (adV V x w)), .int (nI ((adV V x w) 66))])), (tt 1, .inl (y 1, 8, .inl (u2 0))), (tt 2, .inl (y 1, 8, .inl (u2 1))), (tt 3, .inl (y 1, 24, .inl (u2 2))), (tt 4, .inl (y 1, 4, .inl (u2 3))), (a, .inr (1, [.ref b, .int (nI (stN (adI V x w) n))])), (b, .inl (y 2, 4, .inr (.inr (.inr (.inr u3.1.2.1))))), (hh 0 0, .inr (2, [.ref (hh 0 1), .ref (hh 0 2), .ref (hh 0 3), .ref (hh 0 4), .int (nI ((u3.1.2.2.1 0) 16)), .int (nI ((u3.1.2.2.1 0) 67)), .int (rmb (u3.1.2.2.1 0)), .int (nI ((u3.1.2.2.1 0) 66))])), (hh 0 1, .inl (y 1, 8, .inl ((u3.1.2.2.2 0) 0))), (hh 0 2, .inl (y 1, 8, .inl ((u3.1.2.2.2 0) 1))), (hh 0 3, .inl (y 1, 24, .inl ((u3.1.2.2.2 0) 2))), (hh 0 4, .inl (y 1, 4, .inl ((u3.1.2.2.2 0) 3))), (hh 1 0, .inr (2, [.ref (hh 1 1), .ref (hh 1 2), .ref (hh 1 3), .ref (hh 1 4), .int (nI ((u3.1.2.2.1 1) 16)), .int (nI ((u3.1.2.2.1 1) 67)), .int (rmb (u3.1.2.2.1 1)), .int (nI ((u3.1.2.2.1 1) 66))])), (hh 1 1, .inl (y 1, 8, .inl ((u3.1.2.2.2 1) 0))), (hh 1 2, .inl (y 1, 8, .inl ((u3.1.2.2.2 1) 1))), (hh 1 3, .inl (y 1, 24, .inl ((u3.1.2.2.2 1) 2))), (hh 1 4, .inl (y 1, 4, .inl ((u3.1.2.2.2 1) 3))), (hh 2 0, .inr (2, [.ref (hh 2 1), .ref (hh 2 2), .ref (hh 2 3), .ref (hh 2 4), .int (nI ((u3.1.2.2.1 2) 16)), .int (nI ((u3.1.2.2.1 2) 67)), .int (rmb (u3.1.2.2.1 2)), .int (nI ((u3.1.2.2.1 2) 66))])), (hh 2 1, .inl (y 1, 8, .inl ((u3.1.2.2.2 2) 0))), (hh 2 2, .inl (y 1, 8, .inl ((u3.1.2.2.2 2) 1))), (hh 2 3, .inl (y 1, 24, .inl ((u3.1.2.2.2 2) 2))), (hh 2 4, .inl (y 1, 4, .inl ((u3.1.2.2.2 2) 3))), (hh 3 0, .inr (2, [.ref (hh 3 1), .ref (hh 3 2), .ref (hh 3 3), .ref (hh 3 4), .int (nI ((u3.1.2.2.1 3) 16)), .int (nI ((u3.1.2.2.1 3) 67)), .int (rmb (u3.1.2.2.1 3)), .int (nI ((u3.1.2.2.1 3) 66))])), (hh 3 1, .inl (y 1, 8, .inl ((u3.1.2.2.2 3) 0))), (hh 3 2, .inl (y 1, 8, .inl ((u3.1.2.2.2 3) 1))), (hh 3 3, .inl (y 1, 24, .inl ((u3.1.2.2.2 3) 2))), (hh 3 4, .inl (y 1, 4, .inl ((u3.1.2.2.2 3) 3)))] t.heap := hB
  rw [ht] at hB
  have hw3 : r3 = (adI V x w) ∧ RoH u3.1.1 hh u3.1.2.1 ∧ RepH (stN (adI V x w) n) u3.1.1 u3.1.2.2.1 u3.1.2.2.2 (stB (adI V x w) n Bk V) ∧ RepC (stV (adI V x w) V (adV V x w)) u3.2 := hw3
  have hJ := xj_join2 (ws2 := [(g, .inr (6, [.ref (h 0), .ref (tt 0), .ref a, .ref gr, .ref gt, .ref gc, .ref sa])), (h 0, .inr (2, [.ref (h 1), .ref (h 2), .ref (h 3), .ref (h 4), .int (nI ((stV (adI V x w) V (adV V x w)) 16)), .int (nI ((stV (adI V x w) V (adV V x w)) 67)), .int (rmb (stV (adI V x w) V (adV V x w))), .int (nI ((stV (adI V x w) V (adV V x w)) 66))])), (h 1, .inl (y 1, 8, .inl (u3.2 0))), (h 2, .inl (y 1, 8, .inl (u3.2 1))), (h 3, .inl (y 1, 24, .inl (u3.2 2))), (h 4, .inl (y 1, 4, .inl (u3.2 3))), (tt 0, .inr (2, [.ref (tt 1), .ref (tt 2), .ref (tt 3), .ref (tt 4), .int (nI ((adV V x w) 16)), .int (nI ((adV V x w) 67)), .int (rmb (adV V x w)), .int (nI ((adV V x w) 66))])), (tt 1, .inl (y 1, 8, .inl (u2 0))), (tt 2, .inl (y 1, 8, .inl (u2 1))), (tt 3, .inl (y 1, 24, .inl (u2 2))), (tt 4, .inl (y 1, 4, .inl (u2 3))), (a, .inr (1, [.ref b, .int (nI (stN (adI V x w) n))])), (b, .inl (y 2, 4, .inr (.inr (.inr (.inr u3.1.2.1))))), (hh 0 0, .inr (2, [.ref (hh 0 1), .ref (hh 0 2), .ref (hh 0 3), .ref (hh 0 4), .int (nI ((u3.1.2.2.1 0) 16)), .int (nI ((u3.1.2.2.1 0) 67)), .int (rmb (u3.1.2.2.1 0)), .int (nI ((u3.1.2.2.1 0) 66))])), (hh 0 1, .inl (y 1, 8, .inl ((u3.1.2.2.2 0) 0))), (hh 0 2, .inl (y 1, 8, .inl ((u3.1.2.2.2 0) 1))), (hh 0 3, .inl (y 1, 24, .inl ((u3.1.2.2.2 0) 2))), (hh 0 4, .inl (y 1, 4, .inl ((u3.1.2.2.2 0) 3))), (hh 1 0, .inr (2, [.ref (hh 1 1), .ref (hh 1 2), .ref (hh 1 3), .ref (hh 1 4), .int (nI ((u3.1.2.2.1 1) 16)), .int (nI ((u3.1.2.2.1 1) 67)), .int (rmb (u3.1.2.2.1 1)), .int (nI ((u3.1.2.2.1 1) 66))])), (hh 1 1, .inl (y 1, 8, .inl ((u3.1.2.2.2 1) 0))), (hh 1 2, .inl (y 1, 8, .inl ((u3.1.2.2.2 1) 1))), (hh 1 3, .inl (y 1, 24, .inl ((u3.1.2.2.2 1) 2))), (hh 1 4, .inl (y 1, 4, .inl ((u3.1.2.2.2 1) 3))), (hh 2 0, .inr (2, [.ref (hh 2 1), .ref (hh 2 2), .ref (hh 2 3), .ref (hh 2 4), .int (nI ((u3.1.2.2.1 2) 16)), .int (nI ((u3.1.2.2.1 2) 67)), .int (rmb (u3.1.2.2.1 2)), .int (nI ((u3.1.2.2.1 2) 66))])), (hh 2 1, .inl (y 1, 8, .inl ((u3.1.2.2.2 2) 0))), (hh 2 2, .inl (y 1, 8, .inl ((u3.1.2.2.2 2) 1))), (hh 2 3, .inl (y 1, 24, .inl ((u3.1.2.2.2 2) 2))), (hh 2 4, .inl (y 1, 4, .inl ((u3.1.2.2.2 2) 3))), (hh 3 0, .inr (2, [.ref (hh 3 1), .ref (hh 3 2), .ref (hh 3 3), .ref (hh 3 4), .int (nI ((u3.1.2.2.1 3) 16)), .int (nI ((u3.1.2.2.1 3) 67)), .int (rmb (u3.1.2.2.1 3)), .int (nI ((u3.1.2.2.1 3) 66))])), (hh 3 1, .inl (y 1, 8, .inl ((u3.1.2.2.2 3) 0))), (hh 3 2, .inl (y 1, 8, .inl ((u3.1.2.2.2 3) 1))), (hh 3 3, .inl (y 1, 24, .inl ((u3.1.2.2.2 3) 2))), (hh 3 4, .inl (y 1, 4, .inl ((u3.1.2.2.2 3) 3)))]) hP hD [0, 1, 2, 3, 4, 5, 6, 7, 8, 9, 10, 11, 12, 13, 14, 15, 16, 17, 18, 19, 20, 21, 22, 23, 24, 25, 26, 27, 28, 29, 30, 31, 32] [] [] [g, h 0, h 1, h 2, h 3, h 4, tt 0, tt 1, tt 2, tt 3, tt 4, a, b, hh 0 0, hh 0 1, hh 0 2, hh 0 3, hh 0 4, hh 1 0, hh 1 1, hh 1 2, hh 1 3, hh 1 4, hh 2 0, hh 2 1, hh 2 2, hh 2 3, hh 2 4, hh 3 0, hh 3 1, hh 3 2, hh 3 3, hh 3 4] rfl rfl rfl rfl rfl rfl rfl rfl hk1 hB
  clear hP hD hS hB hk1 hz1 hFc hvm ht
  obtain ⟨hP, hD⟩ := hJ
  have hS := hS1
  clear hS1
  obtain ⟨hr3, hsu3⟩ := hw3
  subst hr3
  subst hQe
  exact xw_i hx hb hr hlocks (u3, u2) hS dX6_set_24 (⟨rfl, hsu3⟩) (fun t ht => by rw [ht]; exact (hP))
set_option maxHeartbeats 8000000 in
set_option maxRecDepth 100000 in
theorem c_X6_bitsOf (l : Launch) (x : UInt32) (c : Nat) (q0 : Int) (hN : dNm x c q0) : Met l yX6_bitsOf wsX6_bitsOf ({ frames := 0, cells := 0, slots := 0, locals := 0 }) (va_Pc [.float x] (fun _ => True)) (vp_Si (fun rz => rz = btI x)) 0 0 (fun _ => False) := by
  refine Met.ofW (cc := cX6_bitsOf) (maxL := 3) (ret := (some .int)) (by decide) rfl ?_
  intro p e s m args below meth c s₁ B hml hv
  obtain ⟨rfl, -⟩ := hv
  have hx := B.exec
  have hb := B.bytes
  have hr := B.returns
  have hts := atoms_spec (ws := wsX6_bitsOf) B.pre
  have hown : s.vm.findClass RX6 = some m.cls := findClass_of_methodNamed B.named
  have hlocks := B.notSynchronized
  have f_255 := hts (.constantFloat RX6 255 1258291200) (by decide +kernel)
  have hl := lv_entry ([.float x]) (n := 3) (Nat.le_of_ble_eq_true rfl)
  rw [lg_entry_eq]
  generalize (lg_sl ([.float x]) ++ List.replicate (3 - (lg_sl ([.float x])).length) Slot.unset).toArray = ls at hl ⊢
  have hl : lv_has ls 3 [(0, .float x)] := hl
  have hkl := kOf_le hN
  refine lv_fload_n hx hb dX6_bitsOf_0 rfl (lv_at hl 0 rfl) ?_
  refine lv_fstore_n (lv' := [(1, .float x), (0, .float x)]) hx hb dX6_bitsOf_1 rfl hl (by decide) rfl (fun ls hl => ?_)
  refine lv_bipush (v := nI 127) hx hb dX6_bitsOf_2 (by decide) ?_
  refine lv_istore_n (lv' := [(2, .int (nI 127)), (1, .float x), (0, .float x)]) hx hb dX6_bitsOf_4 rfl hl (by decide) rfl (fun ls hl => ?_)
  have lp5 : ∀ (n : Nat) (i : Nat), kOf x - i < n → (i ≤ kOf x) → ∀ ls : Array Slot, lv_has ls 3 [(2, .int (nI (127 + i))), (1, .float (hvN x i)), (0, .float x)] → W p l e (headSpec wsX6_bitsOf ({ frames := 0, cells := 0, slots := 0, locals := 0 })).room s m ([.float x] : List Value).toArray below meth c s.heap [] 0 0 (MQ below (vp_Si (fun rz => rz = btI x)) ([.float x] : List Value).toArray s 0 0 (fun _ => False)) (F0 m 5 ls []) := by
    intro n
    induction n with
    | zero => intro i hm; exact absurd hm (Nat.not_lt_zero _)
    | succ n ih5 =>
      intro i hm hi ls hl
      refine lv_fload_n hx hb dX6_bitsOf_5 rfl (lv_at hl 1 rfl) ?_
      refine lv_fconst2 hx hb dX6_bitsOf_6 ?_
      refine lv_fcmp hx hb dX6_bitsOf_7 ?_
      refine lv_if_lt (tgt := 28) hx hb dX6_bitsOf_8 (by decide) (fun kc8 => ?_) (fun kc8 => ?_)
      · have hik := (hv_c hN hi).mp kc8
        have hsu := hv_s hN hi
        refine lv_iload_n hx hb dX6_bitsOf_28 rfl (lv_at hl 0 rfl) ?_
        refine lv_bipush (v := nI 23) hx hb dX6_bitsOf_29 (by decide) ?_
        refine xn_shl hx hb (r := ((127 + i) * 2 ^ 23)) (by omega) (by omega) rfl dX6_bitsOf_31 ?_
        refine lv_fload_n hx hb dX6_bitsOf_32 rfl (lv_at hl 1 rfl) ?_
        refine lv_fconst1 hx hb dX6_bitsOf_33 ?_
        refine lv_fsub hx hb dX6_bitsOf_34 (hsu.1) ?_
        refine lv_ldcf hx hb hown f_255 dX6_bitsOf_35 ?_
        refine lv_fmul hx hb dX6_bitsOf_37 (hsu.2) ?_
        refine lv_f2i hx hb dX6_bitsOf_38 ?_
        refine lv_iadd hx hb dX6_bitsOf_39 ?_
        exact xr_i hx hb hr hlocks dX6_bitsOf_40 (bsU_k hik)
      · have hlt : i < kOf x := Nat.lt_of_le_of_ne hi (fun q => kc8 ((hv_c hN hi).mpr q))
        refine lv_iload_n hx hb dX6_bitsOf_11 rfl (lv_at hl 0 rfl) ?_
        refine lv_sipush (v := nI 254) hx hb dX6_bitsOf_12 (by decide) ?_
        refine xn_icmp_ge hx hb (by omega) (by omega) (tgt := 28) dX6_bitsOf_15 (by decide) (fun h => absurd h (by omega)) (fun kc15 => ?_)
        refine lv_fload_n hx hb dX6_bitsOf_18 rfl (lv_at hl 1 rfl) ?_
        refine lv_fconst2 hx hb dX6_bitsOf_19 ?_
        refine lv_fdiv hx hb dX6_bitsOf_20 ((hv_n hN hlt).1) ?_
        refine lv_fstore_n (lv' := [(1, .float (FP.fdiv (hvN x i) 1073741824)), (2, .int (nI (127 + i))), (0, .float x)]) hx hb dX6_bitsOf_21 rfl hl (by decide) rfl (fun ls hl => ?_)
        refine lv_iinc (v := nI (127 + i + 1)) (lv' := [(2, .int (nI (127 + i + 1))), (1, .float (FP.fdiv (hvN x i) 1073741824)), (0, .float x)]) hx hb dX6_bitsOf_22 hl (k := 1) rfl (nI_add (127 + i) 1) (by decide) rfl (fun ls hl => ?_)
        refine lv_goto (tgt := 5) hx hb dX6_bitsOf_25 (by decide) ?_
        have e1 : (127 + i + 1) = (127 + (i + 1)) := by omega
        have e2 : (FP.fdiv (hvN x i) 1073741824) = (hvN x (i + 1)) := rfl
        exact ih5 (i + 1) (by omega) (by omega) ls (xl_eq (b := [(2, .int (nI (127 + (i + 1)))), (1, .float (hvN x (i + 1))), (0, .float x)]) (lv_sub (l' := [(2, .int (nI (127 + i + 1))), (1, .float (FP.fdiv (hvN x i) 1073741824)), (0, .float x)]) hl [0, 1, 2] rfl) (xk (congrArg (fun z : Nat => Value.int (nI z)) e1) (xk (congrArg Value.float e2) (xk rfl (rfl : ([] : List (Nat × Value)) = [])))))
  have e3 : 127 = (127 + 0) := rfl
  have e4 : x = (hvN x 0) := rfl
  exact lp5 ((kOf x - 0) + 1) 0 (Nat.lt_succ_self _) (by omega) ls (xl_eq (b := [(2, .int (nI (127 + 0))), (1, .float (hvN x 0)), (0, .float x)]) (lv_sub (l' := [(2, .int (nI 127)), (1, .float x), (0, .float x)]) hl [0, 1, 2] rfl) (xk (congrArg (fun z : Nat => Value.int (nI z)) e3) (xk (congrArg Value.float e4) (xk rfl (rfl : ([] : List (Nat × Value)) = [])))))
set_option maxHeartbeats 8000000 in
set_option maxRecDepth 100000 in
theorem c_X7_bitsOf (l : Launch) (x : UInt32) (c : Nat) (q0 : Int) (hN : dNm x c q0) : Met l yX7_bitsOf wsX7_bitsOf ({ frames := 0, cells := 0, slots := 0, locals := 0 }) (va_Pc [.float x] (fun _ => True)) (vp_Si (fun rz => rz = btI x)) 0 0 (fun _ => False) := by
  refine Met.ofW (cc := cX7_bitsOf) (maxL := 3) (ret := (some .int)) (by decide) rfl ?_
  intro p e s m args below meth c s₁ B hml hv
  obtain ⟨rfl, -⟩ := hv
  have hx := B.exec
  have hb := B.bytes
  have hr := B.returns
  have hts := atoms_spec (ws := wsX7_bitsOf) B.pre
  have hown : s.vm.findClass RX7 = some m.cls := findClass_of_methodNamed B.named
  have hlocks := B.notSynchronized
  have f_128 := hts (.constantFloat RX7 128 1056964608) (by decide +kernel)
  have f_129 := hts (.constant RX7 129 (8388608)) (by decide +kernel)
  have f_130 := hts (.constantFloat RX7 130 1258291200) (by decide +kernel)
  have hl := lv_entry ([.float x]) (n := 3) (Nat.le_of_ble_eq_true rfl)
  rw [lg_entry_eq]
  generalize (lg_sl ([.float x]) ++ List.replicate (3 - (lg_sl ([.float x])).length) Slot.unset).toArray = ls at hl ⊢
  have hl : lv_has ls 3 [(0, .float x)] := hl
  have hkl := kOf_le hN
  refine lv_bipush (v := nI 127) hx hb dX7_bitsOf_0 (by decide) ?_
  refine lv_istore_n (lv' := [(1, .int (nI 127)), (0, .float x)]) hx hb dX7_bitsOf_2 rfl hl (by decide) rfl (fun ls hl => ?_)
  refine lv_fload_n hx hb dX7_bitsOf_3 rfl (lv_at hl 1 rfl) ?_
  refine lv_fstore_n (lv' := [(2, .float x), (1, .int (nI 127)), (0, .float x)]) hx hb dX7_bitsOf_4 rfl hl (by decide) rfl (fun ls hl => ?_)
  have lp5 : ∀ (n : Nat) (i : Nat), kOf x - i < n → (i ≤ kOf x) → ∀ ls : Array Slot, lv_has ls 3 [(2, .float (hvN x i)), (1, .int (nI (127 + i))), (0, .float x)] → W p l e (headSpec wsX7_bitsOf ({ frames := 0, cells := 0, slots := 0, locals := 0 })).room s m ([.float x] : List Value).toArray below meth c s.heap [] 0 0 (MQ below (vp_Si (fun rz => rz = btI x)) ([.float x] : List Value).toArray s 0 0 (fun _ => False)) (F0 m 5 ls []) := by
    intro n
    induction n with
    | zero => intro i hm; exact absurd hm (Nat.not_lt_zero _)
    | succ n ih5 =>
      intro i hm hi ls hl
      refine lv_fload_n hx hb dX7_bitsOf_5 rfl (lv_at hl 0 rfl) ?_
      refine lv_fconst2 hx hb dX7_bitsOf_6 ?_
      refine lv_fcmp hx hb dX7_bitsOf_7 ?_
      refine lv_if_lt (tgt := 22) hx hb dX7_bitsOf_8 (by decide) (fun kc8 => ?_) (fun kc8 => ?_)
      · have hik := (hv_c hN hi).mp kc8
        have hsu := hv_s hN hi
        refine lv_iload_n hx hb dX7_bitsOf_22 rfl (lv_at hl 1 rfl) ?_
        refine lv_ldc hx hb hown f_129 dX7_bitsOf_23 ?_
        refine xv (show (8388608 : Int32) = nI 8388608 by decide) ?_
        refine xn_mul hx hb (r := ((127 + i) * 8388608)) rfl dX7_bitsOf_25 ?_
        refine lv_fload_n hx hb dX7_bitsOf_26 rfl (lv_at hl 0 rfl) ?_
        refine lv_fconst1 hx hb dX7_bitsOf_27 ?_
        refine lv_fsub hx hb dX7_bitsOf_28 (hsu.1) ?_
        refine lv_ldcf hx hb hown f_130 dX7_bitsOf_29 ?_
        refine lv_fmul hx hb dX7_bitsOf_31 (hsu.2) ?_
        refine lv_f2i hx hb dX7_bitsOf_32 ?_
        refine lv_iadd hx hb dX7_bitsOf_33 ?_
        exact xr_i hx hb hr hlocks dX7_bitsOf_34 (bsU_m hik)
      · have hlt : i < kOf x := Nat.lt_of_le_of_ne hi (fun q => kc8 ((hv_c hN hi).mpr q))
        refine lv_fload_n hx hb dX7_bitsOf_11 rfl (lv_at hl 0 rfl) ?_
        refine lv_ldcf hx hb hown f_128 dX7_bitsOf_12 ?_
        refine lv_fmul hx hb dX7_bitsOf_14 ((hv_n hN hlt).2.2) ?_
        refine lv_fstore_n (lv' := [(2, .float (FP.fmul (hvN x i) 1056964608)), (1, .int (nI (127 + i))), (0, .float x)]) hx hb dX7_bitsOf_15 rfl hl (by decide) rfl (fun ls hl => ?_)
        refine lv_iinc (v := nI (127 + i + 1)) (lv' := [(1, .int (nI (127 + i + 1))), (2, .float (FP.fmul (hvN x i) 1056964608)), (0, .float x)]) hx hb dX7_bitsOf_16 hl (k := 1) rfl (nI_add (127 + i) 1) (by decide) rfl (fun ls hl => ?_)
        refine lv_goto (tgt := 5) hx hb dX7_bitsOf_19 (by decide) ?_
        have e1 : (FP.fmul (hvN x i) 1056964608) = (hvN x (i + 1)) := (hv_n hN hlt).2.1
        have e2 : (127 + i + 1) = (127 + (i + 1)) := by omega
        exact ih5 (i + 1) (by omega) (by omega) ls (xl_eq (b := [(2, .float (hvN x (i + 1))), (1, .int (nI (127 + (i + 1)))), (0, .float x)]) (lv_sub (l' := [(2, .float (FP.fmul (hvN x i) 1056964608)), (1, .int (nI (127 + i + 1))), (0, .float x)]) hl [1, 0, 2] rfl) (xk (congrArg Value.float e1) (xk (congrArg (fun z : Nat => Value.int (nI z)) e2) (xk rfl (rfl : ([] : List (Nat × Value)) = [])))))
  have e3 : x = (hvN x 0) := rfl
  have e4 : 127 = (127 + 0) := rfl
  exact lp5 ((kOf x - 0) + 1) 0 (Nat.lt_succ_self _) (by omega) ls (xl_eq (b := [(2, .float (hvN x 0)), (1, .int (nI (127 + 0))), (0, .float x)]) (lv_sub (l' := [(2, .float x), (1, .int (nI 127)), (0, .float x)]) hl [0, 1, 2] rfl) (xk (congrArg Value.float e3) (xk (congrArg (fun z : Nat => Value.int (nI z)) e4) (xk rfl (rfl : ([] : List (Nat × Value)) = [])))))
set_option maxHeartbeats 8000000 in
set_option maxRecDepth 100000 in
theorem c_X6_mean (l : Launch) (D : va_G) (y : Nat → ClassId) (g t0 a gr gt gc sa : Nat) (h : Nat → Nat) (V : Nat → Nat) (q : Nat → Nat → Int32) (hR : RepC V q) (hI : Inv V) : Met l yX6_mean wsX6_mean ({ frames := 3, cells := 0, slots := 0, locals := 64 }) (va_Pc [.ref g] (xPr D y [(g, .inr (6, [.ref (h 0), .ref t0, .ref a, .ref gr, .ref gt, .ref gc, .ref sa])), (h 0, .inr (2, [.ref (h 1), .ref (h 2), .ref (h 3), .ref (h 4), .int (nI (V 16)), .int (nI (V 67)), .int (rmb V), .int (nI (V 66))])), (h 1, .inl (y 1, 8, .inl (q 0))), (h 2, .inl (y 1, 8, .inl (q 1))), (h 3, .inl (y 1, 24, .inl (q 2))), (h 4, .inl (y 1, 4, .inl (q 3))), (gr, .inr (3, [.ref (h 0)])), (gt, .inr (5, [.ref (h 0)]))])) (vp_Si (fun rz => rz = meI V)) 0 0 (fun _ => False) := by
  refine Met.ofW (cc := cX6_mean) (maxL := 2) (ret := (some .int)) (by decide) rfl ?_
  intro p e s m args below meth c s₁ B hml hv
  obtain ⟨rfl, hP, hK⟩ := hv
  have hx := B.exec
  have hb := B.bytes
  have hr := B.returns
  have hts := atoms_spec (ws := wsX6_mean) B.pre
  have hown : s.vm.findClass RX6 = some m.cls := findClass_of_methodNamed B.named
  have hlocks := B.notSynchronized
  have f_147 := hts (.constant RX6 147 (-1000004)) (by decide +kernel)
  have f_31 := hts (.fieldLink RX6 31 "LoomTunes" "rows" "LLoomTunes$Rows;") (by decide +kernel)
  have f_38 := hts (.fieldLink RX6 38 "LoomTunes" "tones" "LLoomTunes$Tones;") (by decide +kernel)
  have hin_X6 : ∀ w ∈ wsX60, w ∈ wsX6_mean := by decide +kernel
  have hP : va_P D vwCl [(g, .inr (6, [.ref (h 0), .ref t0, .ref a, .ref gr, .ref gt, .ref gc, .ref sa])), (h 0, .inr (2, [.ref (h 1), .ref (h 2), .ref (h 3), .ref (h 4), .int (nI (V 16)), .int (nI (V 67)), .int (rmb V), .int (nI (V 66))])), (h 1, .inl (y 1, 8, .inl (q 0))), (h 2, .inl (y 1, 8, .inl (q 1))), (h 3, .inl (y 1, 24, .inl (q 2))), (h 4, .inl (y 1, 4, .inl (q 3))), (gr, .inr (3, [.ref (h 0)])), (gt, .inr (5, [.ref (h 0)]))] s.heap := hP
  have hl := lv_entry ([.ref g]) (n := 2) (Nat.le_of_ble_eq_true rfl)
  rw [lg_entry_eq]
  generalize (lg_sl ([.ref g]) ++ List.replicate (2 - (lg_sl ([.ref g])).length) Slot.unset).toArray = ls at hl ⊢
  have hl : lv_has ls 2 [(0, .ref g)] := hl
  have hml9 := al_le (V := V)
  have hmt := alT_le hI
  have hmp := alP_le hI
  refine lv_aload_n hx hb dX6_mean_0 rfl (lv_at hl 0 rfl) ?_
  refine va_get (D := D) (ci := 6) (v := .ref gt) (C := RX6) (T := TX6) (N := 7) hx hb hts hin_X6 hown hK.1 hP 0 rfl rfl 4 (by decide) f_38 (fun _ h9 => h9) rfl dX6_mean_1 ?_
  refine xc_V (As := []) (rest := []) ⟨hx, hb, hml, hown, hts⟩ (c_X5_inAll l D y gt h V q hR hI ) (cwV 0 hts gX6_mean_X5_inAll rfl rfl rfl hd_X5_inAll ⟨Nat.le_of_ble_eq_true rfl, Nat.le_of_ble_eq_true rfl⟩) (xpv_r hK hP [7, 1, 2, 3, 4, 5] 7 rfl rfl rfl) rfl hl.1 rfl (Nat.le_of_ble_eq_true rfl) dX6_mean_4 ⟨Nat.zero_le _, Nat.zero_le _⟩ (fun r1 hr1 => ?_)
  subst hr1
  refine lv_istore_n (lv' := [(1, .int (nI (alT V))), (0, .ref g)]) hx hb dX6_mean_7 rfl hl (by decide) rfl (fun ls hl => ?_)
  refine lv_iload_n hx hb dX6_mean_8 rfl (lv_at hl 0 rfl) ?_
  refine xn_if_ne hx hb (by omega) (tgt := 15) dX6_mean_9 (by decide) (fun kc9 => ?_) (fun kc9 => ?_)
  · have hmn := mn_d (a := alP V) (b := alT V) (by omega) (by omega) (by omega) (by omega)
    obtain ⟨⟨c9, q9, hN9⟩, hn9⟩ := hmn
    refine lv_aload_n hx hb dX6_mean_15 rfl (lv_at hl 1 rfl) ?_
    refine va_get (D := D) (ci := 6) (v := .ref gr) (C := RX6) (T := TX6) (N := 7) hx hb hts hin_X6 hown hK.1 hP 0 rfl rfl 3 (by decide) f_31 (fun _ h9 => h9) rfl dX6_mean_16 ?_
    refine xc_V (As := []) (rest := []) ⟨hx, hb, hml, hown, hts⟩ (c_X3_soundingThreads l D y gr h V q hR hI ) (cwV 0 hts gX6_mean_X3_soundingThreads rfl rfl rfl hd_X3_soundingThreads ⟨Nat.le_of_ble_eq_true rfl, Nat.le_of_ble_eq_true rfl⟩) (xpv_r hK hP [6, 1, 2, 3, 4, 5] 6 rfl rfl rfl) rfl hl.1 rfl (Nat.le_of_ble_eq_true rfl) dX6_mean_19 ⟨Nat.zero_le _, Nat.zero_le _⟩ (fun r2 hr2 => ?_)
    subst hr2
    refine lv_i2f hx hb dX6_mean_22 ?_
    refine lv_iload_n hx hb dX6_mean_23 rfl (lv_at hl 0 rfl) ?_
    refine lv_i2f hx hb dX6_mean_24 ?_
    refine lv_fdiv hx hb dX6_mean_25 (hn9) ?_
    refine xc_S (As := [.float (FP.fdiv (FP.i2f (nI (alP V))) (FP.i2f (nI (alT V))))]) (rest := []) ⟨hx, hb, hml, hown, hts⟩ (c_X6_bitsOf l (FP.fdiv (FP.i2f (nI (alP V))) (FP.i2f (nI (alT V)))) c9 q9 hN9) (va_cwS 1 hts gX6_mean_X6_bitsOf rfl rfl rfl hd_X6_bitsOf.2 ⟨Nat.le_of_ble_eq_true rfl, Nat.le_of_ble_eq_true rfl⟩) xps_0 rfl hl.1 rfl (Nat.le_of_ble_eq_true rfl) dX6_mean_26 ⟨Nat.zero_le _, Nat.zero_le _⟩ (fun r3 hr3 => ?_)
    subst hr3
    exact xr_i hx hb hr hlocks dX6_mean_29 (me_n kc9)
  · refine lv_ldc hx hb hown f_147 dX6_mean_12 ?_
    exact xr_i hx hb hr hlocks dX6_mean_14 (me_0 kc9)
set_option maxHeartbeats 8000000 in
set_option maxRecDepth 100000 in
theorem c_X7_mean (l : Launch) (D : va_G) (y : Nat → ClassId) (g s0 a0 b0 x0 kn L ta wr le : Nat) (o1 o2 : Int32) (po rs : Nat) (ca : Int32) (V : Nat → Nat) (hI : Inv V) : Met l yX7_mean wsX7_mean ({ frames := 5, cells := 0, slots := 0, locals := 110 }) (va_Pc [.ref g] (xPr D y [(g, .inr (7, [.ref s0, .ref a0, .ref b0, .int (nI kn), .ref x0, .int (nI L), .int (nI ta), .int (nI wr), .int (nI le), .int o1, .int o2, .int (nI po), .int (nI rs), .int ca])), (s0, .inl (y 1, 72, .inl (fun j9 => nI (V j9))))])) (vp_Si (fun rz => rz = meI V)) 0 0 (fun _ => False) := by
  refine Met.ofW (cc := cX7_mean) (maxL := 3) (ret := (some .int)) (by decide) rfl ?_
  intro p e s m args below meth c s₁ B hml hv
  obtain ⟨rfl, hP, hK⟩ := hv
  have hx := B.exec
  have hb := B.bytes
  have hr := B.returns
  have hts := atoms_spec (ws := wsX7_mean) B.pre
  have hown : s.vm.findClass RX7 = some m.cls := findClass_of_methodNamed B.named
  have hlocks := B.notSynchronized
  have f_93 := hts (.constant RX7 93 (-1000004)) (by decide +kernel)
  have hP : va_P D vwCl [(g, .inr (7, [.ref s0, .ref a0, .ref b0, .int (nI kn), .ref x0, .int (nI L), .int (nI ta), .int (nI wr), .int (nI le), .int o1, .int o2, .int (nI po), .int (nI rs), .int ca])), (s0, .inl (y 1, 72, .inl (fun j9 => nI (V j9))))] s.heap := hP
  have hl := lv_entry ([.ref g]) (n := 3) (Nat.le_of_ble_eq_true rfl)
  rw [lg_entry_eq]
  generalize (lg_sl ([.ref g]) ++ List.replicate (3 - (lg_sl ([.ref g])).length) Slot.unset).toArray = ls at hl ⊢
  have hl : lv_has ls 3 [(0, .ref g)] := hl
  have hml9 := al_le (V := V)
  have hmt := alT_le hI
  have hmp := alP_le hI
  have hnt : ∀ {k : Nat}, k < 8 → V k < 48 := fun hk => hI.nt hk
  have hsz := hI.sz
  have hso : ∀ {t : Nat}, soR V t ≤ 24 := fun {t} => soR_le hI
  refine lv_iconst (v := nI 0) hx hb dX7_mean_0 (by decide) ?_
  refine lv_istore_n (lv' := [(1, .int (nI 0)), (0, .ref g)]) hx hb dX7_mean_1 rfl hl (by decide) rfl (fun ls hl => ?_)
  refine lv_iconst (v := nI 0) hx hb dX7_mean_2 (by decide) ?_
  refine lv_istore_n (lv' := [(2, .int (nI 0)), (1, .int (nI 0)), (0, .ref g)]) hx hb dX7_mean_3 rfl hl (by decide) rfl (fun ls hl => ?_)
  have lp4 : ∀ (n : Nat) (i : Nat), 8 - i < n → (i ≤ 8) → ∀ ls : Array Slot, lv_has ls 3 [(2, .int (nI i)), (1, .int (nI (sN (fun t => soR V t) i))), (0, .ref g)] → W p l e (headSpec wsX7_mean ({ frames := 5, cells := 0, slots := 0, locals := 110 })).room s m ([.ref g] : List Value).toArray below meth c s.heap [] 0 0 (MQ below (vp_Si (fun rz => rz = meI V)) ([.ref g] : List Value).toArray s 0 0 (fun _ => False)) (F0 m 4 ls []) := by
    intro n
    induction n with
    | zero => intro i hm; exact absurd hm (Nat.not_lt_zero _)
    | succ n ih4 =>
      intro i hm hi ls hl
      refine lv_iload_n hx hb dX7_mean_4 rfl (lv_at hl 0 rfl) ?_
      refine lv_bipush (v := nI 8) hx hb dX7_mean_5 (by decide) ?_
      refine xn_icmp_ge hx hb (by omega) (by omega) (tgt := 25) dX7_mean_7 (by decide) (fun kc7 => ?_) (fun kc7 => ?_)
      · have hi9 : i = 8 := by omega
        rw [hi9, so_al] at hl
        refine lv_aload_n hx hb dX7_mean_25 rfl (lv_at hl 2 rfl) ?_
        refine xc_V (As := []) (rest := []) ⟨hx, hb, hml, hown, hts⟩ (c_X7_tones l D y g s0 a0 b0 x0 kn L ta wr le o1 o2 po rs ca V hI ) (cwV 0 hts gX7_mean_X7_tones rfl rfl rfl hd_X7_tones ⟨Nat.le_of_ble_eq_true rfl, Nat.le_of_ble_eq_true rfl⟩) (xpv_r hK hP [0, 1] 0 rfl rfl rfl) rfl hl.1 rfl (Nat.le_of_ble_eq_true rfl) dX7_mean_26 ⟨Nat.zero_le _, Nat.zero_le _⟩ (fun r1 hr1 => ?_)
        subst hr1
        refine lv_istore_n (lv' := [(2, .int (nI (alT V))), (1, .int (nI (alP V))), (0, .ref g)]) hx hb dX7_mean_29 rfl hl (by decide) rfl (fun ls hl => ?_)
        refine lv_iload_n hx hb dX7_mean_30 rfl (lv_at hl 0 rfl) ?_
        refine xn_if_ne hx hb (by omega) (tgt := 39) dX7_mean_31 (by decide) (fun kc31 => ?_) (fun kc31 => ?_)
        · have hmn := mn_d (a := alP V) (b := alT V) (by omega) (by omega) (by omega) (by omega)
          obtain ⟨⟨c9, q9, hN9⟩, hn9⟩ := hmn
          refine lv_iload_n hx hb dX7_mean_39 rfl (lv_at hl 1 rfl) ?_
          refine lv_i2f hx hb dX7_mean_40 ?_
          refine lv_iload_n hx hb dX7_mean_41 rfl (lv_at hl 0 rfl) ?_
          refine lv_i2f hx hb dX7_mean_42 ?_
          refine lv_fdiv hx hb dX7_mean_43 (hn9) ?_
          refine xc_S (As := [.float (FP.fdiv (FP.i2f (nI (alP V))) (FP.i2f (nI (alT V))))]) (rest := []) ⟨hx, hb, hml, hown, hts⟩ (c_X7_bitsOf l (FP.fdiv (FP.i2f (nI (alP V))) (FP.i2f (nI (alT V)))) c9 q9 hN9) (va_cwS 1 hts gX7_mean_X7_bitsOf rfl rfl rfl hd_X7_bitsOf.2 ⟨Nat.le_of_ble_eq_true rfl, Nat.le_of_ble_eq_true rfl⟩) xps_0 rfl hl.1 rfl (Nat.le_of_ble_eq_true rfl) dX7_mean_44 ⟨Nat.zero_le _, Nat.zero_le _⟩ (fun r2 hr2 => ?_)
          subst hr2
          exact xr_i hx hb hr hlocks dX7_mean_47 (me_n kc31)
        · refine lv_ldc hx hb hown f_93 dX7_mean_34 ?_
          refine lv_goto (tgt := 47) hx hb dX7_mean_36 (by decide) ?_
          exact xr_i hx hb hr hlocks dX7_mean_47 (me_0 kc31)
      · refine lv_iload_n hx hb dX7_mean_10 rfl (lv_at hl 1 rfl) ?_
        refine lv_aload_n hx hb dX7_mean_11 rfl (lv_at hl 2 rfl) ?_
        refine lv_iload_n hx hb dX7_mean_12 rfl (lv_at hl 0 rfl) ?_
        refine lv_iconst (v := nI 3) hx hb dX7_mean_13 (by decide) ?_
        refine xc_V (As := [.int (nI i), .int (nI 3)]) (rest := [.int (nI (sN (fun t => soR V t) i))]) ⟨hx, hb, hml, hown, hts⟩ (c_X7_rows l D y g s0 a0 b0 x0 kn L ta wr le o1 o2 po rs ca V hI i 3 (by omega) (by omega)) (cwV 2 hts gX7_mean_X7_rows rfl rfl rfl hd_X7_rows ⟨Nat.le_of_ble_eq_true rfl, Nat.le_of_ble_eq_true rfl⟩) (xpv_r hK hP [0, 1] 0 rfl rfl rfl) rfl hl.1 rfl (Nat.le_of_ble_eq_true rfl) dX7_mean_14 ⟨Nat.zero_le _, Nat.zero_le _⟩ (fun r3 hr3 => ?_)
        subst hr3
        refine xv (v := nI (soR V i)) rfl ?_
        refine xn_add hx hb (r := ((sN (fun t => soR V t) i) + (soR V i))) rfl dX7_mean_17 ?_
        refine lv_istore_n (lv' := [(1, .int (nI ((sN (fun t => soR V t) i) + (soR V i)))), (2, .int (nI i)), (0, .ref g)]) hx hb dX7_mean_18 rfl hl (by decide) rfl (fun ls hl => ?_)
        refine lv_iinc (v := nI (i + 1)) (lv' := [(2, .int (nI (i + 1))), (1, .int (nI ((sN (fun t => soR V t) i) + (soR V i)))), (0, .ref g)]) hx hb dX7_mean_19 hl (k := 1) rfl (nI_add i 1) (by decide) rfl (fun ls hl => ?_)
        refine lv_goto (tgt := 4) hx hb dX7_mean_22 (by decide) ?_
        have e4 : ((sN (fun t => soR V t) i) + (soR V i)) = (sN (fun t => soR V t) (i + 1)) := rfl
        exact ih4 (i + 1) (by omega) (by omega) ls (xl_eq (b := [(2, .int (nI (i + 1))), (1, .int (nI (sN (fun t => soR V t) (i + 1)))), (0, .ref g)]) (lv_sub (l' := [(2, .int (nI (i + 1))), (1, .int (nI ((sN (fun t => soR V t) i) + (soR V i)))), (0, .ref g)]) hl [0, 1, 2] rfl) (xk rfl (xk (congrArg (fun z : Nat => Value.int (nI z)) e4) (xk rfl (rfl : ([] : List (Nat × Value)) = [])))))
  have e5 : 0 = (sN (fun t => soR V t) 0) := rfl
  exact lp4 ((8 - 0) + 1) 0 (Nat.lt_succ_self _) (by omega) ls (xl_eq (b := [(2, .int (nI 0)), (1, .int (nI (sN (fun t => soR V t) 0))), (0, .ref g)]) (lv_sub (l' := [(2, .int (nI 0)), (1, .int (nI 0)), (0, .ref g)]) hl [0, 1, 2] rfl) (xk rfl (xk (congrArg (fun z : Nat => Value.int (nI z)) e5) (xk rfl (rfl : ([] : List (Nat × Value)) = [])))))
