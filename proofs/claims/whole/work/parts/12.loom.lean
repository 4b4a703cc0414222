set_option maxHeartbeats 8000000 in
set_option maxRecDepth 100000 in
theorem c_X6_cardOf (l : Launch) (D : va_G) (y : Nat → ClassId) (g t0 a gr gt gc sa : Nat) (h : Nat → Nat) (V : Nat → Nat) (q : Nat → Nat → Int32) (hR : RepC V q) (hI : Inv V) (x w : Int32) : Met l yX6_cardOf wsX6_cardOf ({ frames := 4, cells := 0, slots := 0, locals := 91 }) (va_Pc [.ref g, .int x, .int w] (xPr D y [(g, .inr (6, [.ref (h 0), .ref t0, .ref a, .ref gr, .ref gt, .ref gc, .ref sa])), (h 0, .inr (2, [.ref (h 1), .ref (h 2), .ref (h 3), .ref (h 4), .int (nI (V 16)), .int (nI (V 67)), .int (rmb V), .int (nI (V 66))])), (h 1, .inl (y 1, 8, .inl (q 0))), (h 2, .inl (y 1, 8, .inl (q 1))), (h 3, .inl (y 1, 24, .inl (q 2))), (h 4, .inl (y 1, 4, .inl (q 3))), (gr, .inr (3, [.ref (h 0)])), (gt, .inr (5, [.ref (h 0)])), (gc, .inr (0, [.ref (h 0)]))])) (vp_Si (fun rz => rz = caI V x w)) 0 0 (fun _ => False) := by
  refine Met.ofW (cc := cX6_cardOf) (maxL := 4) (ret := (some .int)) (by decide) rfl ?_
  intro p e s m args below meth c s₁ B hml hv
  obtain ⟨rfl, hP, hK⟩ := hv
  have hx := B.exec
  have hb := B.bytes
  have hr := B.returns
  have hts := atoms_spec (ws := wsX6_cardOf) B.pre
  have hown : s.vm.findClass RX6 = some m.cls := findClass_of_methodNamed B.named
  have hlocks := B.notSynchronized
  have f_10 := hts (.fieldLink RX6 10 "LoomTunes" "now" "LLoomTunes$Register;") (by decide +kernel)
  have f_31 := hts (.fieldLink RX6 31 "LoomTunes" "rows" "LLoomTunes$Rows;") (by decide +kernel)
  have f_38 := hts (.fieldLink RX6 38 "LoomTunes" "tones" "LLoomTunes$Tones;") (by decide +kernel)
  have f_93 := hts (.constant RX6 93 (-1000001)) (by decide +kernel)
  have hin_X6 : ∀ w ∈ wsX60, w ∈ wsX6_cardOf := by decide +kernel
  have hP : va_P D vwCl [(g, .inr (6, [.ref (h 0), .ref t0, .ref a, .ref gr, .ref gt, .ref gc, .ref sa])), (h 0, .inr (2, [.ref (h 1), .ref (h 2), .ref (h 3), .ref (h 4), .int (nI (V 16)), .int (nI (V 67)), .int (rmb V), .int (nI (V 66))])), (h 1, .inl (y 1, 8, .inl (q 0))), (h 2, .inl (y 1, 8, .inl (q 1))), (h 3, .inl (y 1, 24, .inl (q 2))), (h 4, .inl (y 1, 4, .inl (q 3))), (gr, .inr (3, [.ref (h 0)])), (gt, .inr (5, [.ref (h 0)])), (gc, .inr (0, [.ref (h 0)]))] s.heap := hP
  have hl := lv_entry ([.ref g, .int x, .int w]) (n := 4) (Nat.le_of_ble_eq_true rfl)
  rw [lg_entry_eq]
  generalize (lg_sl ([.ref g, .int x, .int w]) ++ List.replicate (4 - (lg_sl ([.ref g, .int x, .int w])).length) Slot.unset).toArray = ls at hl ⊢
  have hl : lv_has ls 4 [(0, .ref g), (1, .int x), (2, .int w)] := hl
  have hsz := hI.sz
  have hbl := bN_lt (c := inR x (V 16))
  refine lv_aload_n hx hb dX6_cardOf_0 rfl (lv_at hl 0 rfl) ?_
  refine va_get (D := D) (ci := 6) (v := .ref (h 0)) (C := RX6) (T := TX6) (N := 7) hx hb hts hin_X6 hown hK.1 hP 0 rfl rfl 0 (by decide) f_10 (fun _ h9 => h9) rfl dX6_cardOf_1 ?_
  refine lv_iload_n hx hb dX6_cardOf_4 rfl (lv_at hl 1 rfl) ?_
  refine xc_V (As := [.int x]) (rest := []) ⟨hx, hb, hml, hown, hts⟩ (c_X2_hasCard l D y h V q hR hI x) (cwV 1 hts gX6_cardOf_X2_hasCard rfl rfl rfl hd_X2_hasCard ⟨Nat.le_of_ble_eq_true rfl, Nat.le_of_ble_eq_true rfl⟩) (xpv_r hK hP [1, 2, 3, 4, 5] 1 rfl rfl rfl) rfl hl.1 rfl (Nat.le_of_ble_eq_true rfl) dX6_cardOf_5 ⟨Nat.zero_le _, Nat.zero_le _⟩ (fun r1 hr1 => ?_)
  subst hr1
  refine xn_if_ne hx hb (by omega) (tgt := 14) dX6_cardOf_8 (by decide) (fun kc8 => ?_) (fun kc8 => ?_)
  · obtain ⟨k, hk, rfl⟩ := inR_k (by omega) (bN_n0.mp kc8)
    refine lv_aload_n hx hb dX6_cardOf_14 rfl (lv_at hl 0 rfl) ?_
    refine va_get (D := D) (ci := 6) (v := .ref (h 0)) (C := RX6) (T := TX6) (N := 7) hx hb hts hin_X6 hown hK.1 hP 0 rfl rfl 0 (by decide) f_10 (fun _ h9 => h9) rfl dX6_cardOf_15 ?_
    refine lv_iload_n hx hb dX6_cardOf_18 rfl (lv_at hl 1 rfl) ?_
    refine xc_V (As := [.int (nI k)]) (rest := []) ⟨hx, hb, hml, hown, hts⟩ (c_X2_holesAt_n l D y h V q hR hI k (by omega)) (cwV 1 hts gX6_cardOf_X2_holesAt rfl rfl rfl hd_X2_holesAt ⟨Nat.le_of_ble_eq_true rfl, Nat.le_of_ble_eq_true rfl⟩) (xpv_r hK hP [1, 2, 3, 4, 5] 1 rfl rfl rfl) rfl hl.1 rfl (Nat.le_of_ble_eq_true rfl) dX6_cardOf_19 ⟨Nat.zero_le _, Nat.zero_le _⟩ (fun r2 hr2 => ?_)
    subst hr2
    refine lv_istore_n (lv' := [(3, .int (nI (hol V k))), (0, .ref g), (1, .int (nI k)), (2, .int w)]) hx hb dX6_cardOf_22 rfl hl (by decide) rfl (fun ls hl => ?_)
    have hhl := hol_lt hI (r := k)
    refine lv_iload_n hx hb dX6_cardOf_23 rfl (lv_at hl 3 rfl) ?_
    rcases xsw w 10 (by decide) with hsw | ⟨kw, hkw, hke⟩
    · refine lv_tableOut (tgt := 159) hx hb dX6_cardOf_24 (by have := hsw.1; omega) (by decide) ?_
      refine lv_ldc hx hb hown f_93 dX6_cardOf_159 ?_
      exact xr_i hx hb hr hlocks dX6_cardOf_161 (caI_f (fun hq => hsw.2 hq.2))
    · rcases (show kw = 0 ∨ kw = 1 ∨ kw = 2 ∨ kw = 3 ∨ kw = 4 ∨ kw = 5 ∨ kw = 6 ∨ kw = 7 ∨ kw = 8 ∨ kw = 9 by omega) with rfl | rfl | rfl | rfl | rfl | rfl | rfl | rfl | rfl | rfl
      · subst hke
        refine lv_tableIn (tgt := 80) (off := 56) hx hb dX6_cardOf_24 (by decide) (by decide) (by decide) (by decide) ?_
        refine lv_iload_n hx hb dX6_cardOf_80 rfl (lv_at hl 0 rfl) ?_
        exact xr_i hx hb hr hlocks dX6_cardOf_81 ((caI_n (w := 0) hI hk (by decide)).symm)
      · subst hke
        refine lv_tableIn (tgt := 82) (off := 58) hx hb dX6_cardOf_24 (by decide) (by decide) (by decide) (by decide) ?_
        refine lv_iload_n hx hb dX6_cardOf_82 rfl (lv_at hl 0 rfl) ?_
        refine xc_S (As := [.int (nI (hol V k))]) (rest := []) ⟨hx, hb, hml, hown, hts⟩ (c_J6_bitCount_0f7a4 l (hol V k) (by omega)) (va_cwS 1 hts gX6_cardOf_J6_bitCount_0f7a4 rfl rfl rfl hd_J6_bitCount_0f7a4.2 ⟨Nat.le_of_ble_eq_true rfl, Nat.le_of_ble_eq_true rfl⟩) xps_0 rfl hl.1 rfl (Nat.le_of_ble_eq_true rfl) dX6_cardOf_83 ⟨Nat.zero_le _, Nat.zero_le _⟩ (fun r3 hr3 => ?_)
        subst hr3
        exact xr_i hx hb hr hlocks dX6_cardOf_86 ((caI_n (w := 1) hI hk (by decide)).symm)
      · subst hke
        refine lv_tableIn (tgt := 87) (off := 63) hx hb dX6_cardOf_24 (by decide) (by decide) (by decide) (by decide) ?_
        refine lv_aload_n hx hb dX6_cardOf_87 rfl (lv_at hl 1 rfl) ?_
        refine va_get (D := D) (ci := 6) (v := .ref (h 0)) (C := RX6) (T := TX6) (N := 7) hx hb hts hin_X6 hown hK.1 hP 0 rfl rfl 0 (by decide) f_10 (fun _ h9 => h9) rfl dX6_cardOf_88 ?_
        refine lv_iload_n hx hb dX6_cardOf_91 rfl (lv_at hl 2 rfl) ?_
        refine xc_V (As := [.int (nI k)]) (rest := []) ⟨hx, hb, hml, hown, hts⟩ (c_X2_stampsAt l D y h V q hR hI k (by omega)) (cwV 1 hts gX6_cardOf_X2_stampsAt rfl rfl rfl hd_X2_stampsAt ⟨Nat.le_of_ble_eq_true rfl, Nat.le_of_ble_eq_true rfl⟩) (xpv_r hK hP [1, 2, 3, 4, 5] 1 rfl rfl rfl) rfl hl.1 rfl (Nat.le_of_ble_eq_true rfl) dX6_cardOf_92 ⟨Nat.zero_le _, Nat.zero_le _⟩ (fun r4 hr4 => ?_)
        subst hr4
        exact xr_i hx hb hr hlocks dX6_cardOf_95 ((caI_n (w := 2) hI hk (by decide)).symm)
      · subst hke
        refine lv_tableIn (tgt := 96) (off := 72) hx hb dX6_cardOf_24 (by decide) (by decide) (by decide) (by decide) ?_
        refine lv_aload_n hx hb dX6_cardOf_96 rfl (lv_at hl 1 rfl) ?_
        refine va_get (D := D) (ci := 6) (v := .ref (h 0)) (C := RX6) (T := TX6) (N := 7) hx hb hts hin_X6 hown hK.1 hP 0 rfl rfl 0 (by decide) f_10 (fun _ h9 => h9) rfl dX6_cardOf_97 ?_
        refine lv_iload_n hx hb dX6_cardOf_100 rfl (lv_at hl 0 rfl) ?_
        refine xc_V (As := [.int (nI (hol V k))]) (rest := []) ⟨hx, hb, hml, hown, hts⟩ (c_X2_clashesOf l D y h V q hR hI (hol V k) (by first | omega | exact hol_lt hI)) (cwV 1 hts gX6_cardOf_X2_clashesOf rfl rfl rfl hd_X2_clashesOf ⟨Nat.le_of_ble_eq_true rfl, Nat.le_of_ble_eq_true rfl⟩) (xpv_r hK hP [1, 2, 3, 4, 5] 1 rfl rfl rfl) rfl hl.1 rfl (Nat.le_of_ble_eq_true rfl) dX6_cardOf_101 ⟨Nat.zero_le _, Nat.zero_le _⟩ (fun r5 hr5 => ?_)
        subst hr5
        exact xr_i hx hb hr hlocks dX6_cardOf_104 ((caI_n (w := 3) hI hk (by decide)).symm)
      · subst hke
        refine lv_tableIn (tgt := 105) (off := 81) hx hb dX6_cardOf_24 (by decide) (by decide) (by decide) (by decide) ?_
        refine lv_aload_n hx hb dX6_cardOf_105 rfl (lv_at hl 1 rfl) ?_
        refine va_get (D := D) (ci := 6) (v := .ref gr) (C := RX6) (T := TX6) (N := 7) hx hb hts hin_X6 hown hK.1 hP 0 rfl rfl 3 (by decide) f_31 (fun _ h9 => h9) rfl dX6_cardOf_106 ?_
        refine lv_iload_n hx hb dX6_cardOf_109 rfl (lv_at hl 2 rfl) ?_
        refine xc_V (As := [.int (nI k)]) (rest := []) ⟨hx, hb, hml, hown, hts⟩ (c_X3_noteSet l D y gr h V q hR hI k (by omega)) (cwV 1 hts gX6_cardOf_X3_noteSet rfl rfl rfl hd_X3_noteSet ⟨Nat.le_of_ble_eq_true rfl, Nat.le_of_ble_eq_true rfl⟩) (xpv_r hK hP [6, 1, 2, 3, 4, 5] 6 rfl rfl rfl) rfl hl.1 rfl (Nat.le_of_ble_eq_true rfl) dX6_cardOf_110 ⟨Nat.zero_le _, Nat.zero_le _⟩ (fun r6 hr6 => ?_)
        subst hr6
        exact xr_i hx hb hr hlocks dX6_cardOf_113 ((caI_n (w := 4) hI hk (by decide)).symm)
      · subst hke
        refine lv_tableIn (tgt := 114) (off := 90) hx hb dX6_cardOf_24 (by decide) (by decide) (by decide) (by decide) ?_
        refine lv_aload_n hx hb dX6_cardOf_114 rfl (lv_at hl 1 rfl) ?_
        refine va_get (D := D) (ci := 6) (v := .ref gr) (C := RX6) (T := TX6) (N := 7) hx hb hts hin_X6 hown hK.1 hP 0 rfl rfl 3 (by decide) f_31 (fun _ h9 => h9) rfl dX6_cardOf_115 ?_
        refine lv_iload_n hx hb dX6_cardOf_118 rfl (lv_at hl 2 rfl) ?_
        refine xc_V (As := [.int (nI k)]) (rest := []) ⟨hx, hb, hml, hown, hts⟩ (c_X3_highest l D y gr h V q hR hI k (by omega)) (cwV 1 hts gX6_cardOf_X3_highest rfl rfl rfl hd_X3_highest ⟨Nat.le_of_ble_eq_true rfl, Nat.le_of_ble_eq_true rfl⟩) (xpv_r hK hP [6, 1, 2, 3, 4, 5] 6 rfl rfl rfl) rfl hl.1 rfl (Nat.le_of_ble_eq_true rfl) dX6_cardOf_119 ⟨Nat.zero_le _, Nat.zero_le _⟩ (fun r7 hr7 => ?_)
        subst hr7
        exact xr_i hx hb hr hlocks dX6_cardOf_122 ((caI_n (w := 5) hI hk (by decide)).symm)
      · subst hke
        refine lv_tableIn (tgt := 123) (off := 99) hx hb dX6_cardOf_24 (by decide) (by decide) (by decide) (by decide) ?_
        refine lv_aload_n hx hb dX6_cardOf_123 rfl (lv_at hl 1 rfl) ?_
        refine va_get (D := D) (ci := 6) (v := .ref gr) (C := RX6) (T := TX6) (N := 7) hx hb hts hin_X6 hown hK.1 hP 0 rfl rfl 3 (by decide) f_31 (fun _ h9 => h9) rfl dX6_cardOf_124 ?_
        refine lv_iload_n hx hb dX6_cardOf_127 rfl (lv_at hl 2 rfl) ?_
        refine xc_V (As := [.int (nI k)]) (rest := []) ⟨hx, hb, hml, hown, hts⟩ (c_X3_lowest l D y gr h V q hR hI k (by omega)) (cwV 1 hts gX6_cardOf_X3_lowest rfl rfl rfl hd_X3_lowest ⟨Nat.le_of_ble_eq_true rfl, Nat.le_of_ble_eq_true rfl⟩) (xpv_r hK hP [6, 1, 2, 3, 4, 5] 6 rfl rfl rfl) rfl hl.1 rfl (Nat.le_of_ble_eq_true rfl) dX6_cardOf_128 ⟨Nat.zero_le _, Nat.zero_le _⟩ (fun r8 hr8 => ?_)
        subst hr8
        exact xr_i hx hb hr hlocks dX6_cardOf_131 ((caI_n (w := 6) hI hk (by decide)).symm)
      · subst hke
        refine lv_tableIn (tgt := 132) (off := 108) hx hb dX6_cardOf_24 (by decide) (by decide) (by decide) (by decide) ?_
        refine lv_aload_n hx hb dX6_cardOf_132 rfl (lv_at hl 1 rfl) ?_
        refine va_get (D := D) (ci := 6) (v := .ref gt) (C := RX6) (T := TX6) (N := 7) hx hb hts hin_X6 hown hK.1 hP 0 rfl rfl 4 (by decide) f_38 (fun _ h9 => h9) rfl dX6_cardOf_133 ?_
        refine lv_iload_n hx hb dX6_cardOf_136 rfl (lv_at hl 2 rfl) ?_
        refine xc_V (As := [.int (nI k)]) (rest := []) ⟨hx, hb, hml, hown, hts⟩ (c_X5_beginningAt l D y gt h V q hR hI k (by omega)) (cwV 1 hts gX6_cardOf_X5_beginningAt rfl rfl rfl hd_X5_beginningAt ⟨Nat.le_of_ble_eq_true rfl, Nat.le_of_ble_eq_true rfl⟩) (xpv_r hK hP [7, 1, 2, 3, 4, 5] 7 rfl rfl rfl) rfl hl.1 rfl (Nat.le_of_ble_eq_true rfl) dX6_cardOf_137 ⟨Nat.zero_le _, Nat.zero_le _⟩ (fun r9 hr9 => ?_)
        subst hr9
        exact xr_i hx hb hr hlocks dX6_cardOf_140 ((caI_n (w := 7) hI hk (by decide)).symm)
      · subst hke
        refine lv_tableIn (tgt := 141) (off := 117) hx hb dX6_cardOf_24 (by decide) (by decide) (by decide) (by decide) ?_
        refine lv_aload_n hx hb dX6_cardOf_141 rfl (lv_at hl 1 rfl) ?_
        refine va_get (D := D) (ci := 6) (v := .ref gr) (C := RX6) (T := TX6) (N := 7) hx hb hts hin_X6 hown hK.1 hP 0 rfl rfl 3 (by decide) f_31 (fun _ h9 => h9) rfl dX6_cardOf_142 ?_
        refine lv_iload_n hx hb dX6_cardOf_145 rfl (lv_at hl 2 rfl) ?_
        refine xc_V (As := [.int (nI k)]) (rest := []) ⟨hx, hb, hml, hown, hts⟩ (c_X3_barAt l D y gr h V q hR hI k (by omega)) (cwV 1 hts gX6_cardOf_X3_barAt rfl rfl rfl hd_X3_barAt ⟨Nat.le_of_ble_eq_true rfl, Nat.le_of_ble_eq_true rfl⟩) (xpv_r hK hP [6, 1, 2, 3, 4, 5] 6 rfl rfl rfl) rfl hl.1 rfl (Nat.le_of_ble_eq_true rfl) dX6_cardOf_146 ⟨Nat.zero_le _, Nat.zero_le _⟩ (fun r10 hr10 => ?_)
        subst hr10
        exact xr_i hx hb hr hlocks dX6_cardOf_149 ((caI_n (w := 8) hI hk (by decide)).symm)
      · subst hke
        refine lv_tableIn (tgt := 150) (off := 126) hx hb dX6_cardOf_24 (by decide) (by decide) (by decide) (by decide) ?_
        refine lv_aload_n hx hb dX6_cardOf_150 rfl (lv_at hl 1 rfl) ?_
        refine va_get (D := D) (ci := 6) (v := .ref gr) (C := RX6) (T := TX6) (N := 7) hx hb hts hin_X6 hown hK.1 hP 0 rfl rfl 3 (by decide) f_31 (fun _ h9 => h9) rfl dX6_cardOf_151 ?_
        refine lv_iload_n hx hb dX6_cardOf_154 rfl (lv_at hl 2 rfl) ?_
        refine xc_V (As := [.int (nI k)]) (rest := []) ⟨hx, hb, hml, hown, hts⟩ (c_X3_aboveByColours l D y gr h V q hR hI k (by omega)) (cwV 1 hts gX6_cardOf_X3_aboveByColours rfl rfl rfl hd_X3_aboveByColours ⟨Nat.le_of_ble_eq_true rfl, Nat.le_of_ble_eq_true rfl⟩) (xpv_r hK hP [6, 1, 2, 3, 4, 5] 6 rfl rfl rfl) rfl hl.1 rfl (Nat.le_of_ble_eq_true rfl) dX6_cardOf_155 ⟨Nat.zero_le _, Nat.zero_le _⟩ (fun r11 hr11 => ?_)
        subst hr11
        exact xr_i hx hb hr hlocks dX6_cardOf_158 ((caI_n (w := 9) hI hk (by decide)).symm)
  · refine lv_ldc hx hb hown f_93 dX6_cardOf_11 ?_
    exact xr_i hx hb hr hlocks dX6_cardOf_13 (caI_f (fun hq => (bN_0.mp kc8) hq.1))
set_option maxHeartbeats 8000000 in
set_option maxRecDepth 100000 in
theorem c_X6_threadOf (l : Launch) (D : va_G) (y : Nat → ClassId) (g t0 a gr gt gc sa : Nat) (h : Nat → Nat) (V : Nat → Nat) (q : Nat → Nat → Int32) (hR : RepC V q) (hI : Inv V) (x w : Int32) : Met l yX6_threadOf wsX6_threadOf ({ frames := 4, cells := 0, slots := 0, locals := 91 }) (va_Pc [.ref g, .int x, .int w] (xPr D y [(g, .inr (6, [.ref (h 0), .ref t0, .ref a, .ref gr, .ref gt, .ref gc, .ref sa])), (h 0, .inr (2, [.ref (h 1), .ref (h 2), .ref (h 3), .ref (h 4), .int (nI (V 16)), .int (nI (V 67)), .int (rmb V), .int (nI (V 66))])), (h 1, .inl (y 1, 8, .inl (q 0))), (h 2, .inl (y 1, 8, .inl (q 1))), (h 3, .inl (y 1, 24, .inl (q 2))), (h 4, .inl (y 1, 4, .inl (q 3))), (gr, .inr (3, [.ref (h 0)])), (gt, .inr (5, [.ref (h 0)])), (gc, .inr (0, [.ref (h 0)]))])) (vp_Si (fun rz => rz = thI V x w)) 0 0 (fun _ => False) := by
  refine Met.ofW (cc := cX6_threadOf) (maxL := 3) (ret := (some .int)) (by decide) rfl ?_
  intro p e s m args below meth c s₁ B hml hv
  obtain ⟨rfl, hP, hK⟩ := hv
  have hx := B.exec
  have hb := B.bytes
  have hr := B.returns
  have hts := atoms_spec (ws := wsX6_threadOf) B.pre
  have hown : s.vm.findClass RX6 = some m.cls := findClass_of_methodNamed B.named
  have hlocks := B.notSynchronized
  have f_10 := hts (.fieldLink RX6 10 "LoomTunes" "now" "LLoomTunes$Register;") (by decide +kernel)
  have f_31 := hts (.fieldLink RX6 31 "LoomTunes" "rows" "LLoomTunes$Rows;") (by decide +kernel)
  have f_38 := hts (.fieldLink RX6 38 "LoomTunes" "tones" "LLoomTunes$Tones;") (by decide +kernel)
  have f_45 := hts (.fieldLink RX6 45 "LoomTunes" "cloth" "LLoomTunes$Cloth;") (by decide +kernel)
  have f_93 := hts (.constant RX6 93 (-1000001)) (by decide +kernel)
  have hin_X6 : ∀ w ∈ wsX60, w ∈ wsX6_threadOf := by decide +kernel
  have hP : va_P D vwCl [(g, .inr (6, [.ref (h 0), .ref t0, .ref a, .ref gr, .ref gt, .ref gc, .ref sa])), (h 0, .inr (2, [.ref (h 1), .ref (h 2), .ref (h 3), .ref (h 4), .int (nI (V 16)), .int (nI (V 67)), .int (rmb V), .int (nI (V 66))])), (h 1, .inl (y 1, 8, .inl (q 0))), (h 2, .inl (y 1, 8, .inl (q 1))), (h 3, .inl (y 1, 24, .inl (q 2))), (h 4, .inl (y 1, 4, .inl (q 3))), (gr, .inr (3, [.ref (h 0)])), (gt, .inr (5, [.ref (h 0)])), (gc, .inr (0, [.ref (h 0)]))] s.heap := hP
  have hl := lv_entry ([.ref g, .int x, .int w]) (n := 3) (Nat.le_of_ble_eq_true rfl)
  rw [lg_entry_eq]
  generalize (lg_sl ([.ref g, .int x, .int w]) ++ List.replicate (3 - (lg_sl ([.ref g, .int x, .int w])).length) Slot.unset).toArray = ls at hl ⊢
  have hl : lv_has ls 3 [(0, .ref g), (1, .int x), (2, .int w)] := hl
  have hsz := hI.sz
  refine lv_iload_n hx hb dX6_threadOf_0 rfl (lv_at hl 1 rfl) ?_
  refine lv_if_lt (tgt := 10) hx hb dX6_threadOf_1 (by decide) (fun kc1 => ?_) (fun kc1 => ?_)
  · refine lv_ldc hx hb hown f_93 dX6_threadOf_10 ?_
    exact xr_i hx hb hr hlocks dX6_threadOf_12 (thI_f (fun hq => by first | exact hq.1.1 kc1 | exact hq.1.2 (xle_of kc7)))
  · refine lv_iload_n hx hb dX6_threadOf_4 rfl (lv_at hl 1 rfl) ?_
    refine lv_bipush (v := nI 8) hx hb dX6_threadOf_5 (by decide) ?_
    refine lv_icmp_lt (tgt := 13) hx hb dX6_threadOf_7 (by decide) (fun kc7 => ?_) (fun kc7 => ?_)
    · obtain ⟨k, hk, rfl⟩ := inR_k (n := 8) (by decide) ⟨kc1, xnle kc7⟩
      refine lv_iload_n hx hb dX6_threadOf_13 rfl (lv_at hl 2 rfl) ?_
      rcases xsw w 6 (by decide) with hsw | ⟨kw, hkw, hke⟩
      · refine lv_tableOut (tgt := 106) hx hb dX6_threadOf_14 (by have := hsw.1; omega) (by decide) ?_
        refine lv_ldc hx hb hown f_93 dX6_threadOf_106 ?_
        exact xr_i hx hb hr hlocks dX6_threadOf_108 (thI_f (fun hq => hsw.2 hq.2))
      · rcases (show kw = 0 ∨ kw = 1 ∨ kw = 2 ∨ kw = 3 ∨ kw = 4 ∨ kw = 5 by omega) with rfl | rfl | rfl | rfl | rfl | rfl
        · subst hke
          refine lv_tableIn (tgt := 52) (off := 38) hx hb dX6_threadOf_14 (by decide) (by decide) (by decide) (by decide) ?_
          refine lv_aload_n hx hb dX6_threadOf_52 rfl (lv_at hl 0 rfl) ?_
          refine va_get (D := D) (ci := 6) (v := .ref (h 0)) (C := RX6) (T := TX6) (N := 7) hx hb hts hin_X6 hown hK.1 hP 0 rfl rfl 0 (by decide) f_10 (fun _ h9 => h9) rfl dX6_threadOf_53 ?_
          refine lv_iload_n hx hb dX6_threadOf_56 rfl (lv_at hl 1 rfl) ?_
          refine xc_V (As := [.int (nI k)]) (rest := []) ⟨hx, hb, hml, hown, hts⟩ (c_X2_noteAt l D y h V q hR hI k (by omega)) (cwV 1 hts gX6_threadOf_X2_noteAt rfl rfl rfl hd_X2_noteAt ⟨Nat.le_of_ble_eq_true rfl, Nat.le_of_ble_eq_true rfl⟩) (xpv_r hK hP [1, 2, 3, 4, 5] 1 rfl rfl rfl) rfl hl.1 rfl (Nat.le_of_ble_eq_true rfl) dX6_threadOf_57 ⟨Nat.zero_le _, Nat.zero_le _⟩ (fun r1 hr1 => ?_)
          subst hr1
          exact xr_i hx hb hr hlocks dX6_threadOf_60 ((thI_n (w := 0) hk (by decide)).symm)
        · subst hke
          refine lv_tableIn (tgt := 61) (off := 47) hx hb dX6_threadOf_14 (by decide) (by decide) (by decide) (by decide) ?_
          refine lv_aload_n hx hb dX6_threadOf_61 rfl (lv_at hl 0 rfl) ?_
          refine va_get (D := D) (ci := 6) (v := .ref (h 0)) (C := RX6) (T := TX6) (N := 7) hx hb hts hin_X6 hown hK.1 hP 0 rfl rfl 0 (by decide) f_10 (fun _ h9 => h9) rfl dX6_threadOf_62 ?_
          refine lv_iload_n hx hb dX6_threadOf_65 rfl (lv_at hl 1 rfl) ?_
          refine xc_V (As := [.int (nI k)]) (rest := []) ⟨hx, hb, hml, hown, hts⟩ (c_X2_colourAt l D y h V q hR hI k (by omega)) (cwV 1 hts gX6_threadOf_X2_colourAt rfl rfl rfl hd_X2_colourAt ⟨Nat.le_of_ble_eq_true rfl, Nat.le_of_ble_eq_true rfl⟩) (xpv_r hK hP [1, 2, 3, 4, 5] 1 rfl rfl rfl) rfl hl.1 rfl (Nat.le_of_ble_eq_true rfl) dX6_threadOf_66 ⟨Nat.zero_le _, Nat.zero_le _⟩ (fun r2 hr2 => ?_)
          subst hr2
          exact xr_i hx hb hr hlocks dX6_threadOf_69 ((thI_n (w := 1) hk (by decide)).symm)
        · subst hke
          refine lv_tableIn (tgt := 70) (off := 56) hx hb dX6_threadOf_14 (by decide) (by decide) (by decide) (by decide) ?_
          refine lv_aload_n hx hb dX6_threadOf_70 rfl (lv_at hl 0 rfl) ?_
          refine va_get (D := D) (ci := 6) (v := .ref gt) (C := RX6) (T := TX6) (N := 7) hx hb hts hin_X6 hown hK.1 hP 0 rfl rfl 4 (by decide) f_38 (fun _ h9 => h9) rfl dX6_threadOf_71 ?_
          refine lv_iload_n hx hb dX6_threadOf_74 rfl (lv_at hl 1 rfl) ?_
          refine xc_V (As := [.int (nI k)]) (rest := []) ⟨hx, hb, hml, hown, hts⟩ (c_X5_ofThread l D y gt h V q hR hI k (by omega)) (cwV 1 hts gX6_threadOf_X5_ofThread rfl rfl rfl hd_X5_ofThread ⟨Nat.le_of_ble_eq_true rfl, Nat.le_of_ble_eq_true rfl⟩) (xpv_r hK hP [7, 1, 2, 3, 4, 5] 7 rfl rfl rfl) rfl hl.1 rfl (Nat.le_of_ble_eq_true rfl) dX6_threadOf_75 ⟨Nat.zero_le _, Nat.zero_le _⟩ (fun r3 hr3 => ?_)
          subst hr3
          exact xr_i hx hb hr hlocks dX6_threadOf_78 ((thI_n (w := 2) hk (by decide)).symm)
        · subst hke
          refine lv_tableIn (tgt := 79) (off := 65) hx hb dX6_threadOf_14 (by decide) (by decide) (by decide) (by decide) ?_
          refine lv_aload_n hx hb dX6_threadOf_79 rfl (lv_at hl 0 rfl) ?_
          refine va_get (D := D) (ci := 6) (v := .ref gr) (C := RX6) (T := TX6) (N := 7) hx hb hts hin_X6 hown hK.1 hP 0 rfl rfl 3 (by decide) f_31 (fun _ h9 => h9) rfl dX6_threadOf_80 ?_
          refine lv_iload_n hx hb dX6_threadOf_83 rfl (lv_at hl 1 rfl) ?_
          refine xc_V (As := [.int (nI k)]) (rest := []) ⟨hx, hb, hml, hown, hts⟩ (c_X3_soundingRows l D y gr h V q hR hI k (by omega)) (cwV 1 hts gX6_threadOf_X3_soundingRows rfl rfl rfl hd_X3_soundingRows ⟨Nat.le_of_ble_eq_true rfl, Nat.le_of_ble_eq_true rfl⟩) (xpv_r hK hP [6, 1, 2, 3, 4, 5] 6 rfl rfl rfl) rfl hl.1 rfl (Nat.le_of_ble_eq_true rfl) dX6_threadOf_84 ⟨Nat.zero_le _, Nat.zero_le _⟩ (fun r4 hr4 => ?_)
          subst hr4
          exact xr_i hx hb hr hlocks dX6_threadOf_87 ((thI_n (w := 3) hk (by decide)).symm)
        · subst hke
          refine lv_tableIn (tgt := 88) (off := 74) hx hb dX6_threadOf_14 (by decide) (by decide) (by decide) (by decide) ?_
          refine lv_aload_n hx hb dX6_threadOf_88 rfl (lv_at hl 0 rfl) ?_
          refine va_get (D := D) (ci := 6) (v := .ref gc) (C := RX6) (T := TX6) (N := 7) hx hb hts hin_X6 hown hK.1 hP 0 rfl rfl 5 (by decide) f_45 (fun _ h9 => h9) rfl dX6_threadOf_89 ?_
          refine lv_iload_n hx hb dX6_threadOf_92 rfl (lv_at hl 1 rfl) ?_
          refine xc_V (As := [.int (nI k)]) (rest := []) ⟨hx, hb, hml, hown, hts⟩ (c_X0_longestFloat l D y gc h V q hR hI k (by omega)) (cwV 1 hts gX6_threadOf_X0_longestFloat rfl rfl rfl hd_X0_longestFloat ⟨Nat.le_of_ble_eq_true rfl, Nat.le_of_ble_eq_true rfl⟩) (xpv_r hK hP [8, 1, 2, 3, 4, 5] 8 rfl rfl rfl) rfl hl.1 rfl (Nat.le_of_ble_eq_true rfl) dX6_threadOf_93 ⟨Nat.zero_le _, Nat.zero_le _⟩ (fun r5 hr5 => ?_)
          subst hr5
          exact xr_i hx hb hr hlocks dX6_threadOf_96 ((thI_n (w := 4) hk (by decide)).symm)
        · subst hke
          refine lv_tableIn (tgt := 97) (off := 83) hx hb dX6_threadOf_14 (by decide) (by decide) (by decide) (by decide) ?_
          refine lv_aload_n hx hb dX6_threadOf_97 rfl (lv_at hl 0 rfl) ?_
          refine va_get (D := D) (ci := 6) (v := .ref gc) (C := RX6) (T := TX6) (N := 7) hx hb hts hin_X6 hown hK.1 hP 0 rfl rfl 5 (by decide) f_45 (fun _ h9 => h9) rfl dX6_threadOf_98 ?_
          refine lv_iload_n hx hb dX6_threadOf_101 rfl (lv_at hl 1 rfl) ?_
          refine xc_V (As := [.int (nI k)]) (rest := []) ⟨hx, hb, hml, hown, hts⟩ (c_X0_longFloats l D y gc h V q hR hI k (by omega)) (cwV 1 hts gX6_threadOf_X0_longFloats rfl rfl rfl hd_X0_longFloats ⟨Nat.le_of_ble_eq_true rfl, Nat.le_of_ble_eq_true rfl⟩) (xpv_r hK hP [8, 1, 2, 3, 4, 5] 8 rfl rfl rfl) rfl hl.1 rfl (Nat.le_of_ble_eq_true rfl) dX6_threadOf_102 ⟨Nat.zero_le _, Nat.zero_le _⟩ (fun r6 hr6 => ?_)
          subst hr6
          exact xr_i hx hb hr hlocks dX6_threadOf_105 ((thI_n (w := 5) hk (by decide)).symm)
    · refine lv_ldc hx hb hown f_93 dX6_threadOf_10 ?_
      exact xr_i hx hb hr hlocks dX6_threadOf_12 (thI_f (fun hq => by first | exact hq.1.1 kc1 | exact hq.1.2 (xle_of kc7)))
set_option maxHeartbeats 8000000 in
set_option maxRecDepth 100000 in
theorem c_X6_toneOf (l : Launch) (D : va_G) (y : Nat → ClassId) (g t0 a gr gt gc sa : Nat) (h : Nat → Nat) (V : Nat → Nat) (q : Nat → Nat → Int32) (hR : RepC V q) (hI : Inv V) (x w : Int32) : Met l yX6_toneOf wsX6_toneOf ({ frames := 4, cells := 0, slots := 0, locals := 88 }) (va_Pc [.ref g, .int x, .int w] (xPr D y [(g, .inr (6, [.ref (h 0), .ref t0, .ref a, .ref gr, .ref gt, .ref gc, .ref sa])), (h 0, .inr (2, [.ref (h 1), .ref (h 2), .ref (h 3), .ref (h 4), .int (nI (V 16)), .int (nI (V 67)), .int (rmb V), .int (nI (V 66))])), (h 1, .inl (y 1, 8, .inl (q 0))), (h 2, .inl (y 1, 8, .inl (q 1))), (h 3, .inl (y 1, 24, .inl (q 2))), (h 4, .inl (y 1, 4, .inl (q 3))), (gr, .inr (3, [.ref (h 0)])), (gt, .inr (5, [.ref (h 0)])), (gc, .inr (0, [.ref (h 0)]))])) (vp_Si (fun rz => rz = toI V x w)) 0 0 (fun _ => False) := by
  refine Met.ofW (cc := cX6_toneOf) (maxL := 6) (ret := (some .int)) (by decide) rfl ?_
  intro p e s m args below meth c s₁ B hml hv
  obtain ⟨rfl, hP, hK⟩ := hv
  have hx := B.exec
  have hb := B.bytes
  have hr := B.returns
  have hts := atoms_spec (ws := wsX6_toneOf) B.pre
  have hown : s.vm.findClass RX6 = some m.cls := findClass_of_methodNamed B.named
  have hlocks := B.notSynchronized
  have f_10 := hts (.fieldLink RX6 10 "LoomTunes" "now" "LLoomTunes$Register;") (by decide +kernel)
  have f_147 := hts (.constant RX6 147 (-1000004)) (by decide +kernel)
  have f_31 := hts (.fieldLink RX6 31 "LoomTunes" "rows" "LLoomTunes$Rows;") (by decide +kernel)
  have f_38 := hts (.fieldLink RX6 38 "LoomTunes" "tones" "LLoomTunes$Tones;") (by decide +kernel)
  have f_93 := hts (.constant RX6 93 (-1000001)) (by decide +kernel)
  have hin_X6 : ∀ w ∈ wsX60, w ∈ wsX6_toneOf := by decide +kernel
  have hP : va_P D vwCl [(g, .inr (6, [.ref (h 0), .ref t0, .ref a, .ref gr, .ref gt, .ref gc, .ref sa])), (h 0, .inr (2, [.ref (h 1), .ref (h 2), .ref (h 3), .ref (h 4), .int (nI (V 16)), .int (nI (V 67)), .int (rmb V), .int (nI (V 66))])), (h 1, .inl (y 1, 8, .inl (q 0))), (h 2, .inl (y 1, 8, .inl (q 1))), (h 3, .inl (y 1, 24, .inl (q 2))), (h 4, .inl (y 1, 4, .inl (q 3))), (gr, .inr (3, [.ref (h 0)])), (gt, .inr (5, [.ref (h 0)])), (gc, .inr (0, [.ref (h 0)]))] s.heap := hP
  have hl := lv_entry ([.ref g, .int x, .int w]) (n := 6) (Nat.le_of_ble_eq_true rfl)
  rw [lg_entry_eq]
  generalize (lg_sl ([.ref g, .int x, .int w]) ++ List.replicate (6 - (lg_sl ([.ref g, .int x, .int w])).length) Slot.unset).toArray = ls at hl ⊢
  have hl : lv_has ls 6 [(0, .ref g), (1, .int x), (2, .int w)] := hl
  have hsz := hI.sz
  refine lv_iload_n hx hb dX6_toneOf_0 rfl (lv_at hl 1 rfl) ?_
  refine lv_if_lt (tgt := 13) hx hb dX6_toneOf_1 (by decide) (fun kc1 => ?_) (fun kc1 => ?_)
  · refine lv_ldc hx hb hown f_93 dX6_toneOf_13 ?_
    exact xr_i hx hb hr hlocks dX6_toneOf_15 (toI_f (fun hq => by first | exact hq.1 kc1 | exact hq.2.1 kc5 | exact hq.2.2 (xgt_n (m := 5) rfl (by decide) kc10)))
  · refine lv_iload_n hx hb dX6_toneOf_4 rfl (lv_at hl 2 rfl) ?_
    refine lv_if_lt (tgt := 13) hx hb dX6_toneOf_5 (by decide) (fun kc5 => ?_) (fun kc5 => ?_)
    · refine lv_ldc hx hb hown f_93 dX6_toneOf_13 ?_
      exact xr_i hx hb hr hlocks dX6_toneOf_15 (toI_f (fun hq => by first | exact hq.1 kc1 | exact hq.2.1 kc5 | exact hq.2.2 (xgt_n (m := 5) rfl (by decide) kc10)))
    · refine lv_iload_n hx hb dX6_toneOf_8 rfl (lv_at hl 2 rfl) ?_
      refine lv_iconst (v := nI 4) hx hb dX6_toneOf_9 (by decide) ?_
      refine lv_icmp_le (tgt := 16) hx hb dX6_toneOf_10 (by decide) (fun kc10 => ?_) (fun kc10 => ?_)
      · obtain ⟨k, hk, rfl⟩ := nI_of kc1
        obtain ⟨kw, hkw, rfl⟩ := inR_k (n := 5) (by decide) ⟨kc5, xle_n (m := 5) rfl (by decide) kc10⟩
        refine lv_aload_n hx hb dX6_toneOf_16 rfl (lv_at hl 0 rfl) ?_
        refine va_get (D := D) (ci := 6) (v := .ref gt) (C := RX6) (T := TX6) (N := 7) hx hb hts hin_X6 hown hK.1 hP 0 rfl rfl 4 (by decide) f_38 (fun _ h9 => h9) rfl dX6_toneOf_17 ?_
        refine lv_iload_n hx hb dX6_toneOf_20 rfl (lv_at hl 1 rfl) ?_
        refine xc_V (As := [.int (nI k)]) (rest := []) ⟨hx, hb, hml, hown, hts⟩ (c_X5_placeOf l D y gt h V q hR hI k (by omega)) (cwV 1 hts gX6_toneOf_X5_placeOf rfl rfl rfl hd_X5_placeOf ⟨Nat.le_of_ble_eq_true rfl, Nat.le_of_ble_eq_true rfl⟩) (xpv_r hK hP [7, 1, 2, 3, 4, 5] 7 rfl rfl rfl) rfl hl.1 rfl (Nat.le_of_ble_eq_true rfl) dX6_toneOf_21 ⟨Nat.zero_le _, Nat.zero_le _⟩ (fun r1 hr1 => ?_)
        subst hr1
        rcases plI_p (V := V) hsz (k := k) with ⟨hpl, hpe⟩ | ⟨hpl, hpe⟩
        · refine xv hpe ?_
          refine lv_istore_n (lv' := [(3, .int (nI (plN V k))), (0, .ref g), (1, .int (nI k)), (2, .int (nI kw))]) hx hb dX6_toneOf_24 rfl hl (by decide) rfl (fun ls hl => ?_)
          refine lv_iload_n hx hb dX6_toneOf_25 rfl (lv_at hl 0 rfl) ?_
          refine xn_if_ge hx hb (by omega) (tgt := 32) dX6_toneOf_26 (by decide) ?_
          rcases (show kw = 0 ∨ kw = 1 ∨ kw = 2 ∨ kw = 3 ∨ kw = 4 by omega) with rfl | rfl | rfl | rfl | rfl
          · refine lv_iload_n hx hb dX6_toneOf_32 rfl (lv_at hl 0 rfl) ?_
            refine lv_bipush (v := nI 8) hx hb dX6_toneOf_33 (by decide) ?_
            refine xn_div hx hb (r := ((plN V k) / 8)) (by omega) (by omega) (by omega) rfl dX6_toneOf_35 ?_
            refine lv_istore (lv' := [(4, .int (nI ((plN V k) / 8))), (3, .int (nI (plN V k))), (0, .ref g), (1, .int (nI k)), (2, .int (nI 0))]) hx hb dX6_toneOf_36 hl (by decide) rfl (fun ls hl => ?_)
            refine lv_iload_n hx hb dX6_toneOf_38 rfl (lv_at hl 1 rfl) ?_
            refine lv_bipush (v := nI 8) hx hb dX6_toneOf_39 (by decide) ?_
            refine xn_rem hx hb (r := ((plN V k) % 8)) (by omega) (by omega) (by omega) rfl dX6_toneOf_41 ?_
            refine lv_istore (lv' := [(5, .int (nI ((plN V k) % 8))), (4, .int (nI ((plN V k) / 8))), (3, .int (nI (plN V k))), (0, .ref g), (1, .int (nI k)), (2, .int (nI 0))]) hx hb dX6_toneOf_42 hl (by decide) rfl (fun ls hl => ?_)
            refine lv_iload_n hx hb dX6_toneOf_44 rfl (lv_at hl 5 rfl) ?_
            refine lv_tableIn (tgt := 76) (off := 31) hx hb dX6_toneOf_45 (by decide) (by decide) (by decide) (by decide) ?_
            refine lv_iload hx hb dX6_toneOf_76 (lv_at hl 0 rfl) ?_
            exact xr_i hx hb hr hlocks dX6_toneOf_78 ((toI_n hk hkw hpl).symm)
          · refine lv_iload_n hx hb dX6_toneOf_32 rfl (lv_at hl 0 rfl) ?_
            refine lv_bipush (v := nI 8) hx hb dX6_toneOf_33 (by decide) ?_
            refine xn_div hx hb (r := ((plN V k) / 8)) (by omega) (by omega) (by omega) rfl dX6_toneOf_35 ?_
            refine lv_istore (lv' := [(4, .int (nI ((plN V k) / 8))), (3, .int (nI (plN V k))), (0, .ref g), (1, .int (nI k)), (2, .int (nI 1))]) hx hb dX6_toneOf_36 hl (by decide) rfl (fun ls hl => ?_)
            refine lv_iload_n hx hb dX6_toneOf_38 rfl (lv_at hl 1 rfl) ?_
            refine lv_bipush (v := nI 8) hx hb dX6_toneOf_39 (by decide) ?_
            refine xn_rem hx hb (r := ((plN V k) % 8)) (by omega) (by omega) (by omega) rfl dX6_toneOf_41 ?_
            refine lv_istore (lv' := [(5, .int (nI ((plN V k) % 8))), (4, .int (nI ((plN V k) / 8))), (3, .int (nI (plN V k))), (0, .ref g), (1, .int (nI k)), (2, .int (nI 1))]) hx hb dX6_toneOf_42 hl (by decide) rfl (fun ls hl => ?_)
            refine lv_iload_n hx hb dX6_toneOf_44 rfl (lv_at hl 5 rfl) ?_
            refine lv_tableIn (tgt := 79) (off := 34) hx hb dX6_toneOf_45 (by decide) (by decide) (by decide) (by decide) ?_
            refine lv_iload hx hb dX6_toneOf_79 (lv_at hl 1 rfl) ?_
            exact xr_i hx hb hr hlocks dX6_toneOf_81 ((toI_n hk hkw hpl).symm)
          · refine lv_iload_n hx hb dX6_toneOf_32 rfl (lv_at hl 0 rfl) ?_
            refine lv_bipush (v := nI 8) hx hb dX6_toneOf_33 (by decide) ?_
            refine xn_div hx hb (r := ((plN V k) / 8)) (by omega) (by omega) (by omega) rfl dX6_toneOf_35 ?_
            refine lv_istore (lv' := [(4, .int (nI ((plN V k) / 8))), (3, .int (nI (plN V k))), (0, .ref g), (1, .int (nI k)), (2, .int (nI 2))]) hx hb dX6_toneOf_36 hl (by decide) rfl (fun ls hl => ?_)
            refine lv_iload_n hx hb dX6_toneOf_38 rfl (lv_at hl 1 rfl) ?_
            refine lv_bipush (v := nI 8) hx hb dX6_toneOf_39 (by decide) ?_
            refine xn_rem hx hb (r := ((plN V k) % 8)) (by omega) (by omega) (by omega) rfl dX6_toneOf_41 ?_
            refine lv_istore (lv' := [(5, .int (nI ((plN V k) % 8))), (4, .int (nI ((plN V k) / 8))), (3, .int (nI (plN V k))), (0, .ref g), (1, .int (nI k)), (2, .int (nI 2))]) hx hb dX6_toneOf_42 hl (by decide) rfl (fun ls hl => ?_)
            refine lv_iload_n hx hb dX6_toneOf_44 rfl (lv_at hl 5 rfl) ?_
            refine lv_tableIn (tgt := 82) (off := 37) hx hb dX6_toneOf_45 (by decide) (by decide) (by decide) (by decide) ?_
            refine lv_aload_n hx hb dX6_toneOf_82 rfl (lv_at hl 3 rfl) ?_
            refine va_get (D := D) (ci := 6) (v := .ref gt) (C := RX6) (T := TX6) (N := 7) hx hb hts hin_X6 hown hK.1 hP 0 rfl rfl 4 (by decide) f_38 (fun _ h9 => h9) rfl dX6_toneOf_83 ?_
            refine lv_iload hx hb dX6_toneOf_86 (lv_at hl 1 rfl) ?_
            refine lv_iload hx hb dX6_toneOf_88 (lv_at hl 0 rfl) ?_
            refine xc_V (As := [.int (nI ((plN V k) / 8)), .int (nI ((plN V k) % 8))]) (rest := []) ⟨hx, hb, hml, hown, hts⟩ (c_X5_lengthFrom l D y gt h V q hR hI ((plN V k) / 8) ((plN V k) % 8) (by omega) (by omega)) (cwV 2 hts gX6_toneOf_X5_lengthFrom rfl rfl rfl hd_X5_lengthFrom ⟨Nat.le_of_ble_eq_true rfl, Nat.le_of_ble_eq_true rfl⟩) (xpv_r hK hP [7, 1, 2, 3, 4, 5] 7 rfl rfl rfl) rfl hl.1 rfl (Nat.le_of_ble_eq_true rfl) dX6_toneOf_90 ⟨Nat.zero_le _, Nat.zero_le _⟩ (fun r2 hr2 => ?_)
            subst hr2
            exact xr_i hx hb hr hlocks dX6_toneOf_93 ((toI_n hk hkw hpl).symm)
          · refine lv_iload_n hx hb dX6_toneOf_32 rfl (lv_at hl 0 rfl) ?_
            refine lv_bipush (v := nI 8) hx hb dX6_toneOf_33 (by decide) ?_
            refine xn_div hx hb (r := ((plN V k) / 8)) (by omega) (by omega) (by omega) rfl dX6_toneOf_35 ?_
            refine lv_istore (lv' := [(4, .int (nI ((plN V k) / 8))), (3, .int (nI (plN V k))), (0, .ref g), (1, .int (nI k)), (2, .int (nI 3))]) hx hb dX6_toneOf_36 hl (by decide) rfl (fun ls hl => ?_)
            refine lv_iload_n hx hb dX6_toneOf_38 rfl (lv_at hl 1 rfl) ?_
            refine lv_bipush (v := nI 8) hx hb dX6_toneOf_39 (by decide) ?_
            refine xn_rem hx hb (r := ((plN V k) % 8)) (by omega) (by omega) (by omega) rfl dX6_toneOf_41 ?_
            refine lv_istore (lv' := [(5, .int (nI ((plN V k) % 8))), (4, .int (nI ((plN V k) / 8))), (3, .int (nI (plN V k))), (0, .ref g), (1, .int (nI k)), (2, .int (nI 3))]) hx hb dX6_toneOf_42 hl (by decide) rfl (fun ls hl => ?_)
            refine lv_iload_n hx hb dX6_toneOf_44 rfl (lv_at hl 5 rfl) ?_
            refine lv_tableIn (tgt := 94) (off := 49) hx hb dX6_toneOf_45 (by decide) (by decide) (by decide) (by decide) ?_
            refine lv_aload_n hx hb dX6_toneOf_94 rfl (lv_at hl 3 rfl) ?_
            refine va_get (D := D) (ci := 6) (v := .ref (h 0)) (C := RX6) (T := TX6) (N := 7) hx hb hts hin_X6 hown hK.1 hP 0 rfl rfl 0 (by decide) f_10 (fun _ h9 => h9) rfl dX6_toneOf_95 ?_
            refine lv_iload hx hb dX6_toneOf_98 (lv_at hl 0 rfl) ?_
            refine xc_V (As := [.int (nI ((plN V k) % 8))]) (rest := []) ⟨hx, hb, hml, hown, hts⟩ (c_X2_noteAt l D y h V q hR hI ((plN V k) % 8) (by omega)) (cwV 1 hts gX6_toneOf_X2_noteAt rfl rfl rfl hd_X2_noteAt ⟨Nat.le_of_ble_eq_true rfl, Nat.le_of_ble_eq_true rfl⟩) (xpv_r hK hP [1, 2, 3, 4, 5] 1 rfl rfl rfl) rfl hl.1 rfl (Nat.le_of_ble_eq_true rfl) dX6_toneOf_100 ⟨Nat.zero_le _, Nat.zero_le _⟩ (fun r3 hr3 => ?_)
            subst hr3
            exact xr_i hx hb hr hlocks dX6_toneOf_103 ((toI_n hk hkw hpl).symm)
          · refine lv_iload_n hx hb dX6_toneOf_32 rfl (lv_at hl 0 rfl) ?_
            refine lv_bipush (v := nI 8) hx hb dX6_toneOf_33 (by decide) ?_
            refine xn_div hx hb (r := ((plN V k) / 8)) (by omega) (by omega) (by omega) rfl dX6_toneOf_35 ?_
            refine lv_istore (lv' := [(4, .int (nI ((plN V k) / 8))), (3, .int (nI (plN V k))), (0, .ref g), (1, .int (nI k)), (2, .int (nI 4))]) hx hb dX6_toneOf_36 hl (by decide) rfl (fun ls hl => ?_)
            refine lv_iload_n hx hb dX6_toneOf_38 rfl (lv_at hl 1 rfl) ?_
            refine lv_bipush (v := nI 8) hx hb dX6_toneOf_39 (by decide) ?_
            refine xn_rem hx hb (r := ((plN V k) % 8)) (by omega) (by omega) (by omega) rfl dX6_toneOf_41 ?_
            refine lv_istore (lv' := [(5, .int (nI ((plN V k) % 8))), (4, .int (nI ((plN V k) / 8))), (3, .int (nI (plN V k))), (0, .ref g), (1, .int (nI k)), (2, .int (nI 4))]) hx hb dX6_toneOf_42 hl (by decide) rfl (fun ls hl => ?_)
            refine lv_iload_n hx hb dX6_toneOf_44 rfl (lv_at hl 5 rfl) ?_
            refine lv_tableOut (tgt := 104) hx hb dX6_toneOf_45 (by decide) (by decide) ?_
            refine lv_aload_n hx hb dX6_toneOf_104 rfl (lv_at hl 3 rfl) ?_
            refine va_get (D := D) (ci := 6) (v := .ref gr) (C := RX6) (T := TX6) (N := 7) hx hb hts hin_X6 hown hK.1 hP 0 rfl rfl 3 (by decide) f_31 (fun _ h9 => h9) rfl dX6_toneOf_105 ?_
            refine lv_iload hx hb dX6_toneOf_108 (lv_at hl 1 rfl) ?_
            refine xc_V (As := [.int (nI ((plN V k) / 8))]) (rest := []) ⟨hx, hb, hml, hown, hts⟩ (c_X3_barAt l D y gr h V q hR hI ((plN V k) / 8) (by omega)) (cwV 1 hts gX6_toneOf_X3_barAt rfl rfl rfl hd_X3_barAt ⟨Nat.le_of_ble_eq_true rfl, Nat.le_of_ble_eq_true rfl⟩) (xpv_r hK hP [6, 1, 2, 3, 4, 5] 6 rfl rfl rfl) rfl hl.1 rfl (Nat.le_of_ble_eq_true rfl) dX6_toneOf_110 ⟨Nat.zero_le _, Nat.zero_le _⟩ (fun r4 hr4 => ?_)
            subst hr4
            exact xr_i hx hb hr hlocks dX6_toneOf_113 ((toI_n hk hkw hpl).symm)
        · refine xv hpe ?_
          refine lv_istore_n (lv' := [(3, .int (-1000004)), (0, .ref g), (1, .int (nI k)), (2, .int (nI kw))]) hx hb dX6_toneOf_24 rfl hl (by decide) rfl (fun ls hl => ?_)
          refine lv_iload_n hx hb dX6_toneOf_25 rfl (lv_at hl 0 rfl) ?_
          refine lv_if_ge (tgt := 32) hx hb dX6_toneOf_26 (by decide) (fun h => absurd h (by decide)) (fun kc26 => ?_)
          refine lv_ldc hx hb hown f_147 dX6_toneOf_29 ?_
          exact xr_i hx hb hr hlocks dX6_toneOf_31 (toI_0 hk hkw hpl)
      · refine lv_ldc hx hb hown f_93 dX6_toneOf_13 ?_
        exact xr_i hx hb hr hlocks dX6_toneOf_15 (toI_f (fun hq => by first | exact hq.1 kc1 | exact hq.2.1 kc5 | exact hq.2.2 (xgt_n (m := 5) rfl (by decide) kc10)))
set_option maxHeartbeats 8000000 in
set_option maxRecDepth 100000 in
theorem c_X6_partOfBar (l : Launch) (D : va_G) (y : Nat → ClassId) (g t0 a gr gt gc sa : Nat) (h : Nat → Nat) (V : Nat → Nat) (q : Nat → Nat → Int32) (hR : RepC V q) (hI : Inv V) (r w : Nat) (hr0 : r < 2 ^ 31) (hw : w < 4) : Met l yX6_partOfBar wsX6_partOfBar ({ frames := 2, cells := 0, slots := 0, locals := 42 }) (va_Pc [.ref g, .int (nI r), .int (nI w)] (xPr D y [(g, .inr (6, [.ref (h 0), .ref t0, .ref a, .ref gr, .ref gt, .ref gc, .ref sa])), (h 0, .inr (2, [.ref (h 1), .ref (h 2), .ref (h 3), .ref (h 4), .int (nI (V 16)), .int (nI (V 67)), .int (rmb V), .int (nI (V 66))])), (h 1, .inl (y 1, 8, .inl (q 0))), (h 2, .inl (y 1, 8, .inl (q 1))), (h 3, .inl (y 1, 24, .inl (q 2))), (h 4, .inl (y 1, 4, .inl (q 3))), (gt, .inr (5, [.ref (h 0)]))])) (vp_Si (fun rz => rz = nI (paN V r w))) 0 0 (fun _ => False) := by
  refine Met.ofW (cc := cX6_partOfBar) (maxL := 3) (ret := (some .int)) (by decide) rfl ?_
  intro p e s m args below meth c s₁ B hml hv
  obtain ⟨rfl, hP, hK⟩ := hv
  have hx := B.exec
  have hb := B.bytes
  have hr := B.returns
  have hts := atoms_spec (ws := wsX6_partOfBar) B.pre
  have hown : s.vm.findClass RX6 = some m.cls := findClass_of_methodNamed B.named
  have hlocks := B.notSynchronized
  have f_10 := hts (.fieldLink RX6 10 "LoomTunes" "now" "LLoomTunes$Register;") (by decide +kernel)
  have f_38 := hts (.fieldLink RX6 38 "LoomTunes" "tones" "LLoomTunes$Tones;") (by decide +kernel)
  have hin_X6 : ∀ w ∈ wsX60, w ∈ wsX6_partOfBar := by decide +kernel
  have hP : va_P D vwCl [(g, .inr (6, [.ref (h 0), .ref t0, .ref a, .ref gr, .ref gt, .ref gc, .ref sa])), (h 0, .inr (2, [.ref (h 1), .ref (h 2), .ref (h 3), .ref (h 4), .int (nI (V 16)), .int (nI (V 67)), .int (rmb V), .int (nI (V 66))])), (h 1, .inl (y 1, 8, .inl (q 0))), (h 2, .inl (y 1, 8, .inl (q 1))), (h 3, .inl (y 1, 24, .inl (q 2))), (h 4, .inl (y 1, 4, .inl (q 3))), (gt, .inr (5, [.ref (h 0)]))] s.heap := hP
  have hl := lv_entry ([.ref g, .int (nI r), .int (nI w)]) (n := 3) (Nat.le_of_ble_eq_true rfl)
  rw [lg_entry_eq]
  generalize (lg_sl ([.ref g, .int (nI r), .int (nI w)]) ++ List.replicate (3 - (lg_sl ([.ref g, .int (nI r), .int (nI w)])).length) Slot.unset).toArray = ls at hl ⊢
  have hl : lv_has ls 3 [(0, .ref g), (1, .int (nI r)), (2, .int (nI w))] := hl
  have hhl := hol_lt hI (r := r)
  refine lv_iload_n hx hb dX6_partOfBar_0 rfl (lv_at hl 2 rfl) ?_
  by_cases hk0 : (nI w) = nI 0
  · refine lv_lookup (tgt := 28) (off := 27) hx hb dX6_partOfBar_1 (by decide) (by rw [hk0]; decide) (by decide) ?_
    have hc : w = 0 := (nI_eq (by omega) (by decide)).mp hk0
    refine lv_iconst (v := nI 1) hx hb dX6_partOfBar_28 (by decide) ?_
    exact xr_i hx hb hr hlocks dX6_partOfBar_29 (congrArg nI (by unfold paN; rw [if_pos hc]))
  by_cases hk1 : (nI w) = nI 1
  · refine lv_lookup (tgt := 30) (off := 29) hx hb dX6_partOfBar_1 (by decide) (by rw [hk1]; decide) (by decide) ?_
    have hc : w = 1 := (nI_eq (by omega) (by decide)).mp hk1
    refine lv_aload_n hx hb dX6_partOfBar_30 rfl (lv_at hl 0 rfl) ?_
    refine va_get (D := D) (ci := 6) (v := .ref gt) (C := RX6) (T := TX6) (N := 7) hx hb hts hin_X6 hown hK.1 hP 0 rfl rfl 4 (by decide) f_38 (fun _ h9 => h9) rfl dX6_partOfBar_31 ?_
    refine lv_iload_n hx hb dX6_partOfBar_34 rfl (lv_at hl 1 rfl) ?_
    refine xc_V (As := [.int (nI r)]) (rest := []) ⟨hx, hb, hml, hown, hts⟩ (c_X5_beginningAt l D y gt h V q hR hI r (by omega)) (cwV 1 hts gX6_partOfBar_X5_beginningAt rfl rfl rfl hd_X5_beginningAt ⟨Nat.le_of_ble_eq_true rfl, Nat.le_of_ble_eq_true rfl⟩) (xpv_r hK hP [6, 1, 2, 3, 4, 5] 6 rfl rfl rfl) rfl hl.1 rfl (Nat.le_of_ble_eq_true rfl) dX6_partOfBar_35 ⟨Nat.zero_le _, Nat.zero_le _⟩ (fun r1 hr1 => ?_)
    subst hr1
    exact xr_i hx hb hr hlocks dX6_partOfBar_38 (congrArg nI (by unfold paN; rw [if_neg (by omega), if_pos hc]))
  refine lv_lookup (tgt := 39) (off := 38) hx hb dX6_partOfBar_1 (by decide) (by rw [lv_osw hk0 (by decide)]; rw [lv_osw hk1 (by decide)]; rfl) (by decide) ?_
  have hc0 : ¬ w = 0 := fun hq => hk0 (by rw [hq])
  have hc1 : ¬ w = 1 := fun hq => hk1 (by rw [hq])
  refine lv_aload_n hx hb dX6_partOfBar_39 rfl (lv_at hl 0 rfl) ?_
  refine va_get (D := D) (ci := 6) (v := .ref (h 0)) (C := RX6) (T := TX6) (N := 7) hx hb hts hin_X6 hown hK.1 hP 0 rfl rfl 0 (by decide) f_10 (fun _ h9 => h9) rfl dX6_partOfBar_40 ?_
  refine lv_aload_n hx hb dX6_partOfBar_43 rfl (lv_at hl 0 rfl) ?_
  refine va_get (D := D) (ci := 6) (v := .ref (h 0)) (C := RX6) (T := TX6) (N := 7) hx hb hts hin_X6 hown hK.1 hP 0 rfl rfl 0 (by decide) f_10 (fun _ h9 => h9) rfl dX6_partOfBar_44 ?_
  refine lv_iload_n hx hb dX6_partOfBar_47 rfl (lv_at hl 1 rfl) ?_
  refine xc_V (As := [.int (nI r)]) (rest := [.ref (h 0)]) ⟨hx, hb, hml, hown, hts⟩ (c_X2_holesAt_n l D y h V q hR hI r (by omega)) (cwV 1 hts gX6_partOfBar_X2_holesAt rfl rfl rfl hd_X2_holesAt ⟨Nat.le_of_ble_eq_true rfl, Nat.le_of_ble_eq_true rfl⟩) (xpv_r hK hP [1, 2, 3, 4, 5] 1 rfl rfl rfl) rfl hl.1 rfl (Nat.le_of_ble_eq_true rfl) dX6_partOfBar_48 ⟨Nat.zero_le _, Nat.zero_le _⟩ (fun r2 hr2 => ?_)
  subst hr2
  refine xc_V (As := [.int (nI (hol V r))]) (rest := []) ⟨hx, hb, hml, hown, hts⟩ (c_X2_clashesOf l D y h V q hR hI (hol V r) (by first | omega | exact hol_lt hI)) (cwV 1 hts gX6_partOfBar_X2_clashesOf rfl rfl rfl hd_X2_clashesOf ⟨Nat.le_of_ble_eq_true rfl, Nat.le_of_ble_eq_true rfl⟩) (xpv_r hK hP [1, 2, 3, 4, 5] 1 rfl rfl rfl) rfl hl.1 rfl (Nat.le_of_ble_eq_true rfl) dX6_partOfBar_51 ⟨Nat.zero_le _, Nat.zero_le _⟩ (fun r3 hr3 => ?_)
  subst hr3
  exact xr_i hx hb hr hlocks dX6_partOfBar_54 (congrArg nI (by unfold paN; rw [if_neg hc0, if_neg hc1]))
set_option maxHeartbeats 8000000 in
set_option maxRecDepth 100000 in
theorem c_X6_barOf (l : Launch) (D : va_G) (y : Nat → ClassId) (g t0 a gr gt gc sa : Nat) (h : Nat → Nat) (V : Nat → Nat) (q : Nat → Nat → Int32) (hR : RepC V q) (hI : Inv V) (x w : Int32) : Met l yX6_barOf wsX6_barOf ({ frames := 3, cells := 0, slots := 0, locals := 66 }) (va_Pc [.ref g, .int x, .int w] (xPr D y [(g, .inr (6, [.ref (h 0), .ref t0, .ref a, .ref gr, .ref gt, .ref gc, .ref sa])), (h 0, .inr (2, [.ref (h 1), .ref (h 2), .ref (h 3), .ref (h 4), .int (nI (V 16)), .int (nI (V 67)), .int (rmb V), .int (nI (V 66))])), (h 1, .inl (y 1, 8, .inl (q 0))), (h 2, .inl (y 1, 8, .inl (q 1))), (h 3, .inl (y 1, 24, .inl (q 2))), (h 4, .inl (y 1, 4, .inl (q 3))), (gr, .inr (3, [.ref (h 0)])), (gt, .inr (5, [.ref (h 0)]))])) (vp_Si (fun rz => rz = baI V x w)) 0 0 (fun _ => False) := by
  refine Met.ofW (cc := cX6_barOf) (maxL := 6) (ret := (some .int)) (by decide) rfl ?_
  intro p e s m args below meth c s₁ B hml hv
  obtain ⟨rfl, hP, hK⟩ := hv
  have hx := B.exec
  have hb := B.bytes
  have hr := B.returns
  have hts := atoms_spec (ws := wsX6_barOf) B.pre
  have hown : s.vm.findClass RX6 = some m.cls := findClass_of_methodNamed B.named
  have hlocks := B.notSynchronized
  have f_10 := hts (.fieldLink RX6 10 "LoomTunes" "now" "LLoomTunes$Register;") (by decide +kernel)
  have f_151 := hts (.fieldLink RX6 151 "LoomTunes$Register" "size" "I") (by decide +kernel)
  have f_31 := hts (.fieldLink RX6 31 "LoomTunes" "rows" "LLoomTunes$Rows;") (by decide +kernel)
  have f_93 := hts (.constant RX6 93 (-1000001)) (by decide +kernel)
  have hin_X2 : ∀ w ∈ wsX20, w ∈ wsX6_barOf := by decide +kernel
  have hin_X6 : ∀ w ∈ wsX60, w ∈ wsX6_barOf := by decide +kernel
  have hP : va_P D vwCl [(g, .inr (6, [.ref (h 0), .ref t0, .ref a, .ref gr, .ref gt, .ref gc, .ref sa])), (h 0, .inr (2, [.ref (h 1), .ref (h 2), .ref (h 3), .ref (h 4), .int (nI (V 16)), .int (nI (V 67)), .int (rmb V), .int (nI (V 66))])), (h 1, .inl (y 1, 8, .inl (q 0))), (h 2, .inl (y 1, 8, .inl (q 1))), (h 3, .inl (y 1, 24, .inl (q 2))), (h 4, .inl (y 1, 4, .inl (q 3))), (gr, .inr (3, [.ref (h 0)])), (gt, .inr (5, [.ref (h 0)]))] s.heap := hP
  have hl := lv_entry ([.ref g, .int x, .int w]) (n := 6) (Nat.le_of_ble_eq_true rfl)
  rw [lg_entry_eq]
  generalize (lg_sl ([.ref g, .int x, .int w]) ++ List.replicate (6 - (lg_sl ([.ref g, .int x, .int w])).length) Slot.unset).toArray = ls at hl ⊢
  have hl : lv_has ls 6 [(0, .ref g), (1, .int x), (2, .int w)] := hl
  have hsz := hI.sz
  have hs0 := hI.s0
  refine lv_iload_n hx hb dX6_barOf_0 rfl (lv_at hl 1 rfl) ?_
  refine lv_if_lt (tgt := 19) hx hb dX6_barOf_1 (by decide) (fun kc1 => ?_) (fun kc1 => ?_)
  · refine lv_ldc hx hb hown f_93 dX6_barOf_19 ?_
    exact xr_i hx hb hr hlocks dX6_barOf_21 (baI_f (fun hq => by first | exact hq.1.1 kc1 | exact hq.1.2 kc7 | exact hq.2.1 kc11 | exact hq.2.2 (xgt_n (m := 4) rfl (by decide) kc16)))
  · refine lv_iload_n hx hb dX6_barOf_4 rfl (lv_at hl 1 rfl) ?_
    refine lv_bipush (v := nI 12) hx hb dX6_barOf_5 (by decide) ?_
    refine lv_icmp_ge (tgt := 19) hx hb dX6_barOf_7 (by decide) (fun kc7 => ?_) (fun kc7 => ?_)
    · refine lv_ldc hx hb hown f_93 dX6_barOf_19 ?_
      exact xr_i hx hb hr hlocks dX6_barOf_21 (baI_f (fun hq => by first | exact hq.1.1 kc1 | exact hq.1.2 kc7 | exact hq.2.1 kc11 | exact hq.2.2 (xgt_n (m := 4) rfl (by decide) kc16)))
    · refine lv_iload_n hx hb dX6_barOf_10 rfl (lv_at hl 2 rfl) ?_
      refine lv_if_lt (tgt := 19) hx hb dX6_barOf_11 (by decide) (fun kc11 => ?_) (fun kc11 => ?_)
      · refine lv_ldc hx hb hown f_93 dX6_barOf_19 ?_
        exact xr_i hx hb hr hlocks dX6_barOf_21 (baI_f (fun hq => by first | exact hq.1.1 kc1 | exact hq.1.2 kc7 | exact hq.2.1 kc11 | exact hq.2.2 (xgt_n (m := 4) rfl (by decide) kc16)))
      · refine lv_iload_n hx hb dX6_barOf_14 rfl (lv_at hl 2 rfl) ?_
        refine lv_iconst (v := nI 3) hx hb dX6_barOf_15 (by decide) ?_
        refine lv_icmp_le (tgt := 22) hx hb dX6_barOf_16 (by decide) (fun kc16 => ?_) (fun kc16 => ?_)
        · obtain ⟨k, hk, rfl⟩ := inR_k (n := 12) (by decide) ⟨kc1, kc7⟩
          obtain ⟨kw, hkw, rfl⟩ := inR_k (n := 4) (by decide) ⟨kc11, xle_n (m := 4) rfl (by decide) kc16⟩
          refine lv_iconst (v := nI 0) hx hb dX6_barOf_22 (by decide) ?_
          refine lv_istore_n (lv' := [(3, .int (nI 0)), (0, .ref g), (1, .int (nI k)), (2, .int (nI kw))]) hx hb dX6_barOf_23 rfl hl (by decide) rfl (fun ls hl => ?_)
          refine lv_iconst (v := nI 0) hx hb dX6_barOf_24 (by decide) ?_
          refine lv_istore (lv' := [(4, .int (nI 0)), (3, .int (nI 0)), (0, .ref g), (1, .int (nI k)), (2, .int (nI kw))]) hx hb dX6_barOf_25 hl (by decide) rfl (fun ls hl => ?_)
          refine lv_iconst (v := nI 0) hx hb dX6_barOf_27 (by decide) ?_
          refine lv_istore (lv' := [(5, .int (nI 0)), (4, .int (nI 0)), (3, .int (nI 0)), (0, .ref g), (1, .int (nI k)), (2, .int (nI kw))]) hx hb dX6_barOf_28 hl (by decide) rfl (fun ls hl => ?_)
          have lp30 : ∀ (n : Nat) (i : Nat), V 16 - i < n → (i ≤ V 16) → ∀ ls : Array Slot, lv_has ls 6 [(5, .int (nI i)), (4, .int (nI (baO V k i))), (3, .int (nI (paS V k kw i))), (0, .ref g), (1, .int (nI k)), (2, .int (nI kw))] → W p l e (headSpec wsX6_barOf ({ frames := 3, cells := 0, slots := 0, locals := 66 })).room s m ([.ref g, .int (nI k), .int (nI kw)] : List Value).toArray below meth c s.heap [] 0 0 (MQ below (vp_Si (fun rz => rz = baI V (nI k) (nI kw))) ([.ref g, .int (nI k), .int (nI kw)] : List Value).toArray s 0 0 (fun _ => False)) (F0 m 30 ls []) := by
            intro n
            induction n with
            | zero => intro i hm; exact absurd hm (Nat.not_lt_zero _)
            | succ n ih30 =>
              intro i hm hi ls hl
              refine lv_iload hx hb dX6_barOf_30 (lv_at hl 0 rfl) ?_
              refine lv_aload_n hx hb dX6_barOf_32 rfl (lv_at hl 3 rfl) ?_
              refine va_get (D := D) (ci := 6) (v := .ref (h 0)) (C := RX6) (T := TX6) (N := 7) hx hb hts hin_X6 hown hK.1 hP 0 rfl rfl 0 (by decide) f_10 (fun _ h9 => h9) rfl dX6_barOf_33 ?_
              refine va_get (D := D) (ci := 2) (v := .int (nI (V 16))) (C := RX2) (T := TX2) (N := 8) hx hb hts hin_X2 hown hK.1 hP 1 rfl rfl 4 (by decide) f_151 (fun _ h9 => h9) rfl dX6_barOf_36 ?_
              refine xn_icmp_ge hx hb (by omega) (by omega) (tgt := 85) dX6_barOf_39 (by decide) (fun kc39 => ?_) (fun kc39 => ?_)
              · have hi9 : i = V 16 := by omega
                refine lv_iload_n hx hb dX6_barOf_85 rfl (lv_at hl 5 rfl) ?_
                refine lv_iconst (v := nI 3) hx hb dX6_barOf_86 (by decide) ?_
                refine xn_icmp_ne hx hb (by omega) (by omega) (tgt := 95) dX6_barOf_87 (by decide) (fun kc87 => ?_) (fun kc87 => ?_)
                · refine lv_iload_n hx hb dX6_barOf_95 rfl (lv_at hl 2 rfl) ?_
                  exact xr_i hx hb hr hlocks dX6_barOf_96 (by rw [baI_n hk hkw kc87, hi9])
                · refine lv_iload hx hb dX6_barOf_90 (lv_at hl 1 rfl) ?_
                  refine lv_goto (tgt := 96) hx hb dX6_barOf_92 (by decide) ?_
                  exact xr_i hx hb hr hlocks dX6_barOf_96 (by rw [baI_3 hk kc87, hi9])
              · have hdv : i / V 68 ≤ i := Nat.div_le_self _ _
                refine lv_aload_n hx hb dX6_barOf_42 rfl (lv_at hl 3 rfl) ?_
                refine va_get (D := D) (ci := 6) (v := .ref gr) (C := RX6) (T := TX6) (N := 7) hx hb hts hin_X6 hown hK.1 hP 0 rfl rfl 3 (by decide) f_31 (fun _ h9 => h9) rfl dX6_barOf_43 ?_
                refine lv_iload hx hb dX6_barOf_46 (lv_at hl 0 rfl) ?_
                refine xc_V (As := [.int (nI i)]) (rest := []) ⟨hx, hb, hml, hown, hts⟩ (c_X3_barAt l D y gr h V q hR hI i (by omega)) (cwV 1 hts gX6_barOf_X3_barAt rfl rfl rfl hd_X3_barAt ⟨Nat.le_of_ble_eq_true rfl, Nat.le_of_ble_eq_true rfl⟩) (xpv_r hK hP [6, 1, 2, 3, 4, 5] 6 rfl rfl rfl) rfl hl.1 rfl (Nat.le_of_ble_eq_true rfl) dX6_barOf_48 ⟨Nat.zero_le _, Nat.zero_le _⟩ (fun r1 hr1 => ?_)
                subst hr1
                refine lv_iload_n hx hb dX6_barOf_51 rfl (lv_at hl 4 rfl) ?_
                refine xn_icmp_ne hx hb (by omega) (by omega) (tgt := 79) dX6_barOf_52 (by decide) (fun kc52 => ?_) (fun kc52 => ?_)
                · refine lv_iinc (v := nI (i + 1)) (lv' := [(5, .int (nI (i + 1))), (4, .int (nI (baO V k i))), (3, .int (nI (paS V k kw i))), (0, .ref g), (1, .int (nI k)), (2, .int (nI kw))]) hx hb dX6_barOf_79 hl (k := 0) rfl (nI_add i 1) (by decide) rfl (fun ls hl => ?_)
                  refine lv_goto (tgt := 30) hx hb dX6_barOf_82 (by decide) ?_
                  have e2 : (baO V k i) = (baO V k (i + 1)) := by rw [baO]; first | rw [if_pos kc52] | rw [if_neg kc52]
                  have e3 : (paS V k kw i) = (paS V k kw (i + 1)) := by first | exact paS_t kc52 | exact paS_f kc52
                  exact ih30 (i + 1) (by omega) (by omega) ls (xl_eq (b := [(5, .int (nI (i + 1))), (4, .int (nI (baO V k (i + 1)))), (3, .int (nI (paS V k kw (i + 1)))), (0, .ref g), (1, .int (nI k)), (2, .int (nI kw))]) (lv_sub (l' := [(5, .int (nI (i + 1))), (4, .int (nI (baO V k i))), (3, .int (nI (paS V k kw i))), (0, .ref g), (1, .int (nI k)), (2, .int (nI kw))]) hl [0, 1, 2, 3, 4, 5] rfl) (xk rfl (xk (congrArg (fun z : Nat => Value.int (nI z)) e2) (xk (congrArg (fun z : Nat => Value.int (nI z)) e3) (xk rfl (xk rfl (xk rfl (rfl : ([] : List (Nat × Value)) = []))))))))
                · refine lv_iload_n hx hb dX6_barOf_55 rfl (lv_at hl 2 rfl) ?_
                  refine lv_aload_n hx hb dX6_barOf_56 rfl (lv_at hl 3 rfl) ?_
                  refine lv_iload hx hb dX6_barOf_57 (lv_at hl 0 rfl) ?_
                  refine lv_iload_n hx hb dX6_barOf_59 rfl (lv_at hl 5 rfl) ?_
                  refine xc_V (As := [.int (nI i), .int (nI kw)]) (rest := [.int (nI (paS V k kw i))]) ⟨hx, hb, hml, hown, hts⟩ (c_X6_partOfBar l D y g t0 a gr gt gc sa h V q hR hI i kw (by omega) (by omega)) (cwV 2 hts gX6_barOf_X6_partOfBar rfl rfl rfl hd_X6_partOfBar ⟨Nat.le_of_ble_eq_true rfl, Nat.le_of_ble_eq_true rfl⟩) (xpv_r hK hP [0, 1, 2, 3, 4, 5, 7] 0 rfl rfl rfl) rfl hl.1 rfl (Nat.le_of_ble_eq_true rfl) dX6_barOf_60 ⟨Nat.zero_le _, Nat.zero_le _⟩ (fun r4 hr4 => ?_)
                  subst hr4
                  refine xn_add hx hb (r := ((paS V k kw i) + (paN V i kw))) rfl dX6_barOf_63 ?_
                  refine lv_istore_n (lv' := [(3, .int (nI ((paS V k kw i) + (paN V i kw)))), (5, .int (nI i)), (4, .int (nI (baO V k i))), (0, .ref g), (1, .int (nI k)), (2, .int (nI kw))]) hx hb dX6_barOf_64 rfl hl (by decide) rfl (fun ls hl => ?_)
                  refine lv_iload hx hb dX6_barOf_65 (lv_at hl 2 rfl) ?_
                  refine lv_aload_n hx hb dX6_barOf_67 rfl (lv_at hl 3 rfl) ?_
                  refine va_get (D := D) (ci := 6) (v := .ref gr) (C := RX6) (T := TX6) (N := 7) hx hb hts hin_X6 hown hK.1 hP 0 rfl rfl 3 (by decide) f_31 (fun _ h9 => h9) rfl dX6_barOf_68 ?_
                  refine lv_iload hx hb dX6_barOf_71 (lv_at hl 1 rfl) ?_
                  refine xc_V (As := [.int (nI i)]) (rest := [.int (nI (baO V k i))]) ⟨hx, hb, hml, hown, hts⟩ (c_X3_noteSet l D y gr h V q hR hI i (by omega)) (cwV 1 hts gX6_barOf_X3_noteSet rfl rfl rfl hd_X3_noteSet ⟨Nat.le_of_ble_eq_true rfl, Nat.le_of_ble_eq_true rfl⟩) (xpv_r hK hP [6, 1, 2, 3, 4, 5] 6 rfl rfl rfl) rfl hl.1 rfl (Nat.le_of_ble_eq_true rfl) dX6_barOf_73 ⟨Nat.zero_le _, Nat.zero_le _⟩ (fun r5 hr5 => ?_)
                  subst hr5
                  refine xn_or hx hb (r := ((baO V k i) ||| (nsA V i 8))) rfl dX6_barOf_76 ?_
                  refine lv_istore (lv' := [(4, .int (nI ((baO V k i) ||| (nsA V i 8)))), (3, .int (nI ((paS V k kw i) + (paN V i kw)))), (5, .int (nI i)), (0, .ref g), (1, .int (nI k)), (2, .int (nI kw))]) hx hb dX6_barOf_77 hl (by decide) rfl (fun ls hl => ?_)
                  refine lv_iinc (v := nI (i + 1)) (lv' := [(5, .int (nI (i + 1))), (4, .int (nI ((baO V k i) ||| (nsA V i 8)))), (3, .int (nI ((paS V k kw i) + (paN V i kw)))), (0, .ref g), (1, .int (nI k)), (2, .int (nI kw))]) hx hb dX6_barOf_79 hl (k := 2) rfl (nI_add i 1) (by decide) rfl (fun ls hl => ?_)
                  refine lv_goto (tgt := 30) hx hb dX6_barOf_82 (by decide) ?_
                  have e6 : ((baO V k i) ||| (nsA V i 8)) = (baO V k (i + 1)) := by rw [baO]; first | rw [if_pos kc52] | rw [if_neg kc52]
                  have e7 : ((paS V k kw i) + (paN V i kw)) = (paS V k kw (i + 1)) := by first | exact paS_t kc52 | exact paS_f kc52
                  exact ih30 (i + 1) (by omega) (by omega) ls (xl_eq (b := [(5, .int (nI (i + 1))), (4, .int (nI (baO V k (i + 1)))), (3, .int (nI (paS V k kw (i + 1)))), (0, .ref g), (1, .int (nI k)), (2, .int (nI kw))]) (lv_sub (l' := [(5, .int (nI (i + 1))), (4, .int (nI ((baO V k i) ||| (nsA V i 8)))), (3, .int (nI ((paS V k kw i) + (paN V i kw)))), (0, .ref g), (1, .int (nI k)), (2, .int (nI kw))]) hl [0, 1, 2, 3, 4, 5] rfl) (xk rfl (xk (congrArg (fun z : Nat => Value.int (nI z)) e6) (xk (congrArg (fun z : Nat => Value.int (nI z)) e7) (xk rfl (xk rfl (xk rfl (rfl : ([] : List (Nat × Value)) = []))))))))
          have e8 : 0 = (baO V k 0) := rfl
          have e9 : 0 = (paS V k kw 0) := rfl
          exact lp30 ((V 16 - 0) + 1) 0 (Nat.lt_succ_self _) (by omega) ls (xl_eq (b := [(5, .int (nI 0)), (4, .int (nI (baO V k 0))), (3, .int (nI (paS V k kw 0))), (0, .ref g), (1, .int (nI k)), (2, .int (nI kw))]) (lv_sub (l' := [(5, .int (nI 0)), (4, .int (nI 0)), (3, .int (nI 0)), (0, .ref g), (1, .int (nI k)), (2, .int (nI kw))]) hl [0, 1, 2, 3, 4, 5] rfl) (xk rfl (xk (congrArg (fun z : Nat => Value.int (nI z)) e8) (xk (congrArg (fun z : Nat => Value.int (nI z)) e9) (xk rfl (xk rfl (xk rfl (rfl : ([] : List (Nat × Value)) = []))))))))
        · refine lv_ldc hx hb hown f_93 dX6_barOf_19 ?_
          exact xr_i hx hb hr hlocks dX6_barOf_21 (baI_f (fun hq => by first | exact hq.1.1 kc1 | exact hq.1.2 kc7 | exact hq.2.1 kc11 | exact hq.2.2 (xgt_n (m := 4) rfl (by decide) kc16)))
set_option maxHeartbeats 8000000 in
set_option maxRecDepth 100000 in
theorem c_X6_would (l : Launch) (D : va_G) (y : Nat → ClassId) (g t0 a gr gt gc sa : Nat) (h : Nat → Nat) (V : Nat → Nat) (q : Nat → Nat → Int32) (hR : RepC V q) (hI : Inv V) (x : Int32) : Met l yX6_would wsX6_would ({ frames := 3, cells := 0, slots := 0, locals := 69 }) (va_Pc [.ref g, .int x] (xPr D y [(g, .inr (6, [.ref (h 0), .ref t0, .ref a, .ref gr, .ref gt, .ref gc, .ref sa])), (h 0, .inr (2, [.ref (h 1), .ref (h 2), .ref (h 3), .ref (h 4), .int (nI (V 16)), .int (nI (V 67)), .int (rmb V), .int (nI (V 66))])), (h 1, .inl (y 1, 8, .inl (q 0))), (h 2, .inl (y 1, 8, .inl (q 1))), (h 3, .inl (y 1, 24, .inl (q 2))), (h 4, .inl (y 1, 4, .inl (q 3)))])) (vp_Si (fun rz => rz = ansI V x)) 0 0 (fun _ => False) := by
  refine Met.ofW (cc := cX6_would) (maxL := 2) (ret := (some .int)) (by decide) rfl ?_
  intro p e s m args below meth c s₁ B hml hv
  obtain ⟨rfl, hP, hK⟩ := hv
  have hx := B.exec
  have hb := B.bytes
  have hr := B.returns
  have hts := atoms_spec (ws := wsX6_would) B.pre
  have hown : s.vm.findClass RX6 = some m.cls := findClass_of_methodNamed B.named
  have hlocks := B.notSynchronized
  have f_10 := hts (.fieldLink RX6 10 "LoomTunes" "now" "LLoomTunes$Register;") (by decide +kernel)
  have hin_X6 : ∀ w ∈ wsX60, w ∈ wsX6_would := by decide +kernel
  have hP : va_P D vwCl [(g, .inr (6, [.ref (h 0), .ref t0, .ref a, .ref gr, .ref gt, .ref gc, .ref sa])), (h 0, .inr (2, [.ref (h 1), .ref (h 2), .ref (h 3), .ref (h 4), .int (nI (V 16)), .int (nI (V 67)), .int (rmb V), .int (nI (V 66))])), (h 1, .inl (y 1, 8, .inl (q 0))), (h 2, .inl (y 1, 8, .inl (q 1))), (h 3, .inl (y 1, 24, .inl (q 2))), (h 4, .inl (y 1, 4, .inl (q 3)))] s.heap := hP
  have hl := lv_entry ([.ref g, .int x]) (n := 2) (Nat.le_of_ble_eq_true rfl)
  rw [lg_entry_eq]
  generalize (lg_sl ([.ref g, .int x]) ++ List.replicate (2 - (lg_sl ([.ref g, .int x])).length) Slot.unset).toArray = ls at hl ⊢
  have hl : lv_has ls 2 [(0, .ref g), (1, .int x)] := hl
  refine lv_aload_n hx hb dX6_would_0 rfl (lv_at hl 0 rfl) ?_
  refine va_get (D := D) (ci := 6) (v := .ref (h 0)) (C := RX6) (T := TX6) (N := 7) hx hb hts hin_X6 hown hK.1 hP 0 rfl rfl 0 (by decide) f_10 (fun _ h9 => h9) rfl dX6_would_1 ?_
  refine lv_iload_n hx hb dX6_would_4 rfl (lv_at hl 1 rfl) ?_
  refine xc_V (As := [.int x]) (rest := []) ⟨hx, hb, hml, hown, hts⟩ (c_X2_answerTo l D y h V q hR hI x) (cwV 1 hts gX6_would_X2_answerTo rfl rfl rfl hd_X2_answerTo ⟨Nat.le_of_ble_eq_true rfl, Nat.le_of_ble_eq_true rfl⟩) (xpv_r hK hP [1, 2, 3, 4, 5] 1 rfl rfl rfl) rfl hl.1 rfl (Nat.le_of_ble_eq_true rfl) dX6_would_5 ⟨Nat.zero_le _, Nat.zero_le _⟩ (fun r1 hr1 => ?_)
  subst hr1
  exact xr_i hx hb hr hlocks dX6_would_8 (rfl)
set_option maxHeartbeats 8000000 in
set_option maxRecDepth 100000 in
theorem c_X6_alike (l : Launch) (D : va_G) (y : Nat → ClassId) (g t0 a gr gt gc sa : Nat) (h : Nat → Nat) (V : Nat → Nat) (q : Nat → Nat → Int32) (hR : RepC V q) (hI : Inv V) (x : Int32) : Met l yX6_alike wsX6_alike ({ frames := 4, cells := 0, slots := 0, locals := 92 }) (va_Pc [.ref g, .int x] (xPr D y [(g, .inr (6, [.ref (h 0), .ref t0, .ref a, .ref gr, .ref gt, .ref gc, .ref sa])), (h 0, .inr (2, [.ref (h 1), .ref (h 2), .ref (h 3), .ref (h 4), .int (nI (V 16)), .int (nI (V 67)), .int (rmb V), .int (nI (V 66))])), (h 1, .inl (y 1, 8, .inl (q 0))), (h 2, .inl (y 1, 8, .inl (q 1))), (h 3, .inl (y 1, 24, .inl (q 2))), (h 4, .inl (y 1, 4, .inl (q 3))), (gr, .inr (3, [.ref (h 0)]))])) (vp_Si (fun rz => rz = alI V x)) 0 0 (fun _ => False) := by
  refine Met.ofW (cc := cX6_alike) (maxL := 3) (ret := (some .int)) (by decide) rfl ?_
  intro p e s m args below meth c s₁ B hml hv
  obtain ⟨rfl, hP, hK⟩ := hv
  have hx := B.exec
  have hb := B.bytes
  have hr := B.returns
  have hts := atoms_spec (ws := wsX6_alike) B.pre
  have hown : s.vm.findClass RX6 = some m.cls := findClass_of_methodNamed B.named
  have hlocks := B.notSynchronized
  have f_10 := hts (.fieldLink RX6 10 "LoomTunes" "now" "LLoomTunes$Register;") (by decide +kernel)
  have f_147 := hts (.constant RX6 147 (-1000004)) (by decide +kernel)
  have f_31 := hts (.fieldLink RX6 31 "LoomTunes" "rows" "LLoomTunes$Rows;") (by decide +kernel)
  have f_93 := hts (.constant RX6 93 (-1000001)) (by decide +kernel)
  have hin_X6 : ∀ w ∈ wsX60, w ∈ wsX6_alike := by decide +kernel
  have hP : va_P D vwCl [(g, .inr (6, [.ref (h 0), .ref t0, .ref a, .ref gr, .ref gt, .ref gc, .ref sa])), (h 0, .inr (2, [.ref (h 1), .ref (h 2), .ref (h 3), .ref (h 4), .int (nI (V 16)), .int (nI (V 67)), .int (rmb V), .int (nI (V 66))])), (h 1, .inl (y 1, 8, .inl (q 0))), (h 2, .inl (y 1, 8, .inl (q 1))), (h 3, .inl (y 1, 24, .inl (q 2))), (h 4, .inl (y 1, 4, .inl (q 3))), (gr, .inr (3, [.ref (h 0)]))] s.heap := hP
  have hl := lv_entry ([.ref g, .int x]) (n := 3) (Nat.le_of_ble_eq_true rfl)
  rw [lg_entry_eq]
  generalize (lg_sl ([.ref g, .int x]) ++ List.replicate (3 - (lg_sl ([.ref g, .int x])).length) Slot.unset).toArray = ls at hl ⊢
  have hl : lv_has ls 3 [(0, .ref g), (1, .int x)] := hl
  have hsz := hI.sz
  have hbl := bN_lt (c := inR x (V 16))
  refine lv_aload_n hx hb dX6_alike_0 rfl (lv_at hl 0 rfl) ?_
  refine va_get (D := D) (ci := 6) (v := .ref (h 0)) (C := RX6) (T := TX6) (N := 7) hx hb hts hin_X6 hown hK.1 hP 0 rfl rfl 0 (by decide) f_10 (fun _ h9 => h9) rfl dX6_alike_1 ?_
  refine lv_iload_n hx hb dX6_alike_4 rfl (lv_at hl 1 rfl) ?_
  refine xc_V (As := [.int x]) (rest := []) ⟨hx, hb, hml, hown, hts⟩ (c_X2_hasCard l D y h V q hR hI x) (cwV 1 hts gX6_alike_X2_hasCard rfl rfl rfl hd_X2_hasCard ⟨Nat.le_of_ble_eq_true rfl, Nat.le_of_ble_eq_true rfl⟩) (xpv_r hK hP [1, 2, 3, 4, 5] 1 rfl rfl rfl) rfl hl.1 rfl (Nat.le_of_ble_eq_true rfl) dX6_alike_5 ⟨Nat.zero_le _, Nat.zero_le _⟩ (fun r1 hr1 => ?_)
  subst hr1
  refine xn_if_ne hx hb (by omega) (tgt := 14) dX6_alike_8 (by decide) (fun kc8 => ?_) (fun kc8 => ?_)
  · obtain ⟨k, hk, rfl⟩ := inR_k (by omega) (bN_n0.mp kc8)
    refine lv_iload_n hx hb dX6_alike_14 rfl (lv_at hl 1 rfl) ?_
    refine lv_iconst (v := nI 1) hx hb dX6_alike_15 (by decide) ?_
    refine lv_isub hx hb dX6_alike_16 ?_
    refine lv_istore_n (lv' := [(2, .int ((nI k) - (nI 1))), (0, .ref g), (1, .int (nI k))]) hx hb dX6_alike_17 rfl hl (by decide) rfl (fun ls hl => ?_)
    have lp18 : ∀ (n : Nat) (e1 : Nat), e1 < n → (e1 ≤ k) → (alN V k e1 = alN V k k) → ∀ ls : Array Slot, lv_has ls 3 [(2, .int ((nI e1) + (-1))), (0, .ref g), (1, .int (nI k))] → W p l e (headSpec wsX6_alike ({ frames := 4, cells := 0, slots := 0, locals := 92 })).room s m ([.ref g, .int (nI k)] : List Value).toArray below meth c s.heap [] 0 0 (MQ below (vp_Si (fun rz => rz = alI V (nI k))) ([.ref g, .int (nI k)] : List Value).toArray s 0 0 (fun _ => False)) (F0 m 18 ls []) := by
      intro n
      induction n with
      | zero => intro e1 hm; exact absurd hm (Nat.not_lt_zero _)
      | succ n ih18 =>
        intro e1 hm he hv ls hl
        refine lv_iload_n hx hb dX6_alike_18 rfl (lv_at hl 0 rfl) ?_
        refine lv_if_lt (tgt := 42) hx hb dX6_alike_19 (by decide) (fun kc19 => ?_) (fun kc19 => ?_)
        · have he0 := xe_t (by omega) kc19
          refine lv_ldc hx hb hown f_147 dX6_alike_42 ?_
          exact xr_i hx hb hr hlocks dX6_alike_44 (by rw [alI_n hI hk, ← hv, he0]; rfl)
        · obtain ⟨j, rfl⟩ : ∃ j, e1 = j + 1 := ⟨e1 - 1, by have := xe_f (by omega) kc19; omega⟩
          have hl : lv_has ls 3 [(2, .int ((nI (j + 1)) + (-1))), (0, .ref g), (1, .int (nI k))] := hl
          rw [pk_m1] at hl
          have hsm := smN_lt (V := V) (a := j) (b := k) 8
          refine lv_aload_n hx hb dX6_alike_22 rfl (lv_at hl 1 rfl) ?_
          refine va_get (D := D) (ci := 6) (v := .ref gr) (C := RX6) (T := TX6) (N := 7) hx hb hts hin_X6 hown hK.1 hP 0 rfl rfl 3 (by decide) f_31 (fun _ h9 => h9) rfl dX6_alike_23 ?_
          refine lv_iload_n hx hb dX6_alike_26 rfl (lv_at hl 0 rfl) ?_
          refine lv_iload_n hx hb dX6_alike_27 rfl (lv_at hl 2 rfl) ?_
          refine xc_V (As := [.int (nI j), .int (nI k)]) (rest := []) ⟨hx, hb, hml, hown, hts⟩ (c_X3_soundTheSame l D y gr h V q hR hI j k (by omega) (by omega)) (cwV 2 hts gX6_alike_X3_soundTheSame rfl rfl rfl hd_X3_soundTheSame ⟨Nat.le_of_ble_eq_true rfl, Nat.le_of_ble_eq_true rfl⟩) (xpv_r hK hP [6, 1, 2, 3, 4, 5] 6 rfl rfl rfl) rfl hl.1 rfl (Nat.le_of_ble_eq_true rfl) dX6_alike_28 ⟨Nat.zero_le _, Nat.zero_le _⟩ (fun r2 hr2 => ?_)
          subst hr2
          refine xn_if_eq hx hb (by omega) (tgt := 36) dX6_alike_31 (by decide) (fun kc31 => ?_) (fun kc31 => ?_)
          · refine lv_iinc (v := (nI j) + (-1)) (lv' := [(2, .int ((nI j) + (-1))), (0, .ref g), (1, .int (nI k))]) hx hb dX6_alike_36 hl (k := 0) rfl (rfl) (by decide) rfl (fun ls hl => ?_)
            refine lv_goto (tgt := 18) hx hb dX6_alike_39 (by decide) ?_
            exact ih18 j (by omega) (by omega) ((alN_s (by omega)).symm.trans hv) ls (lv_sub hl [0, 1, 2] rfl)
          · refine lv_iload_n hx hb dX6_alike_34 rfl (lv_at hl 0 rfl) ?_
            exact xr_i hx hb hr hlocks dX6_alike_35 (by rw [alI_n hI hk, ← hv]; exact (alN_t (by omega)).symm)
    have e3 : ((nI k) - (nI 1)) = ((nI k) + (-1)) := xm1
    exact lp18 (k + 1) k (Nat.lt_succ_self _) (by omega) (rfl) ls (xl_eq (b := [(2, .int ((nI k) + (-1))), (0, .ref g), (1, .int (nI k))]) (lv_sub (l' := [(2, .int ((nI k) - (nI 1))), (0, .ref g), (1, .int (nI k))]) hl [0, 1, 2] rfl) (xk (congrArg Value.int e3) (xk rfl (xk rfl (rfl : ([] : List (Nat × Value)) = [])))))
  · refine lv_ldc hx hb hown f_93 dX6_alike_11 ?_
    exact xr_i hx hb hr hlocks dX6_alike_13 (alI_f (bN_0.mp kc8))
set_option maxHeartbeats 8000000 in
set_option maxRecDepth 100000 in
theorem c_X6_best (l : Launch) (D : va_G) (y : Nat → ClassId) (g t0 a gr gt gc sa : Nat) (h : Nat → Nat) (V : Nat → Nat) (q : Nat → Nat → Int32) (hR : RepC V q) (hI : Inv V) (w : Int32) : Met l yX6_best wsX6_best ({ frames := 4, cells := 0, slots := 0, locals := 88 }) (va_Pc [.ref g, .int w] (xPr D y [(g, .inr (6, [.ref (h 0), .ref t0, .ref a, .ref gr, .ref gt, .ref gc, .ref sa])), (h 0, .inr (2, [.ref (h 1), .ref (h 2), .ref (h 3), .ref (h 4), .int (nI (V 16)), .int (nI (V 67)), .int (rmb V), .int (nI (V 66))])), (h 1, .inl (y 1, 8, .inl (q 0))), (h 2, .inl (y 1, 8, .inl (q 1))), (h 3, .inl (y 1, 24, .inl (q 2))), (h 4, .inl (y 1, 4, .inl (q 3)))])) (vp_Si (fun rz => rz = beI V w)) 0 0 (fun _ => False) := by
  refine Met.ofW (cc := cX6_best) (maxL := 3) (ret := (some .int)) (by decide) rfl ?_
  intro p e s m args below meth c s₁ B hml hv
  obtain ⟨rfl, hP, hK⟩ := hv
  have hx := B.exec
  have hb := B.bytes
  have hr := B.returns
  have hts := atoms_spec (ws := wsX6_best) B.pre
  have hown : s.vm.findClass RX6 = some m.cls := findClass_of_methodNamed B.named
  have hlocks := B.notSynchronized
  have f_10 := hts (.fieldLink RX6 10 "LoomTunes" "now" "LLoomTunes$Register;") (by decide +kernel)
  have f_147 := hts (.constant RX6 147 (-1000004)) (by decide +kernel)
  have f_169 := hts (.constant RX6 169 (-1000003)) (by decide +kernel)
  have f_93 := hts (.constant RX6 93 (-1000001)) (by decide +kernel)
  have hin_X6 : ∀ w ∈ wsX60, w ∈ wsX6_best := by decide +kernel
  have hP : va_P D vwCl [(g, .inr (6, [.ref (h 0), .ref t0, .ref a, .ref gr, .ref gt, .ref gc, .ref sa])), (h 0, .inr (2, [.ref (h 1), .ref (h 2), .ref (h 3), .ref (h 4), .int (nI (V 16)), .int (nI (V 67)), .int (rmb V), .int (nI (V 66))])), (h 1, .inl (y 1, 8, .inl (q 0))), (h 2, .inl (y 1, 8, .inl (q 1))), (h 3, .inl (y 1, 24, .inl (q 2))), (h 4, .inl (y 1, 4, .inl (q 3)))] s.heap := hP
  have hl := lv_entry ([.ref g, .int w]) (n := 3) (Nat.le_of_ble_eq_true rfl)
  rw [lg_entry_eq]
  generalize (lg_sl ([.ref g, .int w]) ++ List.replicate (3 - (lg_sl ([.ref g, .int w])).length) Slot.unset).toArray = ls at hl ⊢
  have hl : lv_has ls 3 [(0, .ref g), (1, .int w)] := hl
  have hsz := hI.sz
  have hbl := bN_lt (c := 24 ≤ V 16)
  have hbt := bst_lt (V := V)
  refine lv_iload_n hx hb dX6_best_0 rfl (lv_at hl 1 rfl) ?_
  refine lv_if_lt (tgt := 9) hx hb dX6_best_1 (by decide) (fun kc1 => ?_) (fun kc1 => ?_)
  · refine lv_ldc hx hb hown f_93 dX6_best_9 ?_
    exact xr_i hx hb hr hlocks dX6_best_11 (beI_f (fun hq => by first | exact hq.1 kc1 | exact hq.2 (xgt_n (m := 3) rfl (by decide) kc6)))
  · refine lv_iload_n hx hb dX6_best_4 rfl (lv_at hl 1 rfl) ?_
    refine lv_iconst (v := nI 2) hx hb dX6_best_5 (by decide) ?_
    refine lv_icmp_le (tgt := 12) hx hb dX6_best_6 (by decide) (fun kc6 => ?_) (fun kc6 => ?_)
    · obtain ⟨kw, hkw, rfl⟩ := inR_k (n := 3) (by decide) ⟨kc1, xle_n (m := 3) rfl (by decide) kc6⟩
      refine lv_aload_n hx hb dX6_best_12 rfl (lv_at hl 0 rfl) ?_
      refine va_get (D := D) (ci := 6) (v := .ref (h 0)) (C := RX6) (T := TX6) (N := 7) hx hb hts hin_X6 hown hK.1 hP 0 rfl rfl 0 (by decide) f_10 (fun _ h9 => h9) rfl dX6_best_13 ?_
      refine xc_V (As := []) (rest := []) ⟨hx, hb, hml, hown, hts⟩ (c_X2_isFull l D y h V q hR hI ) (cwV 0 hts gX6_best_X2_isFull rfl rfl rfl hd_X2_isFull ⟨Nat.le_of_ble_eq_true rfl, Nat.le_of_ble_eq_true rfl⟩) (xpv_r hK hP [1, 2, 3, 4, 5] 1 rfl rfl rfl) rfl hl.1 rfl (Nat.le_of_ble_eq_true rfl) dX6_best_16 ⟨Nat.zero_le _, Nat.zero_le _⟩ (fun r1 hr1 => ?_)
      subst hr1
      refine xn_if_eq hx hb (by omega) (tgt := 25) dX6_best_19 (by decide) (fun kc19 => ?_) (fun kc19 => ?_)
      · refine lv_aload_n hx hb dX6_best_25 rfl (lv_at hl 0 rfl) ?_
        refine va_get (D := D) (ci := 6) (v := .ref (h 0)) (C := RX6) (T := TX6) (N := 7) hx hb hts hin_X6 hown hK.1 hP 0 rfl rfl 0 (by decide) f_10 (fun _ h9 => h9) rfl dX6_best_26 ?_
        refine xc_V (As := []) (rest := []) ⟨hx, hb, hml, hown, hts⟩ (c_X2_bestCard l D y h V q hR hI ) (cwV 0 hts gX6_best_X2_bestCard rfl rfl rfl hd_X2_bestCard ⟨Nat.le_of_ble_eq_true rfl, Nat.le_of_ble_eq_true rfl⟩) (xpv_r hK hP [1, 2, 3, 4, 5] 1 rfl rfl rfl) rfl hl.1 rfl (Nat.le_of_ble_eq_true rfl) dX6_best_29 ⟨Nat.zero_le _, Nat.zero_le _⟩ (fun r2 hr2 => ?_)
        subst hr2
        refine lv_istore_n (lv' := [(2, .int (bsI V 256)), (0, .ref g), (1, .int (nI kw))]) hx hb dX6_best_32 rfl hl (by decide) rfl (fun ls hl => ?_)
        refine lv_iload_n hx hb dX6_best_33 rfl (lv_at hl 0 rfl) ?_
        refine lv_iconst (v := (-1)) hx hb dX6_best_34 (by decide) ?_
        refine lv_icmp_ne (tgt := 41) hx hb dX6_best_35 (by decide) (fun kc35 => ?_) (fun kc35 => ?_)
        · have hbs := bsI_n kc35
          rw [hbs.1] at hl
          refine lv_iload_n hx hb dX6_best_41 rfl (lv_at hl 2 rfl) ?_
          refine xn_if_ne hx hb (by omega) (tgt := 49) dX6_best_42 (by decide) (fun kc42 => ?_) (fun kc42 => ?_)
          · refine lv_iload_n hx hb dX6_best_49 rfl (lv_at hl 2 rfl) ?_
            refine lv_iconst (v := nI 1) hx hb dX6_best_50 (by decide) ?_
            refine xn_icmp_ne hx hb (by omega) (by omega) (tgt := 65) dX6_best_51 (by decide) (fun kc51 => ?_) (fun kc51 => ?_)
            · refine lv_aload_n hx hb dX6_best_65 rfl (lv_at hl 1 rfl) ?_
              refine va_get (D := D) (ci := 6) (v := .ref (h 0)) (C := RX6) (T := TX6) (N := 7) hx hb hts hin_X6 hown hK.1 hP 0 rfl rfl 0 (by decide) f_10 (fun _ h9 => h9) rfl dX6_best_66 ?_
              refine lv_iload_n hx hb dX6_best_69 rfl (lv_at hl 0 rfl) ?_
              refine xc_V (As := [.int (nI (bst V 256))]) (rest := []) ⟨hx, hb, hml, hown, hts⟩ (c_X2_inCommonWithLast l D y h V q hR hI (bst V 256) (by omega)) (cwV 1 hts gX6_best_X2_inCommonWithLast rfl rfl rfl hd_X2_inCommonWithLast ⟨Nat.le_of_ble_eq_true rfl, Nat.le_of_ble_eq_true rfl⟩) (xpv_r hK hP [1, 2, 3, 4, 5] 1 rfl rfl rfl) rfl hl.1 rfl (Nat.le_of_ble_eq_true rfl) dX6_best_70 ⟨Nat.zero_le _, Nat.zero_le _⟩ (fun r3 hr3 => ?_)
              subst hr3
              exact xr_i hx hb hr hlocks dX6_best_73 (by rw [beI_n hkw (bN_0.mp kc19) hbs.2, if_neg kc42, if_neg kc51])
            · refine lv_aload_n hx hb dX6_best_54 rfl (lv_at hl 1 rfl) ?_
              refine va_get (D := D) (ci := 6) (v := .ref (h 0)) (C := RX6) (T := TX6) (N := 7) hx hb hts hin_X6 hown hK.1 hP 0 rfl rfl 0 (by decide) f_10 (fun _ h9 => h9) rfl dX6_best_55 ?_
              refine lv_iload_n hx hb dX6_best_58 rfl (lv_at hl 0 rfl) ?_
              refine xc_V (As := [.int (nI (bst V 256))]) (rest := []) ⟨hx, hb, hml, hown, hts⟩ (c_X2_clashesOf l D y h V q hR hI (bst V 256) (by first | omega | exact hol_lt hI)) (cwV 1 hts gX6_best_X2_clashesOf rfl rfl rfl hd_X2_clashesOf ⟨Nat.le_of_ble_eq_true rfl, Nat.le_of_ble_eq_true rfl⟩) (xpv_r hK hP [1, 2, 3, 4, 5] 1 rfl rfl rfl) rfl hl.1 rfl (Nat.le_of_ble_eq_true rfl) dX6_best_59 ⟨Nat.zero_le _, Nat.zero_le _⟩ (fun r4 hr4 => ?_)
              subst hr4
              refine lv_goto (tgt := 73) hx hb dX6_best_62 (by decide) ?_
              exact xr_i hx hb hr hlocks dX6_best_73 (by rw [beI_n hkw (bN_0.mp kc19) hbs.2, if_neg kc42, if_pos kc51])
          · refine lv_iload_n hx hb dX6_best_45 rfl (lv_at hl 0 rfl) ?_
            refine lv_goto (tgt := 73) hx hb dX6_best_46 (by decide) ?_
            exact xr_i hx hb hr hlocks dX6_best_73 (by rw [beI_n hkw (bN_0.mp kc19) hbs.2, if_pos kc42])
        · refine lv_ldc hx hb hown f_147 dX6_best_38 ?_
          exact xr_i hx hb hr hlocks dX6_best_40 (beI_0 hkw (bN_0.mp kc19) (bsI_m (by decide) kc35))
      · refine lv_ldc hx hb hown f_169 dX6_best_22 ?_
        exact xr_i hx hb hr hlocks dX6_best_24 (beI_l hkw (bN_n0.mp kc19))
    · refine lv_ldc hx hb hown f_93 dX6_best_9 ?_
      exact xr_i hx hb hr hlocks dX6_best_11 (beI_f (fun hq => by first | exact hq.1 kc1 | exact hq.2 (xgt_n (m := 3) rfl (by decide) kc6)))
set_option maxHeartbeats 8000000 in
set_option maxRecDepth 100000 in
theorem c_X6_key (l : Launch) (D : va_G) (y : Nat → ClassId) (g t0 a gr gt gc sa : Nat) (h : Nat → Nat) (V : Nat → Nat) (q : Nat → Nat → Int32) (hR : RepC V q) (hI : Inv V) (w : Int32) : Met l yX6_key wsX6_key ({ frames := 5, cells := 0, slots := 0, locals := 112 }) (va_Pc [.ref g, .int w] (xPr D y [(g, .inr (6, [.ref (h 0), .ref t0, .ref a, .ref gr, .ref gt, .ref gc, .ref sa])), (h 0, .inr (2, [.ref (h 1), .ref (h 2), .ref (h 3), .ref (h 4), .int (nI (V 16)), .int (nI (V 67)), .int (rmb V), .int (nI (V 66))])), (h 1, .inl (y 1, 8, .inl (q 0))), (h 2, .inl (y 1, 8, .inl (q 1))), (h 3, .inl (y 1, 24, .inl (q 2))), (h 4, .inl (y 1, 4, .inl (q 3))), (gt, .inr (5, [.ref (h 0)]))])) (vp_Si (fun rz => rz = kyI V w)) 0 0 (fun _ => False) := by
  refine Met.ofW (cc := cX6_key) (maxL := 6) (ret := (some .int)) (by decide) rfl ?_
  intro p e s m args below meth c s₁ B hml hv
  obtain ⟨rfl, hP, hK⟩ := hv
  have hx := B.exec
  have hb := B.bytes
  have hr := B.returns
  have hts := atoms_spec (ws := wsX6_key) B.pre
  have hown : s.vm.findClass RX6 = some m.cls := findClass_of_methodNamed B.named
  have hlocks := B.notSynchronized
  have f_147 := hts (.constant RX6 147 (-1000004)) (by decide +kernel)
  have f_38 := hts (.fieldLink RX6 38 "LoomTunes" "tones" "LLoomTunes$Tones;") (by decide +kernel)
  have f_93 := hts (.constant RX6 93 (-1000001)) (by decide +kernel)
  have hin_X6 : ∀ w ∈ wsX60, w ∈ wsX6_key := by decide +kernel
  have hP : va_P D vwCl [(g, .inr (6, [.ref (h 0), .ref t0, .ref a, .ref gr, .ref gt, .ref gc, .ref sa])), (h 0, .inr (2, [.ref (h 1), .ref (h 2), .ref (h 3), .ref (h 4), .int (nI (V 16)), .int (nI (V 67)), .int (rmb V), .int (nI (V 66))])), (h 1, .inl (y 1, 8, .inl (q 0))), (h 2, .inl (y 1, 8, .inl (q 1))), (h 3, .inl (y 1, 24, .inl (q 2))), (h 4, .inl (y 1, 4, .inl (q 3))), (gt, .inr (5, [.ref (h 0)]))] s.heap := hP
  have hl := lv_entry ([.ref g, .int w]) (n := 6) (Nat.le_of_ble_eq_true rfl)
  rw [lg_entry_eq]
  generalize (lg_sl ([.ref g, .int w]) ++ List.replicate (6 - (lg_sl ([.ref g, .int w])).length) Slot.unset).toArray = ls at hl ⊢
  have hl : lv_has ls 6 [(0, .ref g), (1, .int w)] := hl
  have hsz := hI.sz
  have hat := alT_le hI
  have hkl : ∀ {k : Nat}, keN V k ≤ 192 := fun {k} => keN_le hI (k := k)
  refine lv_iload_n hx hb dX6_key_0 rfl (lv_at hl 1 rfl) ?_
  refine lv_if_lt (tgt := 9) hx hb dX6_key_1 (by decide) (fun kc1 => ?_) (fun kc1 => ?_)
  · refine lv_ldc hx hb hown f_93 dX6_key_9 ?_
    exact xr_i hx hb hr hlocks dX6_key_11 (kyI_f (fun hq => by first | exact hq.1 kc1 | exact hq.2 (xgt_n (m := 2) rfl (by decide) kc6)))
  · refine lv_iload_n hx hb dX6_key_4 rfl (lv_at hl 1 rfl) ?_
    refine lv_iconst (v := nI 1) hx hb dX6_key_5 (by decide) ?_
    refine lv_icmp_le (tgt := 12) hx hb dX6_key_6 (by decide) (fun kc6 => ?_) (fun kc6 => ?_)
    · obtain ⟨kw, hkw, rfl⟩ := inR_k (n := 2) (by decide) ⟨kc1, xle_n (m := 2) rfl (by decide) kc6⟩
      refine lv_aload_n hx hb dX6_key_12 rfl (lv_at hl 0 rfl) ?_
      refine va_get (D := D) (ci := 6) (v := .ref gt) (C := RX6) (T := TX6) (N := 7) hx hb hts hin_X6 hown hK.1 hP 0 rfl rfl 4 (by decide) f_38 (fun _ h9 => h9) rfl dX6_key_13 ?_
      refine xc_V (As := []) (rest := []) ⟨hx, hb, hml, hown, hts⟩ (c_X5_inAll l D y gt h V q hR hI ) (cwV 0 hts gX6_key_X5_inAll rfl rfl rfl hd_X5_inAll ⟨Nat.le_of_ble_eq_true rfl, Nat.le_of_ble_eq_true rfl⟩) (xpv_r hK hP [6, 1, 2, 3, 4, 5] 6 rfl rfl rfl) rfl hl.1 rfl (Nat.le_of_ble_eq_true rfl) dX6_key_16 ⟨Nat.zero_le _, Nat.zero_le _⟩ (fun r1 hr1 => ?_)
      subst hr1
      refine xn_if_ne hx hb (by omega) (tgt := 25) dX6_key_19 (by decide) (fun kc19 => ?_) (fun kc19 => ?_)
      · refine lv_iconst (v := nI 0) hx hb dX6_key_25 (by decide) ?_
        refine lv_istore_n (lv' := [(2, .int (nI 0)), (0, .ref g), (1, .int (nI kw))]) hx hb dX6_key_26 rfl hl (by decide) rfl (fun ls hl => ?_)
        refine lv_aload_n hx hb dX6_key_27 rfl (lv_at hl 1 rfl) ?_
        refine va_get (D := D) (ci := 6) (v := .ref gt) (C := RX6) (T := TX6) (N := 7) hx hb hts hin_X6 hown hK.1 hP 0 rfl rfl 4 (by decide) f_38 (fun _ h9 => h9) rfl dX6_key_28 ?_
        refine lv_iconst (v := nI 0) hx hb dX6_key_31 (by decide) ?_
        refine xc_V (As := [.int (nI 0)]) (rest := []) ⟨hx, hb, hml, hown, hts⟩ (c_X5_inKey l D y gt h V q hR hI 0 (by omega)) (cwV 1 hts gX6_key_X5_inKey rfl rfl rfl hd_X5_inKey ⟨Nat.le_of_ble_eq_true rfl, Nat.le_of_ble_eq_true rfl⟩) (xpv_r hK hP [6, 1, 2, 3, 4, 5] 6 rfl rfl rfl) rfl hl.1 rfl (Nat.le_of_ble_eq_true rfl) dX6_key_32 ⟨Nat.zero_le _, Nat.zero_le _⟩ (fun r2 hr2 => ?_)
        subst hr2
        refine lv_istore_n (lv' := [(3, .int (nI (keN V 0))), (2, .int (nI 0)), (0, .ref g), (1, .int (nI kw))]) hx hb dX6_key_35 rfl hl (by decide) rfl (fun ls hl => ?_)
        refine lv_iconst (v := nI 1) hx hb dX6_key_36 (by decide) ?_
        refine lv_istore (lv' := [(4, .int (nI 1)), (3, .int (nI (keN V 0))), (2, .int (nI 0)), (0, .ref g), (1, .int (nI kw))]) hx hb dX6_key_37 hl (by decide) rfl (fun ls hl => ?_)
        have lp39 : ∀ (n : Nat) (i : Nat), 12 - i < n → (1 ≤ i) → (i ≤ 12) → ∀ ls : Array Slot, lv_has ls 6 [(4, .int (nI i)), (3, .int (nI (keN V (kyA V i)))), (2, .int (nI (kyA V i))), (0, .ref g), (1, .int (nI kw))] → W p l e (headSpec wsX6_key ({ frames := 5, cells := 0, slots := 0, locals := 112 })).room s m ([.ref g, .int (nI kw)] : List Value).toArray below meth c s.heap [] 0 0 (MQ below (vp_Si (fun rz => rz = kyI V (nI kw))) ([.ref g, .int (nI kw)] : List Value).toArray s 0 0 (fun _ => False)) (F0 m 39 ls []) := by
          intro n
          induction n with
          | zero => intro i hm; exact absurd hm (Nat.not_lt_zero _)
          | succ n ih39 =>
            intro i hm h1 hi ls hl
            refine lv_iload hx hb dX6_key_39 (lv_at hl 0 rfl) ?_
            refine lv_bipush (v := nI 12) hx hb dX6_key_41 (by decide) ?_
            refine xn_icmp_ge hx hb (by omega) (by omega) (tgt := 75) dX6_key_43 (by decide) (fun kc43 => ?_) (fun kc43 => ?_)
            · have hi9 : i = 12 := by omega
              refine lv_iload_n hx hb dX6_key_75 rfl (lv_at hl 4 rfl) ?_
              refine xn_if_ne hx hb (by omega) (tgt := 83) dX6_key_76 (by decide) (fun kc76 => ?_) (fun kc76 => ?_)
              · refine lv_iload_n hx hb dX6_key_83 rfl (lv_at hl 1 rfl) ?_
                exact xr_i hx hb hr hlocks dX6_key_84 (by rw [kyI_n hkw kc19, if_neg kc76, hi9])
              · refine lv_iload_n hx hb dX6_key_79 rfl (lv_at hl 2 rfl) ?_
                refine lv_goto (tgt := 84) hx hb dX6_key_80 (by decide) ?_
                exact xr_i hx hb hr hlocks dX6_key_84 (by rw [kyI_n hkw kc19, if_pos kc76, hi9])
            · have hk1 := hkl (k := i)
              have hk2 := hkl (k := kyA V i)
              refine lv_aload_n hx hb dX6_key_46 rfl (lv_at hl 3 rfl) ?_
              refine va_get (D := D) (ci := 6) (v := .ref gt) (C := RX6) (T := TX6) (N := 7) hx hb hts hin_X6 hown hK.1 hP 0 rfl rfl 4 (by decide) f_38 (fun _ h9 => h9) rfl dX6_key_47 ?_
              refine lv_iload hx hb dX6_key_50 (lv_at hl 0 rfl) ?_
              refine xc_V (As := [.int (nI i)]) (rest := []) ⟨hx, hb, hml, hown, hts⟩ (c_X5_inKey l D y gt h V q hR hI i (by omega)) (cwV 1 hts gX6_key_X5_inKey rfl rfl rfl hd_X5_inKey ⟨Nat.le_of_ble_eq_true rfl, Nat.le_of_ble_eq_true rfl⟩) (xpv_r hK hP [6, 1, 2, 3, 4, 5] 6 rfl rfl rfl) rfl hl.1 rfl (Nat.le_of_ble_eq_true rfl) dX6_key_52 ⟨Nat.zero_le _, Nat.zero_le _⟩ (fun r3 hr3 => ?_)
              subst hr3
              refine lv_istore (lv' := [(5, .int (nI (keN V i))), (4, .int (nI i)), (3, .int (nI (keN V (kyA V i)))), (2, .int (nI (kyA V i))), (0, .ref g), (1, .int (nI kw))]) hx hb dX6_key_55 hl (by decide) rfl (fun ls hl => ?_)
              refine lv_iload hx hb dX6_key_57 (lv_at hl 0 rfl) ?_
              refine lv_iload_n hx hb dX6_key_59 rfl (lv_at hl 2 rfl) ?_
              refine xn_icmp_le hx hb (by omega) (by omega) (tgt := 69) dX6_key_60 (by decide) (fun kc60 => ?_) (fun kc60 => ?_)
              · refine lv_iinc (v := nI (i + 1)) (lv' := [(4, .int (nI (i + 1))), (5, .int (nI (keN V i))), (3, .int (nI (keN V (kyA V i)))), (2, .int (nI (kyA V i))), (0, .ref g), (1, .int (nI kw))]) hx hb dX6_key_69 hl (k := 1) rfl (nI_add i 1) (by decide) rfl (fun ls hl => ?_)
                refine lv_goto (tgt := 39) hx hb dX6_key_72 (by decide) ?_
                have e4 : (keN V (kyA V i)) = (keN V (kyA V (i + 1))) := by rw [kyA]; first | rw [if_pos kc60] | rw [if_neg (by omega)]
                have e5 : (kyA V i) = (kyA V (i + 1)) := by rw [kyA]; first | rw [if_pos kc60] | rw [if_neg (by omega)]
                exact ih39 (i + 1) (by omega) (by omega) (by omega) ls (xl_eq (b := [(4, .int (nI (i + 1))), (3, .int (nI (keN V (kyA V (i + 1))))), (2, .int (nI (kyA V (i + 1)))), (0, .ref g), (1, .int (nI kw))]) (lv_sub (l' := [(4, .int (nI (i + 1))), (3, .int (nI (keN V (kyA V i)))), (2, .int (nI (kyA V i))), (0, .ref g), (1, .int (nI kw))]) hl [0, 2, 3, 4, 5] rfl) (xk rfl (xk (congrArg (fun z : Nat => Value.int (nI z)) e4) (xk (congrArg (fun z : Nat => Value.int (nI z)) e5) (xk rfl (xk rfl (rfl : ([] : List (Nat × Value)) = [])))))))
              · refine lv_iload hx hb dX6_key_63 (lv_at hl 1 rfl) ?_
                refine lv_istore_n (lv' := [(2, .int (nI i)), (5, .int (nI (keN V i))), (4, .int (nI i)), (3, .int (nI (keN V (kyA V i)))), (0, .ref g), (1, .int (nI kw))]) hx hb dX6_key_65 rfl hl (by decide) rfl (fun ls hl => ?_)
                refine lv_iload hx hb dX6_key_66 (lv_at hl 1 rfl) ?_
                refine lv_istore_n (lv' := [(3, .int (nI (keN V i))), (2, .int (nI i)), (5, .int (nI (keN V i))), (4, .int (nI i)), (0, .ref g), (1, .int (nI kw))]) hx hb dX6_key_68 rfl hl (by decide) rfl (fun ls hl => ?_)
                refine lv_iinc (v := nI (i + 1)) (lv' := [(4, .int (nI (i + 1))), (3, .int (nI (keN V i))), (2, .int (nI i)), (5, .int (nI (keN V i))), (0, .ref g), (1, .int (nI kw))]) hx hb dX6_key_69 hl (k := 3) rfl (nI_add i 1) (by decide) rfl (fun ls hl => ?_)
                refine lv_goto (tgt := 39) hx hb dX6_key_72 (by decide) ?_
                have e6 : (keN V i) = (keN V (kyA V (i + 1))) := by rw [kyA]; first | rw [if_pos kc60] | rw [if_neg (by omega)]
                have e7 : i = (kyA V (i + 1)) := by rw [kyA]; first | rw [if_pos kc60] | rw [if_neg (by omega)]
                exact ih39 (i + 1) (by omega) (by omega) (by omega) ls (xl_eq (b := [(4, .int (nI (i + 1))), (3, .int (nI (keN V (kyA V (i + 1))))), (2, .int (nI (kyA V (i + 1)))), (0, .ref g), (1, .int (nI kw))]) (lv_sub (l' := [(4, .int (nI (i + 1))), (3, .int (nI (keN V i))), (2, .int (nI i)), (0, .ref g), (1, .int (nI kw))]) hl [0, 1, 2, 4, 5] rfl) (xk rfl (xk (congrArg (fun z : Nat => Value.int (nI z)) e6) (xk (congrArg (fun z : Nat => Value.int (nI z)) e7) (xk rfl (xk rfl (rfl : ([] : List (Nat × Value)) = [])))))))
        have e8 : (keN V 0) = (keN V (kyA V 1)) := by simp [kyA]
        have e9 : 0 = (kyA V 1) := by simp [kyA]
        exact lp39 ((12 - 1) + 1) 1 (Nat.lt_succ_self _) (by omega) (by omega) ls (xl_eq (b := [(4, .int (nI 1)), (3, .int (nI (keN V (kyA V 1)))), (2, .int (nI (kyA V 1))), (0, .ref g), (1, .int (nI kw))]) (lv_sub (l' := [(4, .int (nI 1)), (3, .int (nI (keN V 0))), (2, .int (nI 0)), (0, .ref g), (1, .int (nI kw))]) hl [0, 1, 2, 3, 4] rfl) (xk rfl (xk (congrArg (fun z : Nat => Value.int (nI z)) e8) (xk (congrArg (fun z : Nat => Value.int (nI z)) e9) (xk rfl (xk rfl (rfl : ([] : List (Nat × Value)) = [])))))))
      · refine lv_ldc hx hb hown f_147 dX6_key_22 ?_
        exact xr_i hx hb hr hlocks dX6_key_24 (kyI_0 hkw kc19)
    · refine lv_ldc hx hb hown f_93 dX6_key_9 ?_
      exact xr_i hx hb hr hlocks dX6_key_11 (kyI_f (fun hq => by first | exact hq.1 kc1 | exact hq.2 (xgt_n (m := 2) rfl (by decide) kc6)))
set_option maxHeartbeats 8000000 in
set_option maxRecDepth 100000 in
theorem c_X6_like (l : Launch) (D : va_G) (y : Nat → ClassId) (g t0 a gr gt gc sa : Nat) (h : Nat → Nat) (V : Nat → Nat) (q : Nat → Nat → Int32) (hR : RepC V q) (hI : Inv V) (w : Int32) : Met l yX6_like wsX6_like ({ frames := 2, cells := 0, slots := 0, locals := 43 }) (va_Pc [.ref g, .int w] (xPr D y [(g, .inr (6, [.ref (h 0), .ref t0, .ref a, .ref gr, .ref gt, .ref gc, .ref sa])), (h 0, .inr (2, [.ref (h 1), .ref (h 2), .ref (h 3), .ref (h 4), .int (nI (V 16)), .int (nI (V 67)), .int (rmb V), .int (nI (V 66))])), (h 1, .inl (y 1, 8, .inl (q 0))), (h 2, .inl (y 1, 8, .inl (q 1))), (h 3, .inl (y 1, 24, .inl (q 2))), (h 4, .inl (y 1, 4, .inl (q 3)))])) (vp_Si (fun rz => rz = lkI V w)) 0 0 (fun _ => False) := by
  refine Met.ofW (cc := cX6_like) (maxL := 4) (ret := (some .int)) (by decide) rfl ?_
  intro p e s m args below meth c s₁ B hml hv
  obtain ⟨rfl, hP, hK⟩ := hv
  have hx := B.exec
  have hb := B.bytes
  have hr := B.returns
  have hts := atoms_spec (ws := wsX6_like) B.pre
  have hown : s.vm.findClass RX6 = some m.cls := findClass_of_methodNamed B.named
  have hlocks := B.notSynchronized
  have f_10 := hts (.fieldLink RX6 10 "LoomTunes" "now" "LLoomTunes$Register;") (by decide +kernel)
  have f_151 := hts (.fieldLink RX6 151 "LoomTunes$Register" "size" "I") (by decide +kernel)
  have f_93 := hts (.constant RX6 93 (-1000001)) (by decide +kernel)
  have hin_X2 : ∀ w ∈ wsX20, w ∈ wsX6_like := by decide +kernel
  have hin_X6 : ∀ w ∈ wsX60, w ∈ wsX6_like := by decide +kernel
  have hP : va_P D vwCl [(g, .inr (6, [.ref (h 0), .ref t0, .ref a, .ref gr, .ref gt, .ref gc, .ref sa])), (h 0, .inr (2, [.ref (h 1), .ref (h 2), .ref (h 3), .ref (h 4), .int (nI (V 16)), .int (nI (V 67)), .int (rmb V), .int (nI (V 66))])), (h 1, .inl (y 1, 8, .inl (q 0))), (h 2, .inl (y 1, 8, .inl (q 1))), (h 3, .inl (y 1, 24, .inl (q 2))), (h 4, .inl (y 1, 4, .inl (q 3)))] s.heap := hP
  have hl := lv_entry ([.ref g, .int w]) (n := 4) (Nat.le_of_ble_eq_true rfl)
  rw [lg_entry_eq]
  generalize (lg_sl ([.ref g, .int w]) ++ List.replicate (4 - (lg_sl ([.ref g, .int w])).length) Slot.unset).toArray = ls at hl ⊢
  have hl : lv_has ls 4 [(0, .ref g), (1, .int w)] := hl
  have hsz := hI.sz
  refine lv_iload_n hx hb dX6_like_0 rfl (lv_at hl 1 rfl) ?_
  refine lv_if_lt (tgt := 9) hx hb dX6_like_1 (by decide) (fun kc1 => ?_) (fun kc1 => ?_)
  · refine lv_ldc hx hb hown f_93 dX6_like_9 ?_
    exact xr_i hx hb hr hlocks dX6_like_11 (lkI_f (fun hq => by first | exact hq.1 kc1 | exact hq.2 (xgt_n (m := 3) rfl (by decide) kc6)))
  · refine lv_iload_n hx hb dX6_like_4 rfl (lv_at hl 1 rfl) ?_
    refine lv_iconst (v := nI 2) hx hb dX6_like_5 (by decide) ?_
    refine lv_icmp_le (tgt := 12) hx hb dX6_like_6 (by decide) (fun kc6 => ?_) (fun kc6 => ?_)
    · obtain ⟨kw, hkw, rfl⟩ := inR_k (n := 3) (by decide) ⟨kc1, xle_n (m := 3) rfl (by decide) kc6⟩
      refine lv_iconst (v := nI 0) hx hb dX6_like_12 (by decide) ?_
      refine lv_istore_n (lv' := [(2, .int (nI 0)), (0, .ref g), (1, .int (nI kw))]) hx hb dX6_like_13 rfl hl (by decide) rfl (fun ls hl => ?_)
      have lp14 : ∀ (n : Nat) (i : Nat), V 16 - i < n → (i ≤ V 16) → (lkN V kw i = 1) → ∀ ls : Array Slot, lv_has ls 4 [(2, .int (nI i)), (0, .ref g), (1, .int (nI kw))] → W p l e (headSpec wsX6_like ({ frames := 2, cells := 0, slots := 0, locals := 43 })).room s m ([.ref g, .int (nI kw)] : List Value).toArray below meth c s.heap [] 0 0 (MQ below (vp_Si (fun rz => rz = lkI V (nI kw))) ([.ref g, .int (nI kw)] : List Value).toArray s 0 0 (fun _ => False)) (F0 m 14 ls []) := by
        intro n
        induction n with
        | zero => intro i hm; exact absurd hm (Nat.not_lt_zero _)
        | succ n ih14 =>
          intro i hm hi hv ls hl
          refine lv_iload_n hx hb dX6_like_14 rfl (lv_at hl 0 rfl) ?_
          refine lv_aload_n hx hb dX6_like_15 rfl (lv_at hl 1 rfl) ?_
          refine va_get (D := D) (ci := 6) (v := .ref (h 0)) (C := RX6) (T := TX6) (N := 7) hx hb hts hin_X6 hown hK.1 hP 0 rfl rfl 0 (by decide) f_10 (fun _ h9 => h9) rfl dX6_like_16 ?_
          refine va_get (D := D) (ci := 2) (v := .int (nI (V 16))) (C := RX2) (T := TX2) (N := 8) hx hb hts hin_X2 hown hK.1 hP 1 rfl rfl 4 (by decide) f_151 (fun _ h9 => h9) rfl dX6_like_19 ?_
          refine xn_icmp_ge hx hb (by omega) (by omega) (tgt := 84) dX6_like_22 (by decide) (fun kc22 => ?_) (fun kc22 => ?_)
          · have hi9 : i = V 16 := by omega
            refine lv_iconst (v := nI 1) hx hb dX6_like_84 (by decide) ?_
            exact xr_i hx hb hr hlocks dX6_like_85 (by rw [lkI_n hkw, ← hi9, hv])
          · have hh1 := hol_lt hI (r := i)
            have hh2 := hol_lt hI (r := V 16 - 1 - i)
            have hm1 := mir_lt hh1
            have hm2 := mir_lt hh2
            refine lv_aload_n hx hb dX6_like_25 rfl (lv_at hl 1 rfl) ?_
            refine va_get (D := D) (ci := 6) (v := .ref (h 0)) (C := RX6) (T := TX6) (N := 7) hx hb hts hin_X6 hown hK.1 hP 0 rfl rfl 0 (by decide) f_10 (fun _ h9 => h9) rfl dX6_like_26 ?_
            refine lv_iload_n hx hb dX6_like_29 rfl (lv_at hl 2 rfl) ?_
            refine lv_iconst (v := nI 1) hx hb dX6_like_30 (by decide) ?_
            refine xn_icmp_ne hx hb (by omega) (by omega) (tgt := 38) dX6_like_31 (by decide) (fun kc31 => ?_) (fun kc31 => ?_)
            · refine lv_aload_n hx hb dX6_like_38 rfl (lv_at hl 1 rfl) ?_
              refine va_get (D := D) (ci := 6) (v := .ref (h 0)) (C := RX6) (T := TX6) (N := 7) hx hb hts hin_X6 hown hK.1 hP 0 rfl rfl 0 (by decide) f_10 (fun _ h9 => h9) rfl dX6_like_39 ?_
              refine va_get (D := D) (ci := 2) (v := .int (nI (V 16))) (C := RX2) (T := TX2) (N := 8) hx hb hts hin_X2 hown hK.1 hP 1 rfl rfl 4 (by decide) f_151 (fun _ h9 => h9) rfl dX6_like_42 ?_
              refine lv_iconst (v := nI 1) hx hb dX6_like_45 (by decide) ?_
              refine xn_sub hx hb (r := ((V 16) - 1)) (by omega) rfl dX6_like_46 ?_
              refine lv_iload_n hx hb dX6_like_47 rfl (lv_at hl 0 rfl) ?_
              refine xn_sub hx hb (r := (((V 16) - 1) - i)) (by omega) rfl dX6_like_48 ?_
              refine xc_V (As := [.int (nI (((V 16) - 1) - i))]) (rest := []) ⟨hx, hb, hml, hown, hts⟩ (c_X2_holesAt_n l D y h V q hR hI (((V 16) - 1) - i) (by omega)) (cwV 1 hts gX6_like_X2_holesAt rfl rfl rfl hd_X2_holesAt ⟨Nat.le_of_ble_eq_true rfl, Nat.le_of_ble_eq_true rfl⟩) (xpv_r hK hP [1, 2, 3, 4, 5] 1 rfl rfl rfl) rfl hl.1 rfl (Nat.le_of_ble_eq_true rfl) dX6_like_49 ⟨Nat.zero_le _, Nat.zero_le _⟩ (fun r1 hr1 => ?_)
              subst hr1
              refine lv_istore_n (lv' := [(3, .int (nI (hol V (((V 16) - 1) - i)))), (2, .int (nI i)), (0, .ref g), (1, .int (nI kw))]) hx hb dX6_like_52 rfl hl (by decide) rfl (fun ls hl => ?_)
              refine lv_aload_n hx hb dX6_like_53 rfl (lv_at hl 2 rfl) ?_
              refine va_get (D := D) (ci := 6) (v := .ref (h 0)) (C := RX6) (T := TX6) (N := 7) hx hb hts hin_X6 hown hK.1 hP 0 rfl rfl 0 (by decide) f_10 (fun _ h9 => h9) rfl dX6_like_54 ?_
              refine lv_iload_n hx hb dX6_like_57 rfl (lv_at hl 1 rfl) ?_
              refine xc_V (As := [.int (nI i)]) (rest := []) ⟨hx, hb, hml, hown, hts⟩ (c_X2_holesAt_n l D y h V q hR hI i (by omega)) (cwV 1 hts gX6_like_X2_holesAt rfl rfl rfl hd_X2_holesAt ⟨Nat.le_of_ble_eq_true rfl, Nat.le_of_ble_eq_true rfl⟩) (xpv_r hK hP [1, 2, 3, 4, 5] 1 rfl rfl rfl) rfl hl.1 rfl (Nat.le_of_ble_eq_true rfl) dX6_like_58 ⟨Nat.zero_le _, Nat.zero_le _⟩ (fun r2 hr2 => ?_)
              subst hr2
              refine lv_iload_n hx hb dX6_like_61 rfl (lv_at hl 3 rfl) ?_
              refine xn_if_ne hx hb (by omega) (tgt := 69) dX6_like_62 (by decide) (fun kc62 => ?_) (fun kc62 => ?_)
              · refine lv_iload_n hx hb dX6_like_69 rfl (lv_at hl 0 rfl) ?_
                refine xc_S (As := [.int (nI (hol V (((V 16) - 1) - i)))]) (rest := [.int (nI (hol V i))]) ⟨hx, hb, hml, hown, hts⟩ (c_X6_mirrored l (hol V (((V 16) - 1) - i)) (by omega)) (va_cwS 1 hts gX6_like_X6_mirrored rfl rfl rfl hd_X6_mirrored.2 ⟨Nat.le_of_ble_eq_true rfl, Nat.le_of_ble_eq_true rfl⟩) xps_0 rfl hl.1 rfl (Nat.le_of_ble_eq_true rfl) dX6_like_70 ⟨Nat.zero_le _, Nat.zero_le _⟩ (fun r3 hr3 => ?_)
                subst hr3
                refine xn_icmp_eq hx hb (by omega) (by omega) (tgt := 78) dX6_like_73 (by decide) (fun kc73 => ?_) (fun kc73 => ?_)
                · refine lv_iinc (v := nI (i + 1)) (lv' := [(2, .int (nI (i + 1))), (3, .int (nI (hol V (((V 16) - 1) - i)))), (0, .ref g), (1, .int (nI kw))]) hx hb dX6_like_78 hl (k := 1) rfl (nI_add i 1) (by decide) rfl (fun ls hl => ?_)
                  refine lv_goto (tgt := 14) hx hb dX6_like_81 (by decide) ?_
                  exact ih14 (i + 1) (by omega) (by omega) (lkN_s hv ((lkC_h (by omega)).mpr (by first | (rw [if_pos kc62]; exact kc73) | (rw [if_neg kc62, if_pos kc31]; exact kc73) | (rw [if_neg kc62, if_neg kc31]; exact kc73) | (exfalso; omega)))) ls (lv_sub hl [0, 2, 3] rfl)
                · refine lv_iconst (v := nI 0) hx hb dX6_like_76 (by decide) ?_
                  exact xr_i hx hb hr hlocks dX6_like_77 (by rw [lkI_n hkw, lkN_f (i := i) (by omega) (fun hq => kc73 (by have hq := (lkC_h (by omega)).mp hq; first | (rw [if_pos kc62] at hq; exact hq) | (rw [if_neg kc62, if_pos kc31] at hq; exact hq) | (rw [if_neg kc62, if_neg kc31] at hq; exact hq) | (exfalso; omega)))])
              · refine lv_iload_n hx hb dX6_like_65 rfl (lv_at hl 0 rfl) ?_
                refine lv_goto (tgt := 73) hx hb dX6_like_66 (by decide) ?_
                refine xn_icmp_eq hx hb (by omega) (by omega) (tgt := 78) dX6_like_73 (by decide) (fun kc73 => ?_) (fun kc73 => ?_)
                · refine lv_iinc (v := nI (i + 1)) (lv' := [(2, .int (nI (i + 1))), (3, .int (nI (hol V (((V 16) - 1) - i)))), (0, .ref g), (1, .int (nI kw))]) hx hb dX6_like_78 hl (k := 1) rfl (nI_add i 1) (by decide) rfl (fun ls hl => ?_)
                  refine lv_goto (tgt := 14) hx hb dX6_like_81 (by decide) ?_
                  exact ih14 (i + 1) (by omega) (by omega) (lkN_s hv ((lkC_h (by omega)).mpr (by first | (rw [if_pos kc62]; exact kc73) | (rw [if_neg kc62, if_pos kc31]; exact kc73) | (rw [if_neg kc62, if_neg kc31]; exact kc73) | (exfalso; omega)))) ls (lv_sub hl [0, 2, 3] rfl)
                · refine lv_iconst (v := nI 0) hx hb dX6_like_76 (by decide) ?_
                  exact xr_i hx hb hr hlocks dX6_like_77 (by rw [lkI_n hkw, lkN_f (i := i) (by omega) (fun hq => kc73 (by have hq := (lkC_h (by omega)).mp hq; first | (rw [if_pos kc62] at hq; exact hq) | (rw [if_neg kc62, if_pos kc31] at hq; exact hq) | (rw [if_neg kc62, if_neg kc31] at hq; exact hq) | (exfalso; omega)))])
            · refine lv_iload_n hx hb dX6_like_34 rfl (lv_at hl 0 rfl) ?_
              refine lv_goto (tgt := 49) hx hb dX6_like_35 (by decide) ?_
              refine xc_V (As := [.int (nI i)]) (rest := []) ⟨hx, hb, hml, hown, hts⟩ (c_X2_holesAt_n l D y h V q hR hI i (by omega)) (cwV 1 hts gX6_like_X2_holesAt rfl rfl rfl hd_X2_holesAt ⟨Nat.le_of_ble_eq_true rfl, Nat.le_of_ble_eq_true rfl⟩) (xpv_r hK hP [1, 2, 3, 4, 5] 1 rfl rfl rfl) rfl hl.1 rfl (Nat.le_of_ble_eq_true rfl) dX6_like_49 ⟨Nat.zero_le _, Nat.zero_le _⟩ (fun r4 hr4 => ?_)
              subst hr4
              refine lv_istore_n (lv' := [(3, .int (nI (hol V i))), (2, .int (nI i)), (0, .ref g), (1, .int (nI kw))]) hx hb dX6_like_52 rfl hl (by decide) rfl (fun ls hl => ?_)
              refine lv_aload_n hx hb dX6_like_53 rfl (lv_at hl 2 rfl) ?_
              refine va_get (D := D) (ci := 6) (v := .ref (h 0)) (C := RX6) (T := TX6) (N := 7) hx hb hts hin_X6 hown hK.1 hP 0 rfl rfl 0 (by decide) f_10 (fun _ h9 => h9) rfl dX6_like_54 ?_
              refine lv_iload_n hx hb dX6_like_57 rfl (lv_at hl 1 rfl) ?_
              refine xc_V (As := [.int (nI i)]) (rest := []) ⟨hx, hb, hml, hown, hts⟩ (c_X2_holesAt_n l D y h V q hR hI i (by omega)) (cwV 1 hts gX6_like_X2_holesAt rfl rfl rfl hd_X2_holesAt ⟨Nat.le_of_ble_eq_true rfl, Nat.le_of_ble_eq_true rfl⟩) (xpv_r hK hP [1, 2, 3, 4, 5] 1 rfl rfl rfl) rfl hl.1 rfl (Nat.le_of_ble_eq_true rfl) dX6_like_58 ⟨Nat.zero_le _, Nat.zero_le _⟩ (fun r5 hr5 => ?_)
              subst hr5
              refine lv_iload_n hx hb dX6_like_61 rfl (lv_at hl 3 rfl) ?_
              refine xn_if_ne hx hb (by omega) (tgt := 69) dX6_like_62 (by decide) (fun kc62 => ?_) (fun kc62 => ?_)
              · refine lv_iload_n hx hb dX6_like_69 rfl (lv_at hl 0 rfl) ?_
                refine xc_S (As := [.int (nI (hol V i))]) (rest := [.int (nI (hol V i))]) ⟨hx, hb, hml, hown, hts⟩ (c_X6_mirrored l (hol V i) (by omega)) (va_cwS 1 hts gX6_like_X6_mirrored rfl rfl rfl hd_X6_mirrored.2 ⟨Nat.le_of_ble_eq_true rfl, Nat.le_of_ble_eq_true rfl⟩) xps_0 rfl hl.1 rfl (Nat.le_of_ble_eq_true rfl) dX6_like_70 ⟨Nat.zero_le _, Nat.zero_le _⟩ (fun r6 hr6 => ?_)
                subst hr6
                refine xn_icmp_eq hx hb (by omega) (by omega) (tgt := 78) dX6_like_73 (by decide) (fun kc73 => ?_) (fun kc73 => ?_)
                · refine lv_iinc (v := nI (i + 1)) (lv' := [(2, .int (nI (i + 1))), (3, .int (nI (hol V i))), (0, .ref g), (1, .int (nI kw))]) hx hb dX6_like_78 hl (k := 1) rfl (nI_add i 1) (by decide) rfl (fun ls hl => ?_)
                  refine lv_goto (tgt := 14) hx hb dX6_like_81 (by decide) ?_
                  exact ih14 (i + 1) (by omega) (by omega) (lkN_s hv ((lkC_h (by omega)).mpr (by first | (rw [if_pos kc62]; exact kc73) | (rw [if_neg kc62, if_pos kc31]; exact kc73) | (rw [if_neg kc62, if_neg kc31]; exact kc73) | (exfalso; omega)))) ls (lv_sub hl [0, 2, 3] rfl)
                · refine lv_iconst (v := nI 0) hx hb dX6_like_76 (by decide) ?_
                  exact xr_i hx hb hr hlocks dX6_like_77 (by rw [lkI_n hkw, lkN_f (i := i) (by omega) (fun hq => kc73 (by have hq := (lkC_h (by omega)).mp hq; first | (rw [if_pos kc62] at hq; exact hq) | (rw [if_neg kc62, if_pos kc31] at hq; exact hq) | (rw [if_neg kc62, if_neg kc31] at hq; exact hq) | (exfalso; omega)))])
              · refine lv_iload_n hx hb dX6_like_65 rfl (lv_at hl 0 rfl) ?_
                refine lv_goto (tgt := 73) hx hb dX6_like_66 (by decide) ?_
                refine xn_icmp_eq hx hb (by omega) (by omega) (tgt := 78) dX6_like_73 (by decide) (fun kc73 => ?_) (fun kc73 => ?_)
                · refine lv_iinc (v := nI (i + 1)) (lv' := [(2, .int (nI (i + 1))), (3, .int (nI (hol V i))), (0, .ref g), (1, .int (nI kw))]) hx hb dX6_like_78 hl (k := 1) rfl (nI_add i 1) (by decide) rfl (fun ls hl => ?_)
                  refine lv_goto (tgt := 14) hx hb dX6_like_81 (by decide) ?_
                  exact ih14 (i + 1) (by omega) (by omega) (lkN_s hv ((lkC_h (by omega)).mpr (by first | (rw [if_pos kc62]; exact kc73) | (rw [if_neg kc62, if_pos kc31]; exact kc73) | (rw [if_neg kc62, if_neg kc31]; exact kc73) | (exfalso; omega)))) ls (lv_sub hl [0, 2, 3] rfl)
                · refine lv_iconst (v := nI 0) hx hb dX6_like_76 (by decide) ?_
                  exact xr_i hx hb hr hlocks dX6_like_77 (by rw [lkI_n hkw, lkN_f (i := i) (by omega) (fun hq => kc73 (by have hq := (lkC_h (by omega)).mp hq; first | (rw [if_pos kc62] at hq; exact hq) | (rw [if_neg kc62, if_pos kc31] at hq; exact hq) | (rw [if_neg kc62, if_neg kc31] at hq; exact hq) | (exfalso; omega)))])
      exact lp14 ((V 16 - 0) + 1) 0 (Nat.lt_succ_self _) (by omega) (rfl) ls (lv_sub hl [0, 1, 2] rfl)
    · refine lv_ldc hx hb hown f_93 dX6_like_9 ?_
      exact xr_i hx hb hr hlocks dX6_like_11 (lkI_f (fun hq => by first | exact hq.1 kc1 | exact hq.2 (xgt_n (m := 3) rfl (by decide) kc6)))
set_option maxHeartbeats 8000000 in
set_option maxRecDepth 100000 in
theorem c_X6_count (l : Launch) (D : va_G) (y : Nat → ClassId) (g t0 a gr gt gc sa : Nat) (h : Nat → Nat) (V : Nat → Nat) (q : Nat → Nat → Int32) (hR : RepC V q) (hI : Inv V) (hb0 n : Nat) (sb L np kd : Nat) (f1 f2 : Int32) (od fp fr : Nat) (fc : Int32) (w : Int32) : Met l yX6_count wsX6_count ({ frames := 5, cells := 0, slots := 0, locals := 113 }) (va_Pc [.ref g, .int w] (xPr D y [(g, .inr (6, [.ref (h 0), .ref t0, .ref a, .ref gr, .ref gt, .ref gc, .ref sa])), (h 0, .inr (2, [.ref (h 1), .ref (h 2), .ref (h 3), .ref (h 4), .int (nI (V 16)), .int (nI (V 67)), .int (rmb V), .int (nI (V 66))])), (h 1, .inl (y 1, 8, .inl (q 0))), (h 2, .inl (y 1, 8, .inl (q 1))), (h 3, .inl (y 1, 24, .inl (q 2))), (h 4, .inl (y 1, 4, .inl (q 3))), (gr, .inr (3, [.ref (h 0)])), (gt, .inr (5, [.ref (h 0)])), (gc, .inr (0, [.ref (h 0)])), (a, .inr (1, [.ref hb0, .int (nI n)])), (sa, .inr (4, [.ref sb, .int (nI L), .int (nI np), .int (nI kd), .int f1, .int f2, .int (nI od), .int (nI fp), .int (nI fr), .int fc]))])) (vp_Si (fun rz => rz = coI V n L w)) 0 0 (fun _ => False) := by
  refine Met.ofW (cc := cX6_count) (maxL := 2) (ret := (some .int)) (by decide) rfl ?_
  intro p e s m args below meth c s₁ B hml hv
  obtain ⟨rfl, hP, hK⟩ := hv
  have hx := B.exec
  have hb := B.bytes
  have hr := B.returns
  have hts := atoms_spec (ws := wsX6_count) B.pre
  have hown : s.vm.findClass RX6 = some m.cls := findClass_of_methodNamed B.named
  have hlocks := B.notSynchronized
  have f_10 := hts (.fieldLink RX6 10 "LoomTunes" "now" "LLoomTunes$Register;") (by decide +kernel)
  have f_147 := hts (.constant RX6 147 (-1000004)) (by decide +kernel)
  have f_151 := hts (.fieldLink RX6 151 "LoomTunes$Register" "size" "I") (by decide +kernel)
  have f_201 := hts (.fieldLink RX6 201 "LoomTunes$Register" "refusals" "I") (by decide +kernel)
  have f_204 := hts (.fieldLink RX6 204 "LoomTunes$Register" "refused" "I") (by decide +kernel)
  have f_207 := hts (.fieldLink RX6 207 "LoomTunes$Register" "refusedTimes" "I") (by decide +kernel)
  have f_213 := hts (.fieldLink RX6 213 "LoomTunes$History" "kept" "I") (by decide +kernel)
  have f_216 := hts (.fieldLink RX6 216 "LoomTunes$Script" "length" "I") (by decide +kernel)
  have f_22 := hts (.fieldLink RX6 22 "LoomTunes" "history" "LLoomTunes$History;") (by decide +kernel)
  have f_31 := hts (.fieldLink RX6 31 "LoomTunes" "rows" "LLoomTunes$Rows;") (by decide +kernel)
  have f_38 := hts (.fieldLink RX6 38 "LoomTunes" "tones" "LLoomTunes$Tones;") (by decide +kernel)
  have f_45 := hts (.fieldLink RX6 45 "LoomTunes" "cloth" "LLoomTunes$Cloth;") (by decide +kernel)
  have f_52 := hts (.fieldLink RX6 52 "LoomTunes" "script" "LLoomTunes$Script;") (by decide +kernel)
  have f_93 := hts (.constant RX6 93 (-1000001)) (by decide +kernel)
  have hin_X1 : ∀ w ∈ wsX10, w ∈ wsX6_count := by decide +kernel
  have hin_X2 : ∀ w ∈ wsX20, w ∈ wsX6_count := by decide +kernel
  have hin_X4 : ∀ w ∈ wsX40, w ∈ wsX6_count := by decide +kernel
  have hin_X6 : ∀ w ∈ wsX60, w ∈ wsX6_count := by decide +kernel
  have hP : va_P D vwCl [(g, .inr (6, [.ref (h 0), .ref t0, .ref a, .ref gr, .ref gt, .ref gc, .ref sa])), (h 0, .inr (2, [.ref (h 1), .ref (h 2), .ref (h 3), .ref (h 4), .int (nI (V 16)), .int (nI (V 67)), .int (rmb V), .int (nI (V 66))])), (h 1, .inl (y 1, 8, .inl (q 0))), (h 2, .inl (y 1, 8, .inl (q 1))), (h 3, .inl (y 1, 24, .inl (q 2))), (h 4, .inl (y 1, 4, .inl (q 3))), (gr, .inr (3, [.ref (h 0)])), (gt, .inr (5, [.ref (h 0)])), (gc, .inr (0, [.ref (h 0)])), (a, .inr (1, [.ref hb0, .int (nI n)])), (sa, .inr (4, [.ref sb, .int (nI L), .int (nI np), .int (nI kd), .int f1, .int f2, .int (nI od), .int (nI fp), .int (nI fr), .int fc]))] s.heap := hP
  have hl := lv_entry ([.ref g, .int w]) (n := 2) (Nat.le_of_ble_eq_true rfl)
  rw [lg_entry_eq]
  generalize (lg_sl ([.ref g, .int w]) ++ List.replicate (2 - (lg_sl ([.ref g, .int w])).length) Slot.unset).toArray = ls at hl ⊢
  have hl : lv_has ls 2 [(0, .ref g), (1, .int w)] := hl
  have hsz := hI.sz
  refine lv_iload_n hx hb dX6_count_0 rfl (lv_at hl 1 rfl) ?_
  rcases xsw w 24 (by decide) with hsw | ⟨kw, hkw, hke⟩
  · refine lv_tableOut (tgt := 228) hx hb dX6_count_1 (by have := hsw.1; omega) (by decide) ?_
    refine lv_ldc hx hb hown f_93 dX6_count_228 ?_
    exact xr_i hx hb hr hlocks dX6_count_230 (coI_f hsw.2)
  · rcases (show kw = 0 ∨ kw = 1 ∨ kw = 2 ∨ kw = 3 ∨ kw = 4 ∨ kw = 5 ∨ kw = 6 ∨ kw = 7 ∨ kw = 8 ∨ kw = 9 ∨ kw = 10 ∨ kw = 11 ∨ kw = 12 ∨ kw = 13 ∨ kw = 14 ∨ kw = 15 ∨ kw = 16 ∨ kw = 17 ∨ kw = 18 ∨ kw = 19 ∨ kw = 20 ∨ kw = 21 ∨ kw = 22 ∨ kw = 23 by omega) with rfl | rfl | rfl | rfl | rfl | rfl | rfl | rfl | rfl | rfl | rfl | rfl | rfl | rfl | rfl | rfl | rfl | rfl | rfl | rfl | rfl | rfl | rfl | rfl
    · subst hke
      refine lv_tableIn (tgt := 112) (off := 111) hx hb dX6_count_1 (by decide) (by decide) (by decide) (by decide) ?_
      refine lv_aload_n hx hb dX6_count_112 rfl (lv_at hl 0 rfl) ?_
      refine va_get (D := D) (ci := 6) (v := .ref (h 0)) (C := RX6) (T := TX6) (N := 7) hx hb hts hin_X6 hown hK.1 hP 0 rfl rfl 0 (by decide) f_10 (fun _ h9 => h9) rfl dX6_count_113 ?_
      refine va_get (D := D) (ci := 2) (v := .int (nI (V 16))) (C := RX2) (T := TX2) (N := 8) hx hb hts hin_X2 hown hK.1 hP 1 rfl rfl 4 (by decide) f_151 (fun _ h9 => h9) rfl dX6_count_116 ?_
      exact xr_i hx hb hr hlocks dX6_count_119 ((coI_n (w := 0) (by decide)).symm)
    · subst hke
      refine lv_tableIn (tgt := 120) (off := 119) hx hb dX6_count_1 (by decide) (by decide) (by decide) (by decide) ?_
      refine lv_aload_n hx hb dX6_count_120 rfl (lv_at hl 0 rfl) ?_
      refine va_get (D := D) (ci := 6) (v := .ref gr) (C := RX6) (T := TX6) (N := 7) hx hb hts hin_X6 hown hK.1 hP 0 rfl rfl 3 (by decide) f_31 (fun _ h9 => h9) rfl dX6_count_121 ?_
      refine xc_V (As := []) (rest := []) ⟨hx, hb, hml, hown, hts⟩ (c_X3_stamped l D y gr h V q hR hI ) (cwV 0 hts gX6_count_X3_stamped rfl rfl rfl hd_X3_stamped ⟨Nat.le_of_ble_eq_true rfl, Nat.le_of_ble_eq_true rfl⟩) (xpv_r hK hP [6, 1, 2, 3, 4, 5] 6 rfl rfl rfl) rfl hl.1 rfl (Nat.le_of_ble_eq_true rfl) dX6_count_124 ⟨Nat.zero_le _, Nat.zero_le _⟩ (fun r1 hr1 => ?_)
      subst hr1
      exact xr_i hx hb hr hlocks dX6_count_127 ((coI_n (w := 1) (by decide)).symm)
    · subst hke
      refine lv_tableIn (tgt := 128) (off := 127) hx hb dX6_count_1 (by decide) (by decide) (by decide) (by decide) ?_
      refine lv_aload_n hx hb dX6_count_128 rfl (lv_at hl 0 rfl) ?_
      refine va_get (D := D) (ci := 6) (v := .ref gt) (C := RX6) (T := TX6) (N := 7) hx hb hts hin_X6 hown hK.1 hP 0 rfl rfl 4 (by decide) f_38 (fun _ h9 => h9) rfl dX6_count_129 ?_
      refine xc_V (As := []) (rest := []) ⟨hx, hb, hml, hown, hts⟩ (c_X5_inAll l D y gt h V q hR hI ) (cwV 0 hts gX6_count_X5_inAll rfl rfl rfl hd_X5_inAll ⟨Nat.le_of_ble_eq_true rfl, Nat.le_of_ble_eq_true rfl⟩) (xpv_r hK hP [7, 1, 2, 3, 4, 5] 7 rfl rfl rfl) rfl hl.1 rfl (Nat.le_of_ble_eq_true rfl) dX6_count_132 ⟨Nat.zero_le _, Nat.zero_le _⟩ (fun r2 hr2 => ?_)
      subst hr2
      exact xr_i hx hb hr hlocks dX6_count_135 ((coI_n (w := 2) (by decide)).symm)
    · subst hke
      refine lv_tableIn (tgt := 136) (off := 135) hx hb dX6_count_1 (by decide) (by decide) (by decide) (by decide) ?_
      refine lv_aload_n hx hb dX6_count_136 rfl (lv_at hl 0 rfl) ?_
      refine va_get (D := D) (ci := 6) (v := .ref gr) (C := RX6) (T := TX6) (N := 7) hx hb hts hin_X6 hown hK.1 hP 0 rfl rfl 3 (by decide) f_31 (fun _ h9 => h9) rfl dX6_count_137 ?_
      refine xc_V (As := []) (rest := []) ⟨hx, hb, hml, hown, hts⟩ (c_X3_clashes l D y gr h V q hR hI ) (cwV 0 hts gX6_count_X3_clashes rfl rfl rfl hd_X3_clashes ⟨Nat.le_of_ble_eq_true rfl, Nat.le_of_ble_eq_true rfl⟩) (xpv_r hK hP [6, 1, 2, 3, 4, 5] 6 rfl rfl rfl) rfl hl.1 rfl (Nat.le_of_ble_eq_true rfl) dX6_count_140 ⟨Nat.zero_le _, Nat.zero_le _⟩ (fun r3 hr3 => ?_)
      subst hr3
      exact xr_i hx hb hr hlocks dX6_count_143 ((coI_n (w := 3) (by decide)).symm)
    · subst hke
      refine lv_tableIn (tgt := 144) (off := 143) hx hb dX6_count_1 (by decide) (by decide) (by decide) (by decide) ?_
      refine lv_aload_n hx hb dX6_count_144 rfl (lv_at hl 0 rfl) ?_
      refine va_get (D := D) (ci := 6) (v := .ref gc) (C := RX6) (T := TX6) (N := 7) hx hb hts hin_X6 hown hK.1 hP 0 rfl rfl 5 (by decide) f_45 (fun _ h9 => h9) rfl dX6_count_145 ?_
      refine xc_V (As := []) (rest := []) ⟨hx, hb, hml, hown, hts⟩ (c_X0_longFloatsInAll l D y gc h V q hR hI ) (cwV 0 hts gX6_count_X0_longFloatsInAll rfl rfl rfl hd_X0_longFloatsInAll ⟨Nat.le_of_ble_eq_true rfl, Nat.le_of_ble_eq_true rfl⟩) (xpv_r hK hP [8, 1, 2, 3, 4, 5] 8 rfl rfl rfl) rfl hl.1 rfl (Nat.le_of_ble_eq_true rfl) dX6_count_148 ⟨Nat.zero_le _, Nat.zero_le _⟩ (fun r4 hr4 => ?_)
      subst hr4
      exact xr_i hx hb hr hlocks dX6_count_151 ((coI_n (w := 4) (by decide)).symm)
    · subst hke
      refine lv_tableIn (tgt := 152) (off := 151) hx hb dX6_count_1 (by decide) (by decide) (by decide) (by decide) ?_
      refine lv_aload_n hx hb dX6_count_152 rfl (lv_at hl 0 rfl) ?_
      refine va_get (D := D) (ci := 6) (v := .ref (h 0)) (C := RX6) (T := TX6) (N := 7) hx hb hts hin_X6 hown hK.1 hP 0 rfl rfl 0 (by decide) f_10 (fun _ h9 => h9) rfl dX6_count_153 ?_
      refine va_get (D := D) (ci := 2) (v := .int (nI (V 67))) (C := RX2) (T := TX2) (N := 8) hx hb hts hin_X2 hown hK.1 hP 1 rfl rfl 5 (by decide) f_201 (fun _ h9 => h9) rfl dX6_count_156 ?_
      exact xr_i hx hb hr hlocks dX6_count_159 ((coI_n (w := 5) (by decide)).symm)
    · subst hke
      refine lv_tableIn (tgt := 160) (off := 159) hx hb dX6_count_1 (by decide) (by decide) (by decide) (by decide) ?_
      refine lv_aload_n hx hb dX6_count_160 rfl (lv_at hl 0 rfl) ?_
      refine va_get (D := D) (ci := 6) (v := .ref (h 0)) (C := RX6) (T := TX6) (N := 7) hx hb hts hin_X6 hown hK.1 hP 0 rfl rfl 0 (by decide) f_10 (fun _ h9 => h9) rfl dX6_count_161 ?_
      refine va_get (D := D) (ci := 2) (v := .int (rmb V)) (C := RX2) (T := TX2) (N := 8) hx hb hts hin_X2 hown hK.1 hP 1 rfl rfl 6 (by decide) f_204 (fun _ h9 => h9) rfl dX6_count_164 ?_
      refine lv_iconst (v := (-1)) hx hb dX6_count_167 (by decide) ?_
      refine lv_icmp_ne (tgt := 176) hx hb dX6_count_168 (by decide) (fun kc168 => ?_) (fun kc168 => ?_)
      · refine lv_aload_n hx hb dX6_count_176 rfl (lv_at hl 0 rfl) ?_
        refine va_get (D := D) (ci := 6) (v := .ref (h 0)) (C := RX6) (T := TX6) (N := 7) hx hb hts hin_X6 hown hK.1 hP 0 rfl rfl 0 (by decide) f_10 (fun _ h9 => h9) rfl dX6_count_177 ?_
        refine va_get (D := D) (ci := 2) (v := .int (rmb V)) (C := RX2) (T := TX2) (N := 8) hx hb hts hin_X2 hown hK.1 hP 1 rfl rfl 6 (by decide) f_204 (fun _ h9 => h9) rfl dX6_count_180 ?_
        exact xr_i hx hb hr hlocks dX6_count_183 ((rm_f kc168).trans (coI_n (w := 6) (by decide)).symm)
      · refine lv_ldc hx hb hown f_147 dX6_count_171 ?_
        refine lv_goto (tgt := 183) hx hb dX6_count_173 (by decide) ?_
        exact xr_i hx hb hr hlocks dX6_count_183 ((rm_t kc168 hI).trans (coI_n (w := 6) (by decide)).symm)
    · subst hke
      refine lv_tableIn (tgt := 184) (off := 183) hx hb dX6_count_1 (by decide) (by decide) (by decide) (by decide) ?_
      refine lv_aload_n hx hb dX6_count_184 rfl (lv_at hl 0 rfl) ?_
      refine va_get (D := D) (ci := 6) (v := .ref (h 0)) (C := RX6) (T := TX6) (N := 7) hx hb hts hin_X6 hown hK.1 hP 0 rfl rfl 0 (by decide) f_10 (fun _ h9 => h9) rfl dX6_count_185 ?_
      refine va_get (D := D) (ci := 2) (v := .int (nI (V 66))) (C := RX2) (T := TX2) (N := 8) hx hb hts hin_X2 hown hK.1 hP 1 rfl rfl 7 (by decide) f_207 (fun _ h9 => h9) rfl dX6_count_188 ?_
      exact xr_i hx hb hr hlocks dX6_count_191 ((coI_n (w := 7) (by decide)).symm)
    · subst hke
      refine lv_tableIn (tgt := 192) (off := 191) hx hb dX6_count_1 (by decide) (by decide) (by decide) (by decide) ?_
      refine lv_aload_n hx hb dX6_count_192 rfl (lv_at hl 0 rfl) ?_
      refine va_get (D := D) (ci := 6) (v := .ref gr) (C := RX6) (T := TX6) (N := 7) hx hb hts hin_X6 hown hK.1 hP 0 rfl rfl 3 (by decide) f_31 (fun _ h9 => h9) rfl dX6_count_193 ?_
      refine xc_V (As := []) (rest := []) ⟨hx, hb, hml, hown, hts⟩ (c_X3_bars l D y gr h V q hR hI ) (cwV 0 hts gX6_count_X3_bars rfl rfl rfl hd_X3_bars ⟨Nat.le_of_ble_eq_true rfl, Nat.le_of_ble_eq_true rfl⟩) (xpv_r hK hP [6, 1, 2, 3, 4, 5] 6 rfl rfl rfl) rfl hl.1 rfl (Nat.le_of_ble_eq_true rfl) dX6_count_196 ⟨Nat.zero_le _, Nat.zero_le _⟩ (fun r5 hr5 => ?_)
      subst hr5
      exact xr_i hx hb hr hlocks dX6_count_199 ((coI_n (w := 8) (by decide)).symm)
    · subst hke
      refine lv_tableIn (tgt := 200) (off := 199) hx hb dX6_count_1 (by decide) (by decide) (by decide) (by decide) ?_
      refine lv_aload_n hx hb dX6_count_200 rfl (lv_at hl 0 rfl) ?_
      refine va_get (D := D) (ci := 6) (v := .ref a) (C := RX6) (T := TX6) (N := 7) hx hb hts hin_X6 hown hK.1 hP 0 rfl rfl 2 (by decide) f_22 (fun _ h9 => h9) rfl dX6_count_201 ?_
      refine va_get (D := D) (ci := 1) (v := .int (nI n)) (C := RX1) (T := TX1) (N := 2) hx hb hts hin_X1 hown hK.1 hP 9 rfl rfl 1 (by decide) f_213 (fun _ h9 => h9) rfl dX6_count_204 ?_
      exact xr_i hx hb hr hlocks dX6_count_207 ((coI_n (w := 9) (by decide)).symm)
    · subst hke
      refine lv_tableIn (tgt := 208) (off := 207) hx hb dX6_count_1 (by decide) (by decide) (by decide) (by decide) ?_
      refine lv_aload_n hx hb dX6_count_208 rfl (lv_at hl 0 rfl) ?_
      refine va_get (D := D) (ci := 6) (v := .ref sa) (C := RX6) (T := TX6) (N := 7) hx hb hts hin_X6 hown hK.1 hP 0 rfl rfl 6 (by decide) f_52 (fun _ h9 => h9) rfl dX6_count_209 ?_
      refine va_get (D := D) (ci := 4) (v := .int (nI L)) (C := RX4) (T := TX4) (N := 10) hx hb hts hin_X4 hown hK.1 hP 10 rfl rfl 1 (by decide) f_216 (fun _ h9 => h9) rfl dX6_count_212 ?_
      exact xr_i hx hb hr hlocks dX6_count_215 ((coI_n (w := 10) (by decide)).symm)
    · subst hke
      refine lv_tableIn (tgt := 228) (off := 227) hx hb dX6_count_1 (by decide) (by decide) (by decide) (by decide) ?_
      refine lv_ldc hx hb hown f_93 dX6_count_228 ?_
      exact xr_i hx hb hr hlocks dX6_count_230 ((coI_n (w := 11) (by decide)).symm)
    · subst hke
      refine lv_tableIn (tgt := 228) (off := 227) hx hb dX6_count_1 (by decide) (by decide) (by decide) (by decide) ?_
      refine lv_ldc hx hb hown f_93 dX6_count_228 ?_
      exact xr_i hx hb hr hlocks dX6_count_230 ((coI_n (w := 12) (by decide)).symm)
    · subst hke
      refine lv_tableIn (tgt := 228) (off := 227) hx hb dX6_count_1 (by decide) (by decide) (by decide) (by decide) ?_
      refine lv_ldc hx hb hown f_93 dX6_count_228 ?_
      exact xr_i hx hb hr hlocks dX6_count_230 ((coI_n (w := 13) (by decide)).symm)
    · subst hke
      refine lv_tableIn (tgt := 228) (off := 227) hx hb dX6_count_1 (by decide) (by decide) (by decide) (by decide) ?_
      refine lv_ldc hx hb hown f_93 dX6_count_228 ?_
      exact xr_i hx hb hr hlocks dX6_count_230 ((coI_n (w := 14) (by decide)).symm)
    · subst hke
      refine lv_tableIn (tgt := 228) (off := 227) hx hb dX6_count_1 (by decide) (by decide) (by decide) (by decide) ?_
      refine lv_ldc hx hb hown f_93 dX6_count_228 ?_
      exact xr_i hx hb hr hlocks dX6_count_230 ((coI_n (w := 15) (by decide)).symm)
    · subst hke
      refine lv_tableIn (tgt := 228) (off := 227) hx hb dX6_count_1 (by decide) (by decide) (by decide) (by decide) ?_
      refine lv_ldc hx hb hown f_93 dX6_count_228 ?_
      exact xr_i hx hb hr hlocks dX6_count_230 ((coI_n (w := 16) (by decide)).symm)
    · subst hke
      refine lv_tableIn (tgt := 228) (off := 227) hx hb dX6_count_1 (by decide) (by decide) (by decide) (by decide) ?_
      refine lv_ldc hx hb hown f_93 dX6_count_228 ?_
      exact xr_i hx hb hr hlocks dX6_count_230 ((coI_n (w := 17) (by decide)).symm)
    · subst hke
      refine lv_tableIn (tgt := 228) (off := 227) hx hb dX6_count_1 (by decide) (by decide) (by decide) (by decide) ?_
      refine lv_ldc hx hb hown f_93 dX6_count_228 ?_
      exact xr_i hx hb hr hlocks dX6_count_230 ((coI_n (w := 18) (by decide)).symm)
    · subst hke
      refine lv_tableIn (tgt := 228) (off := 227) hx hb dX6_count_1 (by decide) (by decide) (by decide) (by decide) ?_
      refine lv_ldc hx hb hown f_93 dX6_count_228 ?_
      exact xr_i hx hb hr hlocks dX6_count_230 ((coI_n (w := 19) (by decide)).symm)
    · subst hke
      refine lv_tableIn (tgt := 216) (off := 215) hx hb dX6_count_1 (by decide) (by decide) (by decide) (by decide) ?_
      refine lv_aload_n hx hb dX6_count_216 rfl (lv_at hl 0 rfl) ?_
      refine va_get (D := D) (ci := 6) (v := .ref (h 0)) (C := RX6) (T := TX6) (N := 7) hx hb hts hin_X6 hown hK.1 hP 0 rfl rfl 0 (by decide) f_10 (fun _ h9 => h9) rfl dX6_count_217 ?_
      refine lv_iload_n hx hb dX6_count_220 rfl (lv_at hl 1 rfl) ?_
      refine lv_bipush (v := nI 20) hx hb dX6_count_221 (by decide) ?_
      refine xn_sub hx hb (r := 0) (by omega) rfl dX6_count_223 ?_
      refine xc_V (As := [.int (nI 0)]) (rest := []) ⟨hx, hb, hml, hown, hts⟩ (c_X2_settingAt l D y h V q hR hI 0 (by omega)) (cwV 1 hts gX6_count_X2_settingAt rfl rfl rfl hd_X2_settingAt ⟨Nat.le_of_ble_eq_true rfl, Nat.le_of_ble_eq_true rfl⟩) (xpv_r hK hP [1, 2, 3, 4, 5] 1 rfl rfl rfl) rfl hl.1 rfl (Nat.le_of_ble_eq_true rfl) dX6_count_224 ⟨Nat.zero_le _, Nat.zero_le _⟩ (fun r6 hr6 => ?_)
      subst hr6
      refine xv (v := nI (V 68)) rfl ?_
      exact xr_i hx hb hr hlocks dX6_count_227 ((coI_n (w := 20) (by decide)).symm)
    · subst hke
      refine lv_tableIn (tgt := 216) (off := 215) hx hb dX6_count_1 (by decide) (by decide) (by decide) (by decide) ?_
      refine lv_aload_n hx hb dX6_count_216 rfl (lv_at hl 0 rfl) ?_
      refine va_get (D := D) (ci := 6) (v := .ref (h 0)) (C := RX6) (T := TX6) (N := 7) hx hb hts hin_X6 hown hK.1 hP 0 rfl rfl 0 (by decide) f_10 (fun _ h9 => h9) rfl dX6_count_217 ?_
      refine lv_iload_n hx hb dX6_count_220 rfl (lv_at hl 1 rfl) ?_
      refine lv_bipush (v := nI 20) hx hb dX6_count_221 (by decide) ?_
      refine xn_sub hx hb (r := 1) (by omega) rfl dX6_count_223 ?_
      refine xc_V (As := [.int (nI 1)]) (rest := []) ⟨hx, hb, hml, hown, hts⟩ (c_X2_settingAt l D y h V q hR hI 1 (by omega)) (cwV 1 hts gX6_count_X2_settingAt rfl rfl rfl hd_X2_settingAt ⟨Nat.le_of_ble_eq_true rfl, Nat.le_of_ble_eq_true rfl⟩) (xpv_r hK hP [1, 2, 3, 4, 5] 1 rfl rfl rfl) rfl hl.1 rfl (Nat.le_of_ble_eq_true rfl) dX6_count_224 ⟨Nat.zero_le _, Nat.zero_le _⟩ (fun r7 hr7 => ?_)
      subst hr7
      refine xv (v := nI (V 69)) rfl ?_
      exact xr_i hx hb hr hlocks dX6_count_227 ((coI_n (w := 21) (by decide)).symm)
    · subst hke
      refine lv_tableIn (tgt := 216) (off := 215) hx hb dX6_count_1 (by decide) (by decide) (by decide) (by decide) ?_
      refine lv_aload_n hx hb dX6_count_216 rfl (lv_at hl 0 rfl) ?_
      refine va_get (D := D) (ci := 6) (v := .ref (h 0)) (C := RX6) (T := TX6) (N := 7) hx hb hts hin_X6 hown hK.1 hP 0 rfl rfl 0 (by decide) f_10 (fun _ h9 => h9) rfl dX6_count_217 ?_
      refine lv_iload_n hx hb dX6_count_220 rfl (lv_at hl 1 rfl) ?_
      refine lv_bipush (v := nI 20) hx hb dX6_count_221 (by decide) ?_
      refine xn_sub hx hb (r := 2) (by omega) rfl dX6_count_223 ?_
      refine xc_V (As := [.int (nI 2)]) (rest := []) ⟨hx, hb, hml, hown, hts⟩ (c_X2_settingAt l D y h V q hR hI 2 (by omega)) (cwV 1 hts gX6_count_X2_settingAt rfl rfl rfl hd_X2_settingAt ⟨Nat.le_of_ble_eq_true rfl, Nat.le_of_ble_eq_true rfl⟩) (xpv_r hK hP [1, 2, 3, 4, 5] 1 rfl rfl rfl) rfl hl.1 rfl (Nat.le_of_ble_eq_true rfl) dX6_count_224 ⟨Nat.zero_le _, Nat.zero_le _⟩ (fun r8 hr8 => ?_)
      subst hr8
      refine xv (v := nI (V 70)) rfl ?_
      exact xr_i hx hb hr hlocks dX6_count_227 ((coI_n (w := 22) (by decide)).symm)
    · subst hke
      refine lv_tableIn (tgt := 216) (off := 215) hx hb dX6_count_1 (by decide) (by decide) (by decide) (by decide) ?_
      refine lv_aload_n hx hb dX6_count_216 rfl (lv_at hl 0 rfl) ?_
      refine va_get (D := D) (ci := 6) (v := .ref (h 0)) (C := RX6) (T := TX6) (N := 7) hx hb hts hin_X6 hown hK.1 hP 0 rfl rfl 0 (by decide) f_10 (fun _ h9 => h9) rfl dX6_count_217 ?_
      refine lv_iload_n hx hb dX6_count_220 rfl (lv_at hl 1 rfl) ?_
      refine lv_bipush (v := nI 20) hx hb dX6_count_221 (by decide) ?_
      refine xn_sub hx hb (r := 3) (by omega) rfl dX6_count_223 ?_
      refine xc_V (As := [.int (nI 3)]) (rest := []) ⟨hx, hb, hml, hown, hts⟩ (c_X2_settingAt l D y h V q hR hI 3 (by omega)) (cwV 1 hts gX6_count_X2_settingAt rfl rfl rfl hd_X2_settingAt ⟨Nat.le_of_ble_eq_true rfl, Nat.le_of_ble_eq_true rfl⟩) (xpv_r hK hP [1, 2, 3, 4, 5] 1 rfl rfl rfl) rfl hl.1 rfl (Nat.le_of_ble_eq_true rfl) dX6_count_224 ⟨Nat.zero_le _, Nat.zero_le _⟩ (fun r9 hr9 => ?_)
      subst hr9
      refine xv (v := nI (V 71)) rfl ?_
      exact xr_i hx hb hr hlocks dX6_count_227 ((coI_n (w := 23) (by decide)).symm)
