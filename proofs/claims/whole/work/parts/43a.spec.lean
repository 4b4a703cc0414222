theorem bef_h {c : Cond} {args : Array Value} {s : State} (h : c.before args s = true) : c.holds args s none s [] = true := h
/-- the tables of the start -/
theorem law_K {s : State} {b : Nat} (hts0 : ∀ w ∈ lw_tbl, w.before #[Value.ref b] s = true) : ∃ (D : va_G) (y : Nat → ClassId), xK D y s ∧ va_AO RX2 s := by
  have hts : ∀ w ∈ wsL_law, w.before #[Value.ref b] s = true := fun w hw => hts0 w (wsL_law_in w hw)
  obtain ⟨c0, i0, k0⟩ := u_known (C := RX0) (T := TX0) (N := 1) (n := 1) hts inlX0 (hts (.instantiable RX0 1) (by decide +kernel))
  obtain ⟨c1, i1, k1⟩ := u_known (C := RX1) (T := TX1) (N := 2) (n := 2) hts inlX1 (hts (.instantiable RX1 2) (by decide +kernel))
  obtain ⟨c2, i2, k2⟩ := u_known (C := RX2) (T := TX2) (N := 8) (n := 8) hts inlX2 (hts (.instantiable RX2 8) (by decide +kernel))
  obtain ⟨c3, i3, k3⟩ := u_known (C := RX3) (T := TX3) (N := 1) (n := 1) hts inlX3 (hts (.instantiable RX3 1) (by decide +kernel))
  obtain ⟨c4, i4, k4⟩ := u_known (C := RX4) (T := TX4) (N := 10) (n := 10) hts inlX4 (hts (.instantiable RX4 10) (by decide +kernel))
  obtain ⟨c5, i5, k5⟩ := u_known (C := RX5) (T := TX5) (N := 1) (n := 1) hts inlX5 (hts (.instantiable RX5 1) (by decide +kernel))
  obtain ⟨c6, i6, k6⟩ := u_known (C := RX6) (T := TX6) (N := 7) (n := 7) hts inlX6 (hts (.instantiable RX6 7) (by decide +kernel))
  obtain ⟨c7, i7, k7⟩ := u_known (C := RX7) (T := TX7) (N := 14) (n := 14) hts inlX7 (hts (.instantiable RX7 14) (by decide +kernel))
  obtain ⟨a0, kA0, co0, f01, f02, f03⟩ := Cond.arrayClass_spec (bef_h (hts (.arrayClass .char) (by decide +kernel)))
  obtain ⟨a1, kA1, co1, f11, f12, f13⟩ := Cond.arrayClass_spec (bef_h (hts (.arrayClass .int) (by decide +kernel)))
  have hov : (Cond.arrayOver (.object "LoomTunes$Register")).before #[Value.ref b] s = true := hts0 _ (by decide +kernel)
  obtain ⟨co2, a2, kA2, g1, -, g3, g4, g5⟩ := Cond.arrayOver_spec (bef_h hov)
  refine ⟨(fun k => if k = 0 then c0 else if k = 1 then c1 else if k = 2 then c2 else if k = 3 then c3 else if k = 4 then c4 else if k = 5 then c5 else if k = 6 then c6 else c7, fun k => if k = 0 then i0 else if k = 1 then i1 else if k = 2 then i2 else if k = 3 then i3 else if k = 4 then i4 else if k = 5 then i5 else if k = 6 then i6 else i7), fun k => if k = 0 then a0 else if k = 1 then a1 else a2, ⟨⟨?_, ?_⟩, ?_⟩, va_AO.of hov⟩
  · intro k q hq
    match k, hq with
    | 0, hq => cases hq; exact k0
    | 1, hq => cases hq; exact k1
    | 2, hq => cases hq; exact k2
    | 3, hq => cases hq; exact k3
    | 4, hq => cases hq; exact k4
    | 5, hq => cases hq; exact k5
    | 6, hq => cases hq; exact k6
    | 7, hq => cases hq; exact k7
    | k + 8, hq => simp [vwCl] at hq
  · intro k q hq
    match k, hq with
    | 0, hq => cases hq; exact ⟨fun n z => ⟨fun k h => (by cases h), kA0, f02, co0, f03⟩, f01⟩
    | 1, hq => cases hq; exact ⟨fun n z => ⟨fun k h => (by cases h), kA1, f12, co1, f13⟩, f11⟩
    | 2, hq => cases hq; exact ⟨fun n z => ⟨fun k h => (by cases h), kA2, g3, co2, g4⟩, kA2, co2, g3, g4, g1, g5⟩
    | k + 3, hq => simp [xT] at hq
  · exact ⟨va_Nw.of rfl (hts0 (.methodLinkNest RX2 48 yX6_isIn RX6) (by decide +kernel)), va_Nw.of rfl (hts0 (.methodLinkNest RX2 75 yX6_mirrored RX6) (by decide +kernel)), va_Nw.of rfl (hts0 (.methodLinkNest RX5 44 yX6_isIn RX6) (by decide +kernel))⟩
/-- the settings' bounds at the start -/
theorem law_ST {s : State} {b : Nat} {A : Nat → Prop} (hts0 : ∀ w ∈ lw_tbl, w.before #[Value.ref b] s = true) (hgv : (Jvm.Cond.and given_1 narrow_1).before #[Value.ref b] s = true) (hA : ∀ a : Nat, a < s.heap.size → ¬ A a) : ∃ tl tm : Nat, xST A tl tm s := by
  have hs := flat_of_before _ hgv
  have hini : (Cond.initialized "LoomTunes").before #[Value.ref b] s = true := hts0 _ (by decide +kernel)
  have hl1 : (Cond.laysStatic "LoomTunes" "SETTING_LEAST" "[I").before #[Value.ref b] s = true := hts0 _ (by decide +kernel)
  have hl2 : (Cond.laysStatic "LoomTunes" "SETTING_MOST" "[I").before #[Value.ref b] s = true := hts0 _ (by decide +kernel)
  obtain ⟨tl, hv1, hT1⟩ := va_Tof (args := #[Value.ref b]) (s := s) (tm := .static "LoomTunes" "SETTING_LEAST" "[I") (ty := .int) (N := 4) (f := fun k => .int (nI (adL k))) (A := A) (by decide) (hs _ (by decide +kernel)) (va_eqt (z := 4) (hs _ (by decide +kernel))) (fun j hj => by
    rcases (show j = 0 ∨ j = 1 ∨ j = 2 ∨ j = 3 by omega) with rfl | rfl | rfl | rfl
    · exact va_eqt (z := 2) (hs _ (by decide +kernel))
    · exact va_eqt (z := 1) (hs _ (by decide +kernel))
    · exact va_eqt (z := 0) (hs _ (by decide +kernel))
    · exact va_eqt (z := 1) (hs _ (by decide +kernel))) hA
  obtain ⟨tm, hv2, hT2⟩ := va_Tof (args := #[Value.ref b]) (s := s) (tm := .static "LoomTunes" "SETTING_MOST" "[I") (ty := .int) (N := 4) (f := fun k => .int (nI (adM k))) (A := A) (by decide) (hs _ (by decide +kernel)) (va_eqt (z := 4) (hs _ (by decide +kernel))) (fun j hj => by
    rcases (show j = 0 ∨ j = 1 ∨ j = 2 ∨ j = 3 by omega) with rfl | rfl | rfl | rfl
    · exact va_eqt (z := 8) (hs _ (by decide +kernel))
    · exact va_eqt (z := 8) (hs _ (by decide +kernel))
    · exact va_eqt (z := 28) (hs _ (by decide +kernel))
    · exact va_eqt (z := 24) (hs _ (by decide +kernel))) hA
  exact ⟨tl, tm, va_Zref hl1 hini hv1 hA, va_Zref hl2 hini hv2 hA, hT1, hT2, va_Nw.of rfl (hts0 (.fieldLinkNest RX2 78 RX6 "SETTING_LEAST" "[I" RX6) (by decide +kernel)), va_Nw.of rfl (hts0 (.fieldLinkNest RX2 81 RX6 "SETTING_MOST" "[I" RX6) (by decide +kernel))⟩
