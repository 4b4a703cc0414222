/-! ===== the reference: what it writes ===== -/
theorem uN_c {f : Nat → Nat} {k j x z : Nat} (h : ¬ k = j) : uN (uN f k x) j z = uN (uN f j z) k x := by
  funext i; unfold uN
  by_cases h1 : i = j
  · rw [if_pos h1, if_neg (by omega), if_pos h1]
  · rw [if_neg h1]
    by_cases h2 : i = k
    · rw [if_pos h2, if_pos h2]
    · rw [if_neg h2, if_neg h2, if_neg h1]
/-- the first i places from A, the others from V -/
def mixN (A V : Nat → Nat) (i : Nat) : Nat → Nat := fun k => if k < i then A k else V k
theorem mix_0 {A V : Nat → Nat} : mixN A V 0 = V := by funext k; unfold mixN; rw [if_neg (Nat.not_lt_zero _)]
theorem mix_s {A V : Nat → Nat} {i : Nat} : uN (mixN A V i) i (A i) = mixN A V (i + 1) := by
  funext k; unfold uN mixN
  by_cases h : k = i
  · rw [if_pos h, if_pos (by omega), h]
  · rw [if_neg h]
    by_cases h2 : k < i
    · rw [if_pos h2, if_pos (by omega)]
    · rw [if_neg h2, if_neg (by omega)]
theorem mix_n {A V : Nat → Nat} {i j : Nat} (h : i ≤ j) : mixN A V i j = V j := by unfold mixN; rw [if_neg (by omega)]
theorem mix_lt {A V : Nat → Nat} {i j : Nat} (h : j < i) : mixN A V i j = A j := by unfold mixN; rw [if_pos h]
/-- the states that are known, in a row of 288 -/
def RepB (n : Nat) (B : Nat → Nat → Nat) (b : Nat → Nat) : Prop := ∀ k, k < n → ∀ j, j < 72 → b (72 * k + j) = B k j
def shN (b : Nat → Nat) (i : Nat) : Nat → Nat := fun k => if k < i then b (72 + k) else b k
theorem sh_0 {b : Nat → Nat} : shN b 0 = b := by funext k; unfold shN; rw [if_neg (Nat.not_lt_zero _)]
theorem sh_s {b : Nat → Nat} {i : Nat} : uN (shN b i) i (shN b i (72 + i)) = shN b (i + 1) := by
  funext k; unfold uN shN
  by_cases h : k = i
  · rw [if_pos h, if_neg (by omega), if_pos (by omega), h]
  · rw [if_neg h]
    by_cases h2 : k < i
    · rw [if_pos h2, if_pos (by omega)]
    · rw [if_neg h2, if_neg (by omega)]
def cpN (b V : Nat → Nat) (o i : Nat) : Nat → Nat := fun k => if o ≤ k ∧ k < o + i then V (k - o) else b k
theorem cp_0 {b V : Nat → Nat} {o : Nat} : cpN b V o 0 = b := by funext k; unfold cpN; rw [if_neg (by omega)]
theorem cp_s {b V : Nat → Nat} {o i : Nat} : uN (cpN b V o i) (o + i) (V i) = cpN b V o (i + 1) := by
  funext k; unfold uN cpN
  by_cases h : k = o + i
  · rw [if_pos h, if_pos (by omega)]; congr 1; omega
  · rw [if_neg h]
    by_cases h2 : o ≤ k ∧ k < o + i
    · rw [if_pos h2, if_pos (by omega)]
    · rw [if_neg h2, if_neg (by omega)]
theorem kn_a {n : Nat} {B : Nat → Nat → Nat} {b V : Nat → Nat} (hn : n < 4) (h : RepB n B b) : RepB (kpN n) (knB n B V) (cpN b V (72 * n) 72) := by
  intro k hk j hj
  rw [kp_a hn] at hk
  unfold knB cpN; rw [if_pos hn]
  by_cases h2 : k = n
  · rw [if_pos h2, h2, if_pos (by omega)]; exact congrArg V (by omega)
  · rw [if_neg h2, if_neg (by omega)]; exact h k (by omega) j hj
theorem kn_b {n : Nat} {B : Nat → Nat → Nat} {b V : Nat → Nat} (hn : n = 4) (h : RepB n B b) : RepB (kpN n) (knB n B V) (cpN (shN b 216) V (72 * 3) 72) := by
  intro k hk j hj
  have hk4 : k < 4 := by unfold kpN at hk; subst hn; exact hk
  unfold knB cpN; rw [if_neg (show ¬ n < 4 by omega)]
  by_cases h2 : k = 3
  · rw [if_pos h2, h2, if_pos (by omega)]; exact congrArg V (by omega)
  · rw [if_neg h2, if_neg (by omega)]; unfold shN; rw [if_pos (by omega), show 72 + (72 * k + j) = 72 * (k + 1) + j by omega]
    exact h (k + 1) (by omega) j hj
/-- a card torn out, its size first -/
def teB (V : Nat → Nat) (c i : Nat) : Nat → Nat := uN (trA V c i) 16 (V 16 - 1)
theorem teB_0 {V : Nat → Nat} {c : Nat} : teB V c c = uN V 16 (V 16 - 1) := by unfold teB; rw [trA_0]
theorem teB_s {V : Nat → Nat} {c i : Nat} (hc : c ≤ i) (hi : i < 23) : uN (uN (teB V c i) (17 + i) (V (17 + (i + 1)))) (41 + i) (V (41 + (i + 1))) = teB V c (i + 1) := by
  unfold teB; rw [trA_s hc hi, uN_c (k := 41 + i) (j := 16) (by omega), uN_c (k := 17 + i) (j := 16) (by omega)]
theorem teB_n {V : Nat → Nat} {c i k : Nat} (hk : i ≤ k) (hk2 : k < 24) (hi : i ≤ 24) : teB V c i (17 + k) = V (17 + k) ∧ teB V c i (41 + k) = V (41 + k) := by
  unfold teB; rw [uN_n (by omega), uN_n (by omega)]; exact trA_nx hk hk2 hi
theorem teB_16 {V : Nat → Nat} {c i : Nat} : teB V c i 16 = V 16 - 1 := by unfold teB; rw [uN_s]
theorem te_neg {V : Nat → Nat} (hI : Inv V) {k : Nat} (hk : k < 24) : ¬ nI (V (17 + k)) < 0 := nI_pos (by have := hI.ho hk; omega)
theorem tk_u {V : Nat → Nat} {h st : Nat} : uN (uN (uN (uN V (17 + V 16) h) (41 + V 16) st) 16 (V 16 + 1)) 66 0 = tkV V h st := rfl
theorem fl_u {V : Nat → Nat} {i : Nat} : uN (flA V i) (17 + i) (mir (V (17 + i))) = flA V (i + 1) := rfl
theorem exc_u {V : Nat → Nat} {a b : Nat} : uN (uN (uN (uN V (17 + a) (V (17 + b))) (41 + a) (V (41 + b))) (17 + b) (V (17 + a))) (41 + b) (V (41 + a)) = exc V a b := rfl
theorem ad_t {V : Nat → Nat} {k j : Nat} (hk : k < 4) (h1 : adL k ≤ j) (h2 : j ≤ adM k) : adI V (nI k) (nI j) = nI (V (68 + k)) ∧ adV V (nI k) (nI j) = uN V (68 + k) j := by
  have hm : adM k ≤ 28 := by unfold adM; split; omega; split <;> omega
  have hc : adOk (nI k) (nI j) := by
    refine ⟨(inR_n (by omega) (by decide)).mpr hk, ?_, ?_⟩
    · rw [nI_clamp (by omega)]; exact nI_le h1 (by omega)
    · rw [nI_clamp (by omega)]; exact nI_le h2 (by omega)
  unfold adI adV; rw [if_pos hc, if_pos hc, nI_clamp (by omega), nI_clamp (by omega)]; exact ⟨rfl, rfl⟩
theorem ad_f {V : Nat → Nat} {x z : Int32} (h : ¬ adOk x z) : adI V x z = (-1000001) ∧ adV V x z = V := by
  unfold adI adV; rw [if_neg h, if_neg h]; exact ⟨rfl, rfl⟩
theorem ad_no {k : Nat} {z : Int32} (hk : k < 4) (h : ¬ (¬ z < nI (adL k) ∧ ¬ nI (adM k) < z)) : ¬ adOk (nI k) z := by
  intro q
  refine h ⟨fun a => ?_, fun a => ?_⟩
  · have h1 := q.2.1; rw [nI_clamp (by omega)] at h1; exact Int32.lt_irrefl (Int32.lt_of_lt_of_le a h1)
  · have h1 := q.2.2; rw [nI_clamp (by omega)] at h1; exact Int32.lt_irrefl (Int32.lt_of_lt_of_le a h1)
theorem ad_in {V : Nat → Nat} {k j : Nat} (hI : Inv V) (hk : k < 4) (h1 : adL k ≤ j) (h2 : j ≤ adM k) : Inv (uN V (68 + k) j) := by
  rcases (show k = 0 ∨ k = 1 ∨ k = 2 ∨ k = 3 by omega) with rfl | rfl | rfl | rfl
  · have a : 2 ≤ j := h1; have b : j ≤ 8 := h2; exact inv_u hI (by omega)
  · have a : 1 ≤ j := h1; have b : j ≤ 8 := h2; exact inv_u hI (by omega)
  · have b : j ≤ 28 := h2; exact inv_u hI (by omega)
  · have a : 1 ≤ j := h1; have b : j ≤ 24 := h2; exact inv_u hI (by omega)
theorem ad_inv {V : Nat → Nat} (hI : Inv V) (x z : Int32) : Inv (adV V x z) := by
  by_cases h : adOk x z
  · obtain ⟨k, hk, rfl⟩ := inR_k (by decide) h.1
    have h1 := h.2.1; have h2 := h.2.2
    rw [nI_clamp (by omega)] at h1 h2
    obtain ⟨j, hj1, hj2, rfl⟩ := ink (a := adL k) (b := adM k) ⟨fun q => Int32.lt_irrefl (Int32.lt_of_lt_of_le q h1), fun q => Int32.lt_irrefl (Int32.lt_of_lt_of_le q h2)⟩ (by
      rcases (show k = 0 ∨ k = 1 ∨ k = 2 ∨ k = 3 by omega) with rfl | rfl | rfl | rfl <;> decide)
    rw [(ad_t hk hj1 hj2).2]; exact ad_in hI hk hj1 hj2
  · rw [(ad_f h).2]; exact hI
/-! ===== reading: the reference ===== -/
abbrev inC (T : Nat → Nat) (L q lo hi : Nat) : Prop := lo ≤ sgn T L q ∧ sgn T L q ≤ hi
theorem ho_skip {T : Nat → Nat} {L p i : Nat} : ∀ m, (∀ j, j < m → ¬ sgn T L (hoP T L p i) = 48 + (i + j)) → hoP T L p (i + m) = hoP T L p i ∧ hoF T L p (i + m) = hoF T L p i
  | 0, _ => ⟨rfl, rfl⟩
  | m + 1, h => by
    have ih := ho_skip m (fun j hj => h j (by omega))
    have hm := h m (by omega)
    rw [← ih.1] at hm
    refine ⟨?_, ?_⟩
    · show hoP T L p (i + m) + bN (sgn T L (hoP T L p (i + m)) = 48 + (i + m)) = _
      rw [bN_f hm, ih.1, Nat.add_zero]
    · show (if sgn T L (hoP T L p (i + m)) = 48 + (i + m) then _ else hoF T L p (i + m)) = _
      rw [if_neg hm, ih.2]
theorem ho_take {T : Nat → Nat} {L p d : Nat} (h : sgn T L (hoP T L p d) = 48 + d) : hoP T L p (d + 1) = hoP T L p d + 1 ∧ hoF T L p (d + 1) = hoF T L p d ||| 1 * 2 ^ d := by
  refine ⟨?_, ?_⟩
  · show hoP T L p d + bN _ = _
    rw [bN_t h]
  · show (if _ then _ else _) = _
    rw [if_pos h]
/-- no digit at all -/
theorem ho_none {T : Nat → Nat} {L p : Nat} (h : ¬ inC T L p 48 55) : hoP T L p 8 = p ∧ hoF T L p 8 = 0 := by
  have := ho_skip (T := T) (L := L) (p := p) (i := 0) 8 (fun j hj q => h (by
    have q2 : sgn T L p = 48 + (0 + j) := q
    exact ⟨by omega, by omega⟩))
  exact this
theorem ho_first {T : Nat → Nat} {L p d : Nat} (h : sgn T L p = 48 + d) : hoP T L p (d + 1) = p + 1 ∧ hoF T L p (d + 1) = 1 * 2 ^ d := by
  have h1 := ho_skip (T := T) (L := L) (p := p) (i := 0) d (fun j hj q => by
    have q2 : sgn T L p = 48 + (0 + j) := q
    omega)
  rw [Nat.zero_add] at h1
  have h2 : hoP T L p d = p := h1.1
  have h3 : hoF T L p d = 0 := h1.2
  have h4 := ho_take (T := T) (L := L) (p := p) (d := d) (by rw [h2]; exact h)
  rw [h2, h3, Nat.zero_or] at h4; exact h4
theorem ho_next {T : Nat → Nat} {L p d c q : Nat} (hq : hoP T L p (d + 1) = q) (hc : sgn T L q = 48 + c) (hd : d < c) : hoP T L p (c + 1) = q + 1 ∧ hoF T L p (c + 1) = hoF T L p (d + 1) ||| 1 * 2 ^ c := by
  have h1 := ho_skip (T := T) (L := L) (p := p) (i := d + 1) (c - (d + 1)) (fun j hj z => by rw [hq] at z; omega)
  rw [show d + 1 + (c - (d + 1)) = c by omega] at h1
  have h4 := ho_take (T := T) (L := L) (p := p) (d := c) (by rw [h1.1, hq]; exact hc)
  rw [h1.1, h1.2, hq] at h4; exact h4
theorem ho_end {T : Nat → Nat} {L p d q : Nat} (hd : d < 8) (hq : hoP T L p (d + 1) = q) (h : ¬ inC T L q (48 + d + 1) 55) : hoP T L p 8 = q ∧ hoF T L p 8 = hoF T L p (d + 1) := by
  have h1 := ho_skip (T := T) (L := L) (p := p) (i := d + 1) (8 - (d + 1)) (fun j hj z => by
    rw [hq] at z; exact h ⟨by omega, by omega⟩)
  rw [show d + 1 + (8 - (d + 1)) = 8 by omega, hq] at h1; exact h1
theorem ho_nz {T : Nat → Nat} {L p d q : Nat} (hd : d < 8) (hq : hoP T L p (d + 1) = q) (hpq : p < q) : ¬ hoF T L p (d + 1) = 0 := by
  intro h
  have key : ∀ i, hoF T L p i = 0 → hoP T L p i = p := by
    intro i
    induction i with
    | zero => intro _; rfl
    | succ i ih =>
      intro hz
      by_cases hc : sgn T L (hoP T L p i) = 48 + i
      · have h2 := (ho_take hc).2
        rw [hz] at h2
        have h3 : 0 < 1 * 2 ^ i := by rw [Nat.one_mul]; exact Nat.two_pow_pos i
        have h4 := Nat.right_le_or (n := hoF T L p i) (m := 1 * 2 ^ i)
        omega
      · have h2 := ho_skip (T := T) (L := L) (p := p) (i := i) 1 (fun j hj q => by
          have hj0 : j = 0 := by omega
          rw [hj0] at q; exact hc q)
        rw [show i + 1 = i + 1 from rfl] at hz
        rw [h2.1]; exact ih (by rw [← h2.2]; exact hz)
  have := key (d + 1) h
  omega
theorem or_gt {T : Nat → Nat} {L p : Nat} (h : orK T L p) : p < orP T L p := by
  have h1 := hoP_le (T := T) (L := L) (p := p + 1) 8
  have h2 := nuP_le (T := T) (L := L) (p := p + 1)
  rcases orK_k h with c | c | c | c | c
  · rw [orP_99 c]; unfold h8P; split <;> omega
  · have hk := (orK_2 (Or.inl c)).mp h
    rw [orP_2 (Or.inl c), n2P_t hk.1 hk.2.1]
    have h3 := nuP_le (T := T) (L := L) (p := nuP T L (p + 1) + 1)
    rw [n1P_t hk.2.2.1]; omega
  · have hk := (orK_2 (Or.inr c)).mp h
    rw [orP_2 (Or.inr c), n2P_t hk.1 hk.2.1]
    have h3 := nuP_le (T := T) (L := L) (p := nuP T L (p + 1) + 1)
    rw [n1P_t hk.2.2.1]; omega
  · rw [orP_116 c]; omega
  · rw [orP_120 c, n1P_t ((orK_120 c).mp h).1]; omega
/-- an order that is not possible leaves the state -/
theorem do_no {V : Nat → Nat} (hI : Inv V) {c x z : Nat} (h : doI V c x z < 0) : doV V c x z = V := by
  unfold doI at h; unfold doV
  by_cases h1 : c = 99
  · rw [if_pos h1] at h ⊢
    rcases of_c hI (nI x) with q | ⟨k, hk, hz, hx, ha, hv⟩
    · exact q.2
    · rw [hx, ha] at h; exact absurd h (nI_pos (by have := ans_le (V := V) (h := k); omega))
  · rw [if_neg h1] at h ⊢
    by_cases h2 : c = 107
    · rw [if_pos h2] at h ⊢
      unfold dyI at h; unfold dyV
      by_cases h3 : inR (nI x) 8 ∧ inR (nI z) 4
      · rw [if_pos h3] at h; exact absurd h (nI_pos (by have := hI.co (inR_e h3.1 (by decide)).2; omega))
      · rw [if_neg h3]
    · rw [if_neg h2] at h ⊢
      by_cases h4 : c = 110
      · rw [if_pos h4] at h ⊢
        unfold tuI at h; unfold tuV
        by_cases h3 : inR (nI x) 8 ∧ inR (nI z) 48
        · rw [if_pos h3] at h; exact absurd h (nI_pos (by have := hI.nt (inR_e h3.1 (by decide)).2; omega))
        · rw [if_neg h3]
      · rw [if_neg h4] at h ⊢
        by_cases h5 : c = 120
        · rw [if_pos h5] at h ⊢
          unfold teI at h; unfold teV
          have hz := hI.sz
          by_cases h3 : inR (nI x) (V 16)
          · rw [if_pos h3] at h; exact absurd h (te_neg hI (by have := (inR_e h3 (by omega)).2; omega))
          · rw [if_neg h3]
        · rw [if_neg h5] at h ⊢
          unfold reI at h; unfold reV
          by_cases h3 : 2 ≤ V 16
          · rw [if_pos h3] at h; exact absurd h (nI_pos (by have := hI.sz; omega))
          · rw [if_neg h3]
/-- what the reference says of an order: its error, or 0 -/
def dsI (V : Nat → Nat) (c x z : Nat) : Int32 := if doI V c x z < 0 then doI V c x z else nI 0
theorem ds_n {V : Nat → Nat} {c x z : Nat} (h : doI V c x z < 0) : dsI V c x z = doI V c x z := if_pos h
theorem ds_p {V : Nat → Nat} {c x z : Nat} (h : ¬ doI V c x z < 0) : dsI V c x z = nI 0 := if_neg h
theorem of_no {V : Nat → Nat} (hz : V 16 ≤ 24) {x : Int32} (h : bfI V x < 0) : ofV V x = V := by
  unfold ofV; rw [if_neg]
  rintro ⟨h1, h2⟩
  rw [← bf_0 h1 (by omega)] at h; exact absurd h (by decide)
theorem of_br {V : Nat → Nat} {k : Nat} (hk : k < 256) (hz : V 16 < 24) : ofV V (nI k) = brV V k := by
  unfold ofV; rw [if_pos ⟨(inR_n (by omega) (by decide)).mpr hk, by omega⟩, nI_clamp (by omega)]
theorem inq {a lo hi : Nat} (ha : a < 2 ^ 31) (hl : lo < 2 ^ 31) (hh : hi < 2 ^ 31) : (¬ nI a < nI lo ∧ ¬ nI hi < nI a) ↔ (lo ≤ a ∧ a ≤ hi) := by
  rw [nI_ltI ha hl, nI_ltI hh ha]; omega
theorem bf_okn {V : Nat → Nat} {x : Nat} (hx : x < 2 ^ 31) (hz : V 16 ≤ 24) (h : 0 ≤ bfI V (nI x)) : x < 256 ∧ V 16 < 24 := by
  obtain ⟨k, hk, e, h2⟩ := bf_ok hz h
  have : x = k := (nI_eq hx (by omega)).mp e
  exact ⟨by omega, h2⟩
theorem ds_99n {V : Nat → Nat} {x z : Nat} (hz : V 16 ≤ 24) (h : bfI V (nI x) < 0) : bfI V (nI x) = dsI V 99 x z ∧ doV V 99 x z = V := by
  have e := bf_neg hz h
  refine ⟨?_, of_no hz h⟩
  show _ = if ansI V (nI x) < 0 then ansI V (nI x) else nI 0
  rw [← e, if_pos h]
theorem ds_99p {V : Nat → Nat} {x z : Nat} (hx : x < 256) (hz : V 16 < 24) : bfI V (nI x) = dsI V 99 x z ∧ doV V 99 x z = brV V x := by
  refine ⟨?_, of_br hx hz⟩
  show _ = if ansI V (nI x) < 0 then ansI V (nI x) else nI 0
  rw [ansI_n hx (by omega), if_neg (nI_pos (by have := ans_le (V := V) (h := x); omega)), ← bf_0 ((inR_n (by omega) (by decide)).mpr hx) (by omega)]
theorem ds_116n {V : Nat → Nat} {x z : Nat} (h : ¬ 2 ≤ V 16) : (-1000002) = dsI V 116 x z ∧ doV V 116 x z = V := by
  have e := re_f (V := V) (by omega)
  refine ⟨?_, e.2⟩
  show _ = if reI V < 0 then reI V else nI 0
  rw [e.1]; rfl
theorem ds_116p {V : Nat → Nat} {x z : Nat} (hI : Inv V) (h : 2 ≤ V 16) : nI 0 = dsI V 116 x z ∧ doV V 116 x z = rvA V (V 16 / 2) := by
  have e := re_t (V := V) h
  refine ⟨?_, e.2⟩
  show _ = if reI V < 0 then reI V else nI 0
  rw [e.1, if_neg (nI_pos (by have := hI.sz; omega))]
theorem ds_120n {V : Nat → Nat} {x z : Nat} (h : ¬ inR (nI x) (V 16)) : (-1000001) = dsI V 120 x z ∧ doV V 120 x z = V := by
  have e := te_f (V := V) h
  refine ⟨?_, e.2⟩
  show _ = if teI V (nI x) < 0 then teI V (nI x) else nI 0
  rw [e.1]; rfl
theorem ds_120p {V : Nat → Nat} {x z : Nat} (hI : Inv V) (h : x < V 16) : nI 0 = dsI V 120 x z ∧ doV V 120 x z = teA V x := by
  have e := te_t (V := V) h hI.sz
  refine ⟨?_, e.2⟩
  show _ = if teI V (nI x) < 0 then teI V (nI x) else nI 0
  rw [e.1, if_neg (te_neg hI (by have := hI.sz; omega))]
theorem ds_110n {V : Nat → Nat} {x z : Nat} (h : ¬ (inR (nI x) 8 ∧ inR (nI z) 48)) : (-1000001) = dsI V 110 x z ∧ doV V 110 x z = V := by
  have e := tune_f (V := V) h
  refine ⟨?_, e.2⟩
  show _ = if tuI V (nI x) (nI z) < 0 then tuI V (nI x) (nI z) else nI 0
  rw [e.1]; rfl
theorem ds_110p {V : Nat → Nat} {x z : Nat} (hI : Inv V) (h : x < 8) (h2 : z < 48) : nI 0 = dsI V 110 x z ∧ doV V 110 x z = uN V x z := by
  have e := tune_t (V := V) h h2
  refine ⟨?_, e.2⟩
  show _ = if tuI V (nI x) (nI z) < 0 then tuI V (nI x) (nI z) else nI 0
  rw [e.1, if_neg (nI_pos (by have := hI.nt h; omega))]
theorem ds_107n {V : Nat → Nat} {x z : Nat} (h : ¬ (inR (nI x) 8 ∧ inR (nI z) 4)) : (-1000001) = dsI V 107 x z ∧ doV V 107 x z = V := by
  have e := dye_f (V := V) h
  refine ⟨?_, e.2⟩
  show _ = if dyI V (nI x) (nI z) < 0 then dyI V (nI x) (nI z) else nI 0
  rw [e.1]; rfl
theorem ds_107p {V : Nat → Nat} {x z : Nat} (hI : Inv V) (h : x < 8) (h2 : z < 4) : nI 0 = dsI V 107 x z ∧ doV V 107 x z = uN V (8 + x) z := by
  have e := dye_t (V := V) h h2
  refine ⟨?_, e.2⟩
  show _ = if dyI V (nI x) (nI z) < 0 then dyI V (nI x) (nI z) else nI 0
  rw [e.1, if_neg (nI_pos (by have := hI.co h; omega))]
/-- an order's numbers count where its letter takes them -/
theorem do_x {V : Nat → Nat} {c x z x' z' : Nat} (hx : ¬ c = 116 → x = x') (hz : c = 107 ∨ c = 110 → z = z') (hl : c = 99 ∨ c = 107 ∨ c = 110 ∨ c = 116 ∨ c = 120) : doI V c x z = doI V c x' z' ∧ doV V c x z = doV V c x' z' := by
  rcases hl with h | h | h | h | h
  · rw [hx (by omega)]; exact ⟨(do_99 h).1.trans (do_99 h).1.symm, (do_99 h).2.trans (do_99 h).2.symm⟩
  · rw [hx (by omega), hz (by omega)]; exact ⟨rfl, rfl⟩
  · rw [hx (by omega), hz (by omega)]; exact ⟨rfl, rfl⟩
  · exact ⟨(do_116 h).1.trans (do_116 h).1.symm, (do_116 h).2.trans (do_116 h).2.symm⟩
  · rw [hx (by omega)]; exact ⟨(do_120 h).1.trans (do_120 h).1.symm, (do_120 h).2.trans (do_120 h).2.symm⟩
theorem nuV_lt {T : Nat → Nat} {L : Nat} {sg : Nat → Int32} (hT : RepT T L sg) {p : Nat} : nuV T L p < 1000 := by
  have h1 := sgn_lt hT (p := p); have h2 := sgn_lt hT (p := p + 1)
  unfold nuV; split <;> omega
theorem orX_lt {T : Nat → Nat} {L : Nat} {sg : Nat → Int32} (hT : RepT T L sg) {p : Nat} : orX T L p < 1000 := by
  have h1 := hoF_lt (T := T) (L := L) (p := p + 1) 8
  have h2 := nuV_lt hT (p := p + 1)
  unfold orX; split
  · show hoF T L (p + 1) 8 < 1000
    have : (2 : Nat) ^ 8 = 256 := rfl
    omega
  · exact h2
theorem ds_lt {V : Nat → Nat} {c x z : Nat} (h : dsI V c x z < 0) : doI V c x z < 0 := by
  by_cases hn : doI V c x z < 0
  · exact hn
  · rw [ds_p hn] at h; exact absurd h (by decide)
theorem ds_ge {V : Nat → Nat} {c x z : Nat} (h : 0 ≤ dsI V c x z) : ¬ doI V c x z < 0 := by
  intro hn
  rw [ds_n hn] at h; exact Int32.lt_irrefl (Int32.lt_of_lt_of_le hn h)
theorem go_2 {T : Nat → Nat} {L p k x z : Nat} {V : Nat → Nat} (hI : Inv V) (hk : k < 60) (hp : p < L) (ho : orK T L p) (hd : doI V (sgn T L p) x z = doI V (sgn T L p) (orX T L p) (orY T L p) ∧ doV V (sgn T L p) x z = doV V (sgn T L p) (orX T L p) (orY T L p)) (h : dsI V (sgn T L p) x z < 0) : goF T L (60 - k) p V k = (k, p, 2, dsI V (sgn T L p) x z, doV V (sgn T L p) x z) := by
  have h1 := ds_lt h
  have h2 := h1
  rw [hd.1] at h2
  rw [goF_2 hk hp ho h2, ds_n h1, do_no hI h1, hd.1]
theorem go_s {T : Nat → Nat} {L p k x z : Nat} {V : Nat → Nat} (hk : k < 60) (hp : p < L) (ho : orK T L p) (hd : doI V (sgn T L p) x z = doI V (sgn T L p) (orX T L p) (orY T L p) ∧ doV V (sgn T L p) x z = doV V (sgn T L p) (orX T L p) (orY T L p)) (h : 0 ≤ dsI V (sgn T L p) x z) : goF T L (60 - k) p V k = goF T L (60 - (k + 1)) (orP T L p) (doV V (sgn T L p) x z) (k + 1) := by
  have h1 := ds_ge h
  rw [hd.1] at h1
  rw [goF_s hk hp ho h1, hd.2]
theorem go_fin {T : Nat → Nat} {L k ta rs po : Nat} {ca : Int32} {V V9 : Nat → Nat} (hg1 : rs = 0 → goF T L (60 - k) ta V9 k = goA T L V ∧ k ≤ ta) (hg2 : ¬ rs = 0 → goA T L V = (k - 1, po, rs, ca, V9) ∧ 1 ≤ k) (h : L ≤ ta ∨ ¬ rs = 0) : rs = (goA T L V).2.2.1 ∧ (rs = 0 → nI k = nI (goA T L V).1) ∧ (¬ rs = 0 → po = (goA T L V).2.1 ∧ ca = (goA T L V).2.2.2.1) ∧ V9 = (goA T L V).2.2.2.2 := by
  by_cases h0 : rs = 0
  · have hl := h.resolve_right (fun q => q h0)
    have e : goF T L 60 0 V 0 = (k, ta, 0, 0, V9) := by
      refine (hg1 h0).1.symm.trans ?_
      by_cases hk : k < 60
      · exact goF_e hk hl
      · exact goF_60 (by omega)
    show rs = (goF T L 60 0 V 0).2.2.1 ∧ (rs = 0 → nI k = nI (goF T L 60 0 V 0).1) ∧ (¬ rs = 0 → po = (goF T L 60 0 V 0).2.1 ∧ ca = (goF T L 60 0 V 0).2.2.2.1) ∧ V9 = (goF T L 60 0 V 0).2.2.2.2
    rw [e]; exact ⟨h0, fun _ => rfl, fun q => absurd h0 q, rfl⟩
  · have e : goF T L 60 0 V 0 = (k - 1, po, rs, ca, V9) := (hg2 h0).1
    show rs = (goF T L 60 0 V 0).2.2.1 ∧ (rs = 0 → nI k = nI (goF T L 60 0 V 0).1) ∧ (¬ rs = 0 → po = (goF T L 60 0 V 0).2.1 ∧ ca = (goF T L 60 0 V 0).2.2.2.1) ∧ V9 = (goF T L 60 0 V 0).2.2.2.2
    rw [e]; exact ⟨rfl, fun q => absurd q h0, fun _ => ⟨rfl, rfl⟩, rfl⟩
theorem go_b {T : Nat → Nat} {L : Nat} : ∀ (f p : Nat) (V : Nat → Nat) (n : Nat), (goF T L f p V n).2.2.1 ≤ 2 ∧ (goF T L f p V n).1 ≤ n + f
  | 0, p, V, n => ⟨Nat.zero_le _, Nat.le_refl _⟩
  | f + 1, p, V, n => by
    rw [goF]
    split
    · split
      · split
        · exact ⟨Nat.le_refl _, by show n ≤ _; omega⟩
        · have := go_b (T := T) (L := L) f (orP T L p) (doV V (sgn T L p) (orX T L p) (orY T L p)) (n + 1)
          exact ⟨this.1, by omega⟩
      · exact ⟨by show 1 ≤ 2; omega, by show n ≤ _; omega⟩
    · exact ⟨Nat.zero_le _, by show n ≤ _; omega⟩
theorem go_rs {T : Nat → Nat} {L : Nat} {V : Nat → Nat} : (goA T L V).2.2.1 ≤ 2 := (go_b 60 0 V 0).1
theorem go_lt {T : Nat → Nat} {L : Nat} {V : Nat → Nat} : (goA T L V).1 < 2 ^ 31 := by
  have : (goF T L 60 0 V 0).1 ≤ 0 + 60 := (go_b 60 0 V 0).2
  show (goF T L 60 0 V 0).1 < 2 ^ 31
  omega
