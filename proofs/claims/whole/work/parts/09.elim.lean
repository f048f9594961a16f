/-! ===== rules 6, 7, 8: eliminations ===== -/
theorem nb1 : vp_nar .boolean 1 = 1 := by rfl
theorem nb0 : vp_nar .boolean 0 = 0 := by rfl
def rmv (s c : Nat) : Nat := if s.testBit c then s - 2 ^ c else s
def sgb (s : Nat) : Bool := s == 1 || s == 2 || s == 4 || s == 8 || s == 16
theorem rmv_I : ∀ s, s < 32 → ∀ c, c < 5 → nI s &&& (((1 : Int32) <<< (nI c &&& 31)) ^^^ (-1)) = nI (rmv s c) := by decide +kernel
theorem rmv_lt : ∀ s, s < 32 → ∀ c, c < 5 → s.testBit c = true → rmv s c < s := by decide +kernel
theorem rmv_32 : ∀ s, s < 32 → ∀ c, c < 5 → rmv s c < 32 := by decide +kernel
theorem sgb_X : ∀ s, s < 32 → (szI (nI s) = 1 ↔ sgb s = true) := by decide +kernel
theorem sgb_Y : ∀ s, s < 32 → 0 < s → ((nI s &&& (nI s - 1)) = 0 ↔ sgb s = true) := by decide +kernel
theorem sgb_p : ∀ s, s < 32 → sgb s = true → ∃ c, c < 5 ∧ s = 2 ^ c := by
  intro s _ h
  unfold sgb at h
  simp only [Bool.or_eq_true, beq_iff_eq] at h
  rcases h with (((h | h) | h) | h) | h
  · exact ⟨0, by omega, h⟩
  · exact ⟨1, by omega, h⟩
  · exact ⟨2, by omega, h⟩
  · exact ⟨3, by omega, h⟩
  · exact ⟨4, by omega, h⟩
theorem sgb_q : ∀ c, c < 5 → sgb (2 ^ c) = true ∧ 2 ^ c < 32 ∧ (1 : Int32) <<< (nI c &&& 31) = nI (2 ^ c) := by decide +kernel
theorem bit_ex : ∀ s, s < 32 → 0 < s → s.testBit 0 = true ∨ s.testBit 1 = true ∨ s.testBit 2 = true ∨ s.testBit 3 = true ∨ s.testBit 4 = true := by decide +kernel
theorem pw_inj : ∀ c, c < 5 → ∀ d, d < 5 → 2 ^ c = 2 ^ d → c = d := by decide +kernel
/-- c has the least score by rule r among the members of s -/
def lst (n : Nat) (O : Nat → Nat) (r s c : Nat) : Prop := ∀ d, d < 5 → s.testBit d = true → Vs r c (nI s) n O ≤ Vs r d (nI s) n O
/-- the sets that an elimination can come to -/
def EL (n : Nat) (O : Nat → Nat) (r t : Nat) : Prop := ∀ F : Nat → Prop, F 31 → (∀ s c, s < 32 → 0 < s → F s → sgb s = false → c < 5 → s.testBit c = true → lst n O r s c → F (rmv s c)) → F t
theorem EL_go {n : Nat} {O : Nat → Nat} {r s c : Nat} (h : EL n O r s) (hs : s < 32) (h0 : 0 < s) (hg : sgb s = false) (hc : c < 5) (hb : s.testBit c = true) (hl : lst n O r s c) : EL n O r (rmv s c) :=
  fun F h31 hF => hF s c hs h0 (h F h31 hF) hg hc hb hl
def gone (n : Nat) (O : Nat → Nat) (r s : Nat) (q q' : Nat → Int32) : Prop :=
  (∀ c, c < 5 → s.testBit c = true → lst n O r s c → q' (rmv s c) ≠ 0) ∧ (∀ t, q' t ≠ 0 → q t ≠ 0 ∨ ∃ c, c < 5 ∧ s.testBit c = true ∧ lst n O r s c ∧ t = rmv s c) ∧ (∀ t, q t ≠ 0 → q' t ≠ 0)
/-- all sets above s are dealt with -/
def elI (n : Nat) (O : Nat → Nat) (r s : Nat) (q : Nat → Int32) : Prop :=
  (∀ t, t < 32 → q t ≠ 0 → EL n O r t) ∧ q 31 ≠ 0 ∧ (∀ t, s < t → t < 32 → q t ≠ 0 → sgb t = false → ∀ c, c < 5 → t.testBit c = true → lst n O r t c → q (rmv t c) ≠ 0)
theorem el_skip {n : Nat} {O : Nat → Nat} {r s : Nat} {q : Nat → Int32} (h : elI n O r (s + 1) q) (hq : q (s + 1) = 0 ∨ sgb (s + 1) = true) : elI n O r s q := by
  obtain ⟨h1, h2, h3⟩ := h
  refine ⟨h1, h2, fun t ht ht2 hqt hsg => ?_⟩
  by_cases e : t = s + 1
  · subst e
    rcases hq with hq | hq
    · exact absurd hq hqt
    · rw [hq] at hsg; cases hsg
  · exact h3 t (by omega) ht2 hqt hsg
theorem el_go {n : Nat} {O : Nat → Nat} {r s : Nat} {q q' : Nat → Int32} (hs : s + 1 < 32) (h : elI n O r (s + 1) q) (hq : q (s + 1) ≠ 0) (hg : sgb (s + 1) = false) (hgo : gone n O r (s + 1) q q') : elI n O r s q' := by
  obtain ⟨h1, h2, h3⟩ := h
  obtain ⟨g1, g2, g3⟩ := hgo
  refine ⟨fun t ht hqt => ?_, g3 _ h2, fun t ht ht2 hqt hsg c hc hb hl => ?_⟩
  · rcases g2 t hqt with a | ⟨c, hc, hb, hl, e⟩
    · exact h1 t ht a
    · rw [e]; exact EL_go (h1 _ hs hq) hs (by omega) hg hc hb hl
  · by_cases e : t = s + 1
    · subst e; exact g1 c hc hb hl
    · rcases g2 t hqt with a | ⟨d, hd, hb2, hl2, e2⟩
      · exact g3 _ (h3 t (by omega) ht2 a hsg c hc hb hl)
      · have := rmv_lt (s + 1) hs d hd hb2
        omega
theorem el_keep {n : Nat} {O : Nat → Nat} {r s : Nat} {q q' : Nat → Int32} (hs : s < 32) (hgo : gone n O r s q q') {t : Nat} (ht : s ≤ t) : q' t ≠ 0 ↔ q t ≠ 0 := by
  obtain ⟨g1, g2, g3⟩ := hgo
  refine ⟨fun h => ?_, g3 t⟩
  rcases g2 t h with a | ⟨d, hd, hb2, hl2, e2⟩
  · exact a
  · have := rmv_lt s hs d hd hb2
    omega
theorem el_end {n : Nat} {O : Nat → Nat} {r : Nat} {q : Nat → Int32} (h : elI n O r 0 q) {t : Nat} (ht : t < 32) : q t ≠ 0 ↔ EL n O r t := by
  obtain ⟨h1, h2, h3⟩ := h
  exact ⟨h1 t ht, fun hE => hE (fun t => q t ≠ 0) h2 (fun s c hs h0 hF hg hc hb hl => h3 s h0 hs hF hg c hc hb hl)⟩
/-- the least score found among the members below c -/
def lsI (n : Nat) (O : Nat → Nat) (r s c : Nat) (L B : Int) : Prop := (∀ d, d < c → s.testBit d = true → L ≤ Vs r d (nI s) n O) ∧ ((L = B ∧ ∀ d, d < c → s.testBit d = false) ∨ ∃ d, d < c ∧ s.testBit d = true ∧ L = Vs r d (nI s) n O)
theorem ls_no {n : Nat} {O : Nat → Nat} {r s c : Nat} {L B : Int} (h : lsI n O r s c L B) (hb : s.testBit c = false) : lsI n O r s (c + 1) L B := by
  obtain ⟨h1, h2⟩ := h
  refine ⟨fun d hd hbd => ?_, ?_⟩
  · by_cases e : d = c
    · subst e; rw [hb] at hbd; cases hbd
    · exact h1 d (by omega) hbd
  · rcases h2 with ⟨a, b⟩ | ⟨d, a, b, e⟩
    · refine Or.inl ⟨a, fun d hd => ?_⟩
      by_cases e : d = c
      · subst e; exact hb
      · exact b d (by omega)
    · exact Or.inr ⟨d, by omega, b, e⟩
theorem ls_ge {n : Nat} {O : Nat → Nat} {r s c : Nat} {L B : Int} (h : lsI n O r s c L B) (hB : Vs r c (nI s) n O < B) (hle : L ≤ Vs r c (nI s) n O) : lsI n O r s (c + 1) L B := by
  obtain ⟨h1, h2⟩ := h
  refine ⟨fun d hd hbd => ?_, ?_⟩
  · by_cases e : d = c
    · subst e; exact hle
    · exact h1 d (by omega) hbd
  · rcases h2 with ⟨a, b⟩ | ⟨d, a, b, e⟩
    · omega
    · exact Or.inr ⟨d, by omega, b, e⟩
theorem ls_lt {n : Nat} {O : Nat → Nat} {r s c : Nat} {L B : Int} (h : lsI n O r s c L B) (hb : s.testBit c = true) (hlt : Vs r c (nI s) n O < L) : lsI n O r s (c + 1) (Vs r c (nI s) n O) B := by
  obtain ⟨h1, h2⟩ := h
  refine ⟨fun d hd hbd => ?_, Or.inr ⟨c, by omega, hb, rfl⟩⟩
  by_cases e : d = c
  · subst e; exact Int.le_refl _
  · have := h1 d (by omega) hbd
    omega
theorem ls_end {n : Nat} {O : Nat → Nat} {r s : Nat} {L B : Int} (h : lsI n O r s 5 L B) (hs : s < 32) (h0 : 0 < s) {c : Nat} (hc : c < 5) (hb : s.testBit c = true) : Vs r c (nI s) n O = L ↔ lst n O r s c := by
  obtain ⟨h1, h2⟩ := h
  constructor
  · intro e d hd hbd
    have := h1 d hd hbd
    omega
  · intro hl
    have h3 := h1 c hc hb
    rcases h2 with ⟨_, b⟩ | ⟨d, a, b, e⟩
    · rw [b c hc] at hb; cases hb
    · have := hl d a b
      omega
/-- the sets that have been marked for the members below c -/
def mkI (n : Nat) (O : Nat → Nat) (r s c : Nat) (q q' : Nat → Int32) : Prop :=
  (∀ d, d < c → d < 5 → s.testBit d = true → lst n O r s d → q' (rmv s d) ≠ 0) ∧ (∀ t, q' t ≠ 0 → q t ≠ 0 ∨ ∃ d, d < 5 ∧ s.testBit d = true ∧ lst n O r s d ∧ t = rmv s d) ∧ (∀ t, q t ≠ 0 → q' t ≠ 0)
theorem mk_no {n : Nat} {O : Nat → Nat} {r s c : Nat} {q q' : Nat → Int32} (h : mkI n O r s c q q') (hno : s.testBit c = true → ¬ lst n O r s c) : mkI n O r s (c + 1) q q' := by
  obtain ⟨h1, h2, h3⟩ := h
  refine ⟨fun d hd hd5 hb hl => ?_, h2, h3⟩
  by_cases e : d = c
  · subst e; exact absurd hl (hno hb)
  · exact h1 d (by omega) hd5 hb hl
theorem mk_yes {n : Nat} {O : Nat → Nat} {r s c : Nat} {q q' : Nat → Int32} (h : mkI n O r s c q q') (hc : c < 5) (hb : s.testBit c = true) (hl : lst n O r s c) : mkI n O r s (c + 1) q (upd q' (rmv s c) 1) := by
  obtain ⟨h1, h2, h3⟩ := h
  have key : ∀ t, q' t ≠ 0 → upd q' (rmv s c) 1 t ≠ 0 := by
    intro t ht
    by_cases e : t = rmv s c
    · rw [e, pk_us]; decide
    · rw [pk_un e]; exact ht
  refine ⟨fun d hd hd5 hb' hl' => ?_, fun t ht => ?_, fun t ht => key t (h3 t ht)⟩
  · by_cases e : d = c
    · subst e; rw [pk_us]; decide
    · exact key _ (h1 d (by omega) hd5 hb' hl')
  · by_cases e : t = rmv s c
    · exact Or.inr ⟨c, hc, hb, hl, e⟩
    · rw [pk_un e] at ht; exact h2 t ht
theorem mk_end {n : Nat} {O : Nat → Nat} {r s : Nat} {q q' : Nat → Int32} (h : mkI n O r s 5 q q') : gone n O r s q q' :=
  ⟨fun c hc hb hl => h.1 c hc hc hb hl, h.2.1, h.2.2⟩
theorem nI_hi {s : Nat} (hs : s < 32) : ∀ j, 5 ≤ j → bt (nI s) j = false := by
  intro j hj
  rw [vb_nIs (by omega)]
  exact Nat.testBit_lt_two_pow (Nat.lt_of_lt_of_le hs (show 2 ^ 5 ≤ 2 ^ j from Nat.pow_le_pow_right (by decide) hj))
theorem x_lg {post : SX → Prop} {xc : Int32} {xo xr xp xm xb xs xq xn xu xl xg xk xt xw xv : Nat → Int32} {n : Nat} {O : Nat → Nat} (h : zRX n O (xc, xo, xr, xp, xm, xb, xs, xq, xn, xu, xl, xg, xk, xt, xw, xv)) {r s : Nat} (hr : r ≤ 2) (hs : s < 32) (h0 : 0 < s)
    (hp : ∀ q' n' : Nat → Int32, gone n O r s xq q' → post (xc, xo, xr, xp, xm, xb, xs, q', n', xu, xl, xg, xk, xt, xw, xv)) : wpX_letOneGo post (xc, xo, xr, xp, xm, xb, xs, xq, xn, xu, xl, xg, xk, xt, xw, xv) (nI r) (nI s) := by
  have hn := h.1.1
  unfold wpX_letOneGo
  dsimp only
  have hbit : ∀ c, bt (nI s) c = s.testBit c := vb_nIs (by omega)
  refine pk_loop (σ := Int32 × (Nat → Int32)) (fun m c x => wX_letOneGo_6 post (nI r) (nI s) xc m x.1 (nI c) xo xr xp xm xb xs xq x.2 xu xl xg xk xt xw xv) (fun c x => ∃ L, x.1 = iI L ∧ -9 ≤ L ∧ L ≤ 1000000 ∧ lsI n O r s c L 1000000 ∧ ∀ d, d < c → s.testBit d = true → x.2 d = iI (Vs r d (nI s) n O)) 5 0 (1000000, xn) (by omega) ⟨1000000, (by decide : (1000000 : Int32) = iI 1000000), by omega, by omega, ⟨fun d hd => by omega, Or.inl ⟨rfl, fun d hd => by omega⟩⟩, fun d hd => by omega⟩ ?_ ?_
  · rintro m ⟨x3, x8⟩ ⟨L, e, hL1, hL2, hl, hv⟩
    dsimp only at e hv ⊢
    subst e
    rw [wX_letOneGo_6]
    refine br_t (by decide) ?_
    refine pk_loop (σ := Nat → Int32) (fun m' c q => wX_letOneGo_64 post (nI s) (iI L) xc m' (nI c) xo xr xp xm xb xs q x8 xu xl xg xk xt xw xv) (fun c q => mkI n O r s c xq q) 5 0 xq (by omega) ⟨fun d hd => by omega, fun t ht => Or.inl ht, fun t ht => ht⟩ ?_ ?_
    · intro m' q hq
      rw [wX_letOneGo_64]
      exact br_t (by decide) (hp q x8 (mk_end hq))
    · intro m' c q hc hq hK
      rw [wX_letOneGo_64]
      refine br_f (nI_ge (b := 5) hc (by decide)) (x_has (by omega) (fun hb => br_f (by decide) ⟨vp_in_nI hc (by decide), ?_⟩) (fun hb => br_t rfl (nm_r (nI_1 c) (hK q (mk_no hq (fun z => by rw [hbit, z] at hb; cases hb))))))
      rw [hbit] at hb
      have hV := Vs_bd hn r c (nI s) O
      rw [nI_clamp (by omega), hv c hc hb]
      refine vi_eq (Vs r c (nI s) n O) L (fun e => ?_) (fun e => ?_)
      · rw [rmv_I s hs c hc]
        have := rmv_32 s hs c hc
        refine ⟨vp_in_nI this (by decide), nm_r (e' := upd q (rmv s c) 1) (by rw [nI_clamp (by omega), nb1]) (nm_r (nI_1 c) (hK (upd q (rmv s c) 1) (mk_yes hq hc hb ((ls_end hl hs h0 hc hb).mp e))))⟩
      · exact nm_r (nI_1 c) (hK q (mk_no hq (fun z hz => e ((ls_end hl hs h0 hc hb).mpr hz))))
  · rintro m c ⟨x3, x8⟩ hc ⟨L, e, hL1, hL2, hl, hv⟩ hK
    dsimp only at e hv hK ⊢
    subst e
    rw [wX_letOneGo_6]
    refine br_f (nI_ge (b := 5) hc (by decide)) (x_sa (n := n) (O := O) ?_ hr hc (nI_hi hs) (fun z hz hz1 hz2 => ?_))
    · exact h.1
    refine ⟨vp_in_nI hc (by decide), nm_r (e' := upd x8 c (iI z)) (by rw [nI_clamp (by omega)]) ?_⟩
    have hv' : s.testBit c = true → ∀ d, d < c + 1 → s.testBit d = true → upd x8 c (iI z) d = iI (Vs r d (nI s) n O) := by
      intro hb d hd hbd
      by_cases e : d = c
      · subst e; rw [pk_us, hz (by rw [hbit]; exact hb)]
      · rw [pk_un e]; exact hv d (by omega) hbd
    refine x_has (by omega) (fun hb => br_f (by decide) ⟨vp_in_nI hc (by decide), ?_⟩) (fun hb => br_t rfl (nm_r (nI_1 c) (hK (iI L, upd x8 c (iI z)) ⟨L, rfl, hL1, hL2, ls_no hl (by rw [hbit] at hb; exact hb), fun d hd hbd => ?_⟩)))
    · have hb' := hb
      rw [hbit] at hb
      have ez := hz hb'
      rw [nI_clamp (by omega), pk_us]
      refine vi_le L z (fun hle => nm_r (nI_1 c) (hK (iI L, upd x8 c (iI z)) ⟨L, rfl, hL1, hL2, ls_ge hl (by omega) (by omega), hv' hb⟩)) (fun hlt => ⟨vp_in_nI hc (by decide), nm_r rfl (nm_r (nI_1 c) (hK (iI z, upd x8 c (iI z)) ⟨z, rfl, hz1, by omega, ?_, hv' hb⟩))⟩)
      rw [ez]
      exact ls_lt hl hb (by omega)
    · dsimp only
      rw [hbit] at hb
      by_cases e : d = c
      · subst e; rw [hb] at hbd; cases hbd
      · rw [pk_un e]; exact hv d (by omega) hbd
theorem y_sh {post : SY → Prop} {yn yc : Int32} {yo yp ym ys yl yb yw yk yt yz yx : Nat → Int32} {n : Nat} {O : Nat → Nat} (h : zRY n O (yn, yc, yo, yp, ym, ys, yl, yb, yw, yk, yt, yz, yx)) {r s : Nat} (hr : r ≤ 2) (hs : s < 32) (h0 : 0 < s)
    (hp : ∀ q' : Nat → Int32, gone n O r s yl q' → post (yn, yc, yo, yp, ym, ys, q', yb, yw, yk, yt, yz, yx)) : wpY_shrink post (yn, yc, yo, yp, ym, ys, yl, yb, yw, yk, yt, yz, yx) (nI s) (nI r) := by
  have hn := h.1
  unfold wpY_shrink
  dsimp only
  have hbit : ∀ c, bt (nI s) c = s.testBit c := vb_nIs (by omega)
  refine pk_loop (σ := Int32) (fun m c x => wY_shrink_7 post (nI s) (nI r) yn yc yo yp ym ys yl yb yw yk yt yz yx m x (nI c)) (fun c x => ∃ L, x = iI L ∧ -9 ≤ L ∧ L ≤ 1000 ∧ lsI n O r s c L 1000) 5 0 1000 (by omega) ⟨1000, by decide, by omega, by omega, ⟨fun d hd => by omega, Or.inl ⟨rfl, fun d hd => by omega⟩⟩⟩ ?_ ?_
  · rintro m x3 ⟨L, e, hL1, hL2, hl⟩
    subst e
    rw [wY_shrink_7]
    refine br_t (by decide) ?_
    refine pk_loop (σ := Nat → Int32) (fun m' c q => wY_shrink_51 post (nI s) (nI r) (iI L) yn yc m' (nI c) yo yp ym ys q yb yw yk yt yz yx) (fun c q => mkI n O r s c yl q) 5 0 yl (by omega) ⟨fun d hd => by omega, fun t ht => Or.inl ht, fun t ht => ht⟩ ?_ ?_
    · intro m' q hq
      rw [wY_shrink_51]
      exact br_t (by decide) (hp q (mk_end hq))
    · intro m' c q hc hq hK
      rw [wY_shrink_51]
      refine br_f (nI_ge (b := 5) hc (by decide)) ?_
      have hV := Vs_bd hn r c (nI s) O
      cases hb : s.testBit c with
      | true =>
        refine br_t ((vb_has (by omega)).mpr (by rw [hbit]; exact hb)) (y_va (n := n) (O := O) ?_ hr hc (nI s) ?_)
        · exact h
        refine vi_eq (Vs r c (nI s) n O) L (fun e => ?_) (fun e => ?_)
        · rw [rmv_I s hs c hc]
          have := rmv_32 s hs c hc
          refine ⟨vp_in_nI this (by decide), nm_r (e' := upd q (rmv s c) 1) (by rw [nI_clamp (by omega), nb1]) (nm_r (nI_1 c) (hK (upd q (rmv s c) 1) (mk_yes hq hc hb ((ls_end hl hs h0 hc hb).mp e))))⟩
        · exact nm_r (nI_1 c) (hK q (mk_no hq (fun z hz => e ((ls_end hl hs h0 hc hb).mpr hz))))
      | false =>
        exact br_f (fun hh => by rw [vb_has (by omega), hbit, hb] at hh; cases hh) (nm_r (nI_1 c) (hK q (mk_no hq (fun z => by rw [z] at hb; cases hb))))
  · rintro m c x3 hc ⟨L, e, hL1, hL2, hl⟩ hK
    subst e
    rw [wY_shrink_7]
    have hV := Vs_bd hn r c (nI s) O
    refine br_f (nI_ge (b := 5) hc (by decide)) (y_va h hr hc (nI s) ?_)
    cases hb : s.testBit c with
    | true =>
      refine br_t ((vb_has (by omega)).mpr (by rw [hbit]; exact hb)) ?_
      exact vi_le L (Vs r c (nI s) n O) (fun hle => nm_r (nI_1 c) (hK (iI L) ⟨L, rfl, hL1, hL2, ls_ge hl (by omega) (by omega)⟩)) (fun hlt => nm_r (nI_1 c) (hK _ ⟨_, rfl, hV.1, by omega, ls_lt hl hb hlt⟩))
    | false =>
      exact br_f (fun hh => by rw [vb_has (by omega), hbit, hb] at hh; cases hh) (nm_r (nI_1 c) (hK (iI L) ⟨L, rfl, hL1, hL2, ls_no hl hb⟩))
