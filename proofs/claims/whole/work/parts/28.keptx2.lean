/-! ===== rule 10: the component's main loop ===== -/
theorem x_op {post : Int32 → Prop} {xc : Int32} {xo xr xp xm xb xs xq xn xu xl xg xk xt xw xv : Nat → Int32} {n : Nat} (hn : n ≤ 9) {O : Nat → Nat} (hp3 : prs n O 10 xu xl xg) {k p : Nat} (hk : k < 1024) (hp10 : p < 10) (hct : ∀ a, a < 5 → isSet (xt a) (Rch (Kof 10 (prU n O) (prL n O) k) a)) (h1 : opn n O (prU n O) (prL n O) k p → post 1) (h0 : ¬ opn n O (prU n O) (prL n O) k p → post 0) : wpX_isOpen post (xc, xo, xr, xp, xm, xb, xs, xq, xn, xu, xl, xg, xk, xt, xw, xv) (nI p) (nI k) := by
  obtain ⟨eU, eL, eG⟩ := hp3 p hp10
  have hIp := (pr_idx n O).1 p hp10
  have hbd := Mg_bd hn O (prU n O p) (prL n O p)
  unfold wpX_isOpen
  dsimp only
  rw [nI_clamp (n := p) (by omega), eG, eL, eU, nI_clamp (n := prL n O p) (by omega)]
  refine ⟨vp_in_nI hp10 (by decide), vi_le (Mg n O (prU n O p) (prL n O p)) 0 (fun hle => h0 (fun z => by have := z.1; omega)) (fun hgt => ?_)⟩
  refine x_has (by omega) (fun e => br_f (by decide) (h0 (fun z => ?_))) (fun e => br_t rfl ⟨vp_in_nI hp10 (by decide), vp_in_nI hIp.2.1 (by decide), vp_in_nI hp10 (by decide), ?_⟩)
  · rw [vb_nI k p (by omega), z.2.1] at e; cases e
  · rw [vb_nI k p (by omega)] at e
    have hr := hct _ hIp.2.1 (prU n O p)
    refine x_has (by omega) (fun e2 => br_f (by decide) (h0 (fun z => z.2.2 (hr.mp e2).2))) (fun e2 => br_t rfl (h1 ⟨hgt, e, fun z => ?_⟩))
    rw [hr.mpr ⟨hIp.1, z⟩] at e2; cases e2
theorem x_gom {post : Int32 → Prop} {xc : Int32} {xo xr xp xm xb xs xq xn xu xl xg xk xt xw xv : Nat → Int32} {n : Nat} (hn : n ≤ 9) {O : Nat → Nat} (hp3 : prs n O 10 xu xl xg) {k : Nat} (hk : k < 1024) (hct : ∀ a, a < 5 → isSet (xt a) (Rch (Kof 10 (prU n O) (prL n O) k) a))
    (h0 : (∀ p, p < 10 → ¬ opn n O (prU n O) (prL n O) k p) → post (iI 0)) (h1 : ∀ f, f < 10 → opn n O (prU n O) (prL n O) k f → (∀ p, p < 10 → opn n O (prU n O) (prL n O) k p → Mg n O (prU n O p) (prL n O p) ≤ Mg n O (prU n O f) (prL n O f)) → post (iI (Mg n O (prU n O f) (prL n O f)))) : wpX_greatestOpenMargin post (xc, xo, xr, xp, xm, xb, xs, xq, xn, xu, xl, xg, xk, xt, xw, xv) (nI k) := by
  unfold wpX_greatestOpenMargin
  dsimp only
  refine pk_loop (σ := Int32) (fun m p x => wX_greatestOpenMargin_4 post (nI k) xc xo xr xp xm xb xs xq xn xu xl xg xk xt xw xv m x (nI p)) (fun p x => (x = iI 0 ∧ ∀ q, q < p → ¬ opn n O (prU n O) (prL n O) k q) ∨ ∃ f, f < p ∧ opn n O (prU n O) (prL n O) k f ∧ x = iI (Mg n O (prU n O f) (prL n O f)) ∧ ∀ q, q < p → opn n O (prU n O) (prL n O) k q → Mg n O (prU n O q) (prL n O q) ≤ Mg n O (prU n O f) (prL n O f)) 10 0 0 (by omega) (Or.inl ⟨rfl, fun q hq => by omega⟩) ?_ ?_
  · rintro m x hx
    rw [wX_greatestOpenMargin_4]
    refine br_t (by decide) ?_
    rcases hx with ⟨e, g⟩ | ⟨f, a, b, e, g⟩
    · rw [e]; exact h0 g
    · rw [e]; exact h1 f a b g
  · rintro m p x hp10 hx hK
    rw [wX_greatestOpenMargin_4]
    obtain ⟨eU, eL, eG⟩ := hp3 p hp10
    have hbd := Mg_bd hn O (prU n O p) (prL n O p)
    refine br_f (nI_ge (b := 10) hp10 (by decide)) (x_op hn hp3 hk hp10 hct (fun ho => br_f (by decide) ⟨vp_in_nI hp10 (by decide), ?_⟩) (fun hno => br_t rfl (nm_r (nI_1 p) (hK x ?_))))
    · rw [nI_clamp (by omega), eG]
      have hpos := ho.1
      obtain ⟨z, ez, z0, z9⟩ : ∃ z : Int, x = iI z ∧ 0 ≤ z ∧ z ≤ 9 := by
        rcases hx with ⟨e, _⟩ | ⟨f, _, b, e, _⟩
        · exact ⟨0, e, by omega, by omega⟩
        · have := Mg_bd hn O (prU n O f) (prL n O f)
          have := b.1
          exact ⟨_, e, by omega, by omega⟩
      refine vi_le (Mg n O (prU n O p) (prL n O p)) z (fun hle => nm_r (nI_1 p) (hK x ?_)) (fun hgt => ⟨vp_in_nI hp10 (by decide), nm_e (nm_r (nI_1 p) (hK _ (Or.inr ⟨p, by omega, ho, rfl, fun q hq hoq => ?_⟩)))⟩) rfl ez
      · rcases hx with ⟨e, g⟩ | ⟨f, a, b, e, g⟩
        · have : z = 0 := (vs_eq (by omega)).mp (ez.symm.trans e)
          omega
        · have hfb := Mg_bd hn O (prU n O f) (prL n O f)
          have : z = Mg n O (prU n O f) (prL n O f) := (vs_eq (by omega)).mp (ez.symm.trans e)
          refine Or.inr ⟨f, by omega, b, e, fun q hq hoq => ?_⟩
          by_cases eq : q = p
          · subst eq; omega
          · exact g q (by omega) hoq
      · by_cases eq : q = p
        · subst eq; exact Int.le_refl _
        · rcases hx with ⟨e, g⟩ | ⟨f, a, b, e, g⟩
          · exact absurd hoq (g q (by omega))
          · have hfb := Mg_bd hn O (prU n O f) (prL n O f)
            have : z = Mg n O (prU n O f) (prL n O f) := (vs_eq (by omega)).mp (ez.symm.trans e)
            have := g q (by omega) hoq
            omega
    · rcases hx with ⟨e, g⟩ | ⟨f, a, b, e, g⟩
      · refine Or.inl ⟨e, fun q hq => ?_⟩
        by_cases eq : q = p
        · subst eq; exact hno
        · exact g q (by omega)
      · refine Or.inr ⟨f, by omega, b, e, fun q hq hoq => ?_⟩
        by_cases eq : q = p
        · subst eq; exact absurd hoq hno
        · exact g q (by omega) hoq
theorem x_low {post : Int32 → Prop} {xc : Int32} {xo xr xp xm xb xs xq xn xu xl xg xk xt xw xv : Nat → Int32} {n : Nat} {O : Nat → Nat} (hp3 : prs n O 10 xu xl xg) {k : Nat} (hk : k < 1024) (hp : ∀ r, isSet r (fun b => ∃ q, q < 10 ∧ k.testBit q = true ∧ prL n O q = b) → post r) : wpX_lowersOf post (xc, xo, xr, xp, xm, xb, xs, xq, xn, xu, xl, xg, xk, xt, xw, xv) (nI k) := by
  unfold wpX_lowersOf
  dsimp only
  refine pk_loop (σ := Int32) (fun m p x => wX_lowersOf_4 post (nI k) xc xo xr xp xm xb xs xq xn xu xl xg xk xt xw xv m x (nI p)) (fun p x => isSet x (fun b => ∃ q, q < p ∧ k.testBit q = true ∧ prL n O q = b)) 10 0 0 (by omega) (vb_congr vb_empty (fun i _ => ⟨fun z => z.elim, fun ⟨q, hq, _⟩ => by omega⟩)) ?_ ?_
  · intro m x hx
    rw [wX_lowersOf_4]
    exact br_t (by decide) (hp x hx)
  · intro m p x hp10 hx hK
    rw [wX_lowersOf_4]
    obtain ⟨eU, eL, eG⟩ := hp3 p hp10
    have hIp := (pr_idx n O).1 p hp10
    refine br_f (nI_ge (b := 10) hp10 (by decide)) (x_has (by omega) (fun e => br_f (by decide) ⟨vp_in_nI hp10 (by decide), ?_⟩) (fun e => br_t rfl (nm_r (nI_1 p) (hK x (vb_congr hx (fun b _ => ?_))))))
    · rw [vb_nI k p (by omega)] at e
      rw [nI_clamp (by omega), eL]
      refine nm_e (nm_r (nI_1 p) (hK _ (vb_congr (vb_ins hx hIp.2.1) (fun b _ => ⟨?_, ?_⟩))))
      · rintro (⟨q, q1, q2⟩ | z)
        · exact ⟨q, by omega, q2⟩
        · exact ⟨p, by omega, e, z.symm⟩
      · rintro ⟨q, q1, q2, q3⟩
        by_cases eq : q = p
        · subst eq; exact Or.inr q3.symm
        · exact Or.inl ⟨q, by omega, q2, q3⟩
    · rw [vb_nI k p (by omega)] at e
      refine ⟨fun ⟨q, q1, q2⟩ => ⟨q, by omega, q2⟩, fun ⟨q, q1, q2, q3⟩ => ?_⟩
      by_cases eq : q = p
      · subst eq; rw [q2] at e; cases e
      · exact ⟨q, by omega, q2, q3⟩
/-- what keepOneOf marks -/
def kpd (n : Nat) (O : Nat → Nat) (k N : Nat) (z : Int) (q q' : Nat → Int32) : Prop := (∀ p, p < N → opn n O (prU n O) (prL n O) k p → Mg n O (prU n O p) (prL n O p) = z → q' (k ||| 2 ^ p) ≠ 0) ∧ (∀ t, q' t ≠ 0 → q t ≠ 0 ∨ ∃ p, p < 10 ∧ opn n O (prU n O) (prL n O) k p ∧ Mg n O (prU n O p) (prL n O p) = z ∧ t = k ||| 2 ^ p) ∧ ∀ t, q t ≠ 0 → q' t ≠ 0
theorem x_kp {post : SX → Prop} {xc : Int32} {xo xr xp xm xb xs xq xn xu xl xg xk xt xw xv : Nat → Int32} {n : Nat} (hn : n ≤ 9) {O : Nat → Nat} (hp3 : prs n O 10 xu xl xg) {k : Nat} (hk : k < 1024) (hct : ∀ a, a < 5 → isSet (xt a) (Rch (Kof 10 (prU n O) (prL n O) k) a)) {z : Int} (hz : -9 ≤ z ∧ z ≤ 9)
    (hp : ∀ q', kpd n O k 10 z xk q' → post (xc, xo, xr, xp, xm, xb, xs, xq, xn, xu, xl, xg, q', xt, xw, xv)) : wpX_keepOneOf post (xc, xo, xr, xp, xm, xb, xs, xq, xn, xu, xl, xg, xk, xt, xw, xv) (nI k) (iI z) := by
  unfold wpX_keepOneOf
  dsimp only
  refine pk_loop (σ := Nat → Int32) (fun m p q => wX_keepOneOf_2 post (nI k) (iI z) xc m (nI p) xo xr xp xm xb xs xq xn xu xl xg q xt xw xv) (fun p q => kpd n O k p z xk q) 10 0 xk (by omega) ⟨fun p hp => by omega, fun t ht => Or.inl ht, fun t ht => ht⟩ ?_ ?_
  · intro m q hq
    rw [wX_keepOneOf_2]
    exact br_t (by decide) (hp q hq)
  · rintro m p q hp10 ⟨g1, g2, g3⟩ hK
    rw [wX_keepOneOf_2]
    obtain ⟨eU, eL, eG⟩ := hp3 p hp10
    have hbd := Mg_bd hn O (prU n O p) (prL n O p)
    have keep : (opn n O (prU n O) (prL n O) k p → Mg n O (prU n O p) (prL n O p) ≠ z) → kpd n O k (p + 1) z xk q := by
      intro hno
      refine ⟨fun r hr ho he => ?_, g2, g3⟩
      by_cases er : r = p
      · subst er; exact absurd he (hno ho)
      · exact g1 r (by omega) ho he
    refine br_f (nI_ge (b := 10) hp10 (by decide)) (x_op hn hp3 hk hp10 hct (fun ho => br_f (by decide) ⟨vp_in_nI hp10 (by decide), ?_⟩) (fun hno => br_t rfl (nm_r (nI_1 p) (hK q (keep (fun z => absurd z hno))))))
    rw [nI_clamp (by omega), eG]
    refine vi_eq _ z (fun e => ?_) (fun e => nm_r (nI_1 p) (hK q (keep (fun _ => e))))
    have hlt : k ||| 2 ^ p < 1024 := Nat.or_lt_two_pow (n := 10) hk (Nat.pow_lt_pow_right (by decide) hp10)
    rw [pw10 p (by omega), nI_or]
    refine ⟨vp_in_nI hlt (by decide), nm_r (e' := upd q (k ||| 2 ^ p) 1) (by rw [nI_clamp (by omega), nb1]) (nm_r (nI_1 p) (hK (upd q (k ||| 2 ^ p) 1) ?_))⟩
    have key : ∀ t, q t ≠ 0 → upd q (k ||| 2 ^ p) 1 t ≠ 0 := by
      intro t ht
      by_cases et : t = k ||| 2 ^ p
      · rw [et, pk_us]; decide
      · rw [pk_un et]; exact ht
    refine ⟨fun r hr hor her => ?_, fun t ht => ?_, fun t ht => key t (g3 t ht)⟩
    · by_cases er : r = p
      · subst er; rw [pk_us]; decide
      · exact key _ (g1 r (by omega) hor her)
    · by_cases et : t = k ||| 2 ^ p
      · exact Or.inr ⟨p, hp10, ho, e, et⟩
      · rw [pk_un et] at ht; exact g2 t ht
/-- the search as far as the sets below k go -/
def srI (n : Nat) (O : Nat → Nat) (k : Nat) (q : Nat → Int32) (w : Int32) : Prop := (∀ t, t < 1024 → q t ≠ 0 → xIv n O (prU n O) (prL n O) t) ∧ q 0 ≠ 0 ∧ (∀ t f, t < k → q t ≠ 0 → f < 10 → opn n O (prU n O) (prL n O) t f → (∀ p, p < 10 → opn n O (prU n O) (prL n O) t p → Mg n O (prU n O p) (prL n O p) ≤ Mg n O (prU n O f) (prL n O f)) → q (t ||| 2 ^ f) ≠ 0) ∧ isSet w (fun c => ∃ t, t < k ∧ q t ≠ 0 ∧ (∀ p, p < 10 → ¬ opn n O (prU n O) (prL n O) t p) ∧ ¬ ∃ r, r < 10 ∧ t.testBit r = true ∧ prL n O r = c)
theorem sr_skip {n : Nat} {O : Nat → Nat} {k : Nat} {q : Nat → Int32} {w : Int32} (h : srI n O k q w) (hq : q k = 0) : srI n O (k + 1) q w := by
  obtain ⟨h1, h2, h3, h4⟩ := h
  refine ⟨h1, h2, fun t f ht hqt => ?_, vb_congr h4 (fun c _ => ⟨fun ⟨t, a, b⟩ => ⟨t, by omega, b⟩, fun ⟨t, a, b, d⟩ => ?_⟩)⟩
  · by_cases e : t = k
    · subst e; exact absurd hq hqt
    · exact h3 t f (by omega) hqt
  · by_cases e : t = k
    · subst e; exact absurd hq b
    · exact ⟨t, by omega, b, d⟩
theorem sr_end1 {n : Nat} {O : Nat → Nat} {k : Nat} {q : Nat → Int32} {w r : Int32} (h : srI n O k q w) (hq : q k ≠ 0) (hno : ∀ p, p < 10 → ¬ opn n O (prU n O) (prL n O) k p) (hr : isSet r (fun b => ∃ s, s < 10 ∧ k.testBit s = true ∧ prL n O s = b)) : srI n O (k + 1) q (w ||| (31 &&& (r ^^^ (-1)))) := by
  obtain ⟨h1, h2, h3, h4⟩ := h
  have hx : isSet (31 &&& (r ^^^ (-1))) (fun c => ¬ ∃ s, s < 10 ∧ k.testBit s = true ∧ prL n O s = c) := by
    intro i
    rw [b_and, vb_31]
    rcases Nat.lt_or_ge i 5 with g | g
    · rw [vb_not _ (by omega), decide_eq_true g, Bool.true_and]
      have := hr i
      cases hb : bt r i
      · refine ⟨fun _ => ⟨g, fun z => ?_⟩, fun _ => rfl⟩
        rw [this.mpr ⟨g, z⟩] at hb; cases hb
      · exact ⟨(fun z => by simp at z), fun z => absurd (this.mp hb).2 z.2⟩
    · rw [decide_eq_false (by omega), Bool.false_and]
      exact ⟨(fun z => by simp at z), fun z => by omega⟩
  refine ⟨h1, h2, fun t f ht hqt hf ho => ?_, vb_congr (vb_or h4 hx) (fun c _ => ⟨?_, ?_⟩)⟩
  · by_cases e : t = k
    · subst e; exact absurd ho (hno f hf)
    · exact h3 t f (by omega) hqt hf ho
  · rintro (⟨t, a, b⟩ | z)
    · exact ⟨t, by omega, b⟩
    · exact ⟨k, by omega, hq, hno, z⟩
  · rintro ⟨t, a, b, d, e⟩
    by_cases et : t = k
    · subst et; exact Or.inr e
    · exact Or.inl ⟨t, by omega, b, d, e⟩
theorem sr_go {n : Nat} {O : Nat → Nat} {k f : Nat} {q q' : Nat → Int32} {w : Int32} (hk : k < 1024) (h : srI n O k q w) (hq : q k ≠ 0) (hf : f < 10) (ho : opn n O (prU n O) (prL n O) k f) (hm : ∀ p, p < 10 → opn n O (prU n O) (prL n O) k p → Mg n O (prU n O p) (prL n O p) ≤ Mg n O (prU n O f) (prL n O f)) (hg : kpd n O k 10 (Mg n O (prU n O f) (prL n O f)) q q') : srI n O (k + 1) q' w := by
  obtain ⟨h1, h2, h3, h4⟩ := h
  obtain ⟨g1, g2, g3⟩ := hg
  have hI := pr_idx n O
  have old : ∀ t, t ≤ k → (q' t ≠ 0 ↔ q t ≠ 0) := by
    intro t ht
    refine ⟨fun z => ?_, g3 t⟩
    rcases g2 t z with a | ⟨p, hp, hop, _, e⟩
    · exact a
    · have := or_gt hop.2.1
      omega
  refine ⟨fun t ht hqt => ?_, g3 0 h2, fun t e ht hqt he hoe hme => ?_, vb_congr h4 (fun c _ => ⟨?_, ?_⟩)⟩
  · rcases g2 t hqt with a | ⟨p, hp, hop, hz, e⟩
    · exact h1 t ht a
    · rw [e]
      exact xIv_step hI (h1 k hk hq) hp hop (fun r hr hor => by rw [hz]; exact hm r hr hor)
  · by_cases et : t = k
    · subst et
      refine g1 e he hoe ?_
      have := hm e he hoe
      have := hme f hf ho
      omega
    · exact g3 _ (h3 t e (by omega) ((old t (by omega)).mp hqt) he hoe hme)
  · rintro ⟨t, a, b, d⟩
    exact ⟨t, by omega, g3 t b, d⟩
  · rintro ⟨t, a, b, d, e⟩
    by_cases et : t = k
    · subst et; exact absurd ho (d f hf)
    · exact ⟨t, by omega, (old t (by omega)).mp b, d, e⟩
theorem sr_fin {n : Nat} {O : Nat → Nat} {q : Nat → Int32} {w : Int32} (h : srI n O 1024 q w) : isSet w (W10 n O) := by
  obtain ⟨h1, h2, h3, h4⟩ := h
  have hI := pr_idx n O
  refine vb_congr h4 (fun c hc => ⟨?_, ?_⟩)
  · rintro ⟨t, a, b, d, e⟩
    refine ⟨Kof 10 (prU n O) (prL n O) t, xIv_end hI (h1 t a b) d, fun x _ ⟨r, r1, r2, r3, r4⟩ => e ⟨r, r1, r2, r4⟩⟩
  · rintro ⟨K, hK, hno⟩
    obtain ⟨k, k1, k2, k3, k4⟩ := x_cover hI (F := fun t => q t ≠ 0) h2 (fun t f ht hqt hf ho hm => h3 t f ht hqt hf ho hm) hK
    refine ⟨k, k1, k2, k3, fun ⟨r, r1, r2, r3⟩ => ?_⟩
    have := (k4 (prU n O r) c (hI.1 r r1).1 hc).mp ⟨r, r1, r2, rfl, r3⟩
    exact hno _ (hI.1 r r1).1 this
