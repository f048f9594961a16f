/-! ===== rules 11, 13, 14: the walks ===== -/
theorem and_n0 {x y : Int32} : (x &&& (y ^^^ (-1))) = 0 ↔ ∀ i, bt x i = true → bt y i = true := by
  constructor
  · intro h i hi
    have h2 := congrArg (fun z => bt z i) h
    rcases Nat.lt_or_ge i 32 with g | g
    · rw [b_and, vb_not _ g, b_0, hi] at h2
      cases hy : bt y i
      · rw [hy] at h2; cases h2
      · rfl
    · rw [b_big g] at hi; cases hi
  · intro h
    apply b_ext
    intro i hi
    rw [b_and, vb_not _ hi, b_0]
    cases hx : bt x i
    · rfl
    · rw [h i hx]; rfl
theorem and_eq {x y : Int32} : (x &&& y) = y ↔ ∀ i, bt y i = true → bt x i = true := by
  constructor
  · intro h i hi
    have h2 := congrArg (fun z => bt z i) h
    rw [b_and, hi] at h2
    simpa using h2
  · intro h
    apply b_ext
    intro i hi
    rw [b_and]
    cases hy : bt y i
    · simp
    · rw [h i hy]; rfl
theorem or_31 {x y : Int32} (hx : ∀ i, 5 ≤ i → bt x i = false) (hy : ∀ i, 5 ≤ i → bt y i = false) : (x ||| y) = 31 ↔ ∀ i, i < 5 → bt x i = true ∨ bt y i = true := by
  constructor
  · intro h i hi
    have h2 := congrArg (fun z => bt z i) h
    rw [b_or, vb_31, decide_eq_true hi, Bool.or_eq_true] at h2
    exact h2
  · intro h
    apply b_ext
    intro i hi
    rw [b_or, vb_31]
    rcases Nat.lt_or_ge i 5 with g | g
    · rw [decide_eq_true g, Bool.or_eq_true]; exact h i g
    · rw [hx i g, hy i g, decide_eq_false (by omega)]; rfl
theorem set_hi {r : Int32} {W : Nat → Prop} (h : isSet r W) : ∀ i, 5 ≤ i → bt r i = false := by
  intro i hi
  cases hb : bt r i
  · rfl
  · have := ((h i).mp hb).1; omega
def W13 (n : Nat) (O : Nat → Nat) (a : Nat) : Prop := ∀ b, b < 5 → ¬ (bts n O b a ∧ ∀ d, d < 5 → bts n O a d → bts n O b d)
theorem cov_iff {n : Nat} {O : Nat → Nat} {a b : Nat} {ra rb : Int32} (ha : isSet ra (fun d => 0 < Mg n O a d)) (hb : isSet rb (fun d => 0 < Mg n O b d)) : (ra &&& (rb ^^^ (-1))) = 0 ↔ ∀ d, d < 5 → bts n O a d → bts n O b d := by
  rw [and_n0]
  constructor
  · intro h d hd hbd
    exact ((hb d).mp (h d ((ha d).mpr ⟨hd, hbd⟩))).2
  · intro h i hi
    have := (ha i).mp hi
    exact (hb i).mpr ⟨this.1, h i this.1 this.2⟩
theorem x_w13 {post : Int32 → Prop} {xc : Int32} {xo xr xp xm xb xs xq xn xu xl xg xk xt xw xv : Nat → Int32} {n : Nat} {O : Nat → Nat} (h : zRX n O (xc, xo, xr, xp, xm, xb, xs, xq, xn, xu, xl, xg, xk, xt, xw, xv)) (hp : ∀ w, isSet w (W13 n O) → post w) : wpX_uncoveredOnes post (xc, xo, xr, xp, xm, xb, xs, xq, xn, xu, xl, xg, xk, xt, xw, xv) := by
  have hbe : ∀ a, a < 5 → isSet (xb a) (fun b => 0 < Mg n O a b) := h.2.2
  unfold wpX_uncoveredOnes
  dsimp only
  refine pk_loop (σ := Int32) (fun m a w => wX_uncoveredOnes_5 post xc xo xr xp xm xb xs xq xn xu xl xg xk xt xw xv m w (nI a)) (fun a w => dl2 (fun a b => bts n O b a ∧ ∀ d, d < 5 → bts n O a d → bts n O b d) a 0 w) 5 0 31 (by omega) (dl_0 _) ?_ ?_
  · intro m w hw
    rw [wX_uncoveredOnes_5]
    exact br_t (by decide) (hp w (dl_end hw))
  · intro m a w ha hw hK
    rw [wX_uncoveredOnes_5]
    refine br_f (nI_ge (b := 5) ha (by decide)) ?_
    refine pk_loop (σ := Int32) (fun m' b w => wX_uncoveredOnes_12 post (wX_uncoveredOnes_5 post xc xo xr xp xm xb xs xq xn xu xl xg xk xt xw xv m) (nI a) xc xo xr xp xm xb xs xq xn xu xl xg xk xt xw xv m' w (nI b)) (fun b w => dl2 (fun a b => bts n O b a ∧ ∀ d, d < 5 → bts n O a d → bts n O b d) a b w) 5 0 w (by omega) hw ?_ ?_
    · intro m' w' hw'
      rw [wX_uncoveredOnes_12]
      exact br_t (by decide) (nm_r (nI_1 a) (hK w' (dl_row hw')))
    · intro m' b w' hb hw' hK'
      rw [wX_uncoveredOnes_12]
      refine br_f (nI_ge (b := 5) hb (by decide)) ⟨vp_in_nI hb (by decide), ?_⟩
      rw [nI_clamp (n := a) (by omega), nI_clamp (n := b) (by omega)]
      have hc := cov_iff (hbe a ha) (hbe b hb)
      refine x_has (by omega) (fun e => br_f (by decide) ⟨vp_in_nI ha (by decide), vp_in_nI hb (by decide), br_c (fun z => nm_e (nm_r (nI_1 b) (hK' _ (dl_yes ha hb hw' ⟨((hbe b hb a).mp e).2, hc.mp z⟩)))) (fun z => nm_r (nI_1 b) (hK' w' (dl_no hw' (fun q => z (hc.mpr q.2)))))⟩) (fun e => br_t rfl (nm_r (nI_1 b) (hK' w' (dl_no hw' (fun q => ?_)))))
      rw [(hbe b hb a).mpr ⟨ha, q.1⟩] at e; cases e
theorem y_w13 {post : Int32 → Prop} {yn yc : Int32} {yo yp ym ys yl yb yw yk yt yz yx : Nat → Int32} {n : Nat} {O : Nat → Nat} (h : zRYM n O (yn, yc, yo, yp, ym, ys, yl, yb, yw, yk, yt, yz, yx)) (hp : ∀ w, isSet w (W13 n O) → post w) : wpY_uncovered post (yn, yc, yo, yp, ym, ys, yl, yb, yw, yk, yt, yz, yx) := by
  unfold wpY_uncovered
  dsimp only
  refine pk_loop (σ := Int32) (fun m a w => wY_uncovered_5 post yn yc yo yp ym ys yl yb yw yk yt yz yx m w (nI a)) (fun a w => dl2 (fun a b => bts n O b a ∧ ∀ d, d < 5 → bts n O a d → bts n O b d) a 0 w) 5 0 31 (by omega) (dl_0 _) ?_ ?_
  · intro m w hw
    rw [wY_uncovered_5]
    exact br_t (by decide) (hp w (dl_end hw))
  · intro m a w ha hw hK
    rw [wY_uncovered_5]
    refine br_f (nI_ge (b := 5) ha (by decide)) ?_
    refine pk_loop (σ := Int32) (fun m' b w => wY_uncovered_12 post (wY_uncovered_5 post yn yc yo yp ym ys yl yb yw yk yt yz yx m) (nI a) yn yc yo yp ym ys yl yb yw yk yt yz yx m' w (nI b)) (fun b w => dl2 (fun a b => bts n O b a ∧ ∀ d, d < 5 → bts n O a d → bts n O b d) a b w) 5 0 w (by omega) hw ?_ ?_
    · intro m' w' hw'
      rw [wY_uncovered_12]
      exact br_t (by decide) (nm_r (nI_1 a) (hK w' (dl_row hw')))
    · intro m' b w' hb hw' hK'
      rw [wY_uncovered_12]
      refine br_f (nI_ge (b := 5) hb (by decide)) (y_be h hb ha (fun e => br_f (by decide) (y_bb h ha (fun ra hra => y_bb h hb (fun rb hrb => ?_)))) (fun e => br_t rfl (nm_r (nI_1 b) (hK' w' (dl_no hw' (fun q => ?_))))))
      · have hc := cov_iff hra hrb
        exact br_c (fun z => nm_e (nm_r (nI_1 b) (hK' _ (dl_yes ha hb hw' ⟨e, hc.mp z⟩)))) (fun z => nm_r (nI_1 b) (hK' w' (dl_no hw' (fun q => z (hc.mpr q.2)))))
      · have : 0 < Mg n O b a := q.1
        omega
theorem dom_iff {n : Nat} {O : Nat → Nat} {s a : Nat} (hs : s < 32) {r : Int32} (h : isSet r (fun b => 0 < Mg n O a b)) : (nI s ||| r) = 31 ↔ ∀ b, b < 5 → s.testBit b = true ∨ bts n O a b := by
  rw [or_31 (nI_hi hs) (set_hi h)]
  constructor
  · intro g b hb
    rcases g b hb with z | z
    · exact Or.inl (by rw [vb_nIs (by omega)] at z; exact z)
    · exact Or.inr ((h b).mp z).2
  · intro g b hb
    rcases g b hb with z | z
    · exact Or.inl (by rw [vb_nIs (by omega)]; exact z)
    · exact Or.inr ((h b).mpr ⟨hb, z⟩)
theorem x_dom {post : Int32 → Prop} {xc : Int32} {xo xr xp xm xb xs xq xn xu xl xg xk xt xw xv : Nat → Int32} {n : Nat} {O : Nat → Nat} (h : zRX n O (xc, xo, xr, xp, xm, xb, xs, xq, xn, xu, xl, xg, xk, xt, xw, xv)) {s : Nat} (hs : s < 32) (h1 : dom5 n O s → post 1) (h0 : ¬ dom5 n O s → post 0) : wpX_dominates post (xc, xo, xr, xp, xm, xb, xs, xq, xn, xu, xl, xg, xk, xt, xw, xv) (nI s) := by
  have hbe : ∀ a, a < 5 → isSet (xb a) (fun b => 0 < Mg n O a b) := h.2.2
  unfold wpX_dominates
  dsimp only
  refine pk_loop (σ := Unit) (fun m a _ => wX_dominates_2 post (nI s) xc xo xr xp xm xb xs xq xn xu xl xg xk xt xw xv m (nI a)) (fun a _ => ∀ a', a' < a → s.testBit a' = true → ∀ b, b < 5 → s.testBit b = true ∨ bts n O a' b) 5 0 () (by omega) (fun a' ha' => by omega) ?_ ?_
  · intro m _ hw
    rw [wX_dominates_2]
    exact br_t (by decide) (h1 hw)
  · intro m a _ ha hw hK
    rw [wX_dominates_2]
    have hd := dom_iff (n := n) (O := O) hs (hbe a ha)
    have ext : (s.testBit a = true → ∀ b, b < 5 → s.testBit b = true ∨ bts n O a b) → ∀ a', a' < a + 1 → s.testBit a' = true → ∀ b, b < 5 → s.testBit b = true ∨ bts n O a' b := by
      intro g a' ha' hb
      by_cases e : a' = a
      · subst e; exact g hb
      · exact hw a' (by omega) hb
    refine br_f (nI_ge (b := 5) ha (by decide)) (x_has (by omega) (fun e => br_f (by decide) ⟨vp_in_nI ha (by decide), ?_⟩) (fun e => br_t rfl (nm_r (nI_1 a) (hK () (ext fun z => ?_)))))
    · rw [nI_clamp (by omega)]
      rw [vb_nIs (by omega)] at e
      exact br_c (fun z => nm_r (nI_1 a) (hK () (ext fun _ => hd.mp z))) (fun z => h0 (fun g => z (hd.mpr (g a ha e))))
    · rw [vb_nIs (by omega), z] at e; cases e
theorem x_w11 {post : Int32 → Prop} {xc : Int32} {xo xr xp xm xb xs xq xn xu xl xg xk xt xw xv : Nat → Int32} {n : Nat} {O : Nat → Nat} (h : zRX n O (xc, xo, xr, xp, xm, xb, xs, xq, xn, xu, xl, xg, xk, xt, xw, xv)) (hp : ∀ w, isDom n O w → post (nI w)) : wpX_smallestDominatingSet post (xc, xo, xr, xp, xm, xb, xs, xq, xn, xu, xl, xg, xk, xt, xw, xv) := by
  unfold wpX_smallestDominatingSet
  dsimp only
  refine pk_loop (σ := Unit) (fun m s _ => wX_smallestDominatingSet_2 post xc xo xr xp xm xb xs xq xn xu xl xg xk xt xw xv m (nI s)) (fun s _ => 0 < s ∧ ∀ t, 0 < t → t < s → ¬ dom5 n O t) 31 1 () (by omega) ⟨by omega, fun t a b => by omega⟩ ?_ ?_
  · rintro m _ ⟨_, hw⟩
    rw [wX_smallestDominatingSet_2]
    exact br_t (by decide) (hp 31 (dom_first (by omega) (by omega) (dom_31 n O) hw))
  · rintro m s _ hs ⟨h0, hw⟩ hK
    rw [wX_smallestDominatingSet_2]
    refine br_f (nI_ge (b := 31) hs (by decide)) (x_dom h (by omega) (fun e => br_f (by decide) (hp s (dom_first h0 (by omega) e hw))) (fun e => br_t rfl (nm_r (nI_1 s) (hK () ⟨by omega, fun t a b => ?_⟩))))
    by_cases et : t = s
    · subst et; exact e
    · exact hw t a (by omega)
theorem pcn_s : ∀ s, s < 32 → pcn s = (if s.testBit 0 then 1 else 0) + (if s.testBit 1 then 1 else 0) + (if s.testBit 2 then 1 else 0) + (if s.testBit 3 then 1 else 0) + (if s.testBit 4 then 1 else 0) := by decide +kernel
/-- how many of the first a candidates are in s -/
def pca (s : Nat) : Nat → Nat
  | 0 => 0
  | a + 1 => pca s a + (if s.testBit a then 1 else 0)
theorem pca_5 {s : Nat} (hs : s < 32) : pca s 5 = pcn s := by
  rw [pcn_s s hs]; simp [pca]
theorem pca_le (s : Nat) : ∀ a, pca s a ≤ a := by
  intro a
  induction a with
  | zero => exact Nat.le_refl _
  | succ a ih => unfold pca; split <;> omega
theorem y_w11 {post : Int32 → Prop} {yn yc : Int32} {yo yp ym ys yl yb yw yk yt yz yx : Nat → Int32} {n : Nat} {O : Nat → Nat} (h : zRYM n O (yn, yc, yo, yp, ym, ys, yl, yb, yw, yk, yt, yz, yx)) (hp : ∀ w, isDom n O w → post (nI w)) : wpY_smallest post (yn, yc, yo, yp, ym, ys, yl, yb, yw, yk, yt, yz, yx) := by
  unfold wpY_smallest
  dsimp only
  refine pk_loop (σ := Int32 × Int32) (fun m s x => wY_smallest_7 post yn yc yo yp ym ys yl yb yw yk yt yz yx m x.1 x.2 (nI s)) (fun s x => 0 < s ∧ ∃ w, x.1 = nI w ∧ x.2 = nI (pcn w) ∧ 0 < w ∧ w < 32 ∧ dom5 n O w ∧ ∀ t, 0 < t → t < s → dom5 n O t → pcn w ≤ pcn t) 32 1 (31, 5) (by omega) ⟨by omega, 31, rfl, rfl, by omega, by omega, dom_31 n O, fun t a b => by omega⟩ ?_ ?_
  · rintro m ⟨x1, x2⟩ ⟨_, w, e1, e2, w0, w1, wd, hw⟩
    dsimp only at e1 e2 ⊢
    subst e1
    rw [wY_smallest_7]
    exact br_t (by decide) (hp w (dom_small w0 w1 wd (fun t a b => hw t a b)))
  · rintro m s ⟨x1, x2⟩ hs ⟨s0, w, e1, e2, w0, w1, wd, hw⟩ hK
    dsimp only at e1 e2 hK ⊢
    subst e1 e2
    rw [wY_smallest_7]
    refine br_f (nI_ge (b := 32) hs (by decide)) ?_
    refine pk_loop (σ := Int32 × Int32) (fun m' a x => wY_smallest_22 post (wY_smallest_7 post yn yc yo yp ym ys yl yb yw yk yt yz yx m) (nI w) (nI (pcn w)) (nI s) yn yc yo yp ym ys yl yb yw yk yt yz yx m' x.1 x.2 (nI a)) (fun a x => x.1 = nI (pca s a) ∧ ((x.2 = 1 ∧ ∀ a', a' < a → s.testBit a' = true → ∀ b, b < 5 → s.testBit b = true ∨ bts n O a' b) ∨ (x.2 = 0 ∧ ¬ dom5 n O s))) 5 0 (0, 1) (by omega) ⟨rfl, Or.inl ⟨rfl, fun a' ha' => by omega⟩⟩ ?_ ?_
    · rintro m' ⟨x4, x5⟩ ⟨e4, h5⟩
      dsimp only at e4 h5 ⊢
      subst e4
      rw [wY_smallest_22]
      refine br_t (by decide) ?_
      have ext : (dom5 n O s → pcn w ≤ pcn s) → ∀ t, 0 < t → t < s + 1 → dom5 n O t → pcn w ≤ pcn t := by
        intro g t t0 t1 td
        by_cases e : t = s
        · subst e; exact g td
        · exact hw t t0 (by omega) td
      have p5 := pcn_5 w w1
      rw [pca_5 hs]
      have p6 := pcn_5 s hs
      rcases h5 with ⟨e5, hd⟩ | ⟨e5, hd⟩
      · subst e5
        refine br_f (by decide) (pk_le (pcn w) (pcn s) (fun hle => nm_r (nI_1 s) (hK (nI w, nI (pcn w)) ⟨by omega, w, rfl, rfl, w0, w1, wd, ext fun _ => hle⟩)) (fun hlt => nm_r (nI_1 s) (hK (nI s, nI (pcn s)) ⟨by omega, s, rfl, rfl, s0, hs, hd, fun t t0 t1 td => ?_⟩)))
        by_cases e : t = s
        · subst e; exact Nat.le_refl _
        · have := hw t t0 (by omega) td
          omega
      · subst e5
        exact br_t rfl (nm_r (nI_1 s) (hK (nI w, nI (pcn w)) ⟨by omega, w, rfl, rfl, w0, w1, wd, ext fun z => absurd z hd⟩))
    · rintro m' a ⟨x4, x5⟩ ha ⟨e4, h5⟩ hK'
      dsimp only at e4 h5 hK' ⊢
      subst e4
      rw [wY_smallest_22]
      refine br_f (nI_ge (b := 5) ha (by decide)) ?_
      cases hb : s.testBit a with
      | true =>
        have epc : nI (pca s a) + 1 = nI (pca s (a + 1)) := by rw [nI_1, pca, if_pos hb]
        refine br_t ((vb_has (by omega)).mpr (by rw [vb_nIs (by omega)]; exact hb)) (nm_r epc (y_bb h ha (fun r hr => ?_)))
        have hd := dom_iff (n := n) (O := O) hs hr
        rw [show (r ||| nI s) = (nI s ||| r) from by apply b_ext; intro i _; rw [b_or, b_or, Bool.or_comm]]
        refine br_c (fun z => nm_r (nI_1 a) (hK' (nI (pca s (a + 1)), x5) ⟨rfl, ?_⟩)) (fun z => nm_r (nI_1 a) (hK' (nI (pca s (a + 1)), 0) ⟨rfl, Or.inr ⟨rfl, fun g => z (hd.mpr (g a ha hb))⟩⟩))
        rcases h5 with ⟨e5, hd5⟩ | h5
        · refine Or.inl ⟨e5, fun a' ha' hb' => ?_⟩
          by_cases e : a' = a
          · subst e; exact hd.mp z
          · exact hd5 a' (by omega) hb'
        · exact Or.inr h5
      | false =>
        have epc : nI (pca s a) = nI (pca s (a + 1)) := by rw [pca, hb]; rfl
        refine br_f (fun hh => by rw [vb_has (by omega), vb_nIs (by omega), hb] at hh; cases hh) (nm_r (nI_1 a) (hK' (nI (pca s a), x5) ⟨epc, ?_⟩))
        rcases h5 with ⟨e5, hd5⟩ | h5
        · refine Or.inl ⟨e5, fun a' ha' hb' => ?_⟩
          by_cases e : a' = a
          · subst e; rw [hb] at hb'; cases hb'
          · exact hd5 a' (by omega) hb'
        · exact Or.inr h5
