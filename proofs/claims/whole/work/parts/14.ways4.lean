/-! ===== rules 9 and 12, strength ===== -/
theorem x_w9 {post : Int32 → SX → Prop} {u : SX} {n : Nat} {O : Nat → Nat} {V : Nat → Int32} (h : zRV n O V u) (hp : ∀ w u', isSet w (W9 n O) → zRV n O V u' → post w u') : wpX_strongestOnes post u := by
  obtain ⟨xc, xo, xr, xp, xm, xb, xs, xq, xn, xu, xl, xg, xk, xt, xw, xv⟩ := u
  unfold wpX_strongestOnes
  dsimp only
  refine x_fs h.1 (fun s' hs => ?_)
  have hr : zRV n O V (xc, xo, xr, xp, xm, xb, s', xq, xn, xu, xl, xg, xk, xt, xw, xv) := rv_any h
  obtain ⟨S, hA, hS⟩ := hs
  refine pk_loop (σ := Int32) (fun m a w => wX_strongestOnes_9 post xc xo xr xp xm xb s' xq xn xu xl xg xk xt xw xv m w (nI a)) (fun a w => dl2 (fun x y => S x y < S y x) a 0 w) 5 0 31 (by omega) (dl_0 _) ?_ ?_
  · intro m w hw
    rw [wX_strongestOnes_9]
    exact br_t (by decide) (hp w _ (vb_congr (dl_end hw) (fun i hi => w9_iff hS hi)) hr)
  · intro m a w ha hw hK
    rw [wX_strongestOnes_9]
    refine br_f (nI_ge (b := 5) ha (by decide)) ?_
    refine pk_loop (σ := Int32) (fun m' b w => wX_strongestOnes_16 post (wX_strongestOnes_9 post xc xo xr xp xm xb s' xq xn xu xl xg xk xt xw xv m) (nI a) xc xo xr xp xm xb s' xq xn xu xl xg xk xt xw xv m' w (nI b)) (fun b w => dl2 (fun x y => S x y < S y x) a b w) 5 0 w (by omega) hw ?_ ?_
    · intro m' w' hw'
      rw [wX_strongestOnes_16]
      exact br_t (by decide) (nm_r (nI_1 a) (hK w' (dl_row hw')))
    · intro m' b w' hb hw' hK'
      rw [wX_strongestOnes_16]
      have vab := hA a b ha hb
      have vba := hA b a hb ha
      have bab := hS a b ha hb
      have bba := hS b a hb ha
      refine br_f (nI_ge (b := 5) hb (by decide)) ⟨by rw [vn_5a]; exact vp_in_nI (by omega) (by decide), by rw [vn_5a]; exact vp_in_nI (by omega) (by decide), ?_⟩
      rw [vn_5a, vn_5a, nI_clamp (n := 5 * a + b) (by omega), nI_clamp (n := 5 * b + a) (by omega), vab, vba]
      exact vi_le (S b a) (S a b) (fun hle => nm_r (nI_1 b) (hK' w' (dl_no hw' (by omega)))) (fun hlt => nm_e (nm_r (nI_1 b) (hK' _ (dl_yes ha hb hw' hlt))))
theorem x_w12 {post : Int32 → SX → Prop} {u : SX} {n : Nat} {O : Nat → Nat} {V : Nat → Int32} (h : zRV n O V u) (hp : ∀ w u', isSet w (W12 n O) → zRV n O V u' → post w u') : wpX_onesWithAnsweredWays post u := by
  obtain ⟨xc, xo, xr, xp, xm, xb, xs, xq, xn, xu, xl, xg, xk, xt, xw, xv⟩ := u
  unfold wpX_onesWithAnsweredWays
  dsimp only
  refine x_fs h.1 (fun s' hs => ?_)
  have hr : zRV n O V (xc, xo, xr, xp, xm, xb, s', xq, xn, xu, xl, xg, xk, xt, xw, xv) := rv_any h
  obtain ⟨S, hA, hS⟩ := hs
  refine pk_loop (σ := Int32) (fun m a w => wX_onesWithAnsweredWays_9 post xc xo xr xp xm xb s' xq xn xu xl xg xk xt xw xv m w (nI a)) (fun a w => dl2 (fun x y => 0 < S y x ∧ S x y = 0) a 0 w) 5 0 31 (by omega) (dl_0 _) ?_ ?_
  · intro m w hw
    rw [wX_onesWithAnsweredWays_9]
    exact br_t (by decide) (hp w _ (vb_congr (dl_end hw) (fun i hi => w12_iff hS hi)) hr)
  · intro m a w ha hw hK
    rw [wX_onesWithAnsweredWays_9]
    refine br_f (nI_ge (b := 5) ha (by decide)) ?_
    refine pk_loop (σ := Int32) (fun m' b w => wX_onesWithAnsweredWays_16 post (wX_onesWithAnsweredWays_9 post xc xo xr xp xm xb s' xq xn xu xl xg xk xt xw xv m) (nI a) xc xo xr xp xm xb s' xq xn xu xl xg xk xt xw xv m' w (nI b)) (fun b w => dl2 (fun x y => 0 < S y x ∧ S x y = 0) a b w) 5 0 w (by omega) hw ?_ ?_
    · intro m' w' hw'
      rw [wX_onesWithAnsweredWays_16]
      exact br_t (by decide) (nm_r (nI_1 a) (hK w' (dl_row hw')))
    · intro m' b w' hb hw' hK'
      rw [wX_onesWithAnsweredWays_16]
      have vab := hA a b ha hb
      have vba := hA b a hb ha
      have bab := hS a b ha hb
      have bba := hS b a hb ha
      refine br_f (nI_ge (b := 5) hb (by decide)) ⟨by rw [vn_5a]; exact vp_in_nI (by omega) (by decide), ?_⟩
      rw [vn_5a, vn_5a, nI_clamp (n := 5 * a + b) (by omega), nI_clamp (n := 5 * b + a) (by omega), vab, vba]
      refine vi_le (S b a) 0 (fun hle => nm_r (nI_1 b) (hK' w' (dl_no hw' (by omega)))) (fun hlt => ⟨vp_in_nI (by omega) (by decide), ?_⟩)
      exact vi_eq (S a b) 0 (fun e => nm_e (nm_r (nI_1 b) (hK' _ (dl_yes ha hb hw' ⟨hlt, e⟩)))) (fun e => nm_r (nI_1 b) (hK' w' (dl_no hw' (fun z => e z.2))))
theorem y_w9 {post : Int32 → SY → Prop} {u : SY} {n : Nat} {O : Nat → Nat} (h : zRYM n O u) (hp : ∀ w u', isSet w (W9 n O) → zRY n O u' → post w u') : wpY_strongest post u := by
  obtain ⟨yn, yc, yo, yp, ym, ys, yl, yb, yw, yk, yt, yz, yx⟩ := u
  unfold wpY_strongest
  dsimp only
  refine y_fs h (fun v' hM hs => ?_)
  have hr := hM.1
  obtain ⟨yn', yc', yo', yp', ym', ys', yl', yb', yw', yk', yt', yz', yx'⟩ := v'
  dsimp only at hs ⊢
  obtain ⟨S, hA, hS⟩ := hs
  refine pk_loop (σ := Int32) (fun m a w => wY_strongest_9 post yn' yc' yo' yp' ym' ys' yl' yb' yw' yk' yt' yz' yx' m w (nI a)) (fun a w => dl2 (fun x y => S x y < S y x) a 0 w) 5 0 31 (by omega) (dl_0 _) ?_ ?_
  · intro m w hw
    rw [wY_strongest_9]
    exact br_t (by decide) (hp w _ (vb_congr (dl_end hw) (fun i hi => w9_iff hS hi)) hr)
  · intro m a w ha hw hK
    rw [wY_strongest_9]
    refine br_f (nI_ge (b := 5) ha (by decide)) ?_
    refine pk_loop (σ := Int32) (fun m' b w => wY_strongest_16 post (wY_strongest_9 post yn' yc' yo' yp' ym' ys' yl' yb' yw' yk' yt' yz' yx' m) (nI a) yn' yc' yo' yp' ym' ys' yl' yb' yw' yk' yt' yz' yx' m' w (nI b)) (fun b w => dl2 (fun x y => S x y < S y x) a b w) 5 0 w (by omega) hw ?_ ?_
    · intro m' w' hw'
      rw [wY_strongest_16]
      exact br_t (by decide) (nm_r (nI_1 a) (hK w' (dl_row hw')))
    · intro m' b w' hb hw' hK'
      rw [wY_strongest_16]
      have vab := hA a b ha hb
      have vba := hA b a hb ha
      have bab := hS a b ha hb
      have bba := hS b a hb ha
      refine br_f (nI_ge (b := 5) hb (by decide)) ⟨by rw [vn_5b]; exact vp_in_nI (by omega) (by decide), by rw [vn_5b]; exact vp_in_nI (by omega) (by decide), ?_⟩
      rw [vn_5b, vn_5b, nI_clamp (n := 5 * a + b) (by omega), nI_clamp (n := 5 * b + a) (by omega), vab, vba]
      exact vi_le (S b a) (S a b) (fun hle => nm_r (nI_1 b) (hK' w' (dl_no hw' (by omega)))) (fun hlt => nm_e (nm_r (nI_1 b) (hK' _ (dl_yes ha hb hw' hlt))))
theorem y_w12 {post : Int32 → SY → Prop} {u : SY} {n : Nat} {O : Nat → Nat} (h : zRYM n O u) (hp : ∀ w u', isSet w (W12 n O) → zRY n O u' → post w u') : wpY_answering post u := by
  obtain ⟨yn, yc, yo, yp, ym, ys, yl, yb, yw, yk, yt, yz, yx⟩ := u
  unfold wpY_answering
  dsimp only
  refine y_fs h (fun v' hM hs => ?_)
  have hr := hM.1
  obtain ⟨yn', yc', yo', yp', ym', ys', yl', yb', yw', yk', yt', yz', yx'⟩ := v'
  dsimp only at hs ⊢
  obtain ⟨S, hA, hS⟩ := hs
  refine pk_loop (σ := Int32) (fun m a w => wY_answering_9 post yn' yc' yo' yp' ym' ys' yl' yb' yw' yk' yt' yz' yx' m w (nI a)) (fun a w => dl2 (fun x y => 0 < S y x ∧ S x y = 0) a 0 w) 5 0 31 (by omega) (dl_0 _) ?_ ?_
  · intro m w hw
    rw [wY_answering_9]
    exact br_t (by decide) (hp w _ (vb_congr (dl_end hw) (fun i hi => w12_iff hS hi)) hr)
  · intro m a w ha hw hK
    rw [wY_answering_9]
    refine br_f (nI_ge (b := 5) ha (by decide)) ?_
    refine pk_loop (σ := Int32) (fun m' b w => wY_answering_16 post (wY_answering_9 post yn' yc' yo' yp' ym' ys' yl' yb' yw' yk' yt' yz' yx' m) (nI a) yn' yc' yo' yp' ym' ys' yl' yb' yw' yk' yt' yz' yx' m' w (nI b)) (fun b w => dl2 (fun x y => 0 < S y x ∧ S x y = 0) a b w) 5 0 w (by omega) hw ?_ ?_
    · intro m' w' hw'
      rw [wY_answering_16]
      exact br_t (by decide) (nm_r (nI_1 a) (hK w' (dl_row hw')))
    · intro m' b w' hb hw' hK'
      rw [wY_answering_16]
      have vab := hA a b ha hb
      have vba := hA b a hb ha
      have bab := hS a b ha hb
      have bba := hS b a hb ha
      refine br_f (nI_ge (b := 5) hb (by decide)) ⟨by rw [vn_5b]; exact vp_in_nI (by omega) (by decide), ?_⟩
      rw [vn_5b, vn_5b, nI_clamp (n := 5 * a + b) (by omega), nI_clamp (n := 5 * b + a) (by omega), vab, vba]
      refine vi_le (S b a) 0 (fun hle => nm_r (nI_1 b) (hK' w' (dl_no hw' (by omega)))) (fun hlt => ⟨vp_in_nI (by omega) (by decide), ?_⟩)
      exact vi_eq (S a b) 0 (fun e => nm_e (nm_r (nI_1 b) (hK' _ (dl_yes ha hb hw' ⟨hlt, e⟩)))) (fun e => nm_r (nI_1 b) (hK' w' (dl_no hw' (fun z => e z.2))))
theorem i_vc_strength {k : Nat} {u : SX} {v : SY} (I : i_Rel k u v) (hk : k + 3 ≤ 1536) (v1 : Int32) (v2 : Int32) : wpX_strength (fun r u' => wpY_strength (fun r' v' => r' = r ∧ i_Rel (k + 3) u' v') v v1 v2) u v1 v2 := by
  have I0 := I
  obtain ⟨n, O, hX, hY⟩ := I
  obtain ⟨xc, xo, xr, xp, xm, xb, xs, xq, xn, xu, xl, xg, xk, xt, xw, xv⟩ := u
  obtain ⟨yn, yc, yo, yp, ym, ys, yl, yb, yw, yk, yt, yz, yx⟩ := v
  unfold wpX_strength
  dsimp only
  refine x_cand (fun hno => br_t rfl ?_) (fun a ha e => br_f (by decide) ?_)
  · unfold wpY_strength
    dsimp only
    exact y_in 0 4 rfl (by decide) (fun _ => br_t rfl ⟨rfl, I0⟩) (fun j _ hj e => absurd e (hno j (by omega)))
  · subst e
    refine x_cand (fun hno => br_t rfl ?_) (fun b hb e => br_f (by decide) ?_)
    · unfold wpY_strength
      dsimp only
      refine y_in 0 4 rfl (by decide) (fun hh => absurd rfl (hh a (by omega) (by omega))) (fun _ _ _ _ => br_f (by decide) ?_)
      exact y_in 0 4 rfl (by decide) (fun _ => br_t rfl ⟨rfl, I0⟩) (fun j _ hj e => absurd e (hno j (by omega)))
    · subst e
      refine pk_eq a b (fun e => ?_) (fun hne => ?_)
      · unfold wpY_strength
        dsimp only
        refine y_in 0 4 rfl (by decide) (fun hh => absurd rfl (hh a (by omega) (by omega))) (fun _ _ _ _ => br_f (by decide) ?_)
        refine y_in 0 4 rfl (by decide) (fun hh => absurd rfl (hh b (by omega) (by omega))) (fun _ _ _ _ => br_f (by decide) ?_)
        exact br_t (by rw [e]) ⟨rfl, I0⟩
      · refine x_fs hX (fun s' hs => ?_)
        have hr : zRX n O (xc, xo, xr, xp, xm, xb, s', xq, xn, xu, xl, xg, xk, xt, xw, xv) := hX
        obtain ⟨S, hA, hS⟩ := hs
        dsimp only
        rw [vn_5a, nI_clamp (by omega), hA a b ha hb]
        refine ⟨vp_in_nI (by omega) (by decide), ?_⟩
        unfold wpY_strength
        dsimp only
        refine y_in 0 4 rfl (by decide) (fun hh => absurd rfl (hh a (by omega) (by omega))) (fun _ _ _ _ => br_f (by decide) ?_)
        refine y_in 0 4 rfl (by decide) (fun hh => absurd rfl (hh b (by omega) (by omega))) (fun _ _ _ _ => br_f (by decide) ?_)
        refine br_f (fun z => hne ((nI_eq (by omega) (by omega)).mp z)) (y_ct hY (fun m' hM => y_fs hM (fun v' hM' hs' => ?_)))
        obtain ⟨yn', yc', yo', yp', ym', ys', yl', yb', yw', yk', yt', yz', yx'⟩ := v'
        obtain ⟨S', hA', hS'⟩ := hs'
        dsimp only at hA' ⊢
        rw [vn_5b, nI_clamp (by omega), hA' a b ha hb]
        refine ⟨vp_in_nI (by omega) (by decide), ?_, n, O, hr, hM'.1⟩
        rw [isStr_u ((hS a b ha hb).2.2 hne) ((hS' a b ha hb).2.2 hne)]
