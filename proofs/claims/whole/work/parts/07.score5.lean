/-! ===== victories, smallest margin, majority depth; score; the highest scores ===== -/
def Wn (n : Nat) (O : Nat → Nat) (c : Nat) : Int := sm 5 (fun d => if d = c then 0 else if 0 < Mg n O c d then 2 else if Mg n O c d = 0 then 1 else 0)
theorem x_vic {post : Int32 → Prop} {xc : Int32} {xo xr xp xm xb xs xq xn xu xl xg xk xt xw xv : Nat → Int32} {n : Nat} {O : Nat → Nat} (h : zRX n O (xc, xo, xr, xp, xm, xb, xs, xq, xn, xu, xl, xg, xk, xt, xw, xv)) {c : Nat} (hc : c < 5) (hp : post (iI (Wn n O c))) : wpX_victoryScore post (xc, xo, xr, xp, xm, xb, xs, xq, xn, xu, xl, xg, xk, xt, xw, xv) (nI c) := by
  unfold wpX_victoryScore
  dsimp only
  refine vl_sum (fun m x2 x3 => wX_victoryScore_4 post (nI c) xc xo xr xp xm xb xs xq xn xu xl xg xk xt xw xv m x2 x3) post 5 (fun d => if d = c then 0 else if 0 < Mg n O c d then 2 else if Mg n O c d = 0 then 1 else 0) ?_ ?_ hp
  · intro m x hx
    rw [wX_victoryScore_4]
    exact br_t (by decide) hx
  · intro m d z hd hW
    rw [wX_victoryScore_4]
    have hb1 := h.2.2 c hc d
    have hb2 := h.2.2 d hd c
    dsimp only at hb1 hb2
    have ha := Mg_anti n O c d
    refine br_f (nI_ge (b := 5) hd (by decide)) ⟨vp_in_nI hc (by decide), ?_⟩
    rw [nI_clamp (n := c) (by omega), nI_clamp (n := d) (by omega)]
    refine x_has (by omega) (fun e => br_f (by decide) ?_) (fun e => br_t rfl ?_)
    · have := (hb1.mp e).2
      have hne : d ≠ c := by rintro rfl; rw [Mg_self] at this; omega
      rw [if_neg hne, if_pos this] at hW
      exact nm_r (vs_2 z) (nm_r (nI_1 d) hW)
    · have hno : ¬ 0 < Mg n O c d := fun q => by rw [hb1.mpr ⟨hd, q⟩] at e; cases e
      refine pk_eq d c (fun e2 => ?_) (fun e2 => ⟨vp_in_nI hd (by decide), ?_⟩)
      · rw [if_pos e2, Int.add_zero] at hW
        exact nm_r (nI_1 d) hW
      · rw [if_neg e2, if_neg hno] at hW
        refine x_has (by omega) (fun e3 => br_f (by decide) ?_) (fun e3 => br_t rfl ?_)
        · have := (hb2.mp e3).2
          rw [if_neg (by omega), Int.add_zero] at hW
          exact nm_r (nI_1 d) hW
        · have hno2 : ¬ 0 < Mg n O d c := fun q => by rw [hb2.mpr ⟨hc, q⟩] at e3; cases e3
          rw [if_pos (by omega)] at hW
          exact nm_r (vs_1 z) (nm_r (nI_1 d) hW)
/-- the least margin of c over another among those below k, begun with z -/
def lmf (n : Nat) (O : Nat → Nat) (c : Nat) (z : Int) : Nat → Int
  | 0 => z
  | k + 1 => if k ≠ c ∧ Mg n O c k < lmf n O c z k then Mg n O c k else lmf n O c z k
theorem lmf_le (n : Nat) (O : Nat → Nat) (c : Nat) (z : Int) : ∀ k d, d < k → d ≠ c → lmf n O c z k ≤ Mg n O c d := by
  intro k
  induction k with
  | zero => intro d hd; omega
  | succ k ih =>
    intro d hd hne
    unfold lmf
    by_cases e : d = k
    · subst e
      split
      · exact Int.le_refl _
      · rename_i hh
        by_cases h2 : Mg n O c d < lmf n O c z d
        · exact absurd ⟨hne, h2⟩ hh
        · omega
    · have := ih d (by omega) hne
      split
      · rename_i hh; omega
      · exact this
theorem lmf_z (n : Nat) (O : Nat → Nat) (c : Nat) (z : Int) : ∀ k, lmf n O c z k ≤ z := by
  intro k
  induction k with
  | zero => exact Int.le_refl _
  | succ k ih => unfold lmf; split <;> omega
theorem lmf_9 (n : Nat) (O : Nat → Nat) (c : Nat) : ∀ k, (lmf n O c 100 k ≤ 9 → lmf n O c 9 k = lmf n O c 100 k) ∧ (9 ≤ lmf n O c 100 k → lmf n O c 9 k = 9) := by
  intro k
  induction k with
  | zero => exact ⟨fun h => by simp [lmf] at h, fun _ => rfl⟩
  | succ k ih =>
    obtain ⟨i1, i2⟩ := ih
    unfold lmf
    by_cases hk : k = c
    · simp only [hk, ne_eq, not_true_eq_false, false_and, if_false]
      rw [hk] at i1 i2
      exact ⟨i1, i2⟩
    · simp only [ne_eq, hk, not_false_eq_true, true_and]
      rcases Int.lt_or_le 9 (lmf n O c 100 k) with h9 | h9
      · have e := i2 (by omega)
        rw [e]
        split <;> split <;> constructor <;> intro <;> omega
      · have e := i1 h9
        rw [e]
        split <;> constructor <;> intro <;> omega
theorem lmf_eq {n : Nat} (hn : n ≤ 9) (O : Nat → Nat) {c : Nat} (hc : c < 5) : lmf n O c 100 5 = lmf n O c 9 5 := by
  refine ((lmf_9 n O c 5).1 ?_).symm
  by_cases h : c = 0
  · have h1 := lmf_le n O c 100 5 1 (by omega) (by omega)
    have := Mg_bd hn O c 1
    omega
  · have h1 := lmf_le n O c 100 5 0 (by omega) (by omega)
    have := Mg_bd hn O c 0
    omega
theorem lmf_bd {n : Nat} (hn : n ≤ 9) (O : Nat → Nat) (c : Nat) (z : Int) (hz : 9 ≤ z) : ∀ k, -9 ≤ lmf n O c z k := by
  intro k
  induction k with
  | zero => unfold lmf; omega
  | succ k ih =>
    have := Mg_bd hn O c k
    unfold lmf; split <;> omega
theorem x_smm {post : Int32 → Prop} {xc : Int32} {xo xr xp xm xb xs xq xn xu xl xg xk xt xw xv : Nat → Int32} {n : Nat} {O : Nat → Nat} (h : zRX n O (xc, xo, xr, xp, xm, xb, xs, xq, xn, xu, xl, xg, xk, xt, xw, xv)) {c : Nat} (hc : c < 5) (hp : post (iI (lmf n O c 9 5))) : wpX_smallestMargin post (xc, xo, xr, xp, xm, xb, xs, xq, xn, xu, xl, xg, xk, xt, xw, xv) (nI c) := by
  unfold wpX_smallestMargin
  dsimp only
  have hn := h.1.1
  refine pk_loop (σ := Int32) (fun m d x => wX_smallestMargin_5 post (nI c) xc xo xr xp xm xb xs xq xn xu xl xg xk xt xw xv m x (nI d)) (fun d x => x = iI (lmf n O c 9 d)) 5 0 9 (by omega) rfl ?_ ?_
  · rintro m x rfl
    rw [wX_smallestMargin_5]
    exact br_t (by decide) hp
  · rintro m d x hd rfl hK
    rw [wX_smallestMargin_5]
    have hm := h.2.1 c d hc hd
    dsimp only at hm
    have hb := Mg_bd hn O c d
    have hl := lmf_bd hn O c 9 (by omega) d
    have hz := lmf_z n O c 9 d
    refine br_f (nI_ge (b := 5) hd (by decide)) ⟨by rw [vn_5a]; exact vp_in_nI (by omega) (by decide), nm_r (e' := iI (Mg n O c d)) (by rw [vn_5a, nI_clamp (by omega), hm]) (pk_eq d c (fun e => ?_) (fun e => ?_))⟩
    · refine nm_r (nI_1 d) (hK _ ?_)
      rw [lmf, if_neg (by omega)]
    · refine vi_le (lmf n O c 9 d) (Mg n O c d) (fun hle => nm_r (nI_1 d) (hK _ ?_)) (fun hlt => nm_r (nI_1 d) (hK _ ?_))
      · rw [lmf, if_neg (by omega)]
      · rw [lmf, if_pos ⟨e, hlt⟩]
def wi (n : Nat) (O : Nat → Nat) (c k : Nat) : Int := sm n (fun i => if plc (O i) c < k then 1 else 0)
theorem wi_bd (n : Nat) (O : Nat → Nat) (c k : Nat) : 0 ≤ wi n O c k ∧ wi n O c k ≤ n := by
  have h1 := sm_lo (n := n) (k := 0) (f := fun i => if plc (O i) c < k then 1 else 0) (fun i _ => by split <;> omega)
  have h2 := sm_hi (n := n) (k := 1) (f := fun i => if plc (O i) c < k then 1 else 0) (fun i _ => by split <;> omega)
  unfold wi; omega
theorem x_wi {post : Int32 → Prop} {xc : Int32} {xo xr xp xm xb xs xq xn xu xl xg xk xt xw xv : Nat → Int32} {n : Nat} {O : Nat → Nat} (h : zRB n O (xc, xo, xr, xp, xm, xb, xs, xq, xn, xu, xl, xg, xk, xt, xw, xv)) {c k : Nat} (hc : c < 5) (hk : k ≤ 5) (hp : post (iI (wi n O c k))) : wpX_ballotsWithin post (xc, xo, xr, xp, xm, xb, xs, xq, xn, xu, xl, xg, xk, xt, xw, xv) (nI c) (nI k) := by
  obtain ⟨hn, h1, h2⟩ := h
  have h4 : ∀ i, i < n → ∀ c, c < 5 → xp (5 * i + c) = nI (plc (O i) c) := fun i hi => (h2 i hi).2.2.2
  dsimp only at h1
  subst h1
  unfold wpX_ballotsWithin
  dsimp only
  refine vl_sum (fun m x3 x4 => wX_ballotsWithin_5 post (nI c) (nI k) (nI n) xo xr xp xm xb xs xq xn xu xl xg xk xt xw xv m x3 x4) post n (fun i => if plc (O i) c < k then 1 else 0) ?_ ?_ hp
  · intro m x hx
    rw [wX_ballotsWithin_5]
    exact br_t (nI_le (Nat.le_refl n) (by omega)) hx
  · intro m i z hi hW
    rw [wX_ballotsWithin_5]
    have pa := (rc_all (h2 i hi).1 hc).2.2.1
    refine br_f (nI_ge hi (by omega)) ⟨by rw [vn_5a]; exact vp_in_nI (by omega) (by decide), ?_⟩
    rw [vn_5a, nI_clamp (by omega), h4 i hi c hc]
    refine pk_le _ _ (fun hle => nm_r (nI_1 i) ?_) (fun hlt => nm_r (vs_1 z) (nm_r (nI_1 i) ?_)) rfl rfl (by omega) (by omega)
    · rw [if_neg (by omega), Int.add_zero] at hW; exact hW
    · rw [if_pos hlt] at hW; exact hW
theorem y_wi {post : Int32 → Prop} {yn yc : Int32} {yo yp ym ys yl yb yw yk yt yz yx : Nat → Int32} {n : Nat} {O : Nat → Nat} (h : zRY n O (yn, yc, yo, yp, ym, ys, yl, yb, yw, yk, yt, yz, yx)) {c k : Nat} (hc : c < 5) (hk : k ≤ 5) (hp : post (iI (wi n O c k))) : wpY_within post (yn, yc, yo, yp, ym, ys, yl, yb, yw, yk, yt, yz, yx) (nI c) (nI k) := by
  obtain ⟨hn, h1, h2⟩ := h
  have h4 : ∀ i, i < n → ∀ c, c < 5 → yp (5 * i + c) = nI (plc (O i) c) := fun i hi => (h2 i hi).2.2
  dsimp only at h1
  subst h1
  unfold wpY_within
  dsimp only
  refine vl_sum (fun m x3 x4 => wY_within_5 post (nI c) (nI k) (nI n) yc yo yp ym ys yl yb yw yk yt yz yx m x3 x4) post n (fun i => if plc (O i) c < k then 1 else 0) ?_ ?_ hp
  · intro m x hx
    rw [wY_within_5]
    exact br_t (nI_le (Nat.le_refl n) (by omega)) hx
  · intro m i z hi hW
    rw [wY_within_5]
    have pa := (rc_all (h2 i hi).1 hc).2.2.1
    refine br_f (nI_ge hi (by omega)) ⟨by rw [vn_5b]; exact vp_in_nI (by omega) (by decide), ?_⟩
    rw [vn_5b, nI_clamp (by omega), h4 i hi c hc]
    refine pk_le _ _ (fun hle => nm_r (nI_1 i) ?_) (fun hlt => nm_r (vs_1 z) (nm_r (nI_1 i) ?_)) rfl rfl (by omega) (by omega)
    · rw [if_neg (by omega), Int.add_zero] at hW; exact hW
    · rw [if_pos hlt] at hW; exact hW
def mjb (n : Nat) (O : Nat → Nat) (k : Nat) : Prop := ∃ d, d < 5 ∧ (n : Int) < 2 * wi n O d k
/-- k is the depth: the first of 1 .. 4 with a majority, or 5 -/
def isD (n : Nat) (O : Nat → Nat) (k : Nat) : Prop := 1 ≤ k ∧ k ≤ 5 ∧ (k < 5 → mjb n O k) ∧ ∀ j, 1 ≤ j → j < k → ¬ mjb n O j
theorem isD_u {n : Nat} {O : Nat → Nat} {k k' : Nat} (h : isD n O k) (h' : isD n O k') : k = k' := by
  rcases Nat.lt_trichotomy k k' with g | g | g
  · exact absurd (h.2.2.1 (by have := h'.2.1; omega)) (h'.2.2.2 k h.1 g)
  · exact g
  · exact absurd (h'.2.2.1 (by have := h.2.1; omega)) (h.2.2.2 k' h'.1 g)
theorem x_maj {post : Int32 → Prop} {xc : Int32} {xo xr xp xm xb xs xq xn xu xl xg xk xt xw xv : Nat → Int32} {n : Nat} {O : Nat → Nat} (h : zRB n O (xc, xo, xr, xp, xm, xb, xs, xq, xn, xu, xl, xg, xk, xt, xw, xv)) {c : Nat} (hc : c < 5) (hp : ∀ k, isD n O k → post (iI (wi n O c k))) : wpX_majorityScore post (xc, xo, xr, xp, xm, xb, xs, xq, xn, xu, xl, xg, xk, xt, xw, xv) (nI c) := by
  have hn := h.1
  have h1 := h.2.1
  dsimp only at h1
  unfold wpX_majorityScore
  dsimp only
  refine pk_loop (σ := Int32 × Int32) (fun m k s => wX_majorityScore_7 post (nI c) xc xo xr xp xm xb xs xq xn xu xl xg xk xt xw xv m s.1 s.2 (nI k)) (fun k s => 1 ≤ k ∧ ((s.1 = 0 ∧ (∀ j, 1 ≤ j → j < k → ¬ mjb n O j) ∧ (1 < k → s.2 = iI (wi n O c (k - 1)))) ∨ (s.1 = 1 ∧ 1 < k ∧ s.2 = iI (wi n O c (k - 1)) ∧ mjb n O (k - 1) ∧ ∀ j, 1 ≤ j → j < k - 1 → ¬ mjb n O j))) 6 1 (0, 0) (by omega) ⟨by omega, Or.inl ⟨rfl, fun j a b => by omega, fun z => by omega⟩⟩ ?_ ?_
  · rintro m ⟨x2, x3⟩ ⟨_, hs⟩
    dsimp only at hs ⊢
    rw [wX_majorityScore_7]
    refine br_t (by decide) ?_
    rcases hs with ⟨_, a, b⟩ | ⟨_, _, b, d, a⟩
    · rw [b (by omega)]
      exact hp 5 ⟨by omega, by omega, fun z => by omega, fun j u v => a j u (by omega)⟩
    · rw [b]
      exact hp 5 ⟨by omega, by omega, fun z => by omega, fun j u v => a j u (by omega)⟩
  · rintro m k ⟨x2, x3⟩ hk ⟨hk1, hs⟩ hK
    dsimp only at hs hK ⊢
    rw [wX_majorityScore_7]
    refine br_f (nI_nlt (b := k) (a := 5) (by omega) (by omega)) ?_
    rcases hs with ⟨e, a, b⟩ | ⟨e, k1, b, d, a⟩
    · subst e
      refine br_t rfl (x_wi h hc (by omega) ?_)
      refine pk_loop (σ := Int32) (fun m' d x => wX_majorityScore_28 post (wX_majorityScore_7 post (nI c) xc xo xr xp xm xb xs xq xn xu xl xg xk xt xw xv m) (nI c) (iI (wi n O c k)) (nI k) xc xo xr xp xm xb xs xq xn xu xl xg xk xt xw xv m' x (nI d)) (fun d x => (x = 0 ∧ ∀ d', d' < d → ¬ (n : Int) < 2 * wi n O d' k) ∨ (x = 1 ∧ ∃ d', d' < d ∧ (n : Int) < 2 * wi n O d' k)) 5 0 0 (by omega) (Or.inl ⟨rfl, fun d' z => by omega⟩) ?_ ?_
      · rintro m' x hx
        rw [wX_majorityScore_28]
        refine br_t (by decide) (nm_r (nI_1 k) (hK (x, iI (wi n O c k)) ⟨by omega, ?_⟩))
        rcases hx with ⟨e, g⟩ | ⟨e, g⟩
        · refine Or.inl ⟨e, fun j u v => ?_, fun _ => rfl⟩
          by_cases ej : j = k
          · subst ej
            rintro ⟨d, hd, hm⟩
            exact g d hd hm
          · exact a j u (by omega)
        · exact Or.inr ⟨e, by omega, rfl, by obtain ⟨d, hd, hm⟩ := g; exact ⟨d, hd, hm⟩, fun j u v => a j u (by omega)⟩
      · rintro m' d x hd hx hK'
        rw [wX_majorityScore_28]
        have hw := wi_bd n O d k
        refine br_f (nI_ge (b := 5) hd (by decide)) ?_
        rcases hx with ⟨e, g⟩ | ⟨e, g⟩
        · subst e
          refine br_t rfl (x_wi h hd (by omega) ?_)
          refine vi_le (2 * wi n O d k) (n : Int) (fun hle => nm_r (nI_1 d) (hK' 0 (Or.inl ⟨rfl, fun d' z => ?_⟩))) (fun hlt => nm_r (nI_1 d) (hK' 1 (Or.inr ⟨rfl, d, by omega, hlt⟩))) (vs_mul 2 _) (by rw [h1, vs_iN])
          by_cases ed : d' = d
          · subst ed; omega
          · exact g d' (by omega)
        · subst e
          obtain ⟨d', u, v⟩ := g
          exact br_f (by decide) (nm_r (nI_1 d) (hK' 1 (Or.inr ⟨rfl, d', by omega, v⟩)))
    · subst e
      refine br_f (by decide) ?_
      rw [b]
      exact hp (k - 1) ⟨by omega, by omega, fun _ => d, a⟩
theorem y_dep {post : Int32 → Prop} {yn yc : Int32} {yo yp ym ys yl yb yw yk yt yz yx : Nat → Int32} {n : Nat} {O : Nat → Nat} (h : zRY n O (yn, yc, yo, yp, ym, ys, yl, yb, yw, yk, yt, yz, yx)) (hp : ∀ k, isD n O k → post (nI k)) : wpY_depth post (yn, yc, yo, yp, ym, ys, yl, yb, yw, yk, yt, yz, yx) := by
  have hn := h.1
  have h1 := h.2.1
  dsimp only at h1
  unfold wpY_depth
  dsimp only
  refine pk_loop (σ := Unit) (fun m k _ => wY_depth_2 post yn yc yo yp ym ys yl yb yw yk yt yz yx m (nI k)) (fun k _ => 1 ≤ k ∧ ∀ j, 1 ≤ j → j < k → ¬ mjb n O j) 5 1 () (by omega) ⟨by omega, fun j a b => by omega⟩ ?_ ?_
  · rintro m _ ⟨_, hs⟩
    rw [wY_depth_2]
    exact br_t (by decide) (hp 5 ⟨by omega, by omega, fun z => by omega, hs⟩)
  · rintro m k _ hk ⟨hk1, hs⟩ hK
    rw [wY_depth_2]
    refine br_f (nI_ge (b := 5) hk (by decide)) ?_
    refine pk_loop (σ := Unit) (fun m' d _ => wY_depth_9 post (wY_depth_2 post yn yc yo yp ym ys yl yb yw yk yt yz yx m) (nI k) yn yc yo yp ym ys yl yb yw yk yt yz yx m' (nI d)) (fun d _ => ∀ d', d' < d → ¬ (n : Int) < 2 * wi n O d' k) 5 0 () (by omega) (fun d' z => by omega) ?_ ?_
    · rintro m' _ hx
      rw [wY_depth_9]
      refine br_t (by decide) (nm_r (nI_1 k) (hK () ⟨by omega, fun j u v => ?_⟩))
      by_cases ej : j = k
      · subst ej
        rintro ⟨d, hd, hm⟩
        exact hx d hd hm
      · exact hs j u (by omega)
    · rintro m' d _ hd hx hK'
      rw [wY_depth_9]
      have hw := wi_bd n O d k
      refine br_f (nI_ge (b := 5) hd (by decide)) (y_wi h hd (by omega) ?_)
      refine vi_le (2 * wi n O d k) (n : Int) (fun hle => nm_r (nI_1 d) (hK' () (fun d' z => ?_))) (fun hlt => hp k ⟨hk1, by omega, fun _ => ⟨d, hd, hlt⟩, hs⟩) (vs_mul 2 _) (by rw [h1, vs_iN])
      by_cases ed : d' = d
      · subst ed; omega
      · exact hx d' (by omega)
/-- z is the score of c by rule r -/
def isSc (n : Nat) (O : Nat → Nat) (r c : Nat) (z : Int) : Prop := (r ≤ 2 → z = Vs r c 31 n O) ∧ (r = 3 → z = Wn n O c) ∧ (r = 4 → z = lmf n O c 9 5) ∧ (r = 5 → ∃ k, isD n O k ∧ z = wi n O c k)
theorem isSc_u {n : Nat} {O : Nat → Nat} {r c : Nat} {z z' : Int} (hr : r ≤ 5) (h : isSc n O r c z) (h' : isSc n O r c z') : z = z' := by
  by_cases h2 : r ≤ 2
  · rw [h.1 h2, h'.1 h2]
  · by_cases h3 : r = 3
    · rw [h.2.1 h3, h'.2.1 h3]
    · by_cases h4 : r = 4
      · rw [h.2.2.1 h4, h'.2.2.1 h4]
      · obtain ⟨k, a, b⟩ := h.2.2.2 (by omega)
        obtain ⟨k', a', b'⟩ := h'.2.2.2 (by omega)
        rw [b, b', isD_u a a']
theorem Wn_bd (n : Nat) (O : Nat → Nat) (c : Nat) : 0 ≤ Wn n O c ∧ Wn n O c ≤ 10 := by
  have h1 := sm_lo (n := 5) (k := 0) (f := fun d => if d = c then 0 else if 0 < Mg n O c d then 2 else if Mg n O c d = 0 then 1 else 0) (fun i _ => by split; omega; split; omega; split <;> omega)
  have h2 := sm_hi (n := 5) (k := 2) (f := fun d => if d = c then 0 else if 0 < Mg n O c d then 2 else if Mg n O c d = 0 then 1 else 0) (fun i _ => by split; omega; split; omega; split <;> omega)
  unfold Wn; omega
theorem isSc_bd {n : Nat} (hn : n ≤ 9) {O : Nat → Nat} {r c : Nat} {z : Int} (hr : r ≤ 5) (h : isSc n O r c z) : -9 ≤ z ∧ z ≤ 45 := by
  by_cases h2 : r ≤ 2
  · rw [h.1 h2]; exact Vs_bd hn r c 31 O
  · by_cases h3 : r = 3
    · rw [h.2.1 h3]; have := Wn_bd n O c; omega
    · by_cases h4 : r = 4
      · rw [h.2.2.1 h4]
        have := lmf_bd hn O c 9 (by omega) 5
        have := lmf_z n O c 9 5
        omega
      · obtain ⟨k, a, b⟩ := h.2.2.2 (by omega)
        rw [b]; have := wi_bd n O c k; omega
theorem b31_hi : ∀ j, 5 ≤ j → bt 31 j = false := by
  intro j hj; rw [vb_31, decide_eq_false (by omega)]
theorem x_so {post : Int32 → Prop} {xc : Int32} {xo xr xp xm xb xs xq xn xu xl xg xk xt xw xv : Nat → Int32} {n : Nat} {O : Nat → Nat} (h : zRX n O (xc, xo, xr, xp, xm, xb, xs, xq, xn, xu, xl, xg, xk, xt, xw, xv)) {r c : Nat} (hr : r ≤ 5) (hc : c < 5) (hp : ∀ z, isSc n O r c z → post (iI z)) : wpX_scoreOf post (xc, xo, xr, xp, xm, xb, xs, xq, xn, xu, xl, xg, xk, xt, xw, xv) (nI r) (nI c) := by
  unfold wpX_scoreOf
  dsimp only
  refine pk_lt r 3 (fun hlt => ?_) (fun hge => ?_)
  · exact x_sa h.1 (by omega) hc b31_hi (fun z hz _ _ => hp z ⟨fun _ => hz (by rw [vb_31]; simpa using hc), fun e => by omega, fun e => by omega, fun e => by omega⟩)
  · refine pk_lt 5 r (fun hlt => by omega) (fun _ => ?_)
    refine pk_eq r 3 (fun e => ?_) (fun e3 => ?_)
    · exact x_vic h hc (hp _ ⟨fun e => by omega, fun _ => rfl, fun e => by omega, fun e => by omega⟩)
    · refine pk_eq r 4 (fun e => ?_) (fun e4 => ?_)
      · exact x_smm h hc (hp _ ⟨fun e => by omega, fun e => by omega, fun _ => rfl, fun e => by omega⟩)
      · refine pk_eq r 5 (fun e => ?_) (fun e5 => by omega)
        exact x_maj h.1 hc (fun k hk => hp _ ⟨fun e => by omega, fun e => by omega, fun e => by omega, fun _ => ⟨k, hk, rfl⟩⟩)
theorem y_so {post : Int32 → Prop} {yn yc : Int32} {yo yp ym ys yl yb yw yk yt yz yx : Nat → Int32} {n : Nat} {O : Nat → Nat} (h : zRYM n O (yn, yc, yo, yp, ym, ys, yl, yb, yw, yk, yt, yz, yx)) {r c : Nat} (hr : r ≤ 5) (hc : c < 5) (hp : ∀ z, isSc n O r c z → post (iI z)) : wpY_scoreOf post (yn, yc, yo, yp, ym, ys, yl, yb, yw, yk, yt, yz, yx) (nI r) (nI c) := by
  have hn := h.1.1
  unfold wpY_scoreOf
  dsimp only
  refine pk_lt 2 r (fun hlt => ?_) (fun hge => ?_)
  · refine pk_eq r 5 (fun e => ?_) (fun e5 => ?_)
    · refine y_dep h.1 (fun k hk => ?_)
      exact y_wi h.1 hc hk.2.1 (hp _ ⟨fun e => by omega, fun e => by omega, fun e => by omega, fun _ => ⟨k, hk, rfl⟩⟩)
    · refine pk_loop (σ := Int32 × Int32) (fun m b s => wY_scoreOf_40 post (nI r) (nI c) yn yc yo yp ym ys yl yb yw yk yt yz yx m s.1 s.2 (nI b)) (fun b s => s = (iI (sm b (fun d => if d = c then 0 else if 0 < Mg n O c d then 2 else if Mg n O c d = 0 then 1 else 0)), iI (lmf n O c 100 b))) 5 0 (0, 100) (by omega) rfl ?_ ?_
      · rintro m s rfl
        rw [wY_scoreOf_40]
        refine br_t (by decide) (pk_eq r 3 (fun e => hp _ ⟨fun e => by omega, fun _ => rfl, fun e => by omega, fun e => by omega⟩) (fun e => hp _ ⟨fun e => by omega, fun e => by omega, fun _ => lmf_eq hn O hc, fun e => by omega⟩))
      · rintro m b s hb rfl hK
        rw [wY_scoreOf_40]
        have hm := h.2 c b hc hb
        dsimp only at hm hK ⊢
        have hbd := Mg_bd hn O c b
        have hl := lmf_bd hn O c 100 (by omega) b
        have hz := lmf_z n O c 100 b
        refine br_f (nI_ge (b := 5) hb (by decide)) ⟨by rw [vn_5b]; exact vp_in_nI (by omega) (by decide), nm_r (e' := iI (Mg n O c b)) (by rw [vn_5b, nI_clamp (by omega), hm]) ?_⟩
        have hK2 := hK _ rfl
        have tail : ∀ x3 : Int32, x3 = iI (sm (b + 1) (fun d => if d = c then 0 else if 0 < Mg n O c d then 2 else if Mg n O c d = 0 then 1 else 0)) → wY_scoreOf_87 post (wY_scoreOf_40 post (nI r) (nI c) yn yc yo yp ym ys yl yb yw yk yt yz yx m) (nI r) (nI c) x3 (iI (lmf n O c 100 b)) (nI b) (iI (Mg n O c b)) yn yc yo yp ym ys yl yb yw yk yt yz yx := by
          rintro x3 rfl
          unfold wY_scoreOf_87
          refine pk_eq b c (fun e => nm_r (nI_1 b) ?_) (fun e => vi_le (lmf n O c 100 b) (Mg n O c b) (fun hle => nm_r (nI_1 b) ?_) (fun hlt => nm_r (nI_1 b) ?_))
          · rw [lmf, if_neg (by omega)] at hK2; exact hK2
          · rw [lmf, if_neg (by omega)] at hK2; exact hK2
          · rw [lmf, if_pos ⟨e, hlt⟩] at hK2; exact hK2
        refine pk_eq b c (fun e => tail _ ?_) (fun e => vi_le (Mg n O c b) 0 (fun hle => vi_eq (Mg n O c b) 0 (fun e0 => ?_) (fun e0 => ?_)) (fun hlt => ?_))
        · simp only [sm]; rw [if_pos e, Int.add_zero]
        · unfold wY_scoreOf_85
          refine nm_e (tail _ ?_)
          simp only [sm]; rw [if_neg e, if_neg (by omega), if_pos e0]; exact vs_1 _
        · unfold wY_scoreOf_85
          refine nm_e (tail _ ?_)
          simp only [sm]; rw [if_neg e, if_neg (by omega), if_neg e0]; exact vs_add _ 0
        · unfold wY_scoreOf_85
          refine nm_e (tail _ ?_)
          simp only [sm]; rw [if_neg e, if_pos hlt]; exact vs_2 _
  · exact y_va h.1 (by omega) hc 31 (hp _ ⟨fun _ => rfl, fun e => by omega, fun e => by omega, fun e => by omega⟩)
theorem i_vc_score {k : Nat} {u : SX} {v : SY} (I : i_Rel k u v) (hk : k + 3 ≤ 1536) (v1 : Int32) (v2 : Int32) : wpX_score (fun r => wpY_score (fun r' v' => r' = r ∧ i_Rel (k + 3) u v') v v1 v2) u v1 v2 := by
  have I0 := I
  obtain ⟨n, O, hX, hY⟩ := I
  obtain ⟨xc, xo, xr, xp, xm, xb, xs, xq, xn, xu, xl, xg, xk, xt, xw, xv⟩ := u
  obtain ⟨yn, yc, yo, yp, ym, ys, yl, yb, yw, yk, yt, yz, yx⟩ := v
  unfold wpX_score
  dsimp only
  have bad : (∀ r, r ≤ 5 → v1 ≠ nI r) → wpY_score (fun r' v' => r' = -1000 ∧ i_Rel (k + 3) (xc, xo, xr, xp, xm, xb, xs, xq, xn, xu, xl, xg, xk, xt, xw, xv) v') (yn, yc, yo, yp, ym, ys, yl, yb, yw, yk, yt, yz, yx) v1 v2 := by
    intro hno
    unfold wpY_score
    dsimp only
    exact y_in 0 5 rfl (by decide) (fun _ => br_t rfl ⟨rfl, I0⟩) (fun j _ hj e => absurd e (hno j hj))
  by_cases hn : v1 < 0
  · refine br_t hn (bad fun r hr e => ?_)
    subst e
    exact nI_pos (by omega) hn
  · obtain ⟨r, hr, rfl⟩ := nI_of hn
    refine br_f hn (pk_lt 5 r (fun h5 => bad fun r' hr' e => ?_) (fun h5 => ?_) rfl rfl (by omega) hr)
    · rw [nI_eq hr (by omega)] at e; omega
    · refine x_cand (fun hno => br_t rfl ?_) (fun c hc e => br_f (by decide) ?_)
      · unfold wpY_score
        dsimp only
        refine y_in 0 5 rfl (by decide) (fun hh => absurd rfl (hh r (by omega) h5)) (fun _ _ _ _ => br_f (by decide) ?_)
        exact y_in 0 4 rfl (by decide) (fun _ => br_t rfl ⟨rfl, I0⟩) (fun j _ hj e => absurd e (hno j (by omega)))
      · subst e
        refine x_so hX h5 hc (fun z hz => ?_)
        unfold wpY_score
        dsimp only
        refine y_in 0 5 rfl (by decide) (fun hh => absurd rfl (hh r (by omega) h5)) (fun _ _ _ _ => br_f (by decide) ?_)
        refine y_in 0 4 rfl (by decide) (fun hh => absurd rfl (hh c (by omega) (by omega))) (fun _ _ _ _ => br_f (by decide) ?_)
        refine y_ct hY (fun m' hM => y_so hM h5 hc (fun z' hz' => ⟨?_, n, O, hX, hM.1⟩))
        rw [isSc_u h5 hz hz']
