/-! ===== winners, agree ===== -/
def isWin (n : Nat) (O : Nat → Nat) (r : Nat) (w : Int32) : Prop := (r ≤ 5 → isSet w (WS n O r)) ∧ (6 ≤ r → r ≤ 8 → isSet w (fun c => EL n O (r - 6) (2 ^ c))) ∧ (r = 9 → isSet w (W9 n O)) ∧ (r = 10 → isSet w (W10 n O)) ∧ (r = 11 → ∃ d, isDom n O d ∧ w = nI d) ∧ (r = 12 → isSet w (W12 n O)) ∧ (r = 13 → isSet w (W13 n O)) ∧ (r = 14 → isSet w (W14 n O 32)) ∧ (15 ≤ r → isSet w (WE n O r))
theorem isWin_u {n : Nat} {O : Nat → Nat} {r : Nat} {w w' : Int32} (hr : r ≤ 16) (h : isWin n O r w) (h' : isWin n O r w') : w = w' := by
  obtain ⟨a1, a2, a3, a4, a5, a6, a7, a8, a9⟩ := h
  obtain ⟨b1, b2, b3, b4, b5, b6, b7, b8, b9⟩ := h'
  by_cases h5 : r ≤ 5
  · exact vb_uniq (a1 h5) (b1 h5)
  by_cases h8 : r ≤ 8
  · exact vb_uniq (a2 (by omega) h8) (b2 (by omega) h8)
  by_cases h9 : r = 9
  · exact vb_uniq (a3 h9) (b3 h9)
  by_cases h10 : r = 10
  · exact vb_uniq (a4 h10) (b4 h10)
  by_cases h11 : r = 11
  · obtain ⟨d, hd, e⟩ := a5 h11
    obtain ⟨d', hd', e'⟩ := b5 h11
    rw [e, e', isDom_u hd hd']
  by_cases h12 : r = 12
  · exact vb_uniq (a6 h12) (b6 h12)
  by_cases h13 : r = 13
  · exact vb_uniq (a7 h13) (b7 h13)
  by_cases h14 : r = 14
  · exact vb_uniq (a8 h14) (b8 h14)
  · exact vb_uniq (a9 (by omega)) (b9 (by omega))
theorem x_ws {post : Int32 → SX → Prop} {u : SX} {n : Nat} {O : Nat → Nat} {V : Nat → Int32} (h : zRV n O V u) {r : Nat} (hr : r ≤ 16) (hp : ∀ w u', zRV n O V u' → isWin n O r w → post w u') : wpX_winnerSet post u (nI r) := by
  obtain ⟨xc, xo, xr, xp, xm, xb, xs, xq, xn, xu, xl, xg, xk, xt, xw, xv⟩ := u
  unfold wpX_winnerSet
  dsimp only
  refine pk_lt 5 r (fun h5 => ?_) (fun h5 => ?_)
  · refine pk_lt 8 r (fun h8 => ?_) (fun h8 => ?_)
    · refine pk_lt r 9 (fun q => by omega) (fun h9 => ?_)
      refine pk_lt 14 r (fun h14 => ?_) (fun h14 => ?_)
      · refine x_le h (by omega) (fun w u' hw hX => ?_)
        obtain ⟨xc', xo', xr', xp', xm', xb', xs', xq', xn', xu', xl', xg', xk', xt', xw', xv'⟩ := u'
        exact hp w _ hX ⟨fun q => by omega, fun _ q => by omega, fun q => by omega, fun q => by omega, fun q => by omega, fun q => by omega, fun q => by omega, fun q => by omega, fun _ => hw⟩
      · refine pk_eq r 9 (fun e => ?_) (fun e9 => ?_)
        · refine x_w9 h (fun w u' hw hX => ?_)
          obtain ⟨xc', xo', xr', xp', xm', xb', xs', xq', xn', xu', xl', xg', xk', xt', xw', xv'⟩ := u'
          exact hp w _ hX ⟨fun q => by omega, fun _ q => by omega, fun _ => hw, fun q => by omega, fun q => by omega, fun q => by omega, fun q => by omega, fun q => by omega, fun q => by omega⟩
        · refine pk_eq r 10 (fun e => ?_) (fun e10 => ?_)
          · refine x_w10 h (fun w u' hw hX => ?_)
            obtain ⟨xc', xo', xr', xp', xm', xb', xs', xq', xn', xu', xl', xg', xk', xt', xw', xv'⟩ := u'
            exact hp w _ hX ⟨fun q => by omega, fun _ q => by omega, fun q => by omega, fun _ => hw, fun q => by omega, fun q => by omega, fun q => by omega, fun q => by omega, fun q => by omega⟩
          · refine pk_eq r 11 (fun e => ?_) (fun e11 => ?_)
            · exact x_w11 h.1 (fun d hd => hp _ _ h ⟨fun q => by omega, fun _ q => by omega, fun q => by omega, fun q => by omega, fun _ => ⟨d, hd, rfl⟩, fun q => by omega, fun q => by omega, fun q => by omega, fun q => by omega⟩)
            · refine pk_eq r 12 (fun e => ?_) (fun e12 => ?_)
              · refine x_w12 h (fun w u' hw hX => ?_)
                obtain ⟨xc', xo', xr', xp', xm', xb', xs', xq', xn', xu', xl', xg', xk', xt', xw', xv'⟩ := u'
                exact hp w _ hX ⟨fun q => by omega, fun _ q => by omega, fun q => by omega, fun q => by omega, fun q => by omega, fun _ => hw, fun q => by omega, fun q => by omega, fun q => by omega⟩
              · refine pk_eq r 13 (fun e => ?_) (fun e13 => ?_)
                · exact x_w13 h.1 (fun w hw => hp _ _ h ⟨fun q => by omega, fun _ q => by omega, fun q => by omega, fun q => by omega, fun q => by omega, fun q => by omega, fun _ => hw, fun q => by omega, fun q => by omega⟩)
                · refine pk_eq r 14 (fun e => ?_) (fun e14 => by omega)
                  exact x_w14 h.1 (fun w hw => hp _ _ h ⟨fun q => by omega, fun _ q => by omega, fun q => by omega, fun q => by omega, fun q => by omega, fun q => by omega, fun q => by omega, fun _ => hw, fun q => by omega⟩)
    · rw [show nI r - 6 = nI (r - 6) from pk_sub (b := 6) (by omega)]
      refine x_ps h (by omega) (fun w u' hw hX => ?_)
      obtain ⟨xc', xo', xr', xp', xm', xb', xs', xq', xn', xu', xl', xg', xk', xt', xw', xv'⟩ := u'
      exact hp w _ hX ⟨fun q => by omega, fun _ _ => hw, fun q => by omega, fun q => by omega, fun q => by omega, fun q => by omega, fun q => by omega, fun q => by omega, fun q => by omega⟩
  · exact x_gs h.1 h5 (fun w hw => hp _ _ h ⟨fun _ => hw, fun q => by omega, fun q => by omega, fun q => by omega, fun q => by omega, fun q => by omega, fun q => by omega, fun q => by omega, fun q => by omega⟩)
theorem y_ws {post : Int32 → SY → Prop} {v : SY} {n : Nat} {O : Nat → Nat} (h : zRY n O v) {r : Nat} (hr : r ≤ 16) (hp : ∀ w v', zRY n O v' → isWin n O r w → post w v') : wpY_winners post v (nI r) := by
  obtain ⟨yn, yc, yo, yp, ym, ys, yl, yb, yw, yk, yt, yz, yx⟩ := v
  unfold wpY_winners
  dsimp only
  refine y_in 0 16 rfl (by decide) (fun hh => absurd rfl (hh r (by omega) hr)) (fun _ _ _ _ => br_f (by decide) (y_ct h (fun m' hM => ?_)))
  refine pk_lt 5 r (fun h5 => ?_) (fun h5 => ?_)
  · refine pk_lt 8 r (fun h8 => ?_) (fun h8 => ?_)
    · refine pk_eq r 9 (fun e => ?_) (fun e9 => ?_)
      · refine y_w9 hM (fun w u' hw hX => ?_)
        obtain ⟨yn', yc', yo', yp', ym', ys', yl', yb', yw', yk', yt', yz', yx'⟩ := u'
        exact hp w _ hX ⟨fun q => by omega, fun _ q => by omega, fun _ => hw, fun q => by omega, fun q => by omega, fun q => by omega, fun q => by omega, fun q => by omega, fun q => by omega⟩
      · refine pk_eq r 10 (fun e => ?_) (fun e10 => ?_)
        · refine y_w10 hM (fun w u' hw hX => ?_)
          obtain ⟨yn', yc', yo', yp', ym', ys', yl', yb', yw', yk', yt', yz', yx'⟩ := u'
          exact hp w _ hX ⟨fun q => by omega, fun _ q => by omega, fun q => by omega, fun _ => hw, fun q => by omega, fun q => by omega, fun q => by omega, fun q => by omega, fun q => by omega⟩
        · refine pk_eq r 11 (fun e => ?_) (fun e11 => ?_)
          · exact y_w11 hM (fun d hd => hp _ _ hM.1 ⟨fun q => by omega, fun _ q => by omega, fun q => by omega, fun q => by omega, fun _ => ⟨d, hd, rfl⟩, fun q => by omega, fun q => by omega, fun q => by omega, fun q => by omega⟩)
          · refine pk_eq r 12 (fun e => ?_) (fun e12 => ?_)
            · refine y_w12 hM (fun w u' hw hX => ?_)
              obtain ⟨yn', yc', yo', yp', ym', ys', yl', yb', yw', yk', yt', yz', yx'⟩ := u'
              exact hp w _ hX ⟨fun q => by omega, fun _ q => by omega, fun q => by omega, fun q => by omega, fun q => by omega, fun _ => hw, fun q => by omega, fun q => by omega, fun q => by omega⟩
            · refine pk_eq r 13 (fun e => ?_) (fun e13 => ?_)
              · exact y_w13 hM (fun w hw => hp _ _ hM.1 ⟨fun q => by omega, fun _ q => by omega, fun q => by omega, fun q => by omega, fun q => by omega, fun q => by omega, fun _ => hw, fun q => by omega, fun q => by omega⟩)
              · refine pk_eq r 14 (fun e => ?_) (fun e14 => ?_)
                · exact y_w14 hM (fun w hw => hp _ _ hM.1 ⟨fun q => by omega, fun _ q => by omega, fun q => by omega, fun q => by omega, fun q => by omega, fun q => by omega, fun q => by omega, fun _ => hw, fun q => by omega⟩)
                · have last : ∀ x1 : Int32, x1 = (if r = 15 then 1 else 0) → wY_winners_125 post x1 yn yc yo yp m' ys yl yb yw yk yt yz yx := by
                    intro x1 hx1
                    unfold wY_winners_125
                    refine y_le (r := r) hM.1 (by omega) hx1 (fun w u' hw hX => ?_)
                    obtain ⟨yn', yc', yo', yp', ym', ys', yl', yb', yw', yk', yt', yz', yx'⟩ := u'
                    exact hp w _ hX ⟨fun q => by omega, fun _ q => by omega, fun q => by omega, fun q => by omega, fun q => by omega, fun q => by omega, fun q => by omega, fun q => by omega, fun _ => hw⟩
                  exact pk_eq r 15 (fun e => last 1 (by rw [if_pos e])) (fun e => last 0 (by rw [if_neg e]))
    · rw [show nI r - 6 = nI (r - 6) from pk_sub (b := 6) (by omega)]
      refine y_el hM.1 (by omega) (fun w u' hw hX => ?_)
      obtain ⟨yn', yc', yo', yp', ym', ys', yl', yb', yw', yk', yt', yz', yx'⟩ := u'
      exact hp w _ hX ⟨fun q => by omega, fun _ _ => hw, fun q => by omega, fun q => by omega, fun q => by omega, fun q => by omega, fun q => by omega, fun q => by omega, fun q => by omega⟩
  · exact y_hi hM h5 (fun w hw => hp _ _ hM.1 ⟨fun _ => hw, fun q => by omega, fun q => by omega, fun q => by omega, fun q => by omega, fun q => by omega, fun q => by omega, fun q => by omega, fun q => by omega⟩)
theorem i_vc_winners {k : Nat} {u : SX} {v : SY} (I : i_Rel k u v) (hk : k + 3 ≤ 1536) (v1 : Int32) : wpX_winners (fun r u' => wpY_winners (fun r' v' => r' = r ∧ i_Rel (k + 3) u' v') v v1) u v1 := by
  have I0 := I
  obtain ⟨n, O, hX, hY⟩ := I
  obtain ⟨xc, xo, xr, xp, xm, xb, xs, xq, xn, xu, xl, xg, xk, xt, xw, xv⟩ := u
  unfold wpX_winners
  dsimp only
  refine x_rule (fun hno => br_t rfl ?_) (fun r hr e => br_f (by decide) ?_)
  · obtain ⟨yn, yc, yo, yp, ym, ys, yl, yb, yw, yk, yt, yz, yx⟩ := v
    unfold wpY_winners
    dsimp only
    exact y_in 0 16 rfl (by decide) (fun _ => br_t rfl ⟨rfl, I0⟩) (fun j _ hj e => absurd e (hno j hj))
  · subst e
    refine x_ws (V := xv) ⟨hX, rfl⟩ hr (fun w u' hX' hw => ?_)
    obtain ⟨xc', xo', xr', xp', xm', xb', xs', xq', xn', xu', xl', xg', xk', xt', xw', xv'⟩ := u'
    exact y_ws hY hr (fun w' v' hY' hw' => ⟨isWin_u hr hw' hw, n, O, hX'.1, hY'⟩)
theorem i_vc_agree {k : Nat} {u : SX} {v : SY} (I : i_Rel k u v) (hk : k + 3 ≤ 1536) (v1 : Int32) (v2 : Int32) : wpX_agree (fun r u' => wpY_agree (fun r' v' => r' = r ∧ i_Rel (k + 3) u' v') v v1 v2) u v1 v2 := by
  have I0 := I
  obtain ⟨n, O, hX, hY⟩ := I
  obtain ⟨xc, xo, xr, xp, xm, xb, xs, xq, xn, xu, xl, xg, xk, xt, xw, xv⟩ := u
  obtain ⟨yn, yc, yo, yp, ym, ys, yl, yb, yw, yk, yt, yz, yx⟩ := v
  unfold wpX_agree
  dsimp only
  refine x_rule (fun hno => br_t rfl ?_) (fun r hr e => br_f (by decide) ?_)
  · unfold wpY_agree
    dsimp only
    exact y_in 0 16 rfl (by decide) (fun _ => br_t rfl ⟨rfl, I0⟩) (fun j _ hj e => absurd e (hno j hj))
  · subst e
    refine x_rule (fun hno => br_t rfl ?_) (fun s hs e => br_f (by decide) ?_)
    · unfold wpY_agree
      dsimp only
      refine y_in 0 16 rfl (by decide) (fun hh => absurd rfl (hh r (by omega) hr)) (fun _ _ _ _ => br_f (by decide) ?_)
      exact y_in 0 16 rfl (by decide) (fun _ => br_t rfl ⟨rfl, I0⟩) (fun j _ hj e => absurd e (hno j hj))
    · subst e
      refine x_ws (V := xv) ⟨hX, rfl⟩ hr (fun w1 u1 hX1 hw1 => ?_)
      obtain ⟨xc', xo', xr', xp', xm', xb', xs', xq', xn', xu', xl', xg', xk', xt', xw', xv'⟩ := u1
      refine x_ws hX1 hs (fun w2 u2 hX2 hw2 => ?_)
      obtain ⟨xc'', xo'', xr'', xp'', xm'', xb'', xs'', xq'', xn'', xu'', xl'', xg'', xk'', xt'', xw'', xv''⟩ := u2
      have yy : ∀ z : Int32, (w1 = w2 → z = 1) → (¬ w1 = w2 → z = 0) → wpY_agree (fun r' v' => r' = z ∧ i_Rel (k + 3) (xc'', xo'', xr'', xp'', xm'', xb'', xs'', xq'', xn'', xu'', xl'', xg'', xk'', xt'', xw'', xv'') v') (yn, yc, yo, yp, ym, ys, yl, yb, yw, yk, yt, yz, yx) (nI r) (nI s) := by
        intro z hz1 hz0
        unfold wpY_agree
        dsimp only
        refine y_in 0 16 rfl (by decide) (fun hh => absurd rfl (hh r (by omega) hr)) (fun _ _ _ _ => br_f (by decide) ?_)
        refine y_in 0 16 rfl (by decide) (fun hh => absurd rfl (hh s (by omega) hs)) (fun _ _ _ _ => br_f (by decide) ?_)
        refine y_ws hY hr (fun y1 v1 hY1 hv1 => ?_)
        obtain ⟨yn', yc', yo', yp', ym', ys', yl', yb', yw', yk', yt', yz', yx'⟩ := v1
        refine y_ws hY1 hs (fun y2 v2 hY2 hv2 => ?_)
        obtain ⟨yn'', yc'', yo'', yp'', ym'', ys'', yl'', yb'', yw'', yk'', yt'', yz'', yx''⟩ := v2
        have e1 := isWin_u hr hv1 hw1
        have e2 := isWin_u hs hv2 hw2
        subst e1 e2
        exact br_c (fun e => ⟨(hz1 e).symm, n, O, hX2.1, hY2⟩) (fun e => ⟨(hz0 e).symm, n, O, hX2.1, hY2⟩)
      exact br_c (fun e => yy 1 (fun _ => rfl) (fun z => absurd e z)) (fun e => yy 0 (fun z => absurd z e) (fun _ => rfl))
