/-! ===== gain ===== -/
theorem Mg_congr {n : Nat} {O O' : Nat → Nat} (h : ∀ j, j < n → O j = O' j) (a b : Nat) : Mg n O a b = Mg n O' a b := Mw_congr (fun _ _ => rfl) h
theorem rx_congr {n : Nat} {O O' : Nat → Nat} {u : SX} (h : zRX n O u) (e : ∀ j, j < n → O j = O' j) : zRX n O' u := by
  obtain ⟨⟨h1, h2, h3⟩, h4, h5⟩ := h
  refine ⟨⟨h1, h2, fun i hi => by rw [← e i hi]; exact h3 i hi⟩, fun a b ha hb => by rw [← Mg_congr e]; exact h4 a b ha hb, fun a ha => vb_congr (h5 a ha) (fun b _ => by rw [Mg_congr e])⟩
theorem ry_congr {n : Nat} {O O' : Nat → Nat} {v : SY} (h : zRY n O v) (e : ∀ j, j < n → O j = O' j) : zRY n O' v := by
  obtain ⟨h1, h2, h3⟩ := h
  exact ⟨h1, h2, fun i hi => by rw [← e i hi]; exact h3 i hi⟩
theorem upn2 (O : Nat → Nat) (i x o j : Nat) : upn (upn O i x) i o j = upn O i o j := by
  by_cases e : j = i
  · subst e; rw [upn_s, upn_s]
  · rw [upn_n _ e, upn_n _ e, upn_n _ e]
theorem upn_id (O : Nat → Nat) (i j : Nat) : upn O i (O i) j = O j := by
  by_cases e : j = i
  · subst e; rw [upn_s]
  · rw [upn_n _ e]
theorem x_rb {post : SX → Prop} {xc : Int32} {xo xr xp xm xb xs xq xn xu xl xg xk xt xw xv : Nat → Int32} {n : Nat} {O : Nat → Nat} {V : Nat → Int32} (h : zRV n O V (xc, xo, xr, xp, xm, xb, xs, xq, xn, xu, xl, xg, xk, xt, xw, xv)) {i o : Nat} (hi : i < n) (ho : isr o = true) (hp : ∀ u', zRV n (upn O i o) V u' → post u') : wpX_replaceBallot post (xc, xo, xr, xp, xm, xb, xs, xq, xn, xu, xl, xg, xk, xt, xw, xv) (nI i) (nI o) := by
  have hn := h.1.1.1
  have hc : xc = nI n := h.1.1.2.1
  have hV : xv = V := h.2
  unfold wpX_replaceBallot
  dsimp only
  refine ⟨vp_in_nI (by omega) (by decide), nm_r (e' := upd xo i (nI o)) (by rw [nI_clamp (by omega)]) (x_read (by omega) ho pk_us (fun r' p' g1 g2 => ?_))⟩
  have hRB : zRB n (upn O i o) (xc, (upd xo i (nI o)), r', p', xm, xb, xs, xq, xn, xu, xl, xg, xk, xt, xw, xv) := by
    refine ⟨hn, hc, fun j hj => ?_⟩
    by_cases e : j = i
    · subst e; rw [upn_s]; exact g1
    · rw [upn_n O e]
      have hb := h.1.1.2.2 j hj
      exact g2 j (O j) e ⟨hb.1, (pk_un e).trans hb.2.1, hb.2.2⟩
  exact x_cm hRB (fun m' b' hM => hp _ ⟨⟨hRB, hM⟩, hV⟩)
theorem y_wr {post : SY → Prop} {yn yc : Int32} {yo yp ym ys yl yb yw yk yt yz yx : Nat → Int32} {n : Nat} {O : Nat → Nat} (h : zRY n O (yn, yc, yo, yp, ym, ys, yl, yb, yw, yk, yt, yz, yx)) {i o : Nat} (hi : i < n) (ho : isr o = true) (hp : ∀ v', zRY n (upn O i o) v' → post v') : wpY_write post (yn, yc, yo, yp, ym, ys, yl, yb, yw, yk, yt, yz, yx) (nI i) (nI o) := by
  have hn := h.1
  refine y_write (by omega) ho (fun p' g1 g2 => hp _ ⟨hn, h.2.1, fun j hj => ?_⟩)
  by_cases e : j = i
  · subst e; rw [upn_s]; exact g1
  · rw [upn_n O e]; exact g2 j (O j) e (h.2.2 j hj)
/-- z is the best place of a member of w on the ballot o -/
def isBp (o : Nat) (w : Int32) (z : Nat) : Prop := z ≤ 5 ∧ (∀ c, c < 5 → bt w c = true → z ≤ plc o c) ∧ (z = 5 ∨ ∃ c, c < 5 ∧ bt w c = true ∧ z = plc o c)
theorem isBp_u {o : Nat} {w : Int32} {z z' : Nat} (h : isBp o w z) (h' : isBp o w z') : z = z' := by
  obtain ⟨a1, a2, a3⟩ := h
  obtain ⟨b1, b2, b3⟩ := h'
  rcases a3 with e | ⟨c, hc, hb, e⟩
  · rcases b3 with e' | ⟨c', hc', hb', e'⟩
    · omega
    · have := a2 c' hc' hb'
      have := plc_4 o c'
      omega
  · have h1 := b2 c hc hb
    rcases b3 with e' | ⟨c', hc', hb', e'⟩
    · have := plc_4 o c
      omega
    · have := a2 c' hc' hb'
      omega
theorem x_bp {post : Int32 → Prop} {xc : Int32} {xo xr xp xm xb xs xq xn xu xl xg xk xt xw xv : Nat → Int32} {o : Nat} (hv : ∀ c, c < 5 → xv c = nI (plc o c)) (w : Int32) (hp : ∀ z, isBp o w z → post (nI z)) : wpX_bestPlaceBefore post (xc, xo, xr, xp, xm, xb, xs, xq, xn, xu, xl, xg, xk, xt, xw, xv) w := by
  unfold wpX_bestPlaceBefore
  dsimp only
  refine pk_loop (σ := Int32) (fun m c x => wX_bestPlaceBefore_4 post w xc xo xr xp xm xb xs xq xn xu xl xg xk xt xw xv m x (nI c)) (fun c x => ∃ z, x = nI z ∧ z ≤ 5 ∧ (∀ d, d < c → bt w d = true → z ≤ plc o d) ∧ (z = 5 ∨ ∃ d, d < c ∧ bt w d = true ∧ z = plc o d)) 5 0 5 (by omega) ⟨5, rfl, by omega, fun d hd => by omega, Or.inl rfl⟩ ?_ ?_
  · rintro m x ⟨z, rfl, a, b, d⟩
    rw [wX_bestPlaceBefore_4]
    exact br_t (by decide) (hp z ⟨a, b, d⟩)
  · rintro m c x hc ⟨z, rfl, a, b, d⟩ hK
    rw [wX_bestPlaceBefore_4]
    have h4 := plc_4 o c
    have keep : (bt w c = true → z ≤ plc o c) → ∃ z', nI z = nI z' ∧ z' ≤ 5 ∧ (∀ d, d < c + 1 → bt w d = true → z' ≤ plc o d) ∧ (z' = 5 ∨ ∃ d, d < c + 1 ∧ bt w d = true ∧ z' = plc o d) := by
      intro g
      refine ⟨z, rfl, a, fun e he hb => ?_, ?_⟩
      · by_cases ee : e = c
        · subst ee; exact g hb
        · exact b e (by omega) hb
      · rcases d with d | ⟨e, e1, e2⟩
        · exact Or.inl d
        · exact Or.inr ⟨e, by omega, e2⟩
    refine br_f (nI_ge (b := 5) hc (by decide)) (x_has (by omega) (fun e => br_f (by decide) ⟨vp_in_nI hc (by decide), ?_⟩) (fun e => br_t rfl (nm_r (nI_1 c) (hK _ (keep (fun q => by rw [q] at e; cases e))))))
    rw [nI_clamp (by omega), hv c hc]
    refine pk_le z (plc o c) (fun hle => nm_r (nI_1 c) (hK _ (keep (fun _ => hle)))) (fun hlt => ⟨vp_in_nI hc (by decide), nm_e (nm_r (nI_1 c) (hK _ ⟨plc o c, rfl, by omega, fun e' he hb => ?_, Or.inr ⟨c, by omega, e, rfl⟩⟩))⟩)
    by_cases ee : e' = c
    · subst ee; exact Nat.le_refl _
    · have := b e' (by omega) hb
      omega
theorem y_bp {post : Int32 → Prop} {yn yc : Int32} {yo yp ym ys yl yb yw yk yt yz yx : Nat → Int32} {o : Nat} (ho : isr o = true) (w : Int32) (hp : ∀ z, isBp o w z → post (nI z)) : wpY_bestPlace post (yn, yc, yo, yp, ym, ys, yl, yb, yw, yk, yt, yz, yx) w (nI o) := by
  have hol := isr_lt ho
  unfold wpY_bestPlace
  dsimp only
  refine ⟨6, ?_⟩
  have key := pk_loopD (σ := Int32 × Int32) (fun m e s => wY_bestPlace_8 post w yn yc yo yp ym ys yl yb yw yk yt yz yx m s.1 s.2 (iI ((e : Int) - 1)))
    (fun e s => e ≤ 5 ∧ s.1 = nI (o / 5 ^ (5 - e)) ∧ ∃ z, s.2 = nI z ∧ z ≤ 5 ∧ (∀ q, e ≤ q → q < 5 → bt w (rkc o q) = true → z ≤ q) ∧ (z = 5 ∨ (e ≤ z ∧ z < 5 ∧ bt w (rkc o z) = true)))
    (by
      rintro m ⟨x3, x4⟩ ⟨_, _, z, e, a, b, d⟩
      dsimp only at e ⊢
      subst e
      rw [wY_bestPlace_8]
      refine br_t (by decide) (hp z ⟨a, fun c hc hb => ?_, ?_⟩)
      · have hr := rc_all ho hc
        exact b (plc o c) (by omega) hr.2.2.1 (by rw [hr.2.2.2]; exact hb)
      · rcases d with d | ⟨_, d1, d2⟩
        · exact Or.inl d
        · have hr := rc_all ho d1
          exact Or.inr ⟨rkc o z, hr.1, d2, hr.2.1.symm⟩)
    (by
      rintro m e ⟨x3, x4⟩ ⟨he, e3, z, e4, a, b, d⟩ hK
      dsimp only at e3 e4 hK ⊢
      subst e3 e4
      rw [ve_p, wY_bestPlace_8, show 5 - (e + 1) = 4 - e from by omega]
      have hr := rc_all ho (show e < 5 by omega)
      have hq1 : nI (o / 5 ^ (4 - e)) - nI (o / 5 ^ (4 - e)) / 5 * 5 = nI (rkc o e) := rc_rem (rc_dl o _ hol)
      have hq2 : nI (o / 5 ^ (4 - e)) / 5 = nI (o / 5 ^ (5 - e)) := by
        rw [rc_div (rc_dl o _ hol), rc_step, show 4 - e + 1 = 5 - e from by omega]
      refine br_f (nI_pos (by omega)) ⟨by decide, ?_⟩
      rw [hq1]
      cases hb : bt w (rkc o e) with
      | true =>
        refine br_t ((vb_has (by omega)).mpr hb) ⟨by decide, nm_r hq2 (nm_r (ve_m e) (hK (_, nI e) ⟨by omega, rfl, e, rfl, by omega, fun q hq _ _ => hq, Or.inr ⟨Nat.le_refl _, by omega, hb⟩⟩))⟩
      | false =>
        refine br_f (fun hh => by rw [vb_has (by omega), hb] at hh; cases hh) ⟨by decide, nm_r hq2 (nm_r (ve_m e) (hK (_, nI z) ⟨by omega, rfl, z, rfl, a, fun q hq hq5 hbq => ?_, ?_⟩))⟩
        · by_cases eq : q = e
          · subst eq; rw [hbq] at hb; cases hb
          · exact b q (by omega) hq5 hbq
        · rcases d with d | ⟨d1, d2, d3⟩
          · exact Or.inl d
          · exact Or.inr ⟨by omega, d2, d3⟩)
  have k5 := key 5 (nI o, 5) ⟨by omega, by simp, 5, rfl, by omega, fun q h1 h2 => by omega, Or.inl rfl⟩
  dsimp only at k5
  rw [show iI (((5 : Nat) : Int) - 1) = 4 from by decide] at k5
  exact k5
/-- with the order o instead of ballot i its voter sees a better place -/
def bet (n : Nat) (O : Nat → Nat) (r i now o : Nat) : Prop := ∃ (w : Int32) (b : Nat), isWin n (upn O i o) r w ∧ isBp (O i) w b ∧ b < now
def gnZ (n : Nat) (O : Nat → Nat) (r i now : Nat) (z : Int) : Prop := (z = -1002 ∧ ∀ o, isr o = true → ¬ bet n O r i now o) ∨ ∃ o : Nat, z = o ∧ isr o = true ∧ bet n O r i now o ∧ ∀ o', o' < o → isr o' = true → ¬ bet n O r i now o'
def gnS (n : Nat) (O : Nat → Nat) (r i : Nat) (z : Int) : Prop := ∃ (w : Int32) (now : Nat), isWin n O r w ∧ isBp (O i) w now ∧ gnZ n O r i now z
theorem gnS_u {n : Nat} {O : Nat → Nat} {r i : Nat} {z z' : Int} (hr : r ≤ 16) (h : gnS n O r i z) (h' : gnS n O r i z') : z = z' := by
  obtain ⟨w, now, a, b, d⟩ := h
  obtain ⟨w', now', a', b', d'⟩ := h'
  have e := isWin_u hr a a'
  subst e
  have e := isBp_u b b'
  subst e
  rcases d with ⟨d1, d2⟩ | ⟨o, o1, o2, o3, o4⟩
  · rcases d' with ⟨d1', _⟩ | ⟨o', p1, p2, p3, p4⟩
    · rw [d1, d1']
    · exact absurd p3 (d2 o' p2)
  · rcases d' with ⟨d1', d2'⟩ | ⟨o', p1, p2, p3, p4⟩
    · exact absurd o3 (d2' o o2)
    · rcases Nat.lt_trichotomy o o' with g | g | g
      · exact absurd o3 (p4 o g o2)
      · rw [o1, p1, g]
      · exact absurd p3 (o4 o' g p2)
/-- the search as far as the orders below o go -/
def gnI (n : Nat) (O : Nat → Nat) (r i now o : Nat) (x : Int32) : Prop := (x = -1002 ∧ ∀ o', o' < o → isr o' = true → ¬ bet n O r i now o') ∨ ∃ o1, o1 < o ∧ x = nI o1 ∧ isr o1 = true ∧ bet n O r i now o1 ∧ ∀ o', o' < o1 → isr o' = true → ¬ bet n O r i now o'
theorem gn_end {n : Nat} {O : Nat → Nat} {r i now o : Nat} {x : Int32} (h : gnI n O r i now o x) (hx : 3125 ≤ o ∨ ¬ x = -1002 ∨ now = 0) : ∃ z, x = iI z ∧ gnZ n O r i now z := by
  rcases h with ⟨a, b⟩ | ⟨o1, a, b, d, e, f⟩
  · refine ⟨-1002, by rw [a]; exact i_1002.symm, Or.inl ⟨rfl, fun o' ho' hb => ?_⟩⟩
    rcases hx with g | g | g
    · exact b o' (by have := isr_lt ho'; omega) ho' hb
    · exact g a
    · obtain ⟨_, q, _, _, hq⟩ := hb
      omega
  · exact ⟨(o1 : Int), by rw [b, vs_iN], Or.inr ⟨o1, rfl, d, e, f⟩⟩
theorem gn_no {n : Nat} {O : Nat → Nat} {r i now o : Nat} {x : Int32} (h : gnI n O r i now o x) (hno : isr o = true → ¬ bet n O r i now o) : gnI n O r i now (o + 1) x := by
  rcases h with ⟨a, b⟩ | ⟨o1, a, b⟩
  · refine Or.inl ⟨a, fun o' ho' hi => ?_⟩
    by_cases e : o' = o
    · subst e; exact hno hi
    · exact b o' (by omega) hi
  · exact Or.inr ⟨o1, by omega, b⟩
theorem gn_yes {n : Nat} {O : Nat → Nat} {r i now o : Nat} (h : gnI n O r i now o (-1002)) (hi : isr o = true) (hb : bet n O r i now o) : gnI n O r i now (o + 1) (nI o) := by
  refine Or.inr ⟨o, by omega, rfl, hi, hb, ?_⟩
  rcases h with ⟨_, b⟩ | ⟨o1, a, b, d, _⟩
  · exact b
  · exfalso
    have := isr_lt d
    exact nI_pos (n := o1) (by omega) (by rw [← b]; decide)
theorem x_g144 {post : Int32 → SX → Prop} {xc : Int32} {xo xr xp xm xb xs xq xn xu xl xg xk xt xw xv : Nat → Int32} {n : Nat} {O : Nat → Nat} {V : Nat → Int32} {i x : Nat} (hi : i < n) (h : zRV n (upn O i x) V (xc, xo, xr, xp, xm, xb, xs, xq, xn, xu, xl, xg, xk, xt, xw, xv)) (ho : isr (O i) = true) {y : Int32} (hp : ∀ u', zRX n O u' → post y u') : wX_gain_144 post (nI i) (nI (O i)) y xc xo xr xp xm xb xs xq xn xu xl xg xk xt xw xv := by
  unfold wX_gain_144
  refine x_rb h hi ho (fun u' hX => ?_)
  obtain ⟨xc', xo', xr', xp', xm', xb', xs', xq', xn', xu', xl', xg', xk', xt', xw', xv'⟩ := u'
  exact hp _ (rx_congr hX.1 (fun j _ => by rw [upn2, upn_id]))
theorem x_g85 {post : Int32 → SX → Prop} {u : SX} {n : Nat} {O : Nat → Nat} {V : Nat → Int32} {r i now : Nat} (hr : r ≤ 16) (hi : i < n) (h : zRV n O V u) (ho : isr (O i) = true) (hV : ∀ c, c < 5 → V c = nI (plc (O i) c)) (h5 : now ≤ 5) (hp : ∀ z u', gnZ n O r i now z → zRX n O u' → post (iI z) u') : ∃ m, wX_gain_85 post (nI r) (nI i) (nI (O i)) (nI now) m (-1002) 0 u.1 u.2.1 u.2.2.1 u.2.2.2.1 u.2.2.2.2.1 u.2.2.2.2.2.1 u.2.2.2.2.2.2.1 u.2.2.2.2.2.2.2.1 u.2.2.2.2.2.2.2.2.1 u.2.2.2.2.2.2.2.2.2.1 u.2.2.2.2.2.2.2.2.2.2.1 u.2.2.2.2.2.2.2.2.2.2.2.1 u.2.2.2.2.2.2.2.2.2.2.2.2.1 u.2.2.2.2.2.2.2.2.2.2.2.2.2.1 u.2.2.2.2.2.2.2.2.2.2.2.2.2.2.1 u.2.2.2.2.2.2.2.2.2.2.2.2.2.2.2 := by
  refine pk_loop (σ := Int32 × SX) (fun m o s => wX_gain_85 post (nI r) (nI i) (nI (O i)) (nI now) m s.1 (nI o) s.2.1 s.2.2.1 s.2.2.2.1 s.2.2.2.2.1 s.2.2.2.2.2.1 s.2.2.2.2.2.2.1 s.2.2.2.2.2.2.2.1 s.2.2.2.2.2.2.2.2.1 s.2.2.2.2.2.2.2.2.2.1 s.2.2.2.2.2.2.2.2.2.2.1 s.2.2.2.2.2.2.2.2.2.2.2.1 s.2.2.2.2.2.2.2.2.2.2.2.2.1 s.2.2.2.2.2.2.2.2.2.2.2.2.2.1 s.2.2.2.2.2.2.2.2.2.2.2.2.2.2.1 s.2.2.2.2.2.2.2.2.2.2.2.2.2.2.2.1 s.2.2.2.2.2.2.2.2.2.2.2.2.2.2.2.2) (fun o s => (∃ x, zRV n (upn O i x) V s.2) ∧ gnI n O r i now o s.1) 3125 0 (-1002, u) (by omega) ⟨⟨O i, rx_congr h.1 (fun j _ => (upn_id O i j).symm), h.2⟩, Or.inl ⟨rfl, fun o' ho' => by omega⟩⟩ ?_ ?_
  · rintro m ⟨y, ⟨xc', xo', xr', xp', xm', xb', xs', xq', xn', xu', xl', xg', xk', xt', xw', xv'⟩⟩ ⟨⟨x, hX⟩, hg⟩
    dsimp only at hg ⊢
    rw [wX_gain_85]
    obtain ⟨z, ez, hz⟩ := gn_end hg (Or.inl (Nat.le_refl _))
    subst ez
    exact br_t (by decide) (x_g144 hi hX ho (fun u' hX' => hp z u' hz hX'))
  · rintro m o ⟨y, ⟨xc', xo', xr', xp', xm', xb', xs', xq', xn', xu', xl', xg', xk', xt', xw', xv'⟩⟩ ho3 ⟨⟨x, hX⟩, hg⟩ hK
    dsimp only at hg hK ⊢
    rw [wX_gain_85]
    refine br_f (nI_ge (b := 3125) ho3 (by decide)) (br_c (fun ey => ?_) (fun ey => ?_))
    · subst ey
      refine x_isRanking (fun hno => br_t rfl (nm_r (nI_1 o) (hK (-1002, (xc', xo', xr', xp', xm', xb', xs', xq', xn', xu', xl', xg', xk', xt', xw', xv')) ⟨⟨x, hX⟩, gn_no hg (fun q => absurd rfl (hno o q))⟩))) (fun o' e' hio => br_f (by decide) ?_)
      have eo : o = o' := (nI_eq (by omega) (by have := isr_lt hio; omega)).mp e'
      subst eo
      refine x_rb hX hi hio (fun u1 hX1 => ?_)
      obtain ⟨xc'', xo'', xr'', xp'', xm'', xb'', xs'', xq'', xn'', xu'', xl'', xg'', xk'', xt'', xw'', xv''⟩ := u1
      have hX1' : zRV n (upn O i o) V (xc'', xo'', xr'', xp'', xm'', xb'', xs'', xq'', xn'', xu'', xl'', xg'', xk'', xt'', xw'', xv'') := ⟨rx_congr hX1.1 (fun j _ => upn2 O i x o j), hX1.2⟩
      refine x_ws hX1' hr (fun w u2 hX2 hw => ?_)
      obtain ⟨xc, xo, xr, xp, xm, xb, xs, xq, xn, xu, xl, xg, xk, xt, xw, xv⟩ := u2
      have hv2 : xv = V := hX2.2
      subst hv2
      refine x_bp hV w (fun b hb => ?_)
      have hb5 := hb.1
      refine pk_le now b (fun hle => nm_r (nI_1 o) (hK (-1002, (xc, xo, xr, xp, xm, xb, xs, xq, xn, xu, xl, xg, xk, xt, xw, xv)) ⟨⟨o, hX2⟩, gn_no hg (fun _ ⟨w', b', q1, q2, q3⟩ => ?_)⟩)) (fun hlt => nm_r (nI_1 o) (hK (nI o, (xc, xo, xr, xp, xm, xb, xs, xq, xn, xu, xl, xg, xk, xt, xw, xv)) ⟨⟨o, hX2⟩, gn_yes hg hio ⟨w, b, hw, hb, hlt⟩⟩))
      have e1 := isWin_u hr q1 hw
      subst e1
      have := isBp_u q2 hb
      omega
    · obtain ⟨z, ez, hz⟩ := gn_end hg (Or.inr (Or.inl ey))
      subst ez
      exact x_g144 hi hX ho (fun u' hX' => hp z u' hz hX')
theorem x_gain {post : Int32 → SX → Prop} {xc : Int32} {xo xr xp xm xb xs xq xn xu xl xg xk xt xw xv : Nat → Int32} {n : Nat} {O : Nat → Nat} (h : zRX n O (xc, xo, xr, xp, xm, xb, xs, xq, xn, xu, xl, xg, xk, xt, xw, xv)) {r i : Nat} (hr : r ≤ 14) (hi : i < n) (hp : ∀ z u', gnS n O r i z → zRX n O u' → post (iI z) u') : wpX_gain post (xc, xo, xr, xp, xm, xb, xs, xq, xn, xu, xl, xg, xk, xt, xw, xv) (nI r) (nI i) := by
  have hn := h.1.1
  have hc : xc = nI n := h.1.2.1
  have hB := h.1.2.2 i hi
  have hpl : ∀ c, c < 5 → xp (5 * i + c) = nI (plc (O i) c) := hB.2.2.2
  have hor : xo i = nI (O i) := hB.2.1
  unfold wpX_gain
  dsimp only
  refine br_f (nI_pos (by omega)) (pk_lt 14 r (fun q => by omega) (fun _ => ?_))
  refine x_isB hn hc (fun hno => absurd rfl (hno i hi)) (fun _ _ _ => br_f (by decide) ⟨vp_in_nI (by omega) (by decide), nm_r (e' := nI (O i)) (by rw [nI_clamp (by omega), hor]) ?_⟩)
  refine pk_loop (σ := Nat → Int32) (fun m c s => wX_gain_32 post (nI r) (nI i) (nI (O i)) xc m (nI c) xo xr xp xm xb xs xq xn xu xl xg xk xt xw s) (fun c s => ∀ d, d < c → s d = nI (plc (O i) d)) 5 0 xv (by omega) (fun d hd => by omega) ?_ ?_
  · intro m V hV
    rw [wX_gain_32]
    have h0 : zRV n O V (xc, xo, xr, xp, xm, xb, xs, xq, xn, xu, xl, xg, xk, xt, xw, V) := ⟨rx_any h, rfl⟩
    refine br_t (by decide) (x_ws h0 (by omega) (fun w u1 hX1 hw => ?_))
    obtain ⟨xc', xo', xr', xp', xm', xb', xs', xq', xn', xu', xl', xg', xk', xt', xw', xv'⟩ := u1
    have hv2 : xv' = V := hX1.2
    subst hv2
    refine x_bp hV w (fun now hnow => ?_)
    exact x_g85 (by omega) hi hX1 hB.1 hV hnow.1 (fun z u' hz hX => hp z u' ⟨w, now, hw, hnow, hz⟩ hX)
  · intro m c V hc5 hV hK
    rw [wX_gain_32]
    refine br_f (nI_ge (b := 5) hc5 (by decide)) ⟨by rw [vn_5a]; exact vp_in_nI (by omega) (by decide), vp_in_nI hc5 (by decide), nm_r (e' := upd V c (nI (plc (O i) c))) (by rw [vn_5a, nI_clamp (n := c) (by omega), nI_clamp (n := 5 * i + c) (by omega), hpl c hc5]) (nm_r (nI_1 c) (hK (upd V c (nI (plc (O i) c))) (fun d hd => ?_)))⟩
    by_cases e : d = c
    · subst e; exact pk_us
    · rw [pk_un e]; exact hV d (by omega)
theorem y_g127 {post : Int32 → SY → Prop} {yn yc : Int32} {yo yp ym ys yl yb yw yk yt yz yx : Nat → Int32} {n : Nat} {O : Nat → Nat} {i x : Nat} (hi : i < n) (h : zRY n (upn O i x) (yn, yc, yo, yp, ym, ys, yl, yb, yw, yk, yt, yz, yx)) (ho : isr (O i) = true) {y : Int32} (hp : ∀ v', zRY n O v' → post y v') : wY_gain_127 post (nI i) (nI (O i)) y yn yc yo yp ym ys yl yb yw yk yt yz yx := by
  unfold wY_gain_127
  refine y_wr h hi ho (fun v' hY => ?_)
  obtain ⟨yn', yc', yo', yp', ym', ys', yl', yb', yw', yk', yt', yz', yx'⟩ := v'
  exact hp _ (ry_congr hY (fun j _ => by rw [upn2, upn_id]))
theorem y_g61 {post : Int32 → SY → Prop} {v : SY} {n : Nat} {O : Nat → Nat} {r i now : Nat} (hr : r ≤ 16) (hi : i < n) (h : zRY n O v) (ho : isr (O i) = true) (h5 : now ≤ 5) (hp : ∀ z v', gnZ n O r i now z → zRY n O v' → post (iI z) v') : ∃ m, wY_gain_61 post (nI r) (nI i) (nI (O i)) (nI now) m (-1002) 0 v.1 v.2.1 v.2.2.1 v.2.2.2.1 v.2.2.2.2.1 v.2.2.2.2.2.1 v.2.2.2.2.2.2.1 v.2.2.2.2.2.2.2.1 v.2.2.2.2.2.2.2.2.1 v.2.2.2.2.2.2.2.2.2.1 v.2.2.2.2.2.2.2.2.2.2.1 v.2.2.2.2.2.2.2.2.2.2.2.1 v.2.2.2.2.2.2.2.2.2.2.2.2 := by
  refine pk_loop (σ := Int32 × SY) (fun m o s => wY_gain_61 post (nI r) (nI i) (nI (O i)) (nI now) m s.1 (nI o) s.2.1 s.2.2.1 s.2.2.2.1 s.2.2.2.2.1 s.2.2.2.2.2.1 s.2.2.2.2.2.2.1 s.2.2.2.2.2.2.2.1 s.2.2.2.2.2.2.2.2.1 s.2.2.2.2.2.2.2.2.2.1 s.2.2.2.2.2.2.2.2.2.2.1 s.2.2.2.2.2.2.2.2.2.2.2.1 s.2.2.2.2.2.2.2.2.2.2.2.2.1 s.2.2.2.2.2.2.2.2.2.2.2.2.2) (fun o s => (∃ x, zRY n (upn O i x) s.2) ∧ gnI n O r i now o s.1) 3125 0 (-1002, v) (by omega) ⟨⟨O i, ry_congr h (fun j _ => (upn_id O i j).symm)⟩, Or.inl ⟨rfl, fun o' ho' => by omega⟩⟩ ?_ ?_
  · rintro m ⟨y, ⟨yn', yc', yo', yp', ym', ys', yl', yb', yw', yk', yt', yz', yx'⟩⟩ ⟨⟨x, hY⟩, hg⟩
    dsimp only at hg ⊢
    rw [wY_gain_61]
    obtain ⟨z, ez, hz⟩ := gn_end hg (Or.inl (Nat.le_refl _))
    subst ez
    exact br_t (by decide) (y_g127 hi hY ho (fun u' hY' => hp z u' hz hY'))
  · rintro m o ⟨y, ⟨yn', yc', yo', yp', ym', ys', yl', yb', yw', yk', yt', yz', yx'⟩⟩ ho3 ⟨⟨x, hY⟩, hg⟩ hK
    dsimp only at hg hK ⊢
    rw [wY_gain_61]
    refine br_f (nI_ge (b := 3125) ho3 (by decide)) (br_c (fun ey => ?_) (fun ey => ?_))
    · subst ey
      refine pk_le now 0 (fun hz => ?_) (fun hz => ?_)
      · obtain ⟨z, ez, hz⟩ := gn_end hg (Or.inr (Or.inr (by omega)))
        rw [ez]
        exact y_g127 hi hY ho (fun u' hY' => hp z u' hz hY')
      · refine y_isOrder (fun hno => br_t rfl (nm_r (nI_1 o) (hK (-1002, (yn', yc', yo', yp', ym', ys', yl', yb', yw', yk', yt', yz', yx')) ⟨⟨x, hY⟩, gn_no hg (fun q => absurd rfl (hno o q))⟩))) (fun o' e' hio => br_f (by decide) ?_)
        have eo : o = o' := (nI_eq (by omega) (by have := isr_lt hio; omega)).mp e'
        subst eo
        refine y_wr hY hi hio (fun v1 hY1 => ?_)
        obtain ⟨yn'', yc'', yo'', yp'', ym'', ys'', yl'', yb'', yw'', yk'', yt'', yz'', yx''⟩ := v1
        have hY1' : zRY n (upn O i o) (yn'', yc'', yo'', yp'', ym'', ys'', yl'', yb'', yw'', yk'', yt'', yz'', yx'') := ry_congr hY1 (fun j _ => upn2 O i x o j)
        refine y_ws hY1' hr (fun w v2 hY2 hw => ?_)
        obtain ⟨yn, yc, yo, yp, ym, ys, yl, yb, yw, yk, yt, yz, yx⟩ := v2
        refine y_bp ho w (fun b hb => ?_)
        have hb5 := hb.1
        refine pk_le now b (fun hle => nm_r (nI_1 o) (hK (-1002, (yn, yc, yo, yp, ym, ys, yl, yb, yw, yk, yt, yz, yx)) ⟨⟨o, hY2⟩, gn_no hg (fun _ ⟨w', b', q1, q2, q3⟩ => ?_)⟩)) (fun hlt => nm_r (nI_1 o) (hK (nI o, (yn, yc, yo, yp, ym, ys, yl, yb, yw, yk, yt, yz, yx)) ⟨⟨o, hY2⟩, gn_yes hg hio ⟨w, b, hw, hb, hlt⟩⟩))
        have e1 := isWin_u hr q1 hw
        subst e1
        have := isBp_u q2 hb
        omega
    · obtain ⟨z, ez, hz⟩ := gn_end hg (Or.inr (Or.inl ey))
      subst ez
      exact y_g127 hi hY ho (fun u' hY' => hp z u' hz hY')
theorem i_vc_gain {k : Nat} {u : SX} {v : SY} (I : i_Rel k u v) (hk : k + 3 ≤ 1536) (v1 : Int32) (v2 : Int32) : wpX_gain (fun r u' => wpY_gain (fun r' v' => r' = r ∧ i_Rel (k + 3) u' v') v v1 v2) u v1 v2 := by
  have I0 := I
  obtain ⟨n, O, hX, hY⟩ := I
  obtain ⟨xc, xo, xr, xp, xm, xb, xs, xq, xn, xu, xl, xg, xk, xt, xw, xv⟩ := u
  obtain ⟨yn, yc, yo, yp, ym, ys, yl, yb, yw, yk, yt, yz, yx⟩ := v
  have hn := hX.1.1
  have hc : xc = nI n := hX.1.2.1
  have hc' : yn = nI n := hY.2.1
  have bad : (∀ r, r ≤ 14 → v1 ≠ nI r) → wpY_gain (fun r' v' => r' = -1000 ∧ i_Rel (k + 3) (xc, xo, xr, xp, xm, xb, xs, xq, xn, xu, xl, xg, xk, xt, xw, xv) v') (yn, yc, yo, yp, ym, ys, yl, yb, yw, yk, yt, yz, yx) v1 v2 := by
    intro hno
    unfold wpY_gain
    dsimp only
    exact y_in 0 14 rfl (by decide) (fun _ => br_t rfl ⟨rfl, I0⟩) (fun j _ hj e => absurd e (hno j hj))
  by_cases hr : ∃ r, r ≤ 14 ∧ v1 = nI r
  · obtain ⟨r, hr, rfl⟩ := hr
    by_cases hi : ∃ i, i < n ∧ v2 = nI i
    · obtain ⟨i, hi, rfl⟩ := hi
      refine x_gain hX hr hi (fun z u' hz hX' => ?_)
      unfold wpY_gain
      dsimp only
      refine y_in 0 14 rfl (by decide) (fun hh => absurd rfl (hh r (by omega) hr)) (fun _ _ _ _ => br_f (by decide) ?_)
      have hor : yo i = nI (O i) := (hY.2.2 i hi).2.1
      have hio := (hY.2.2 i hi).1
      refine y_isB hn hc' (fun hno => absurd rfl (hno i hi)) (fun _ _ _ => br_f (by decide) ⟨vp_in_nI (by omega) (by decide), nm_r (e' := nI (O i)) (by rw [nI_clamp (by omega), hor]) ?_⟩)
      refine y_ws hY (by omega) (fun w v1 hY1 hw => ?_)
      obtain ⟨yn', yc', yo', yp', ym', ys', yl', yb', yw', yk', yt', yz', yx'⟩ := v1
      refine y_bp hio w (fun now hnow => ?_)
      exact y_g61 (by omega) hi hY1 hio hnow.1 (fun z' v' hz' hY' => ⟨by rw [gnS_u (by omega) hz ⟨w, now, hw, hnow, hz'⟩], n, O, hX', hY'⟩)
    · have hno : ∀ i, i < n → v2 ≠ nI i := fun i h1 h2 => hi ⟨i, h1, h2⟩
      unfold wpX_gain
      dsimp only
      refine br_f (nI_pos (by omega)) (pk_lt 14 r (fun q => by omega) (fun _ => ?_))
      refine x_isB hn hc (fun _ => br_t rfl ?_) (fun i h1 h2 => absurd h2 (hno i h1))
      unfold wpY_gain
      dsimp only
      refine y_in 0 14 rfl (by decide) (fun hh => absurd rfl (hh r (by omega) hr)) (fun _ _ _ _ => br_f (by decide) ?_)
      exact y_isB hn hc' (fun _ => br_t rfl ⟨rfl, I0⟩) (fun i h1 h2 => absurd h2 (hno i h1))
  · have hno : ∀ r, r ≤ 14 → v1 ≠ nI r := fun r h1 h2 => hr ⟨r, h1, h2⟩
    unfold wpX_gain
    dsimp only
    by_cases hneg : v1 < 0
    · exact br_t hneg (bad hno)
    · obtain ⟨j, hj, rfl⟩ := nI_of hneg
      exact br_f hneg (pk_lt 14 j (fun _ => bad hno) (fun q => absurd rfl (hno j q)) rfl rfl (by omega) hj)
