/-! ===== counting margins; ballot, drop, order, margin, leader, ballots ===== -/
theorem x_cm {post : SX → Prop} {xc : Int32} {xo xr xp xm xb xs xq xn xu xl xg xk xt xw xv : Nat → Int32} {n : Nat} {O : Nat → Nat} (h : zRB n O (xc, xo, xr, xp, xm, xb, xs, xq, xn, xu, xl, xg, xk, xt, xw, xv)) (hp : ∀ m' b' : Nat → Int32, zRM n O (xc, xo, xr, xp, m', b', xs, xq, xn, xu, xl, xg, xk, xt, xw, xv) → post (xc, xo, xr, xp, m', b', xs, xq, xn, xu, xl, xg, xk, xt, xw, xv)) :
    wpX_countMargins post (xc, xo, xr, xp, xm, xb, xs, xq, xn, xu, xl, xg, xk, xt, xw, xv) := by
  unfold wpX_countMargins
  dsimp only
  have hn := h.1
  refine pk_loop (σ := (Nat → Int32) × (Nat → Int32)) (fun k a s => wX_countMargins_2 post xc k (nI a) xo xr xp s.1 s.2 xs xq xn xu xl xg xk xt xw xv)
    (fun a s => (∀ a' b', a' < a → b' < 5 → s.1 (5 * a' + b') = iI (Mg n O a' b')) ∧ (∀ a', a' < a → isSet (s.2 a') (fun b => 0 < Mg n O a' b))) 5 0 (xm, xb) (by omega) ⟨fun a' b' h1 => by omega, fun a' h1 => by omega⟩ ?_ ?_
  · rintro k ⟨m', b'⟩ ⟨h1, h2⟩
    dsimp only at h1 h2 ⊢
    rw [wX_countMargins_2]
    exact br_t (by decide) (hp m' b' ⟨fun a b ha hb => h1 a b ha hb, fun a ha => h2 a ha⟩)
  · rintro k a ⟨m', b'⟩ ha ⟨h1, h2⟩ hk
    dsimp only at h1 h2 hk ⊢
    rw [wX_countMargins_2]
    refine br_f (nI_ge (b := 5) ha (by decide)) ⟨vp_in_nI ha (by decide), nm_r (e' := upd b' a 0) (by rw [nI_clamp (by omega)]) ?_⟩
    refine pk_loop (σ := (Nat → Int32) × (Nat → Int32)) (fun k' b s => wX_countMargins_16 post (wX_countMargins_2 post xc k) (nI a) xc k' (nI b) xo xr xp s.1 s.2 xs xq xn xu xl xg xk xt xw xv)
      (fun b s => (∀ a' b', (a' < a ∧ b' < 5) ∨ (a' = a ∧ b' < b) → s.1 (5 * a' + b') = iI (Mg n O a' b')) ∧ (∀ a', a' < a → isSet (s.2 a') (fun b => 0 < Mg n O a' b)) ∧ isSet (s.2 a) (fun d => d < b ∧ 0 < Mg n O a d)) 5 0 (m', upd b' a 0) (by omega) ?_ ?_ ?_
    · refine ⟨fun a' b'' h3 => ?_, fun a' h3 => ?_, ?_⟩
      · dsimp only; rcases h3 with h3 | h3
        · exact h1 a' b'' h3.1 h3.2
        · omega
      · dsimp only; rw [pk_un (by omega)]; exact h2 a' h3
      · dsimp only; rw [pk_us]; exact vb_congr vb_empty (fun i _ => by simp)
    · rintro k' ⟨m2, b2⟩ ⟨g1, g2, g3⟩
      dsimp only at g1 g2 g3 ⊢
      rw [wX_countMargins_16]
      refine br_t (by decide) (nm_r (nI_1 a) (hk (m2, b2) ⟨fun a' b' h3 h4 => ?_, fun a' h3 => ?_⟩))
      · by_cases e : a' = a
        · exact g1 a' b' (Or.inr ⟨e, h4⟩)
        · exact g1 a' b' (Or.inl ⟨by omega, h4⟩)
      · by_cases e : a' = a
        · subst e; exact vb_congr g3 (fun i hi => by simp [hi])
        · exact g2 a' (by omega)
    · rintro k' b ⟨m2, b2⟩ hb ⟨g1, g2, g3⟩ hk'
      dsimp only at g1 g2 g3 hk' ⊢
      rw [wX_countMargins_16]
      refine br_f (nI_ge (b := 5) hb (by decide)) (x_mw (n := n) (O := O) ?_ ha hb 0 ?_)
      · exact h
      rw [Mw_0]
      have hbd := Mg_bd hn O a b
      have hm : ∀ a' b', (a' < a ∧ b' < 5) ∨ (a' = a ∧ b' < b + 1) → upd m2 (5 * a + b) (iI (Mg n O a b)) (5 * a' + b') = iI (Mg n O a' b') := by
        intro a' b' h3
        by_cases e : a' = a ∧ b' = b
        · rw [e.1, e.2, pk_us]
        · rw [pk_un (by omega)]
          exact g1 a' b' (by omega)
      refine ⟨by rw [vn_5a]; exact vp_in_nI (by omega) (by decide), nm_r (e' := upd m2 (5 * a + b) (iI (Mg n O a b))) (by rw [vn_5a, nI_clamp (by omega)]) (vi_le (Mg n O a b) 0 (fun hle => ?_) (fun hlt => ?_))⟩
      · refine nm_r (nI_1 b) (hk' (_, b2) ⟨hm, g2, ?_⟩)
        refine vb_congr g3 (fun i hi => ⟨fun z => ⟨by omega, z.2⟩, fun z => ⟨?_, z.2⟩⟩)
        by_cases e : i = b
        · subst e; omega
        · omega
      · refine ⟨vp_in_nI ha (by decide), vp_in_nI ha (by decide), nm_r (e' := upd b2 a (b2 a ||| ((1 : Int32) <<< (nI b &&& 31)))) (by rw [nI_clamp (by omega)]) (nm_r (nI_1 b) (hk' (upd m2 (5 * a + b) (iI (Mg n O a b)), upd b2 a (b2 a ||| ((1 : Int32) <<< (nI b &&& 31)))) ⟨hm, fun a' h3 => ?_, ?_⟩))⟩
        · dsimp only; rw [pk_un (by omega)]; exact g2 a' h3
        · dsimp only; rw [pk_us]
          refine vb_congr (vb_ins g3 hb) (fun i hi => ?_)
          constructor
          · rintro (z | rfl)
            · exact ⟨by omega, z.2⟩
            · exact ⟨by omega, hlt⟩
          · intro z
            by_cases e : i = b
            · exact Or.inr e
            · exact Or.inl ⟨by omega, z.2⟩
theorem y_ct {post : SY → Prop} {yn yc : Int32} {yo yp ym ys yl yb yw yk yt yz yx : Nat → Int32} {n : Nat} {O : Nat → Nat} (h : zRY n O (yn, yc, yo, yp, ym, ys, yl, yb, yw, yk, yt, yz, yx)) (hp : ∀ m' : Nat → Int32, zRYM n O (yn, yc, yo, yp, m', ys, yl, yb, yw, yk, yt, yz, yx) → post (yn, yc, yo, yp, m', ys, yl, yb, yw, yk, yt, yz, yx)) :
    wpY_count post (yn, yc, yo, yp, ym, ys, yl, yb, yw, yk, yt, yz, yx) := by
  unfold wpY_count
  dsimp only
  have hn := h.1
  refine pk_loop (σ := (Nat → Int32)) (fun k j s => wY_count_2 post yn yc k (nI j) yo yp s ys yl yb yw yk yt yz yx)
    (fun j s => ∀ q, q < j → s q = iI (Mg n O (q / 5) (q % 5))) 25 0 ym (by omega) (fun q hq => by omega) ?_ ?_
  · intro k s hs
    rw [wY_count_2]
    refine br_t (by decide) (hp s ⟨h, fun a b ha hb => ?_⟩)
    have := hs (5 * a + b) (by omega)
    rw [show (5 * a + b) / 5 = a from by omega, show (5 * a + b) % 5 = b from by omega] at this
    exact this
  · intro k j s hj hs hk
    rw [wY_count_2]
    refine br_f (nI_ge (b := 25) hj (by decide)) ⟨by decide, by decide, ?_⟩
    rw [rc_rem (show j < 2 ^ 31 by omega), rc_div (show j < 2 ^ 31 by omega)]
    refine y_mo (n := n) (O := O) (a := j / 5) (b := j % 5) ?_ (by omega) (by omega) 511 ?_
    · exact h
    rw [Mw_511 hn]
    refine ⟨vp_in_nI hj (by decide), nm_r (e' := upd s j (iI (Mg n O (j / 5) (j % 5)))) (by rw [nI_clamp (by omega)]) (nm_r (nI_1 j) (hk (upd s j (iI (Mg n O (j / 5) (j % 5)))) (fun q hq => ?_)))⟩
    by_cases e : q = j
    · subst e; exact pk_us
    · rw [pk_un e]; exact hs q (by omega)
theorem x_has {post : Int32 → Prop} {x : Int32} {j : Nat} (hj : j < 32) (h1 : bt x j = true → post 1) (h0 : bt x j = false → post 0) : wpX_has post x (nI j) := by
  unfold wpX_has
  refine br_c (fun h => h1 ((vb_has hj).mp h)) (fun h => h0 ?_)
  rw [vb_has hj] at h
  simpa using h
theorem y_be {post : Int32 → Prop} {yn yc : Int32} {yo yp ym ys yl yb yw yk yt yz yx : Nat → Int32} {n : Nat} {O : Nat → Nat} (h : zRYM n O (yn, yc, yo, yp, ym, ys, yl, yb, yw, yk, yt, yz, yx)) {a b : Nat} (ha : a < 5) (hb : b < 5) (h1 : 0 < Mg n O a b → post 1) (h0 : Mg n O a b ≤ 0 → post 0) : wpY_beats post (yn, yc, yo, yp, ym, ys, yl, yb, yw, yk, yt, yz, yx) (nI a) (nI b) := by
  have hm := h.2 a b ha hb
  have hbd := Mg_bd h.1.1 O a b
  dsimp only at hm
  unfold wpY_beats
  dsimp only
  rw [vn_5b, nI_clamp (by omega), hm]
  exact ⟨vp_in_nI (by omega) (by decide), vi_le (Mg n O a b) 0 h0 h1⟩
theorem y_bb {post : Int32 → Prop} {yn yc : Int32} {yo yp ym ys yl yb yw yk yt yz yx : Nat → Int32} {n : Nat} {O : Nat → Nat} (h : zRYM n O (yn, yc, yo, yp, ym, ys, yl, yb, yw, yk, yt, yz, yx)) {a : Nat} (ha : a < 5) (hp : ∀ r, isSet r (fun b => 0 < Mg n O a b) → post r) : wpY_beatenBy post (yn, yc, yo, yp, ym, ys, yl, yb, yw, yk, yt, yz, yx) (nI a) := by
  unfold wpY_beatenBy
  dsimp only
  refine pk_loop (σ := Int32) (fun k b s => wY_beatenBy_4 post (nI a) yn yc yo yp ym ys yl yb yw yk yt yz yx k s (nI b)) (fun b s => isSet s (fun d => d < b ∧ 0 < Mg n O a d)) 5 0 0 (by omega) (vb_congr vb_empty (fun i _ => by simp)) ?_ ?_
  · intro k s hs
    rw [wY_beatenBy_4]
    exact br_t (by decide) (hp s (vb_congr hs (fun i hi => by simp [hi])))
  · intro k b s hb hs hk
    rw [wY_beatenBy_4]
    refine br_f (nI_ge (b := 5) hb (by decide)) (y_be h ha hb (fun hlt => br_f (by decide) (nm_e (nm_r (nI_1 b) (hk _ (vb_congr (vb_ins hs hb) (fun i hi => ?_)))))) (fun hle => br_t rfl (nm_r (nI_1 b) (hk _ (vb_congr hs (fun i hi => ?_))))))
    · constructor
      · rintro (z | rfl)
        · exact ⟨by omega, z.2⟩
        · exact ⟨by omega, hlt⟩
      · intro z
        by_cases e : i = b
        · exact Or.inr e
        · exact Or.inl ⟨by omega, z.2⟩
    · refine ⟨fun z => ⟨by omega, z.2⟩, fun z => ⟨?_, z.2⟩⟩
      by_cases e : i = b
      · subst e; omega
      · omega
theorem x_cand {post : Int32 → Prop} {x : Int32} (h0 : (∀ c, c < 5 → x ≠ nI c) → post 0) (h1 : ∀ c, c < 5 → x = nI c → post 1) : wpX_isCandidate post x := by
  unfold wpX_isCandidate
  by_cases hn : x < 0
  · refine br_t hn (h0 fun c hc e => ?_)
    subst e
    exact nI_pos (by omega) hn
  · obtain ⟨o, ho, rfl⟩ := nI_of hn
    refine br_f hn (pk_le 5 o (fun h => h0 fun c hc e => ?_) (fun h => h1 o h rfl) rfl rfl (by omega) ho)
    rw [nI_eq ho (by omega)] at e
    omega
theorem x_rule {post : Int32 → Prop} {x : Int32} (h0 : (∀ c, c ≤ 16 → x ≠ nI c) → post 0) (h1 : ∀ c, c ≤ 16 → x = nI c → post 1) : wpX_isRule post x := by
  unfold wpX_isRule
  by_cases hn : x < 0
  · refine br_t hn (h0 fun c hc e => ?_)
    subst e
    exact nI_pos (by omega) hn
  · obtain ⟨o, ho, rfl⟩ := nI_of hn
    refine br_f hn (pk_lt 16 o (fun h => h0 fun c hc e => ?_) (fun h => h1 o h rfl) rfl rfl (by omega) ho)
    rw [nI_eq ho (by omega)] at e
    omega
theorem x_isB {post : Int32 → Prop} {xc : Int32} {xo xr xp xm xb xs xq xn xu xl xg xk xt xw xv : Nat → Int32} {n : Nat} (hn : n ≤ 9) (hc : xc = nI n) {x : Int32} (h0 : (∀ i, i < n → x ≠ nI i) → post 0) (h1 : ∀ i, i < n → x = nI i → post 1) : wpX_isBallot post (xc, xo, xr, xp, xm, xb, xs, xq, xn, xu, xl, xg, xk, xt, xw, xv) x := by
  unfold wpX_isBallot
  dsimp only
  subst hc
  by_cases hn : x < 0
  · refine br_t hn (h0 fun c hc e => ?_)
    subst e
    exact nI_pos (by omega) hn
  · obtain ⟨o, ho, rfl⟩ := nI_of hn
    refine br_f hn (pk_le n o (fun h => h0 fun c hc e => ?_) (fun h => h1 o h rfl) rfl rfl (by omega) ho)
    rw [nI_eq ho (by omega)] at e
    omega
/-- the reference's question whether i is a ballot: its upper bound is n - 1, which may be -1 -/
theorem y_isB {post : Int32 → Prop} {v : SY} {n : Nat} {yn : Int32} (hn : n ≤ 9) (hc : yn = nI n) {x : Int32} (h0 : (∀ i, i < n → x ≠ nI i) → post 0) (h1 : ∀ i, i < n → x = nI i → post 1) : wpY_in post v x 0 (yn - 1) := by
  subst hc
  cases n with
  | zero =>
    obtain ⟨yn, yc, yo, yp, ym, ys, yl, yb, yw, yk, yt, yz, yx⟩ := v
    unfold wpY_in
    dsimp only
    by_cases hn : x < 0
    · exact br_t hn (h0 fun c hc e => by omega)
    · refine br_f hn (br_t ?_ (h0 fun c hc e => by omega))
      obtain ⟨o, ho, rfl⟩ := nI_of hn
      rw [Int32.lt_iff_toInt_lt, nI_toInt ho]
      have : (nI 0 - 1 : Int32).toInt = -1 := by decide
      omega
  | succ m =>
    rw [nI_pred]
    exact y_in 0 m rfl (by omega) (fun hh => h0 fun i hi => hh i (by omega) (by omega)) (fun j _ hj e => h1 j (by omega) e)
/-- the relation: the same ballots; the component's margins are those of the ballots -/
def i_Rel (k : Nat) (u : SX) (v : SY) : Prop := ∃ (n : Nat) (O : Nat → Nat), zRX n O u ∧ zRY n O v
theorem i_up {k : Nat} {u : SX} {v : SY} (h : i_Rel k u v) : i_Rel (k + 3) u v := h
theorem i_vc0 : wpX_init (fun u => wpY_init (fun v => i_Rel 0 u v)) := by
  refine ⟨0, fun _ => 0, ⟨⟨by omega, rfl, fun i hi => by omega⟩, fun a b ha hb => ?_, fun a ha => ?_⟩, ⟨by omega, rfl, fun i hi => by omega⟩⟩
  · rfl
  · exact vb_congr vb_empty (fun i _ => by simp [Mg, Mw, sm])
def upn (O : Nat → Nat) (k o : Nat) : Nat → Nat := fun j => if j = k then o else O j
theorem upn_s (O : Nat → Nat) (k o : Nat) : upn O k o k = o := if_pos rfl
theorem upn_n (O : Nat → Nat) {k o j : Nat} (h : j ≠ k) : upn O k o j = O j := if_neg h
theorem i_vc_ballot {k : Nat} {u : SX} {v : SY} (I : i_Rel k u v) (hk : k + 3 ≤ 1536) (v1 : Int32) : wpX_ballot (fun r u' => wpY_ballot (fun r' v' => r' = r ∧ i_Rel (k + 3) u' v') v v1) u v1 := by
  have I0 := I
  obtain ⟨n, O, ⟨⟨hn, hc, hB⟩, hM⟩, ⟨_, hc', hB'⟩⟩ := I
  obtain ⟨xc, xo, xr, xp, xm, xb, xs, xq, xn, xu, xl, xg, xk, xt, xw, xv⟩ := u
  obtain ⟨yn, yc, yo, yp, ym, ys, yl, yb, yw, yk, yt, yz, yx⟩ := v
  dsimp only at hc hc'
  subst hc hc'
  unfold wpX_ballot
  dsimp only
  by_cases h9 : n < 9
  · refine br_t (nI_lt (b := 9) h9 (by decide)) (x_isRanking (fun hno => br_t rfl ?_) (fun o e ho => br_f (by decide) ?_))
    · unfold wpY_ballot
      dsimp only
      refine br_f (fun h => by rw [show (9 : Int32) = nI 9 from rfl, nI_eq (by omega) (by omega)] at h; omega) (y_isOrder (fun _ => br_t rfl ⟨rfl, I0⟩) (fun o e ho => absurd e (hno o ho)))
    · subst e
      refine ⟨vp_in_nI h9 (by decide), nm_r (e' := upd xo n (nI o)) (by rw [nI_clamp (by omega)]) (x_read h9 ho pk_us (fun r' p' g1 g2 => ?_))⟩
      refine nm_r (nI_1 n) ?_
      have hRB : zRB (n + 1) (upn O n o) ((nI (n + 1)), (upd xo n (nI o)), r', p', xm, xb, xs, xq, xn, xu, xl, xg, xk, xt, xw, xv) := by
        refine ⟨by omega, rfl, fun i hi => ?_⟩
        by_cases e : i = n
        · subst e; rw [upn_s]; exact g1
        · rw [upn_n O e]
          refine g2 i (O i) e ?_
          have := hB i (by omega)
          exact ⟨this.1, (pk_un e).trans this.2.1, this.2.2⟩
      refine x_cm hRB (fun m' b' hM' => ?_)
      unfold wpY_ballot
      dsimp only
      refine br_f (fun h => by rw [show (9 : Int32) = nI 9 from rfl, nI_eq (by omega) (by omega)] at h; omega) (y_isOrder (fun hno => absurd rfl (hno o ho)) (fun _ _ _ => br_f (by decide) (y_write h9 ho (fun p'' q1 q2 => nm_r (nI_1 n) ⟨rfl, n + 1, upn O n o, ⟨hRB, hM'⟩, ⟨by omega, rfl, fun i hi => ?_⟩⟩))))
      by_cases e : i = n
      · subst e; rw [upn_s]; exact q1
      · rw [upn_n O e]
        exact q2 i (O i) e (hB' i (by omega))
  · have e : n = 9 := by omega
    subst e
    refine br_f (by decide) ?_
    unfold wpY_ballot
    exact br_t rfl ⟨rfl, I0⟩
theorem i_vc_order {k : Nat} {u : SX} {v : SY} (I : i_Rel k u v) (hk : k + 3 ≤ 1536) (v1 : Int32) : wpX_order (fun r => wpY_order (fun r' => r' = r ∧ i_Rel (k + 3) u v) v v1) u v1 := by
  have I0 := I
  obtain ⟨n, O, ⟨⟨hn, hc, hB⟩, hM⟩, ⟨_, hc', hB'⟩⟩ := I
  obtain ⟨xc, xo, xr, xp, xm, xb, xs, xq, xn, xu, xl, xg, xk, xt, xw, xv⟩ := u
  obtain ⟨yn, yc, yo, yp, ym, ys, yl, yb, yw, yk, yt, yz, yx⟩ := v
  dsimp only at hc hc'
  unfold wpX_order
  dsimp only
  refine x_isB hn hc (fun hno => br_t rfl ?_) (fun i hi e => br_f (by decide) ?_)
  · unfold wpY_order
    dsimp only
    exact y_isB hn hc' (fun _ => br_t rfl ⟨rfl, I0⟩) (fun i hi e => absurd e (hno i hi))
  · subst e
    refine ⟨vp_in_nI (by omega) (by decide), ?_⟩
    unfold wpY_order
    dsimp only
    refine y_isB hn hc' (fun hno => absurd rfl (hno i hi)) (fun _ _ _ => br_f (by decide) ⟨vp_in_nI (by omega) (by decide), ?_, I0⟩)
    rw [nI_clamp (by omega)]
    exact (hB' i hi).2.1.trans (hB i hi).2.1.symm
theorem i_vc_margin {k : Nat} {u : SX} {v : SY} (I : i_Rel k u v) (hk : k + 3 ≤ 1536) (v1 : Int32) (v2 : Int32) : wpX_margin (fun r => wpY_margin (fun r' => r' = r ∧ i_Rel (k + 3) u v) v v1 v2) u v1 v2 := by
  have I0 := I
  obtain ⟨n, O, ⟨⟨hn, hc, hB⟩, hM⟩, hY⟩ := I
  obtain ⟨xc, xo, xr, xp, xm, xb, xs, xq, xn, xu, xl, xg, xk, xt, xw, xv⟩ := u
  obtain ⟨yn, yc, yo, yp, ym, ys, yl, yb, yw, yk, yt, yz, yx⟩ := v
  unfold wpX_margin
  dsimp only
  refine x_cand (fun hno => br_t rfl ?_) (fun a ha e => br_f (by decide) ?_)
  · unfold wpY_margin
    dsimp only
    exact y_in 0 4 rfl (by decide) (fun _ => br_t rfl ⟨rfl, I0⟩) (fun j _ hj e => absurd e (hno j (by omega)))
  · subst e
    refine x_cand (fun hno => br_t rfl ?_) (fun b hb e => br_f (by decide) ?_)
    · unfold wpY_margin
      dsimp only
      refine y_in 0 4 rfl (by decide) (fun hh => absurd rfl (hh a (by omega) (by omega))) (fun _ _ _ _ => br_f (by decide) ?_)
      exact y_in 0 4 rfl (by decide) (fun _ => br_t rfl ⟨rfl, I0⟩) (fun j _ hj e => absurd e (hno j (by omega)))
    · subst e
      have hm := hM.1 a b ha hb
      dsimp only at hm
      rw [vn_5a, nI_clamp (by omega), hm]
      refine ⟨vp_in_nI (by omega) (by decide), ?_⟩
      unfold wpY_margin
      dsimp only
      refine y_in 0 4 rfl (by decide) (fun hh => absurd rfl (hh a (by omega) (by omega))) (fun _ _ _ _ => br_f (by decide) ?_)
      refine y_in 0 4 rfl (by decide) (fun hh => absurd rfl (hh b (by omega) (by omega))) (fun _ _ _ _ => br_f (by decide) ?_)
      refine y_mo hY ha hb 511 ?_
      rw [Mw_511 hn]
      exact ⟨rfl, I0⟩
theorem i_vc_ballots {k : Nat} {u : SX} {v : SY} (I : i_Rel k u v) (hk : k + 3 ≤ 1536) : wpX_ballots (fun r => wpY_ballots (fun r' => r' = r ∧ i_Rel (k + 3) u v) v) u := by
  have I0 := I
  obtain ⟨n, O, ⟨⟨hn, hc, hB⟩, hM⟩, ⟨_, hc', hB'⟩⟩ := I
  obtain ⟨xc, xo, xr, xp, xm, xb, xs, xq, xn, xu, xl, xg, xk, xt, xw, xv⟩ := u
  obtain ⟨yn, yc, yo, yp, ym, ys, yl, yb, yw, yk, yt, yz, yx⟩ := v
  exact ⟨hc'.trans hc.symm, I0⟩
