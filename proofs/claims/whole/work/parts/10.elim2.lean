/-! ===== rules 6, 7, 8: the main loops ===== -/
theorem bt_sg : ∀ s, s < 32 → ∀ i, i < 32 → bt (nI s) i = s.testBit i := fun s _ i hi => vb_nI s i hi
theorem sg_bit : ∀ s, s < 32 → sgb s = true → ∀ i, i < 5 → (s.testBit i = true ↔ s = 2 ^ i) := by decide +kernel
theorem x_ps {post : Int32 → SX → Prop} {u : SX} {n : Nat} {O : Nat → Nat} {V : Nat → Int32} (h : zRV n O V u) {r : Nat} (hr : r ≤ 2) (hp : ∀ w u', isSet w (fun c => EL n O r (2 ^ c)) → zRV n O V u' → post w u') : wpX_possibleSurvivors post u (nI r) := by
  obtain ⟨xc, xo, xr, xp, xm, xb, xs, xq, xn, xu, xl, xg, xk, xt, xw, xv⟩ := u
  unfold wpX_possibleSurvivors
  dsimp only
  refine pk_loop (σ := Nat → Int32) (fun m t q => wX_possibleSurvivors_2 post (nI r) xc m (nI t) xo xr xp xm xb xs q xn xu xl xg xk xt xw xv) (fun t q => ∀ j, j < t → q j = 0) 32 0 xq (by omega) (fun j hj => by omega) ?_ ?_
  · intro m q hq
    rw [wX_possibleSurvivors_2]
    refine br_t (by decide) (nm_r (e' := upd q 31 1) (by rw [nb1]) ⟨32, ?_⟩)
    have key := pk_loopD (σ := Int32 × SX) (fun m s x => wX_possibleSurvivors_34 post (nI r) m x.1 (nI s) x.2.1 x.2.2.1 x.2.2.2.1 x.2.2.2.2.1 x.2.2.2.2.2.1 x.2.2.2.2.2.2.1 x.2.2.2.2.2.2.2.1 x.2.2.2.2.2.2.2.2.1 x.2.2.2.2.2.2.2.2.2.1 x.2.2.2.2.2.2.2.2.2.2.1 x.2.2.2.2.2.2.2.2.2.2.2.1 x.2.2.2.2.2.2.2.2.2.2.2.2.1 x.2.2.2.2.2.2.2.2.2.2.2.2.2.1 x.2.2.2.2.2.2.2.2.2.2.2.2.2.2.1 x.2.2.2.2.2.2.2.2.2.2.2.2.2.2.2.1 x.2.2.2.2.2.2.2.2.2.2.2.2.2.2.2.2)
      (fun s x => s < 32 ∧ zRV n O V x.2 ∧ elI n O r s (x.2.2.2.2.2.2.2.2.1) ∧ isSet x.1 (fun c => s < 2 ^ c ∧ x.2.2.2.2.2.2.2.2.1 (2 ^ c) ≠ 0))
      (by
        rintro m ⟨w, ⟨xc', xo', xr', xp', xm', xb', xs', xq', xn', xu', xl', xg', xk', xt', xw', xv'⟩⟩ ⟨_, hX, he, hw⟩
        dsimp only at he hw ⊢
        rw [wX_possibleSurvivors_34]
        refine br_t (by decide) (hp w _ (vb_congr hw (fun i hi => ?_)) hX)
        have hi2 := sgb_q i hi
        rw [← el_end he hi2.2.1]
        have : 0 < 2 ^ i := Nat.two_pow_pos i
        simp [this])
      (by
        rintro m s ⟨w, ⟨xc', xo', xr', xp', xm', xb', xs', xq', xn', xu', xl', xg', xk', xt', xw', xv'⟩⟩ ⟨hs, hX, he, hw⟩ hK
        dsimp only at he hw hK ⊢
        rw [wX_possibleSurvivors_34]
        refine br_f (nI_nle (by omega) (by omega)) ⟨vp_in_nI hs (by decide), ?_⟩
        rw [nI_clamp (by omega)]
        have skip : (xq' (s + 1) = 0 ∨ sgb (s + 1) = false) → isSet w (fun c => s < 2 ^ c ∧ xq' (2 ^ c) ≠ 0) := by
          intro hz
          refine vb_congr hw (fun i hi => ⟨fun a => ⟨by omega, a.2⟩, fun a => ⟨?_, a.2⟩⟩)
          by_cases e : 2 ^ i = s + 1
          · rcases hz with hz | hz
            · rw [← e] at hz; exact absurd hz a.2
            · have := (sgb_q i hi).1
              rw [e, hz] at this; cases this
          · omega
        refine br_c (fun hz => nm_r (pk_m1 s) (hK (w, (xc', xo', xr', xp', xm', xb', xs', xq', xn', xu', xl', xg', xk', xt', xw', xv')) ⟨by omega, hX, el_skip he (Or.inl hz), skip (Or.inl hz)⟩)) (fun hz => x_size ?_)
        have hsz := szI_bd (nI (s + 1))
        refine vi_eq (szI (nI (s + 1))) 1 (fun e => ?_) (fun e => ?_)
        · have hg := (sgb_X (s + 1) hs).mp e
          refine nm_e (nm_r (pk_m1 s) (hK (w ||| nI (s + 1), (xc', xo', xr', xp', xm', xb', xs', xq', xn', xu', xl', xg', xk', xt', xw', xv')) ⟨by omega, hX, el_skip he (Or.inr hg), ?_⟩))
          intro i
          dsimp only
          rw [b_or, Bool.or_eq_true, hw i, vb_nIs (by omega)]
          constructor
          · rintro (⟨a, b, c⟩ | a)
            · exact ⟨a, by omega, c⟩
            · have hi : i < 5 := by
                rcases Nat.lt_or_ge i 5 with g | g
                · exact g
                · rw [← vb_nIs (by omega), nI_hi hs i g] at a; cases a
              have e := (sg_bit (s + 1) hs hg i hi).mp a
              exact ⟨hi, by omega, by rw [← e]; exact hz⟩
          · rintro ⟨a, b, c⟩
            by_cases e : 2 ^ i = s + 1
            · exact Or.inr ((sg_bit (s + 1) hs hg i a).mpr e.symm)
            · exact Or.inl ⟨a, by omega, c⟩
        · have hg : sgb (s + 1) = false := by
            cases hgg : sgb (s + 1)
            · rfl
            · exact absurd ((sgb_X (s + 1) hs).mpr hgg) e
          refine x_lg hX.1 hr hs (by omega) (fun q' n' hgo => nm_r (pk_m1 s) (hK (w, (xc', xo', xr', xp', xm', xb', xs', q', n', xu', xl', xg', xk', xt', xw', xv')) ⟨by omega, rv_any hX, el_go hs he hz hg hgo, ?_⟩))
          refine vb_congr (skip (Or.inr hg)) (fun i hi => ⟨fun a => ⟨a.1, (el_keep hs hgo (by omega)).mpr a.2⟩, fun a => ⟨a.1, (el_keep hs hgo (by omega)).mp a.2⟩⟩))
    refine key 31 (0, (xc, xo, xr, xp, xm, xb, xs, (upd q 31 1), xn, xu, xl, xg, xk, xt, xw, xv)) ⟨by omega, rv_any h, ⟨fun t ht hqt => ?_, by dsimp only; rw [pk_us]; decide, fun t h1 h2 => by omega⟩, vb_congr vb_empty (fun i hi => ?_)⟩
    · by_cases e : t = 31
      · subst e; exact fun F h31 _ => h31
      · dsimp only at hqt
        rw [pk_un e] at hqt
        exact absurd (hq t ht) hqt
    · have := (sgb_q i hi).2.1
      dsimp only
      constructor
      · exact fun z => z.elim
      · intro z; omega
  · intro m t q ht hq hK
    rw [wX_possibleSurvivors_2]
    refine br_f (nI_ge (b := 32) ht (by decide)) ⟨vp_in_nI ht (by decide), nm_r (e' := upd q t 0) (by rw [nI_clamp (by omega), nb0]) (nm_r (nI_1 t) (hK (upd q t 0) (fun j hj => ?_)))⟩
    by_cases e : j = t
    · subst e; exact pk_us
    · rw [pk_un e]; exact hq j (by omega)
theorem y_el {post : Int32 → SY → Prop} {v : SY} {n : Nat} {O : Nat → Nat} (h : zRY n O v) {r : Nat} (hr : r ≤ 2) (hp : ∀ w v', isSet w (fun c => EL n O r (2 ^ c)) → zRY n O v' → post w v') : wpY_eliminate post v (nI r) := by
  obtain ⟨yn, yc, yo, yp, ym, ys, yl, yb, yw, yk, yt, yz, yx⟩ := v
  unfold wpY_eliminate
  dsimp only
  refine pk_loop (σ := Nat → Int32) (fun m t q => wY_eliminate_2 post (nI r) yn yc m (nI t) yo yp ym ys q yb yw yk yt yz yx) (fun t q => ∀ j, j < t → (q j ≠ 0 ↔ j = 31)) 32 0 yl (by omega) (fun j hj => by omega) ?_ ?_
  · intro m q hq
    rw [wY_eliminate_2]
    refine br_t (by decide) ⟨32, ?_⟩
    have key := pk_loopD (σ := SY) (fun m s x => wY_eliminate_34 post (nI r) m (nI s) x.1 x.2.1 x.2.2.1 x.2.2.2.1 x.2.2.2.2.1 x.2.2.2.2.2.1 x.2.2.2.2.2.2.1 x.2.2.2.2.2.2.2.1 x.2.2.2.2.2.2.2.2.1 x.2.2.2.2.2.2.2.2.2.1 x.2.2.2.2.2.2.2.2.2.2.1 x.2.2.2.2.2.2.2.2.2.2.2.1 x.2.2.2.2.2.2.2.2.2.2.2.2)
      (fun s x => s < 32 ∧ zRY n O x ∧ elI n O r s (x.2.2.2.2.2.2.1))
      (by
        rintro m ⟨yn', yc', yo', yp', ym', ys', yl', yb', yw', yk', yt', yz', yx'⟩ ⟨_, hY, he⟩
        dsimp only at he ⊢
        rw [wY_eliminate_34]
        refine br_t (by decide) ?_
        refine pk_loop (σ := Int32) (fun m' c w => wY_eliminate_71 post yn' yc' yo' yp' ym' ys' yl' yb' yw' yk' yt' yz' yx' m' w (nI c)) (fun c w => isSet w (fun i => i < c ∧ EL n O r (2 ^ i))) 5 0 0 (by omega) (vb_congr vb_empty (fun i _ => by simp)) ?_ ?_
        · intro m' w hw
          rw [wY_eliminate_71]
          exact br_t (by decide) (hp w _ (vb_congr hw (fun i hi => by simp [hi])) hY)
        · intro m' c w hc hw hK
          rw [wY_eliminate_71]
          have hg := sgb_q c hc
          refine br_f (nI_ge (b := 5) hc (by decide)) ⟨by rw [hg.2.2]; exact vp_in_nI hg.2.1 (by decide), ?_⟩
          have hz : (yl' ((1 : Int32) <<< (nI c &&& 31)).toNatClampNeg = 0) ↔ ¬ EL n O r (2 ^ c) := by
            rw [hg.2.2, nI_clamp (by omega), ← el_end he hg.2.1]
            simp
          refine br_c (fun e => nm_r (nI_1 c) (hK w (vb_congr hw (fun i hi => ?_)))) (fun e => nm_e (nm_r (nI_1 c) (hK _ (vb_congr (vb_ins hw hc) (fun i hi => ?_)))))
          · refine ⟨fun a => ⟨by omega, a.2⟩, fun a => ⟨?_, a.2⟩⟩
            by_cases e2 : i = c
            · subst e2; exact absurd a.2 (hz.mp e)
            · omega
          · constructor
            · rintro (a | rfl)
              · exact ⟨by omega, a.2⟩
              · refine ⟨by omega, ?_⟩
                by_cases e2 : EL n O r (2 ^ i)
                · exact e2
                · exact absurd (hz.mpr e2) e
            · rintro ⟨a, b⟩
              by_cases e2 : i = c
              · exact Or.inr e2
              · exact Or.inl ⟨by omega, b⟩)
      (by
        rintro m s ⟨yn', yc', yo', yp', ym', ys', yl', yb', yw', yk', yt', yz', yx'⟩ ⟨hs, hY, he⟩ hK
        dsimp only at he hK ⊢
        rw [wY_eliminate_34]
        refine br_f (nI_nle (by omega) (by omega)) ⟨vp_in_nI hs (by decide), ?_⟩
        rw [nI_clamp (by omega)]
        refine br_c (fun hz => nm_r (pk_m1 s) (hK (yn', yc', yo', yp', ym', ys', yl', yb', yw', yk', yt', yz', yx') ⟨by omega, hY, el_skip he (Or.inl hz)⟩)) (fun hz => ?_)
        have hsg := sgb_Y (s + 1) hs (by omega)
        refine br_c (fun e => nm_r (pk_m1 s) (hK (yn', yc', yo', yp', ym', ys', yl', yb', yw', yk', yt', yz', yx') ⟨by omega, hY, el_skip he (Or.inr (hsg.mp e))⟩)) (fun e => ?_)
        have hg : sgb (s + 1) = false := by
          cases hgg : sgb (s + 1)
          · rfl
          · exact absurd (hsg.mpr hgg) e
        exact y_sh hY hr hs (by omega) (fun q' hgo => nm_r (pk_m1 s) (hK (yn', yc', yo', yp', ym', ys', q', yb', yw', yk', yt', yz', yx') ⟨by omega, hY, el_go hs he hz hg hgo⟩)))
    refine key 31 (yn, yc, yo, yp, ym, ys, q, yb, yw, yk, yt, yz, yx) ⟨by omega, h, ⟨fun t ht hqt => ?_, (hq 31 (by omega)).mpr rfl, fun t h1 h2 => by omega⟩⟩
    have e := (hq t ht).mp hqt
    subst e
    exact fun F h31 _ => h31
  · intro m t q ht hq hK
    rw [wY_eliminate_2]
    refine br_f (nI_ge (b := 32) ht (by decide)) (pk_eq t 31 (fun e => ?_) (fun e => ?_))
    · refine ⟨vp_in_nI ht (by decide), nm_r (e' := upd q t 1) (by rw [nI_clamp (by omega), nb1]) (nm_r (nI_1 t) (hK (upd q t 1) (fun j hj => ?_)))⟩
      by_cases e2 : j = t
      · subst e2; rw [pk_us]; simp [e]
      · rw [pk_un e2]; exact hq j (by omega)
    · refine ⟨vp_in_nI ht (by decide), nm_r (e' := upd q t 0) (by rw [nI_clamp (by omega), nb0]) (nm_r (nI_1 t) (hK (upd q t 0) (fun j hj => ?_)))⟩
      by_cases e2 : j = t
      · subst e2; rw [pk_us]; simp [e]
      · rw [pk_un e2]; exact hq j (by omega)
