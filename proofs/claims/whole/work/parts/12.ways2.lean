/-! ===== strongest ways: both walks; rules 9 and 12; strength ===== -/
theorem mp_I {n : Nat} {O : Nat → Nat} {a b : Nat} : mp n O a b = if 0 < Mg n O a b then Mg n O a b else 0 := rfl
theorem x_fs {post : SX → Prop} {xc : Int32} {xo xr xp xm xb xs xq xn xu xl xg xk xt xw xv : Nat → Int32} {n : Nat} {O : Nat → Nat} (h : zRX n O (xc, xo, xr, xp, xm, xb, xs, xq, xn, xu, xl, xg, xk, xt, xw, xv)) (hp : ∀ s' : Nat → Int32, stA n O s' → post (xc, xo, xr, xp, xm, xb, s', xq, xn, xu, xl, xg, xk, xt, xw, xv)) : wpX_findStrongestWays post (xc, xo, xr, xp, xm, xb, xs, xq, xn, xu, xl, xg, xk, xt, xw, xv) := by
  have hn := h.1.1
  unfold wpX_findStrongestWays
  dsimp only
  refine pk_loop (σ := Nat → Int32) (fun m j s => wX_findStrongestWays_2 post xc m (nI j) xo xr xp xm xb s xq xn xu xl xg xk xt xw xv) (fun j s => ∀ q, q < j → s q = iI (mp n O (q / 5) (q % 5))) 25 0 xs (by omega) (fun q hq => by omega) ?_ ?_
  · intro m s0 hs0
    rw [wX_findStrongestWays_2]
    refine br_t (by decide) ?_
    refine pk_loop (σ := Nat → Int32) (fun m k s => wX_findStrongestWays_41 post xc m (nI k) xo xr xp xm xb s xq xn xu xl xg xk xt xw xv) (fun k s => ∃ S, arr s S ∧ fwI n O k S) 5 0 s0 (by omega) ?_ ?_ ?_
    · refine ⟨mp n O, fun a b ha hb => ?_, fun a b ha hb => ⟨(mp_bd hn O a b).1, (mp_bd hn O a b).2, Int.le_refl _, fun T hT => (hT a b ha hb).1, fun c hc => by omega⟩⟩
      have := hs0 (5 * a + b) (by omega)
      rw [show (5 * a + b) / 5 = a from by omega, show (5 * a + b) % 5 = b from by omega] at this
      exact this
    · rintro m s ⟨S, hA, hF⟩
      rw [wX_findStrongestWays_41]
      exact br_t (by decide) (hp s (fw_end hA hF))
    · rintro m k s hk ⟨S, hA, hF⟩ hK
      rw [wX_findStrongestWays_41]
      refine br_f (nI_ge (b := 5) hk (by decide)) ?_
      refine pk_loop (σ := Nat → Int32) (fun m' a s => wX_findStrongestWays_48 post (wX_findStrongestWays_41 post xc m) (nI k) xc m' (nI a) xo xr xp xm xb s xq xn xu xl xg xk xt xw xv) (fun a s => arr s (fun x y => if x < a then fst5 S k x y else S x y)) 5 0 s (by omega) (arr_congr hA (fun x y _ _ => (if_neg (by omega)).symm)) ?_ ?_
      · intro m' s' hs'
        rw [wX_findStrongestWays_48]
        exact br_t (by decide) (nm_r (nI_1 k) (hK s' ⟨fst5 S k, arr_congr hs' (fun x y hx _ => if_pos hx), fw_step hk hF⟩))
      · intro m' a s' ha hs' hK'
        rw [wX_findStrongestWays_48]
        refine br_f (nI_ge (b := 5) ha (by decide)) ?_
        refine pk_loop (σ := Nat → Int32) (fun m'' b s => wX_findStrongestWays_55 post (wX_findStrongestWays_41 post xc m) (wX_findStrongestWays_48 post (wX_findStrongestWays_41 post xc m) (nI k) xc m') (nI k) (nI a) xc m'' (nI b) xo xr xp xm xb s xq xn xu xl xg xk xt xw xv) (fun b s => arr s (fun x y => if x < a ∨ (x = a ∧ y < b) then fst5 S k x y else S x y)) 5 0 s' (by omega) (arr_congr hs' (fun x y _ _ => ?_)) ?_ ?_
        · by_cases e : x < a
          · rw [if_pos e, if_pos (Or.inl e)]
          · rw [if_neg e, if_neg (by omega)]
        · intro m'' s'' hs''
          rw [wX_findStrongestWays_55]
          refine br_t (by decide) (nm_r (nI_1 a) (hK' s'' (arr_congr hs'' (fun x y hx hy => ?_))))
          by_cases e : x < a + 1
          · rw [if_pos e, if_pos (by omega)]
          · rw [if_neg e, if_neg (by omega)]
        · intro m'' b s'' hb hs'' hK''
          rw [wX_findStrongestWays_55]
          have hva : s'' (5 * a + k) = iI (S a k) := by
            rw [hs'' a k ha hk]
            dsimp only
            by_cases e : a < a ∨ (a = a ∧ k < b)
            · rw [if_pos e, fst_row]
            · rw [if_neg e]
          have hvb : s'' (5 * k + b) = iI (S k b) := by
            rw [hs'' k b hk hb]
            dsimp only
            by_cases e : k < a ∨ (k = a ∧ b < b)
            · rw [if_pos e, fst_col]
            · rw [if_neg e]
          have hvc : s'' (5 * a + b) = iI (S a b) := by
            rw [hs'' a b ha hb]
            dsimp only
            rw [if_neg (by omega)]
          have bk := hF a k ha hk
          have kb := hF k b hk hb
          have ab := hF a b ha hb
          have fin : ∀ s3 : Nat → Int32, arr s3 (up2 (fun x y => if x < a ∨ (x = a ∧ y < b) then fst5 S k x y else S x y) a b (fst5 S k a b)) → arr s3 (fun x y => if x < a ∨ (x = a ∧ y < b + 1) then fst5 S k x y else S x y) := by
            intro s3 h3
            refine arr_congr h3 (fun x y hx hy => ?_)
            unfold up2
            by_cases e : x = a ∧ y = b
            · rw [if_pos e, if_pos (by omega), e.1, e.2]
            · rw [if_neg e]
              dsimp only
              by_cases e2 : x < a ∨ (x = a ∧ y < b)
              · rw [if_pos e2, if_pos (by omega)]
              · rw [if_neg e2, if_neg (by omega)]
          have keep : fst5 S k a b = S a b → arr s'' (fun x y => if x < a ∨ (x = a ∧ y < b + 1) then fst5 S k x y else S x y) := by
            intro e0
            refine arr_congr hs'' (fun x y hx hy => ?_)
            by_cases e : x = a ∧ y = b
            · rw [e.1, e.2, if_neg (by omega), if_pos (by omega), e0]
            · by_cases e2 : x < a ∨ (x = a ∧ y < b)
              · rw [if_pos e2, if_pos (by omega)]
              · rw [if_neg e2, if_neg (by omega)]
          refine br_f (nI_ge (b := 5) hb (by decide)) ⟨by rw [vn_5a]; exact vp_in_nI (by omega) (by decide), nm_r (e' := iI (S a k)) (by rw [vn_5a, nI_clamp (by omega), hva]) ⟨by rw [vn_5a]; exact vp_in_nI (by omega) (by decide), nm_r (e' := iI (S k b)) (by rw [vn_5a, nI_clamp (by omega), hvb]) (vi_le (S k b) (S a k) (fun hle => ?_) (fun hlt => ?_))⟩⟩
          · unfold wX_findStrongestWays_98
            rw [vn_5a, nI_clamp (by omega), hvc]
            refine ⟨vp_in_nI (by omega) (by decide), vi_le (S k b) (S a b) (fun hle2 => nm_r (nI_1 b) (hK'' s'' (keep ?_))) (fun hlt2 => ⟨vp_in_nI (by omega) (by decide), nm_e (nm_r (nI_1 b) (hK'' (upd s'' (5 * a + b) (iI (S k b))) (fin _ ?_)))⟩)⟩
            · have := fst_ge S k a b; omega
            · have e : fst5 S k a b = S k b := by unfold fst5; split <;> split <;> omega
              rw [e]; exact arr_up hs'' hb _
          · unfold wX_findStrongestWays_98
            rw [vn_5a, nI_clamp (by omega), hvc]
            refine ⟨vp_in_nI (by omega) (by decide), vi_le (S a k) (S a b) (fun hle2 => nm_r (nI_1 b) (hK'' s'' (keep ?_))) (fun hlt2 => ⟨vp_in_nI (by omega) (by decide), nm_e (nm_r (nI_1 b) (hK'' (upd s'' (5 * a + b) (iI (S a k))) (fin _ ?_)))⟩)⟩
            · have := fst_ge S k a b; omega
            · have e : fst5 S k a b = S a k := by unfold fst5; split <;> split <;> omega
              rw [e]; exact arr_up hs'' hb _
  · intro m j s hj hs hK
    rw [wX_findStrongestWays_2]
    have hm := h.2.1 (j / 5) (j % 5) (by omega) (by omega)
    rw [show 5 * (j / 5) + j % 5 = j from by omega] at hm
    dsimp only at hm
    have hbd := Mg_bd hn O (j / 5) (j % 5)
    refine br_f (nI_ge (b := 25) hj (by decide)) ⟨vp_in_nI hj (by decide), ?_⟩
    rw [nI_clamp (by omega), hm]
    have put : ∀ v : Int, v = mp n O (j / 5) (j % 5) → ∀ q, q < j + 1 → upd s j (iI v) q = iI (mp n O (q / 5) (q % 5)) := by
      intro v hv q hq
      by_cases e : q = j
      · subst e; rw [pk_us, hv]
      · rw [pk_un e]; exact hs q (by omega)
    refine vi_le (Mg n O (j / 5) (j % 5)) 0 (fun hle => ⟨vp_in_nI hj (by decide), nm_r (e' := upd s j (iI 0)) rfl (nm_r (nI_1 j) (hK (upd s j (iI 0)) (put 0 ?_)))⟩) (fun hlt => ⟨vp_in_nI hj (by decide), vp_in_nI hj (by decide), nm_r (e' := upd s j (iI (Mg n O (j / 5) (j % 5)))) rfl (nm_r (nI_1 j) (hK (upd s j (iI (Mg n O (j / 5) (j % 5)))) (put _ ?_)))⟩)
    · unfold mp; rw [if_neg (by omega)]
    · unfold mp; rw [if_pos hlt]
