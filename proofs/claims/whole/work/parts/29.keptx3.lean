/-! ===== rule 10: the component, end ===== -/
theorem x_h37 {post : Int32 → SX → Prop} {u : SX} {n : Nat} {O : Nat → Nat} {V : Nat → Int32} (h : zRV n O V u) (hp3 : prs n O 10 u.2.2.2.2.2.2.2.2.2.1 u.2.2.2.2.2.2.2.2.2.2.1 u.2.2.2.2.2.2.2.2.2.2.2.1) (hs : srI n O 0 u.2.2.2.2.2.2.2.2.2.2.2.2.1 0) (hp : ∀ w u', isSet w (W10 n O) → zRV n O V u' → post w u') : ∃ m, wX_headsOfKeptCouples_37 post m 0 0 u.1 u.2.1 u.2.2.1 u.2.2.2.1 u.2.2.2.2.1 u.2.2.2.2.2.1 u.2.2.2.2.2.2.1 u.2.2.2.2.2.2.2.1 u.2.2.2.2.2.2.2.2.1 u.2.2.2.2.2.2.2.2.2.1 u.2.2.2.2.2.2.2.2.2.2.1 u.2.2.2.2.2.2.2.2.2.2.2.1 u.2.2.2.2.2.2.2.2.2.2.2.2.1 u.2.2.2.2.2.2.2.2.2.2.2.2.2.1 u.2.2.2.2.2.2.2.2.2.2.2.2.2.2.1 u.2.2.2.2.2.2.2.2.2.2.2.2.2.2.2 := by
  have hn := h.1.1.1
  refine pk_loop (σ := Int32 × SX) (fun m k s => wX_headsOfKeptCouples_37 post m s.1 (nI k) s.2.1 s.2.2.1 s.2.2.2.1 s.2.2.2.2.1 s.2.2.2.2.2.1 s.2.2.2.2.2.2.1 s.2.2.2.2.2.2.2.1 s.2.2.2.2.2.2.2.2.1 s.2.2.2.2.2.2.2.2.2.1 s.2.2.2.2.2.2.2.2.2.2.1 s.2.2.2.2.2.2.2.2.2.2.2.1 s.2.2.2.2.2.2.2.2.2.2.2.2.1 s.2.2.2.2.2.2.2.2.2.2.2.2.2.1 s.2.2.2.2.2.2.2.2.2.2.2.2.2.2.1 s.2.2.2.2.2.2.2.2.2.2.2.2.2.2.2.1 s.2.2.2.2.2.2.2.2.2.2.2.2.2.2.2.2) (fun k s => zRV n O V s.2 ∧ prs n O 10 s.2.2.2.2.2.2.2.2.2.2.1 s.2.2.2.2.2.2.2.2.2.2.2.1 s.2.2.2.2.2.2.2.2.2.2.2.2.1 ∧ srI n O k s.2.2.2.2.2.2.2.2.2.2.2.2.2.1 s.1) 1024 0 (0, u) (by omega) ⟨h, hp3, hs⟩ ?_ ?_
  · rintro m ⟨w, ⟨xc', xo', xr', xp', xm', xb', xs', xq', xn', xu', xl', xg', xk', xt', xw', xv'⟩⟩ ⟨hX, _, hs⟩
    dsimp only at hs ⊢
    rw [wX_headsOfKeptCouples_37]
    exact br_t (by decide) (hp w _ (sr_fin hs) hX)
  · rintro m k ⟨w, ⟨xc', xo', xr', xp', xm', xb', xs', xq', xn', xu', xl', xg', xk', xt', xw', xv'⟩⟩ hk ⟨hX, hp3, hs⟩ hK
    dsimp only at hp3 hs hK ⊢
    rw [wX_headsOfKeptCouples_37]
    refine br_f (nI_ge (b := 1024) hk (by decide)) ⟨vp_in_nI hk (by decide), ?_⟩
    rw [nI_clamp (by omega)]
    refine br_c (fun hz => nm_r (nI_1 k) (hK (w, (xc', xo', xr', xp', xm', xb', xs', xq', xn', xu', xl', xg', xk', xt', xw', xv')) ⟨hX, hp3, sr_skip hs hz⟩)) (fun hz => x_fw hp3 hk (fun t' ht => ?_))
    refine x_gom hn hp3 hk ht (fun hno => br_t rfl ?_) (fun f hf ho hm => ?_)
    · exact x_low hp3 hk (fun r hr => nm_e (nm_r (nI_1 k) (hK (w ||| (31 &&& (r ^^^ (-1))), (xc', xo', xr', xp', xm', xb', xs', xq', xn', xu', xl', xg', xk', t', xw', xv')) ⟨rv_any hX, hp3, sr_end1 hs hz hno hr⟩)))
    · have hb := Mg_bd hn O (prU n O f) (prL n O f)
      have hpos := ho.1
      refine vi_eq (Mg n O (prU n O f) (prL n O f)) 0 (fun e => by omega) (fun _ => ?_)
      exact x_kp hn hp3 hk ht hb (fun q' hq' => nm_r (nI_1 k) (hK (w, (xc', xo', xr', xp', xm', xb', xs', xq', xn', xu', xl', xg', q', t', xw', xv')) ⟨rv_any hX, hp3, sr_go hk hs hz hf ho hm hq'⟩))
theorem x_w10 {post : Int32 → SX → Prop} {u : SX} {n : Nat} {O : Nat → Nat} {V : Nat → Int32} (h : zRV n O V u) (hp : ∀ w u', isSet w (W10 n O) → zRV n O V u' → post w u') : wpX_headsOfKeptCouples post u := by
  obtain ⟨xc, xo, xr, xp, xm, xb, xs, xq, xn, xu, xl, xg, xk, xt, xw, xv⟩ := u
  unfold wpX_headsOfKeptCouples
  dsimp only
  refine x_lp h.1 (fun u' l' g' hp3 => ?_)
  refine pk_loop (σ := Nat → Int32) (fun m t q => wX_headsOfKeptCouples_6 post xc m (nI t) xo xr xp xm xb xs xq xn u' l' g' q xt xw xv) (fun t q => ∀ j, j < t → q j = 0) 1024 0 xk (by omega) (fun j hj => by omega) ?_ ?_
  · intro m q hq
    rw [wX_headsOfKeptCouples_6]
    refine br_t (by decide) (nm_r (e' := upd q 0 1) (by rw [nb1]) ?_)
    refine x_h37 (u := (xc, xo, xr, xp, xm, xb, xs, xq, xn, u', l', g', (upd q 0 1), xt, xw, xv)) (rv_any h) hp3 ⟨fun t ht hqt => ?_, ?_, fun t f ht => by omega, vb_congr vb_empty (fun c _ => ⟨fun z => z.elim, fun ⟨t, ht, _⟩ => by omega⟩)⟩ hp
    · by_cases e : t = 0
      · subst e; exact xIv_0
      · dsimp only at hqt
        rw [pk_un e] at hqt
        exact absurd (hq t ht) hqt
    · dsimp only; rw [pk_us]; decide
  · intro m t q ht hq hK
    rw [wX_headsOfKeptCouples_6]
    refine br_f (nI_ge (b := 1024) ht (by decide)) ⟨vp_in_nI ht (by decide), nm_r (e' := upd q t 0) (by rw [nI_clamp (by omega), nb0]) (nm_r (nI_1 t) (hK (upd q t 0) (fun j hj => ?_)))⟩
    by_cases e : j = t
    · subst e; exact pk_us
    · rw [pk_un e]; exact hq j (by omega)
