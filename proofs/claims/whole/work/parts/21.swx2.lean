/-! ===== swaps: the component's main loops ===== -/
def Qt (O : Nat → Nat) (c : Nat) (st : Nat → Nat) (i t : Nat) (w : Nat → Nat) (k : Nat) : Prop := RC O c st i w k ∨ ∃ (w' : Nat → Nat) (k' up : Nat), e8 w' < t ∧ RC O c st i w' k' ∧ 1 ≤ up ∧ up ≤ plc (O i) c ∧ k = k' + up ∧ ∀ j, j < 4 → w j = mv (O i) c up w' j
theorem mv_congr {o c up : Nat} {w w' : Nat → Nat} {j : Nat} (h : w j = w' j) : mv o c up w j = mv o c up w' j := by
  unfold mv; rw [h]
theorem Qt_end {O : Nat → Nat} {c : Nat} {st : Nat → Nat} {i : Nat} {A : Nat → Int32} (h : okX A (Qt O c st i (e8 st + 1))) : okX A (RC O c st (i + 1)) := by
  refine ok_conv h (fun w _ k hk => ?_) (fun w _ k hk => ⟨k, Nat.le_refl _, ?_⟩)
  · rcases hk with hk | ⟨w', k', up, a, b, d, e, f, g⟩
    · exact ⟨w, k, 0, hk, Nat.zero_le _, rfl, fun j _ => (mv_0 _ _ _ j).symm⟩
    · exact ⟨w', k', up, b, e, f, g⟩
  · obtain ⟨w', k', up, a, b, d, e⟩ := hk
    by_cases h0 : up = 0
    · subst h0
      refine Or.inl ?_
      rw [d]
      exact RC_congr a (fun j hj => by rw [e j hj, mv_0])
    · refine Or.inr ⟨w', k', up, ?_, a, by omega, b, d, e⟩
      have := e8_le (RC_bd a).1
      omega
theorem Qt_0 {O : Nat → Nat} {c : Nat} {st : Nat → Nat} {i : Nat} {A : Nat → Int32} (h : okX A (RC O c st i)) : okX A (Qt O c st i 0) :=
  ok_conv h (fun w _ k hk => Or.inl hk) (fun w _ k hk => ⟨k, Nat.le_refl _, hk.elim id (fun ⟨w', k', up, a, _⟩ => by omega)⟩)
theorem Qt_self {O : Nat → Nat} {c : Nat} {st : Nat → Nat} {i : Nat} {w : Nat → Nat} {k : Nat} (h : Qt O c st i (e8 w) w k) : RC O c st i w k := by
  rcases h with h | ⟨w', k', up, a, b, d, e, f, g⟩
  · exact h
  · have : e8 w ≤ e8 w' := e8_le fun j hj => by rw [g j hj]; exact mv_le _ _ _ _ _
    omega
/-- a state that nothing comes to is passed over -/
theorem Qt_skip {O : Nat → Nat} {c : Nat} {st : Nat → Nat} {i t : Nat} {A : Nat → Int32} (h : okX A (Qt O c st i t)) (hno : ∀ w k, e8 w = t → ¬ RC O c st i w k) : okX A (Qt O c st i (t + 1)) := by
  refine ok_conv h (fun w _ k hk => ?_) (fun w _ k hk => ⟨k, Nat.le_refl _, ?_⟩)
  · rcases hk with hk | ⟨w', k', up, a, b⟩
    · exact Or.inl hk
    · exact Or.inr ⟨w', k', up, by omega, b⟩
  · rcases hk with hk | ⟨w', k', up, a, b, d⟩
    · exact Or.inl hk
    · by_cases e : e8 w' = t
      · exact absurd b (hno w' k' e)
      · exact Or.inr ⟨w', k', up, by omega, b, d⟩
theorem Qt_go {O : Nat → Nat} {c : Nat} {st : Nat → Nat} (hst : dig st) {i : Nat} {w0 : Nat → Nat} (hw0 : dig w0) {z : Nat} {A : Nat → Int32} (hz : RC O c st i w0 z) (hm : ∀ z', RC O c st i w0 z' → z ≤ z')
    (h : okX A (fun w k => Qt O c st i (e8 w0) w k ∨ ∃ u, 1 ≤ u ∧ u ≤ plc (O i) c ∧ k = z + u ∧ ∀ j, j < 4 → w j = mv (O i) c u w0 j)) : okX A (Qt O c st i (e8 w0 + 1)) := by
  refine ok_conv h (fun w _ k hk => ?_) (fun w _ k hk => ?_)
  · rcases hk with (hk | ⟨w', k', up, a, b⟩) | ⟨u, a, b, d, e⟩
    · exact Or.inl hk
    · exact Or.inr ⟨w', k', up, by omega, b⟩
    · exact Or.inr ⟨w0, z, u, by omega, hz, a, b, d, e⟩
  · rcases hk with hk | ⟨w', k', up, a, b, d, e, f, g⟩
    · exact ⟨k, Nat.le_refl _, Or.inl (Or.inl hk)⟩
    · by_cases e2 : e8 w' = e8 w0
      · have hd : dig w' := fun j hj => Nat.le_trans ((RC_bd b).1 j hj) (hst j hj)
        have hj := e8_inj hd hw0 e2
        have := hm k' (RC_congr b hj)
        exact ⟨z + up, by omega, Or.inr ⟨up, d, e, rfl, fun j hj4 => by rw [g j hj4]; exact mv_congr (hj j hj4)⟩⟩
      · exact ⟨k, Nat.le_refl _, Or.inl (Or.inr ⟨w', k', up, by omega, b, d, e, f, g⟩)⟩
theorem i_1M : nI 1000000 = 1000000 := by decide
theorem x_f60 {post : Int32 → SX → Prop} {J : Int32 → Int32 → (Nat → Int32) → (Nat → Int32) → (Nat → Int32) → (Nat → Int32) → (Nat → Int32) → (Nat → Int32) → (Nat → Int32) → (Nat → Int32) → (Nat → Int32) → (Nat → Int32) → (Nat → Int32) → (Nat → Int32) → (Nat → Int32) → (Nat → Int32) → (Nat → Int32) → Prop} {u : SX} {n : Nat} {O : Nat → Nat} {V : Nat → Int32} (h : zRV n O V u) {c i : Nat} (hc : c < 5) (hi : i < n) {st : Nat → Nat} (hst : dig st) (hok : okX u.2.2.2.2.2.2.2.2.2.2.2.2.2.2.1 (RC O c st i))
    (hp : ∀ u', zRV n O V u' → okX u'.2.2.2.2.2.2.2.2.2.2.2.2.2.2.1 (RC O c st (i + 1)) → J (nI (i + 1)) u'.1 u'.2.1 u'.2.2.1 u'.2.2.2.1 u'.2.2.2.2.1 u'.2.2.2.2.2.1 u'.2.2.2.2.2.2.1 u'.2.2.2.2.2.2.2.1 u'.2.2.2.2.2.2.2.2.1 u'.2.2.2.2.2.2.2.2.2.1 u'.2.2.2.2.2.2.2.2.2.2.1 u'.2.2.2.2.2.2.2.2.2.2.2.1 u'.2.2.2.2.2.2.2.2.2.2.2.2.1 u'.2.2.2.2.2.2.2.2.2.2.2.2.2.1 u'.2.2.2.2.2.2.2.2.2.2.2.2.2.2.1 u'.2.2.2.2.2.2.2.2.2.2.2.2.2.2.2) : ∃ m, wX_fewestSwaps_60 post J (nI c) (nI (e8 st)) (nI i) m 0 u.1 u.2.1 u.2.2.1 u.2.2.2.1 u.2.2.2.2.1 u.2.2.2.2.2.1 u.2.2.2.2.2.2.1 u.2.2.2.2.2.2.2.1 u.2.2.2.2.2.2.2.2.1 u.2.2.2.2.2.2.2.2.2.1 u.2.2.2.2.2.2.2.2.2.2.1 u.2.2.2.2.2.2.2.2.2.2.2.1 u.2.2.2.2.2.2.2.2.2.2.2.2.1 u.2.2.2.2.2.2.2.2.2.2.2.2.2.1 u.2.2.2.2.2.2.2.2.2.2.2.2.2.2.1 u.2.2.2.2.2.2.2.2.2.2.2.2.2.2.2 := by
  have hn := h.1.1.1
  have hl := e8_lt hst
  refine pk_loop (σ := SX) (fun m' t s => wX_fewestSwaps_60 post J (nI c) (nI (e8 st)) (nI i) m' (nI t) s.1 s.2.1 s.2.2.1 s.2.2.2.1 s.2.2.2.2.1 s.2.2.2.2.2.1 s.2.2.2.2.2.2.1 s.2.2.2.2.2.2.2.1 s.2.2.2.2.2.2.2.2.1 s.2.2.2.2.2.2.2.2.2.1 s.2.2.2.2.2.2.2.2.2.2.1 s.2.2.2.2.2.2.2.2.2.2.2.1 s.2.2.2.2.2.2.2.2.2.2.2.2.1 s.2.2.2.2.2.2.2.2.2.2.2.2.2.1 s.2.2.2.2.2.2.2.2.2.2.2.2.2.2.1 s.2.2.2.2.2.2.2.2.2.2.2.2.2.2.2) (fun t s => zRV n O V s ∧ okX s.2.2.2.2.2.2.2.2.2.2.2.2.2.2.1 (Qt O c st i t)) (e8 st + 1) 0 u (by omega) ⟨h, Qt_0 hok⟩ ?_ ?_
  · rintro m' ⟨xc'', xo'', xr'', xp'', xm'', xb'', xs'', xq'', xn'', xu'', xl'', xg'', xk'', xt'', xw'', xv''⟩ ⟨hX2, hok2⟩
    dsimp only at hok2 ⊢
    rw [wX_fewestSwaps_60]
    exact br_t (nI_lt (by omega) (by omega)) (nm_r (nI_1 i) (hp (xc'', xo'', xr'', xp'', xm'', xb'', xs'', xq'', xn'', xu'', xl'', xg'', xk'', xt'', xw'', xv'') hX2 (Qt_end hok2)))
  · rintro m' t ⟨xc'', xo'', xr'', xp'', xm'', xb'', xs'', xq'', xn'', xu'', xl'', xg'', xk'', xt'', xw'', xv''⟩ ht ⟨hX2, hok2⟩ hK'
    dsimp only at hok2 hK' ⊢
    rw [wX_fewestSwaps_60]
    refine br_f (nI_nlt (by omega) (by omega)) ⟨vp_in_nI (by omega) (by decide), ?_⟩
    rw [nI_clamp (by omega), ← i_1M]
    by_cases hv : ∃ w0, dig w0 ∧ e8 w0 = t
    · obtain ⟨w0, hw0, e0⟩ := hv
      subst e0
      rcases hok2.1 w0 hw0 with ⟨z, a, b, d, f⟩ | ⟨a, b⟩
      · have hz := Qt_self d
        have hz2 := (RC_bd hz).2
        refine br_f (by rw [b]; exact nI_ge (by omega) (by decide)) ?_
        refine x_mf hX2.1 hi hc hw0 (z := z) (by omega) b hok2 (fun A' hA' => nm_r (nI_1 _) (hK' (xc'', xo'', xr'', xp'', xm'', xb'', xs'', xq'', xn'', xu'', xl'', xg'', xk'', xt'', A', xv'') ⟨rv_any hX2, Qt_go hst hw0 hz (fun z' hz' => f z' (Or.inl hz')) hA'⟩))
      · exact br_t (by rw [a]; exact nI_le (Nat.le_refl _) (by decide)) (nm_r (nI_1 _) (hK' (xc'', xo'', xr'', xp'', xm'', xb'', xs'', xq'', xn'', xu'', xl'', xg'', xk'', xt'', xw'', xv'') ⟨hX2, Qt_skip hok2 (fun w k ew hr => b k (Or.inl (RC_congr hr (e8_inj (fun j hj => Nat.le_trans ((RC_bd hr).1 j hj) (hst j hj)) hw0 ew))))⟩))
    · exact br_t (by rw [hok2.2 t (by omega) (fun w hw ew => hv ⟨w, hw, ew⟩)]; exact nI_le (Nat.le_refl _) (by decide)) (nm_r (nI_1 _) (hK' (xc'', xo'', xr'', xp'', xm'', xb'', xs'', xq'', xn'', xu'', xl'', xg'', xk'', xt'', xw'', xv'') ⟨hX2, Qt_skip hok2 (fun w k ew hr => hv ⟨w, fun j hj => Nat.le_trans ((RC_bd hr).1 j hj) (hst j hj), ew⟩)⟩))
theorem x_f49 {post : Int32 → SX → Prop} {u : SX} {n : Nat} {O : Nat → Nat} {V : Nat → Int32} (h : zRV n O V u) {c : Nat} (hc : c < 5) (h0 : 0 < n) (hok : okX u.2.2.2.2.2.2.2.2.2.2.2.2.2.2.1 (RC O c (stn n O c) 0)) (hp : ∀ z u', isSw n O c z → zRV n O V u' → post (iI z) u') : ∃ m, wX_fewestSwaps_49 post (nI c) (nI (e8 (stn n O c))) m 0 u.1 u.2.1 u.2.2.1 u.2.2.2.1 u.2.2.2.2.1 u.2.2.2.2.2.1 u.2.2.2.2.2.2.1 u.2.2.2.2.2.2.2.1 u.2.2.2.2.2.2.2.2.1 u.2.2.2.2.2.2.2.2.2.1 u.2.2.2.2.2.2.2.2.2.2.1 u.2.2.2.2.2.2.2.2.2.2.2.1 u.2.2.2.2.2.2.2.2.2.2.2.2.1 u.2.2.2.2.2.2.2.2.2.2.2.2.2.1 u.2.2.2.2.2.2.2.2.2.2.2.2.2.2.1 u.2.2.2.2.2.2.2.2.2.2.2.2.2.2.2 := by
  have hn := h.1.1.1
  have hst := stn_5 hn O c
  have hO : ∀ i, i < n → isr (O i) = true := fun i hi => (h.1.1.2.2 i hi).1
  refine pk_loop (σ := SX) (fun m i s => wX_fewestSwaps_49 post (nI c) (nI (e8 (stn n O c))) m (nI i) s.1 s.2.1 s.2.2.1 s.2.2.2.1 s.2.2.2.2.1 s.2.2.2.2.2.1 s.2.2.2.2.2.2.1 s.2.2.2.2.2.2.2.1 s.2.2.2.2.2.2.2.2.1 s.2.2.2.2.2.2.2.2.2.1 s.2.2.2.2.2.2.2.2.2.2.1 s.2.2.2.2.2.2.2.2.2.2.2.1 s.2.2.2.2.2.2.2.2.2.2.2.2.1 s.2.2.2.2.2.2.2.2.2.2.2.2.2.1 s.2.2.2.2.2.2.2.2.2.2.2.2.2.2.1 s.2.2.2.2.2.2.2.2.2.2.2.2.2.2.2) (fun i s => zRV n O V s ∧ okX s.2.2.2.2.2.2.2.2.2.2.2.2.2.2.1 (RC O c (stn n O c) i)) n 0 u (by omega) ⟨h, hok⟩ ?_ ?_
  · rintro m ⟨xc', xo', xr', xp', xm', xb', xs', xq', xn', xu', xl', xg', xk', xt', xw', xv'⟩ ⟨hX, hok⟩
    dsimp only at hok ⊢
    have hc' := hX.1.1.2.1
    dsimp only at hc'
    subst hc'
    rw [wX_fewestSwaps_49]
    refine br_t (nI_le (Nat.le_refl _) (by omega)) ?_
    obtain ⟨z, ez, hz⟩ := sw_fin h0 hO hc (E := e8) rfl hok
    rw [ez]
    exact hp z _ hz hX
  · rintro m i ⟨xc', xo', xr', xp', xm', xb', xs', xq', xn', xu', xl', xg', xk', xt', xw', xv'⟩ hi ⟨hX, hok⟩ hK
    dsimp only at hok hK ⊢
    have hc' := hX.1.1.2.1
    dsimp only at hc'
    subst hc'
    rw [wX_fewestSwaps_49]
    exact br_f (nI_ge hi (by omega)) (x_f60 (u := ((nI n), xo', xr', xp', xm', xb', xs', xq', xn', xu', xl', xg', xk', xt', xw', xv')) hX hc hi hst hok (fun u' hX' hok' => hK u' ⟨hX', hok'⟩))
theorem x_fsw {post : Int32 → SX → Prop} {u : SX} {n : Nat} {O : Nat → Nat} {V : Nat → Int32} (h : zRV n O V u) {c : Nat} (hc : c < 5) (hp : ∀ z u', isSw n O c z → zRV n O V u' → post (iI z) u') : wpX_fewestSwaps post u (nI c) := by
  obtain ⟨xc, xo, xr, xp, xm, xb, xs, xq, xn, xu, xl, xg, xk, xt, xw, xv⟩ := u
  have hn := h.1.1.1
  have h1 := h.1.1.2.1
  dsimp only at h1
  have hst := stn_5 hn O c
  have hl := e8_lt hst
  unfold wpX_fewestSwaps
  dsimp only
  refine pk_eq n 0 (fun e => ?_) (fun e => ?_) h1
  · have := hp (-1002) _ (Or.inl ⟨e, rfl⟩) h
    rw [show iI (-1002) = -1002 from by decide] at this
    exact this
  · refine pk_loop (σ := Nat → Int32) (fun m t A => wX_fewestSwaps_13 post (nI c) xc m (nI t) xo xr xp xm xb xs xq xn xu xl xg xk xt A xv) (fun t A => ∀ j, j < t → A j = nI 1000000) 4096 0 xw (by omega) (fun j hj => by omega) ?_ ?_
    · intro m A hA
      rw [wX_fewestSwaps_13]
      refine br_t (nI_le (a := 4096) (Nat.le_refl _) (by decide)) (x_nd (n := n) (O := O) ?_ hc ?_)
      · exact rx_any h.1
      refine ⟨vp_in_nI hl (by decide), nm_r (e' := upd A (e8 (stn n O c)) (nI 0)) (by rw [nI_clamp (by omega), nI_0]) ?_⟩
      refine x_f49 (u := (xc, xo, xr, xp, xm, xb, xs, xq, xn, xu, xl, xg, xk, xt, (upd A (e8 (stn n O c)) (nI 0)), xv)) (rv_any h) hc (by omega) ?_ hp
      refine ⟨fun w hw => ?_, fun t ht hno => ?_⟩
      · dsimp only
        by_cases ew : e8 w = e8 (stn n O c)
        · rw [ew, pk_us]
          exact Or.inl ⟨0, by omega, rfl, ⟨e8_inj hw hst ew, rfl⟩, fun z' _ => Nat.zero_le _⟩
        · rw [pk_un ew, hA _ (e8_lt hw)]
          exact Or.inr ⟨rfl, fun z' hz' => ew (e8_congr hz'.1)⟩
      · dsimp only
        rw [pk_un (fun z => hno _ hst z.symm), hA t ht]
    · intro m t A ht hA hK
      rw [wX_fewestSwaps_13]
      refine br_f (nI_ge (b := 4096) ht (by decide)) ⟨vp_in_nI ht (by decide), nm_r (e' := upd A t (nI 1000000)) (by rw [nI_clamp (by omega), i_1M]) (nm_r (nI_1 t) (hK (upd A t (nI 1000000)) (fun j hj => ?_)))⟩
      by_cases ej : j = t
      · subst ej; exact pk_us
      · rw [pk_un ej]; exact hA j (by omega)
