/-! ===== rules 15 and 16 ===== -/
def eff (n : Nat) (O : Nat → Nat) (r c : Nat) (z : Int) : Prop := (r = 15 → isSw n O c z) ∧ (r = 16 → isRem n O c z)
theorem eff_u {n : Nat} {O : Nat → Nat} {r c : Nat} {z z' : Int} (hr : r = 15 ∨ r = 16) (h : eff n O r c z) (h' : eff n O r c z') : z = z' := by
  rcases hr with e | e
  · exact isSw_u (h.1 e) (h'.1 e)
  · exact isRem_u (h.2 e) (h'.2 e)
theorem eff_bd {n : Nat} {O : Nat → Nat} {r c : Nat} {z : Int} (hr : r = 15 ∨ r = 16) (h : eff n O r c z) : z = -1002 ∨ (0 ≤ z ∧ z < 1000) := by
  rcases hr with e | e
  · rcases h.1 e with ⟨_, a⟩ | ⟨_, k, a, b, _⟩
    · exact Or.inl a
    · exact Or.inr (by omega)
  · rcases h.2 e with ⟨a, _⟩ | ⟨a, b, _⟩
    · exact Or.inl a
    · exact Or.inr (by omega)
def WE (n : Nat) (O : Nat → Nat) (r c : Nat) : Prop := (∀ d, d < 5 → eff n O r d (-1002)) ∨ ∃ z, eff n O r c z ∧ z ≠ -1002 ∧ ∀ d, d < 5 → ∀ z', eff n O r d z' → z' ≠ -1002 → z ≤ z'
def efN (n : Nat) (O : Nat → Nat) (r c : Nat) : Prop := ∀ d, d < c → eff n O r d (-1002)
def efI (n : Nat) (O : Nat → Nat) (r c : Nat) (B : Int) (s : Int32) : Prop := (∃ i, i < c ∧ eff n O r i B) ∧ 0 ≤ B ∧ B < 1000 ∧ (∀ d, d < c → ∀ z, eff n O r d z → z ≠ -1002 → B ≤ z) ∧ isSet s (fun i => i < c ∧ eff n O r i B)
theorem ef_endN {n : Nat} {O : Nat → Nat} {r : Nat} (h : efN n O r 5) : isSet 31 (WE n O r) :=
  vb_congr vb_all (fun i _ => ⟨fun _ => Or.inl h, fun _ => trivial⟩)
theorem ef_end {n : Nat} {O : Nat → Nat} {r : Nat} {B : Int} {s : Int32} (hr : r = 15 ∨ r = 16) (h : efI n O r 5 B s) : isSet s (WE n O r) ∧ s ≠ 0 := by
  obtain ⟨⟨i0, a, b⟩, h1, h2, h3, h4⟩ := h
  constructor
  · refine vb_congr h4 (fun i hi => ⟨fun g => Or.inr ⟨B, g.2, by omega, h3⟩, ?_⟩)
    rintro (g | ⟨z, g1, g2, g3⟩)
    · have := eff_u hr b (g i0 a); omega
    · have e1 := g3 i0 a B b (by omega)
      have e2 := h3 i hi z g1 g2
      have : z = B := by omega
      exact ⟨hi, this ▸ g1⟩
  · intro e
    have := (h4 i0).mpr ⟨a, a, b⟩
    rw [e, b_0] at this; cases this
theorem ef_new {n : Nat} {O : Nat → Nat} {r c : Nat} {z : Int} (hr : r = 15 ∨ r = 16) (hc : c < 5) (hz : eff n O r c z) (h0 : 0 ≤ z) (h1 : z < 1000) (hlt : ∀ d, d < c → ∀ z', eff n O r d z' → z' ≠ -1002 → z < z') : efI n O r (c + 1) z (0 ||| ((1 : Int32) <<< (nI c &&& 31))) := by
  refine ⟨⟨c, by omega, hz⟩, h0, h1, fun d hd z' hz' hne => ?_, vb_congr (vb_ins vb_empty hc) (fun i hi => ⟨?_, ?_⟩)⟩
  · by_cases e : d = c
    · subst e; rw [eff_u hr hz hz']; exact Int.le_refl _
    · have := hlt d (by omega) z' hz' hne; omega
  · rintro (g | rfl)
    · exact g.elim
    · exact ⟨by omega, hz⟩
  · rintro ⟨g1, g2⟩
    by_cases e : i = c
    · exact Or.inr e
    · have := hlt i (by omega) z g2 (by omega); omega
theorem ef_same {n : Nat} {O : Nat → Nat} {r c : Nat} {B : Int} {s : Int32} (hr : r = 15 ∨ r = 16) (hc : c < 5) (h : efI n O r c B s) (hz : eff n O r c B) : efI n O r (c + 1) B (s ||| ((1 : Int32) <<< (nI c &&& 31))) := by
  obtain ⟨_, h1, h2, h3, h4⟩ := h
  refine ⟨⟨c, by omega, hz⟩, h1, h2, fun d hd z' hz' hne => ?_, vb_congr (vb_ins h4 hc) (fun i hi => ⟨?_, ?_⟩)⟩
  · by_cases e : d = c
    · subst e; rw [eff_u hr hz hz']; exact Int.le_refl _
    · exact h3 d (by omega) z' hz' hne
  · rintro (g | rfl)
    · exact ⟨by omega, g.2⟩
    · exact ⟨by omega, hz⟩
  · rintro ⟨g1, g2⟩
    by_cases e : i = c
    · exact Or.inr e
    · exact Or.inl ⟨by omega, g2⟩
theorem ef_more {n : Nat} {O : Nat → Nat} {r c : Nat} {B z : Int} {s : Int32} (hr : r = 15 ∨ r = 16) (h : efI n O r c B s) (hz : eff n O r c z) (hq : z = -1002 ∨ B < z) : efI n O r (c + 1) B s := by
  obtain ⟨⟨i0, a, b⟩, h1, h2, h3, h4⟩ := h
  refine ⟨⟨i0, by omega, b⟩, h1, h2, fun d hd z' hz' hne => ?_, vb_congr h4 (fun i hi => ⟨fun g => ⟨by omega, g.2⟩, fun g => ⟨?_, g.2⟩⟩)⟩
  · by_cases e : d = c
    · subst e
      have := eff_u hr hz hz'
      rcases hq with q | q <;> omega
    · exact h3 d (by omega) z' hz' hne
  · by_cases e : i = c
    · subst e
      have := eff_u hr hz g.2
      rcases hq with q | q <;> omega
    · omega
theorem ef_none {n : Nat} {O : Nat → Nat} {r c : Nat} (h : efN n O r c) (hz : eff n O r c (-1002)) : efN n O r (c + 1) := by
  intro d hd
  by_cases e : d = c
  · subst e; exact hz
  · exact h d (by omega)
theorem i_1002 : iI (-1002) = -1002 := by decide
theorem x_le {post : Int32 → SX → Prop} {u : SX} {n : Nat} {O : Nat → Nat} {V : Nat → Int32} (h : zRV n O V u) {r : Nat} (hr : r = 15 ∨ r = 16) (hp : ∀ w u', isSet w (WE n O r) → zRV n O V u' → post w u') : wpX_leastEffort post u (nI r) := by
  obtain ⟨xc, xo, xr, xp, xm, xb, xs, xq, xn, xu, xl, xg, xk, xt, xw, xv⟩ := u
  unfold wpX_leastEffort
  dsimp only
  refine pk_loop (σ := Int32 × Int32 × SX) (fun m c s => wX_leastEffort_10 post (nI r) m s.1 s.2.1 (nI c) s.2.2.1 s.2.2.2.1 s.2.2.2.2.1 s.2.2.2.2.2.1 s.2.2.2.2.2.2.1 s.2.2.2.2.2.2.2.1 s.2.2.2.2.2.2.2.2.1 s.2.2.2.2.2.2.2.2.2.1 s.2.2.2.2.2.2.2.2.2.2.1 s.2.2.2.2.2.2.2.2.2.2.2.1 s.2.2.2.2.2.2.2.2.2.2.2.2.1 s.2.2.2.2.2.2.2.2.2.2.2.2.2.1 s.2.2.2.2.2.2.2.2.2.2.2.2.2.2.1 s.2.2.2.2.2.2.2.2.2.2.2.2.2.2.2.1 s.2.2.2.2.2.2.2.2.2.2.2.2.2.2.2.2.1 s.2.2.2.2.2.2.2.2.2.2.2.2.2.2.2.2.2) (fun c s => zRV n O V s.2.2 ∧ ((s.1 = -1002 ∧ s.2.1 = 31 ∧ efN n O r c) ∨ ∃ B, s.1 = iI B ∧ efI n O r c B s.2.1)) 5 0 (-1002, 31, (xc, xo, xr, xp, xm, xb, xs, xq, xn, xu, xl, xg, xk, xt, xw, xv)) (by omega) ⟨h, Or.inl ⟨rfl, rfl, fun d hd => by omega⟩⟩ ?_ ?_
  · rintro m ⟨x2, x3, ⟨xc', xo', xr', xp', xm', xb', xs', xq', xn', xu', xl', xg', xk', xt', xw', xv'⟩⟩ ⟨hX, hs⟩
    dsimp only at hs ⊢
    rw [wX_leastEffort_10]
    refine br_t (by decide) ?_
    rcases hs with ⟨_, e, g⟩ | ⟨B, _, g⟩
    · subst e; exact hp _ _ (ef_endN g) hX
    · exact hp _ _ (ef_end hr g).1 hX
  · rintro m c ⟨x2, x3, ⟨xc', xo', xr', xp', xm', xb', xs', xq', xn', xu', xl', xg', xk', xt', xw', xv'⟩⟩ hc ⟨hX, hs⟩ hK
    dsimp only at hs hK ⊢
    rw [wX_leastEffort_10]
    have go : ∀ (z : Int) (u2 : SX), eff n O r c z → zRV n O V u2 → wX_leastEffort_37 post (wX_leastEffort_10 post (nI r) m) (nI r) x2 x3 (nI c) (iI z) u2.1 u2.2.1 u2.2.2.1 u2.2.2.2.1 u2.2.2.2.2.1 u2.2.2.2.2.2.1 u2.2.2.2.2.2.2.1 u2.2.2.2.2.2.2.2.1 u2.2.2.2.2.2.2.2.2.1 u2.2.2.2.2.2.2.2.2.2.1 u2.2.2.2.2.2.2.2.2.2.2.1 u2.2.2.2.2.2.2.2.2.2.2.2.1 u2.2.2.2.2.2.2.2.2.2.2.2.2.1 u2.2.2.2.2.2.2.2.2.2.2.2.2.2.1 u2.2.2.2.2.2.2.2.2.2.2.2.2.2.2.1 u2.2.2.2.2.2.2.2.2.2.2.2.2.2.2.2 := by
      rintro z ⟨xc'', xo'', xr'', xp'', xm'', xb'', xs'', xq'', xn'', xu'', xl'', xg'', xk'', xt'', xw'', xv''⟩ hz hX2
      have hzb := eff_bd hr hz
      unfold wX_leastEffort_37
      have new : (∀ d, d < c → ∀ z', eff n O r d z' → z' ≠ -1002 → z < z') → z ≠ -1002 → wX_leastEffort_60 post (wX_leastEffort_10 post (nI r) m) (nI r) (nI c) (iI z) xc'' xo'' xr'' xp'' xm'' xb'' xs'' xq'' xn'' xu'' xl'' xg'' xk'' xt'' xw'' xv'' := by
        intro hlt hne
        unfold wX_leastEffort_60 wX_leastEffort_65
        refine vi_eq z (-1002) (fun e => absurd e hne) (fun _ => br_t rfl (nm_e (nm_r (nI_1 c) (hK (iI z, 0 ||| ((1 : Int32) <<< (nI c &&& 31)), (xc'', xo'', xr'', xp'', xm'', xb'', xs'', xq'', xn'', xu'', xl'', xg'', xk'', xt'', xw'', xv'')) ⟨hX2, Or.inr ⟨z, rfl, ef_new hr hc hz (by omega) (by omega) hlt⟩⟩)))) rfl i_1002.symm
      refine vi_eq z (-1002) (fun e => ?_) (fun hne => ?_) rfl i_1002.symm
      · unfold wX_leastEffort_65
        refine br_t (by rw [e]; exact i_1002) (nm_r (nI_1 c) (hK (x2, x3, (xc'', xo'', xr'', xp'', xm'', xb'', xs'', xq'', xn'', xu'', xl'', xg'', xk'', xt'', xw'', xv'')) ⟨hX2, ?_⟩))
        rcases hs with ⟨e1, e2, g⟩ | ⟨B, e1, g⟩
        · exact Or.inl ⟨e1, e2, ef_none g (e ▸ hz)⟩
        · exact Or.inr ⟨B, e1, ef_more hr g hz (Or.inl e)⟩
      · rcases hs with ⟨e1, e2, g⟩ | ⟨B, e1, g⟩
        · subst e1
          exact br_t rfl (new (fun d hd z' hz' hne' => absurd (eff_u hr hz' (g d hd)) hne') hne)
        · subst e1
          obtain ⟨_, B0, B1, B2, _⟩ := id g
          refine vi_eq B (-1002) (fun e => by omega) (fun _ => vi_le B z (fun hle => ?_) (fun hlt => new (fun d hd z' hz' hne' => by have := B2 d hd z' hz' hne'; omega) hne)) rfl i_1002.symm
          unfold wX_leastEffort_65
          refine vi_eq z (-1002) (fun e => absurd e hne) (fun _ => vi_eq z B (fun e => ?_) (fun e => ?_)) rfl i_1002.symm
          · subst e
            exact nm_e (nm_r (nI_1 c) (hK (iI z, x3 ||| ((1 : Int32) <<< (nI c &&& 31)), (xc'', xo'', xr'', xp'', xm'', xb'', xs'', xq'', xn'', xu'', xl'', xg'', xk'', xt'', xw'', xv'')) ⟨hX2, Or.inr ⟨z, rfl, ef_same hr hc g hz⟩⟩))
          · exact nm_r (nI_1 c) (hK (iI B, x3, (xc'', xo'', xr'', xp'', xm'', xb'', xs'', xq'', xn'', xu'', xl'', xg'', xk'', xt'', xw'', xv'')) ⟨hX2, Or.inr ⟨B, rfl, ef_more hr g hz (Or.inr (by omega))⟩⟩)
    refine br_f (nI_ge (b := 5) hc (by decide)) (pk_eq r 15 (fun e => ?_) (fun e => ?_))
    · exact x_fsw hX hc (fun z u2 hz hX2 => go z u2 ⟨fun _ => hz, fun q => by omega⟩ hX2)
    · exact x_rem hX.1.1 hc (fun z hz => go z (xc', xo', xr', xp', xm', xb', xs', xq', xn', xu', xl', xg', xk', xt', xw', xv') ⟨fun q => absurd q e, fun _ => hz⟩ hX)
theorem y_le {post : Int32 → SY → Prop} {v : SY} {n : Nat} {O : Nat → Nat} (h : zRY n O v) {r : Nat} {x1 : Int32} (hr : r = 15 ∨ r = 16) (hx : x1 = if r = 15 then 1 else 0) (hp : ∀ w v', isSet w (WE n O r) → zRY n O v' → post w v') : wpY_fewest post v x1 := by
  obtain ⟨yn, yc, yo, yp, ym, ys, yl, yb, yw, yk, yt, yz, yx⟩ := v
  unfold wpY_fewest
  dsimp only
  refine pk_loop (σ := Int32 × Int32 × SY) (fun m c s => wY_fewest_9 post x1 m s.1 s.2.1 (nI c) s.2.2.1 s.2.2.2.1 s.2.2.2.2.1 s.2.2.2.2.2.1 s.2.2.2.2.2.2.1 s.2.2.2.2.2.2.2.1 s.2.2.2.2.2.2.2.2.1 s.2.2.2.2.2.2.2.2.2.1 s.2.2.2.2.2.2.2.2.2.2.1 s.2.2.2.2.2.2.2.2.2.2.2.1 s.2.2.2.2.2.2.2.2.2.2.2.2.1 s.2.2.2.2.2.2.2.2.2.2.2.2.2.1 s.2.2.2.2.2.2.2.2.2.2.2.2.2.2) (fun c s => zRY n O s.2.2 ∧ ((s.1 = 0 ∧ s.2.1 = iI 1000 ∧ efN n O r c) ∨ ∃ B, s.2.1 = iI B ∧ efI n O r c B s.1)) 5 0 (0, 1000, (yn, yc, yo, yp, ym, ys, yl, yb, yw, yk, yt, yz, yx)) (by omega) ⟨h, Or.inl ⟨rfl, (by decide : (1000 : Int32) = iI 1000), fun d hd => by omega⟩⟩ ?_ ?_
  · rintro m ⟨x2, x3, ⟨yn', yc', yo', yp', ym', ys', yl', yb', yw', yk', yt', yz', yx'⟩⟩ ⟨hY, hs⟩
    dsimp only at hs ⊢
    rw [wY_fewest_9]
    refine br_t (by decide) ?_
    rcases hs with ⟨e, _, g⟩ | ⟨B, _, g⟩
    · subst e; exact br_t rfl (hp _ _ (ef_endN g) hY)
    · exact br_f (ef_end hr g).2 (hp _ _ (ef_end hr g).1 hY)
  · rintro m c ⟨x2, x3, ⟨yn', yc', yo', yp', ym', ys', yl', yb', yw', yk', yt', yz', yx'⟩⟩ hc ⟨hY, hs⟩ hK
    dsimp only at hs hK ⊢
    rw [wY_fewest_9]
    have go : ∀ (z : Int) (u2 : SY), eff n O r c z → zRY n O u2 → wY_fewest_34 post (wY_fewest_9 post x1 m) x1 x2 x3 (nI c) (iI z) u2.1 u2.2.1 u2.2.2.1 u2.2.2.2.1 u2.2.2.2.2.1 u2.2.2.2.2.2.1 u2.2.2.2.2.2.2.1 u2.2.2.2.2.2.2.2.1 u2.2.2.2.2.2.2.2.2.1 u2.2.2.2.2.2.2.2.2.2.1 u2.2.2.2.2.2.2.2.2.2.2.1 u2.2.2.2.2.2.2.2.2.2.2.2.1 u2.2.2.2.2.2.2.2.2.2.2.2.2 := by
      rintro z ⟨yn'', yc'', yo'', yp'', ym'', ys'', yl'', yb'', yw'', yk'', yt'', yz'', yx''⟩ hz hY2
      have hzb := eff_bd hr hz
      obtain ⟨L, eL, L0, L1⟩ : ∃ L : Int, x3 = iI L ∧ 0 ≤ L ∧ L ≤ 1000 := by
        rcases hs with ⟨_, e2, _⟩ | ⟨B, e2, g⟩
        · exact ⟨1000, e2, by omega, by omega⟩
        · obtain ⟨_, B0, B1, _⟩ := g
          exact ⟨B, e2, B0, by omega⟩
      subst eL
      have hlow : ∀ z', z' = z → z < L → ∀ d, d < c → ∀ z'', eff n O r d z'' → z'' ≠ -1002 → z < z'' := by
        intro _ _ hlt d hd z'' hz'' hne
        rcases hs with ⟨_, _, g⟩ | ⟨B, e2, g⟩
        · exact absurd (eff_u hr hz'' (g d hd)) hne
        · obtain ⟨_, B0, B1, B2, _⟩ := g
          have eB : L = B := (vs_eq (by omega)).mp e2
          have := B2 d hd z'' hz'' hne
          omega
      unfold wY_fewest_34
      refine vi_lt z 0 (fun hneg => ?_) (fun hpos => vi_le L z (fun hle => ?_) (fun hlt => ?_))
      · have e : z = -1002 := by omega
        unfold wY_fewest_49
        refine vi_lt z 0 (fun _ => ?_) (fun q => by omega)
        unfold wY_fewest_63
        refine vi_lt z 0 (fun _ => nm_r (nI_1 c) (hK (x2, iI L, (yn'', yc'', yo'', yp'', ym'', ys'', yl'', yb'', yw'', yk'', yt'', yz'', yx'')) ⟨hY2, ?_⟩)) (fun q => by omega)
        rcases hs with ⟨e1, e2, g⟩ | ⟨B, e1, g⟩
        · exact Or.inl ⟨e1, e2, ef_none g (e ▸ hz)⟩
        · exact Or.inr ⟨B, e1, ef_more hr g hz (Or.inl e)⟩
      · unfold wY_fewest_49
        refine vi_lt z 0 (fun q => by omega) (fun _ => vi_le L z (fun _ => ?_) (fun q => by omega))
        unfold wY_fewest_63
        rcases hs with ⟨e1, e2, g⟩ | ⟨B, e1, g⟩
        · have : L = 1000 := (vs_eq (by omega)).mp e2
          omega
        · obtain ⟨_, B0, B1, B2, _⟩ := id g
          have eB : L = B := (vs_eq (by omega)).mp e1
          subst eB
          refine vi_lt z 0 (fun q => by omega) (fun _ => vi_eq z L (fun e => ?_) (fun e => ?_))
          · subst e
            exact nm_e (nm_r (nI_1 c) (hK (x2 ||| ((1 : Int32) <<< (nI c &&& 31)), iI z, (yn'', yc'', yo'', yp'', ym'', ys'', yl'', yb'', yw'', yk'', yt'', yz'', yx'')) ⟨hY2, Or.inr ⟨z, rfl, ef_same hr hc g hz⟩⟩))
          · exact nm_r (nI_1 c) (hK (x2, iI L, (yn'', yc'', yo'', yp'', ym'', ys'', yl'', yb'', yw'', yk'', yt'', yz'', yx'')) ⟨hY2, Or.inr ⟨L, rfl, ef_more hr g hz (Or.inr (by omega))⟩⟩)
      · unfold wY_fewest_49
        refine vi_lt z 0 (fun q => by omega) (fun _ => vi_le L z (fun q => by omega) (fun _ => ?_))
        unfold wY_fewest_63
        exact vi_lt z 0 (fun q => by omega) (fun _ => br_t rfl (nm_e (nm_r (nI_1 c) (hK (0 ||| ((1 : Int32) <<< (nI c &&& 31)), iI z, (yn'', yc'', yo'', yp'', ym'', ys'', yl'', yb'', yw'', yk'', yt'', yz'', yx'')) ⟨hY2, Or.inr ⟨z, rfl, ef_new hr hc hz hpos (by omega) (hlow z rfl hlt)⟩⟩))))
    refine br_f (nI_ge (b := 5) hc (by decide)) ?_
    by_cases e : r = 15
    · rw [if_pos e] at hx
      refine br_f (by rw [hx]; decide) ?_
      exact y_sw hY hc (fun z u2 hz hY2 => go z u2 ⟨fun _ => hz, fun q => by omega⟩ hY2)
    · rw [if_neg e] at hx
      refine br_t hx ?_
      exact y_rem hY hc (fun z hz => go z (yn', yc', yo', yp', ym', ys', yl', yb', yw', yk', yt', yz', yx') ⟨fun q => absurd q e, fun _ => hz⟩ hY)
