/-! ===== rules 0 to 5: the highest scores ===== -/
def WS (n : Nat) (O : Nat → Nat) (r : Nat) (i : Nat) : Prop := ∃ z, isSc n O r i z ∧ ∀ d, d < 5 → ∀ z', isSc n O r d z' → z' ≤ z
/-- where the search for the highest stands: B the best, s those with it, among the first c -/
def hiS (n : Nat) (O : Nat → Nat) (r c : Nat) (B : Int) (s : Int32) : Prop := isSet s (fun i => i < c ∧ isSc n O r i B) ∧ (∀ d, d < c → ∀ z, isSc n O r d z → z ≤ B) ∧ (0 < c → ∃ i, i < c ∧ isSc n O r i B)
theorem hi_end {n : Nat} {O : Nat → Nat} {r : Nat} {B : Int} {s : Int32} (h : hiS n O r 5 B s) : isSet s (WS n O r) := by
  obtain ⟨h1, h2, h3⟩ := h
  refine vb_congr h1 (fun i hi => ⟨fun a => ⟨B, a.2, h2⟩, ?_⟩)
  rintro ⟨z, hz, hm⟩
  obtain ⟨j, hj, hB⟩ := h3 (by omega)
  have a := hm j hj B hB
  have b := h2 i hi z hz
  have : z = B := by omega
  exact ⟨hi, this ▸ hz⟩
theorem hi_new {n : Nat} {O : Nat → Nat} {r c : Nat} {B z : Int} {s : Int32} (hr : r ≤ 5) (hc : c < 5) (h : hiS n O r c B s) (hz : isSc n O r c z) (hlt : B < z) : hiS n O r (c + 1) z (0 ||| ((1 : Int32) <<< (nI c &&& 31))) := by
  obtain ⟨h1, h2, h3⟩ := h
  refine ⟨vb_congr (vb_ins vb_empty hc) (fun i hi => ⟨?_, ?_⟩), fun d hd z' hz' => ?_, fun _ => ⟨c, by omega, hz⟩⟩
  · rintro (a | rfl)
    · exact a.elim
    · exact ⟨by omega, hz⟩
  · rintro ⟨a, b⟩
    by_cases e : i = c
    · exact Or.inr e
    · have := h2 i (by omega) z b
      omega
  · by_cases e : d = c
    · subst e
      rw [isSc_u hr hz hz']; exact Int.le_refl _
    · have := h2 d (by omega) z' hz'
      omega
theorem hi_same {n : Nat} {O : Nat → Nat} {r c : Nat} {B : Int} {s : Int32} (hr : r ≤ 5) (hc : c < 5) (h : hiS n O r c B s) (hz : isSc n O r c B) : hiS n O r (c + 1) B (s ||| ((1 : Int32) <<< (nI c &&& 31))) := by
  obtain ⟨h1, h2, h3⟩ := h
  refine ⟨vb_congr (vb_ins h1 hc) (fun i hi => ⟨?_, ?_⟩), fun d hd z' hz' => ?_, fun _ => ⟨c, by omega, hz⟩⟩
  · rintro (a | rfl)
    · exact ⟨by omega, a.2⟩
    · exact ⟨by omega, hz⟩
  · rintro ⟨a, b⟩
    by_cases e : i = c
    · exact Or.inr e
    · exact Or.inl ⟨by omega, b⟩
  · by_cases e : d = c
    · subst e
      rw [isSc_u hr hz hz']; exact Int.le_refl _
    · exact h2 d (by omega) z' hz'
theorem hi_less {n : Nat} {O : Nat → Nat} {r c : Nat} {B z : Int} {s : Int32} (hr : r ≤ 5) (h0 : 0 < c) (h : hiS n O r c B s) (hz : isSc n O r c z) (hlt : z < B) : hiS n O r (c + 1) B s := by
  obtain ⟨h1, h2, h3⟩ := h
  refine ⟨vb_congr h1 (fun i hi => ⟨fun a => ⟨by omega, a.2⟩, fun a => ⟨?_, a.2⟩⟩), fun d hd z' hz' => ?_, fun _ => ?_⟩
  · by_cases e : i = c
    · subst e
      have := isSc_u hr hz a.2
      omega
    · omega
  · by_cases e : d = c
    · subst e
      have := isSc_u hr hz hz'
      omega
    · exact h2 d (by omega) z' hz'
  · obtain ⟨i, a, b⟩ := h3 h0
    exact ⟨i, by omega, b⟩
theorem x_gs {post : Int32 → Prop} {xc : Int32} {xo xr xp xm xb xs xq xn xu xl xg xk xt xw xv : Nat → Int32} {n : Nat} {O : Nat → Nat} (h : zRX n O (xc, xo, xr, xp, xm, xb, xs, xq, xn, xu, xl, xg, xk, xt, xw, xv)) {r : Nat} (hr : r ≤ 5) (hp : ∀ s, isSet s (WS n O r) → post s) : wpX_greatestScores post (xc, xo, xr, xp, xm, xb, xs, xq, xn, xu, xl, xg, xk, xt, xw, xv) (nI r) := by
  have hn := h.1.1
  unfold wpX_greatestScores
  dsimp only
  refine x_so h hr (c := 0) (by omega) (fun z0 hz0 => ?_)
  refine pk_loop (σ := Int32 × Int32) (fun m c s => wX_greatestScores_12 post (nI r) xc xo xr xp xm xb xs xq xn xu xl xg xk xt xw xv m s.1 s.2 (nI c)) (fun c s => 0 < c ∧ ∃ B, s.1 = iI B ∧ -9 ≤ B ∧ B ≤ 45 ∧ hiS n O r c B s.2) 5 1 (iI z0, 1) (by omega) ?_ ?_ ?_
  · have hb := isSc_bd hn hr hz0
    refine ⟨by omega, z0, rfl, hb.1, hb.2, ?_, fun d hd z hz => ?_, fun _ => ⟨0, by omega, hz0⟩⟩
    · intro i
      dsimp only
      constructor
      · intro hbt
        have hi : i < 32 := by
          rcases Nat.lt_or_ge i 32 with g | g
          · exact g
          · rw [b_big g] at hbt; cases hbt
        rw [vb_1 i hi, decide_eq_true_eq] at hbt
        subst hbt
        exact ⟨by omega, by omega, hz0⟩
      · rintro ⟨a, b, c⟩
        have : i = 0 := by omega
        subst this
        exact vb_1 0 (by omega)
    · have : d = 0 := by omega
      subst this
      rw [isSc_u hr hz0 hz]; exact Int.le_refl _
  · rintro m ⟨x2, x3⟩ ⟨_, B, _, _, _, hs⟩
    dsimp only at hs ⊢
    rw [wX_greatestScores_12]
    exact br_t (by decide) (hp _ (hi_end hs))
  · rintro m c ⟨x2, x3⟩ hc ⟨h0, B, e, hb1, hb2, hs⟩ hK
    dsimp only at hs e hK ⊢
    subst e
    rw [wX_greatestScores_12]
    refine br_f (nI_ge (b := 5) hc (by decide)) (x_so h hr hc (fun z hz => ?_))
    have hb := isSc_bd hn hr hz
    refine vi_le z B (fun hle => ?_) (fun hlt => ?_)
    · unfold wX_greatestScores_38
      refine vi_eq z B (fun e => ?_) (fun e => ?_)
      · subst e
        exact nm_e (nm_r (nI_1 c) (hK (iI z, x3 ||| ((1 : Int32) <<< (nI c &&& 31))) ⟨by omega, z, rfl, hb1, hb2, hi_same hr hc hs hz⟩))
      · exact nm_r (nI_1 c) (hK (iI B, x3) ⟨by omega, B, rfl, hb1, hb2, hi_less hr h0 hs hz (by omega)⟩)
    · unfold wX_greatestScores_38
      exact br_t rfl (nm_e (nm_r (nI_1 c) (hK (iI z, 0 ||| ((1 : Int32) <<< (nI c &&& 31))) ⟨by omega, z, rfl, hb.1, hb.2, hi_new hr hc hs hz hlt⟩)))
theorem y_hi {post : Int32 → Prop} {yn yc : Int32} {yo yp ym ys yl yb yw yk yt yz yx : Nat → Int32} {n : Nat} {O : Nat → Nat} (h : zRYM n O (yn, yc, yo, yp, ym, ys, yl, yb, yw, yk, yt, yz, yx)) {r : Nat} (hr : r ≤ 5) (hp : ∀ s, isSet s (WS n O r) → post s) : wpY_highest post (yn, yc, yo, yp, ym, ys, yl, yb, yw, yk, yt, yz, yx) (nI r) := by
  have hn := h.1.1
  unfold wpY_highest
  dsimp only
  refine pk_loop (σ := Int32 × Int32) (fun m c s => wY_highest_9 post (nI r) yn yc yo yp ym ys yl yb yw yk yt yz yx m s.1 s.2 (nI c)) (fun c s => ∃ B, s.2 = iI B ∧ -1000 ≤ B ∧ B ≤ 45 ∧ (c = 0 → B = -1000) ∧ hiS n O r c B s.1) 5 0 (0, -1000) (by omega) ?_ ?_ ?_
  · exact ⟨-1000, by decide, by omega, by omega, fun _ => rfl, vb_congr vb_empty (fun i _ => by simp), fun d hd => by omega, fun z => by omega⟩
  · rintro m ⟨x2, x3⟩ ⟨B, _, _, _, _, hs⟩
    dsimp only at hs ⊢
    rw [wY_highest_9]
    exact br_t (by decide) (hp _ (hi_end hs))
  · rintro m c ⟨x2, x3⟩ hc ⟨B, e, hb1, hb2, h0, hs⟩ hK
    dsimp only at hs e hK ⊢
    subst e
    rw [wY_highest_9]
    refine br_f (nI_ge (b := 5) hc (by decide)) (y_so h hr hc (fun z hz => ?_))
    have hb := isSc_bd hn hr hz
    refine vi_le z B (fun hle => ?_) (fun hlt => ?_)
    · unfold wY_highest_32
      refine vi_le z B (fun _ => ?_) (fun hlt => by omega)
      unfold wY_highest_41
      refine vi_eq z B (fun e => ?_) (fun e => ?_)
      · subst e
        exact nm_e (nm_r (nI_1 c) (hK (x2 ||| ((1 : Int32) <<< (nI c &&& 31)), iI z) ⟨z, rfl, hb1, hb2, fun e => by omega, hi_same hr hc hs hz⟩))
      · have hc0 : 0 < c := by
          rcases Nat.eq_zero_or_pos c with g | g
          · have := h0 g; omega
          · exact g
        exact nm_r (nI_1 c) (hK (x2, iI B) ⟨B, rfl, hb1, hb2, fun e => by omega, hi_less hr hc0 hs hz (by omega)⟩)
    · unfold wY_highest_32
      refine vi_le z B (fun hle => by omega) (fun _ => ?_)
      unfold wY_highest_41
      exact br_t rfl (nm_e (nm_r (nI_1 c) (hK (0 ||| ((1 : Int32) <<< (nI c &&& 31)), iI z) ⟨z, rfl, by omega, hb.2, fun e => by omega, hi_new hr hc hs hz hlt⟩)))
