/-! ===== swaps: the reference's main loops, and the claim ===== -/
theorem ok_cp {E : (Nat → Nat) → Nat} {F N : Nat} {A B : Nat → Int32} {Q : (Nat → Nat) → Nat → Prop} (hE : ∀ w, dig w → E w < N) (h : okA E F N A Q) (e : ∀ j, j < N → B j = A j) : okA E F N B Q :=
  ⟨fun w hw => by rw [e _ (hE w hw)]; exact h.1 w hw, fun t ht hno => by rw [e t ht]; exact h.2 t ht hno⟩
theorem y_s198 {post : Int32 → SY → Prop} {J : Int32 → Int32 → Int32 → (Nat → Int32) → (Nat → Int32) → (Nat → Int32) → (Nat → Int32) → (Nat → Int32) → (Nat → Int32) → (Nat → Int32) → (Nat → Int32) → (Nat → Int32) → (Nat → Int32) → (Nat → Int32) → Prop} {yn yc : Int32} {yo yp ym ys yl yb yw yk yt yz yx : Nat → Int32} {c i : Nat} (hp : ∀ A, (∀ j, j < 1296 → A j = yx j) → J (nI (i + 1)) yn yc yo yp ym ys yl yb yw yk yt A yx) : ∃ m, wY_swaps_198 post J (nI c) (nI i) yn yc m 0 yo yp ym ys yl yb yw yk yt yz yx := by
  refine pk_loop (σ := Nat → Int32) (fun m t A => wY_swaps_198 post J (nI c) (nI i) yn yc m (nI t) yo yp ym ys yl yb yw yk yt A yx) (fun t A => ∀ j, j < t → A j = yx j) 1296 0 yz (by omega) (fun j hj => by omega) ?_ ?_
  · intro m A hA
    rw [wY_swaps_198]
    exact br_t (by decide) (nm_r (nI_1 i) (hp A hA))
  · intro m t A ht hA hK
    rw [wY_swaps_198]
    refine br_f (nI_ge (b := 1296) ht (by decide)) ⟨vp_in_nI ht (by decide), vp_in_nI ht (by decide), nm_r (e' := upd A t (yx t)) (by rw [nI_clamp (by omega)]) (nm_r (nI_1 t) (hK (upd A t (yx t)) (fun j hj => ?_)))⟩
    by_cases ej : j = t
    · subst ej; exact pk_us
    · rw [pk_un ej]; exact hA j (by omega)
theorem y_s166 {post : Int32 → SY → Prop} {J : Int32 → Int32 → Int32 → (Nat → Int32) → (Nat → Int32) → (Nat → Int32) → (Nat → Int32) → (Nat → Int32) → (Nat → Int32) → (Nat → Int32) → (Nat → Int32) → (Nat → Int32) → (Nat → Int32) → (Nat → Int32) → Prop} {v : SY} {n : Nat} {O : Nat → Nat} (h : zRY n O v) {c i : Nat} (hc : c < 5) (hi : i < n) {st : Nat → Nat} (hst : dig st) (hok : okY v.2.2.2.2.2.2.2.2.2.2.2.1 (RC O c st i)) (hnx : ∀ t, t < 1296 → v.2.2.2.2.2.2.2.2.2.2.2.2 t = nI 1000)
    (hp : ∀ v', zRY n O v' → okY v'.2.2.2.2.2.2.2.2.2.2.2.1 (RC O c st (i + 1)) → J (nI (i + 1)) v'.1 v'.2.1 v'.2.2.1 v'.2.2.2.1 v'.2.2.2.2.1 v'.2.2.2.2.2.1 v'.2.2.2.2.2.2.1 v'.2.2.2.2.2.2.2.1 v'.2.2.2.2.2.2.2.2.1 v'.2.2.2.2.2.2.2.2.2.1 v'.2.2.2.2.2.2.2.2.2.2.1 v'.2.2.2.2.2.2.2.2.2.2.2.1 v'.2.2.2.2.2.2.2.2.2.2.2.2) : ∃ m, wY_swaps_166 post J (nI c) (nI i) m 0 v.1 v.2.1 v.2.2.1 v.2.2.2.1 v.2.2.2.2.1 v.2.2.2.2.2.1 v.2.2.2.2.2.2.1 v.2.2.2.2.2.2.2.1 v.2.2.2.2.2.2.2.2.1 v.2.2.2.2.2.2.2.2.2.1 v.2.2.2.2.2.2.2.2.2.2.1 v.2.2.2.2.2.2.2.2.2.2.2.1 v.2.2.2.2.2.2.2.2.2.2.2.2 := by
  have hn := h.1
  have hP := plc_4 (O i) c
  refine pk_loop (σ := SY) (fun m up s => wY_swaps_166 post J (nI c) (nI i) m (nI up) s.1 s.2.1 s.2.2.1 s.2.2.2.1 s.2.2.2.2.1 s.2.2.2.2.2.1 s.2.2.2.2.2.2.1 s.2.2.2.2.2.2.2.1 s.2.2.2.2.2.2.2.2.1 s.2.2.2.2.2.2.2.2.2.1 s.2.2.2.2.2.2.2.2.2.2.1 s.2.2.2.2.2.2.2.2.2.2.2.1 s.2.2.2.2.2.2.2.2.2.2.2.2) (fun up s => zRY n O s ∧ okY s.2.2.2.2.2.2.2.2.2.2.2.1 (RC O c st i) ∧ okY s.2.2.2.2.2.2.2.2.2.2.2.2 (fun w k => ∃ (w' : Nat → Nat) (k' u : Nat), u < up ∧ RC O c st i w' k' ∧ k = k' + u ∧ ∀ j, j < 4 → w j = mv (O i) c u w' j)) (plc (O i) c + 1) 0 v (by omega) ⟨h, hok, fun w hw => Or.inr ⟨hnx _ (e6_lt hw), fun z' ⟨w', k', u, a, _⟩ => by omega⟩, fun t ht _ => hnx t ht⟩ ?_ ?_
  · rintro m ⟨yn', yc', yo', yp', ym', ys', yl', yb', yw', yk', yt', yz', yx'⟩ ⟨hY, hz, hx⟩
    dsimp only at hz hx ⊢
    have hpl : yp' (5 * i + c) = nI (plc (O i) c) := (hY.2.2 i hi).2.2 c hc
    rw [wY_swaps_166]
    refine ⟨by rw [vn_5b]; exact vp_in_nI (by omega) (by decide), ?_⟩
    rw [vn_5b, nI_clamp (by omega), hpl]
    refine br_t (nI_lt (by omega) (by omega)) (y_s198 (fun A hA => hp (yn', yc', yo', yp', ym', ys', yl', yb', yw', yk', yt', A, yx') (ry_any hY) ?_))
    refine ok_cp (fun w hw => e6_lt hw) (ok_conv hx (fun w _ k hk => ?_) (fun w _ k hk => ⟨k, Nat.le_refl _, ?_⟩)) hA
    · obtain ⟨w', k', u, a, b, d, e⟩ := hk
      exact ⟨w', k', u, b, by omega, d, e⟩
    · obtain ⟨w', k', u, b, a, d, e⟩ := hk
      exact ⟨w', k', u, by omega, b, d, e⟩
  · rintro m up ⟨yn', yc', yo', yp', ym', ys', yl', yb', yw', yk', yt', yz', yx'⟩ hup ⟨hY, hz, hx⟩ hK
    dsimp only at hz hx hK ⊢
    have hpl : yp' (5 * i + c) = nI (plc (O i) c) := (hY.2.2 i hi).2.2 c hc
    rw [wY_swaps_166]
    refine ⟨by rw [vn_5b]; exact vp_in_nI (by omega) (by decide), ?_⟩
    rw [vn_5b, nI_clamp (by omega), hpl]
    refine br_f (nI_nlt (by omega) (by omega)) (y_gu hY hi hc (by omega) hst hz hx (fun A' hA' => nm_r (nI_1 up) (hK (yn', yc', yo', yp', ym', ys', yl', yb', yw', yk', yt', yz', A') ⟨ry_any hY, hz, ok_conv hA' (fun w _ k hk => ?_) (fun w _ k hk => ⟨k, Nat.le_refl _, ?_⟩)⟩)))
    · rcases hk with ⟨w', k', u, a, b⟩ | ⟨w', k', a, b, d⟩
      · exact ⟨w', k', u, by omega, b⟩
      · exact ⟨w', k', up, by omega, a, b, d⟩
    · obtain ⟨w', k', u, a, b, d, e⟩ := hk
      by_cases eu : u = up
      · subst eu; exact Or.inr ⟨w', k', b, d, e⟩
      · exact Or.inl ⟨w', k', u, by omega, b, d, e⟩
theorem y_s139 {post : Int32 → SY → Prop} {J : Int32 → Int32 → Int32 → (Nat → Int32) → (Nat → Int32) → (Nat → Int32) → (Nat → Int32) → (Nat → Int32) → (Nat → Int32) → (Nat → Int32) → (Nat → Int32) → (Nat → Int32) → (Nat → Int32) → (Nat → Int32) → Prop} {yn yc : Int32} {yo yp ym ys yl yb yw yk yt yz yx : Nat → Int32} {n : Nat} {O : Nat → Nat} (h : zRY n O (yn, yc, yo, yp, ym, ys, yl, yb, yw, yk, yt, yz, yx)) {c i : Nat} (hc : c < 5) (hi : i < n) {st : Nat → Nat} (hst : dig st) (hok : okY yz (RC O c st i))
    (hp : ∀ v', zRY n O v' → okY v'.2.2.2.2.2.2.2.2.2.2.2.1 (RC O c st (i + 1)) → J (nI (i + 1)) v'.1 v'.2.1 v'.2.2.1 v'.2.2.2.1 v'.2.2.2.2.1 v'.2.2.2.2.2.1 v'.2.2.2.2.2.2.1 v'.2.2.2.2.2.2.2.1 v'.2.2.2.2.2.2.2.2.1 v'.2.2.2.2.2.2.2.2.2.1 v'.2.2.2.2.2.2.2.2.2.2.1 v'.2.2.2.2.2.2.2.2.2.2.2.1 v'.2.2.2.2.2.2.2.2.2.2.2.2) : ∃ m, wY_swaps_139 post J (nI c) (nI i) yn yc m 0 yo yp ym ys yl yb yw yk yt yz yx := by
  refine pk_loop (σ := Nat → Int32) (fun m t A => wY_swaps_139 post J (nI c) (nI i) yn yc m (nI t) yo yp ym ys yl yb yw yk yt yz A) (fun t A => ∀ j, j < t → A j = nI 1000) 1296 0 yx (by omega) (fun j hj => by omega) ?_ ?_
  · intro m A hA
    rw [wY_swaps_139]
    exact br_t (by decide) (y_s166 (v := (yn, yc, yo, yp, ym, ys, yl, yb, yw, yk, yt, yz, A)) (ry_any h) hc hi hst hok hA hp)
  · intro m t A ht hA hK
    rw [wY_swaps_139]
    refine br_f (nI_ge (b := 1296) ht (by decide)) ⟨vp_in_nI ht (by decide), nm_r (e' := upd A t (nI 1000)) (by rw [nI_clamp (by omega), show nI 1000 = 1000 from by decide]) (nm_r (nI_1 t) (hK (upd A t (nI 1000)) (fun j hj => ?_)))⟩
    by_cases ej : j = t
    · subst ej; exact pk_us
    · rw [pk_un ej]; exact hA j (by omega)
theorem y_s128 {post : Int32 → SY → Prop} {v : SY} {n : Nat} {O : Nat → Nat} (h : zRY n O v) {c : Nat} (hc : c < 5) (h0 : 0 < n) (hok : okY v.2.2.2.2.2.2.2.2.2.2.2.1 (RC O c (stn n O c) 0)) (hp : ∀ z v', isSw n O c z → zRY n O v' → post (iI z) v') : ∃ m, wY_swaps_128 post (nI c) m 0 v.1 v.2.1 v.2.2.1 v.2.2.2.1 v.2.2.2.2.1 v.2.2.2.2.2.1 v.2.2.2.2.2.2.1 v.2.2.2.2.2.2.2.1 v.2.2.2.2.2.2.2.2.1 v.2.2.2.2.2.2.2.2.2.1 v.2.2.2.2.2.2.2.2.2.2.1 v.2.2.2.2.2.2.2.2.2.2.2.1 v.2.2.2.2.2.2.2.2.2.2.2.2 := by
  have hn := h.1
  have hst := stn_5 hn O c
  have hO : ∀ i, i < n → isr (O i) = true := fun i hi => (h.2.2 i hi).1
  refine pk_loop (σ := SY) (fun m i s => wY_swaps_128 post (nI c) m (nI i) s.1 s.2.1 s.2.2.1 s.2.2.2.1 s.2.2.2.2.1 s.2.2.2.2.2.1 s.2.2.2.2.2.2.1 s.2.2.2.2.2.2.2.1 s.2.2.2.2.2.2.2.2.1 s.2.2.2.2.2.2.2.2.2.1 s.2.2.2.2.2.2.2.2.2.2.1 s.2.2.2.2.2.2.2.2.2.2.2.1 s.2.2.2.2.2.2.2.2.2.2.2.2) (fun i s => zRY n O s ∧ okY s.2.2.2.2.2.2.2.2.2.2.2.1 (RC O c (stn n O c) i)) n 0 v (by omega) ⟨h, hok⟩ ?_ ?_
  · rintro m ⟨yn', yc', yo', yp', ym', ys', yl', yb', yw', yk', yt', yz', yx'⟩ ⟨hY, hok⟩
    dsimp only at hok ⊢
    have hc' := hY.2.1
    dsimp only at hc'
    subst hc'
    rw [wY_swaps_128]
    refine br_t (nI_le (Nat.le_refl _) (by omega)) ?_
    obtain ⟨z, ez, hz⟩ := sw_fin h0 hO hc (E := e6) rfl hok
    rw [ez]
    exact hp z _ hz hY
  · rintro m i ⟨yn', yc', yo', yp', ym', ys', yl', yb', yw', yk', yt', yz', yx'⟩ hi ⟨hY, hok⟩ hK
    dsimp only at hok hK ⊢
    have hc' := hY.2.1
    dsimp only at hc'
    subst hc'
    rw [wY_swaps_128]
    exact br_f (nI_ge hi (by omega)) (y_s139 hY hc hi hst hok (fun v' hY' hok' => hK v' ⟨hY', hok'⟩))
theorem y_s95 {post : Int32 → SY → Prop} {yn yc : Int32} {yo yp ym ys yl yb yw yk yt yz yx : Nat → Int32} {n : Nat} {O : Nat → Nat} (h : zRY n O (yn, yc, yo, yp, ym, ys, yl, yb, yw, yk, yt, yz, yx)) {c : Nat} (hc : c < 5) (h0 : 0 < n) (hp : ∀ z v', isSw n O c z → zRY n O v' → post (iI z) v') : ∃ m, wY_swaps_95 post (nI c) (nI (e6 (stn n O c))) yn yc m 0 yo yp ym ys yl yb yw yk yt yz yx := by
  have hn := h.1
  have hst := stn_5 hn O c
  have hl := e6_lt hst
  refine pk_loop (σ := Nat → Int32) (fun m t A => wY_swaps_95 post (nI c) (nI (e6 (stn n O c))) yn yc m (nI t) yo yp ym ys yl yb yw yk yt A yx) (fun t A => ∀ j, j < t → A j = if j = e6 (stn n O c) then nI 0 else nI 1000) 1296 0 yz (by omega) (fun j hj => by omega) ?_ ?_
  · intro m A hA
    rw [wY_swaps_95]
    refine br_t (by decide) (y_s128 (v := (yn, yc, yo, yp, ym, ys, yl, yb, yw, yk, yt, A, yx)) (ry_any h) hc h0 ⟨fun w hw => ?_, fun t ht hno => ?_⟩ hp)
    · dsimp only
      rw [hA _ (e6_lt hw)]
      by_cases ew : e6 w = e6 (stn n O c)
      · rw [if_pos ew]
        exact Or.inl ⟨0, by omega, rfl, ⟨e6_inj hw hst ew, rfl⟩, fun z' _ => Nat.zero_le _⟩
      · rw [if_neg ew]
        exact Or.inr ⟨rfl, fun z' hz' => ew (e6_congr hz'.1)⟩
    · dsimp only
      rw [hA t ht, if_neg (fun z => hno _ hst z.symm)]
  · intro m t A ht hA hK
    rw [wY_swaps_95]
    refine br_f (nI_ge (b := 1296) ht (by decide)) (pk_eq t (e6 (stn n O c)) (fun e => ?_) (fun e => ?_))
    · refine ⟨vp_in_nI ht (by decide), nm_r (e' := upd A t (nI 0)) (by rw [nI_clamp (by omega), nI_0]) (nm_r (nI_1 t) (hK (upd A t (nI 0)) (fun j hj => ?_)))⟩
      by_cases ej : j = t
      · subst ej; rw [pk_us, if_pos e]
      · rw [pk_un ej]; exact hA j (by omega)
    · refine ⟨vp_in_nI ht (by decide), nm_r (e' := upd A t (nI 1000)) (by rw [nI_clamp (by omega), show nI 1000 = 1000 from by decide]) (nm_r (nI_1 t) (hK (upd A t (nI 1000)) (fun j hj => ?_)))⟩
      by_cases ej : j = t
      · subst ej; rw [pk_us, if_neg e]
      · rw [pk_un ej]; exact hA j (by omega)
theorem y_sw {post : Int32 → SY → Prop} {v : SY} {n : Nat} {O : Nat → Nat} (h : zRY n O v) {c : Nat} (hc : c < 5) (hp : ∀ z v', isSw n O c z → zRY n O v' → post (iI z) v') : wpY_swaps post v (nI c) := by
  obtain ⟨yn, yc, yo, yp, ym, ys, yl, yb, yw, yk, yt, yz, yx⟩ := v
  have hn := h.1
  have h1 := h.2.1
  dsimp only at h1
  subst h1
  have hst := stn_5 hn O c
  have hO : ∀ i, i < n → isr (O i) = true := fun i hi => (h.2.2 i hi).1
  unfold wpY_swaps
  dsimp only
  refine y_in 0 4 rfl (by decide) (fun hh => absurd rfl (hh c (by omega) (by omega))) (fun _ _ _ _ => br_f (by decide) ?_)
  refine pk_eq n 0 (fun e => ?_) (fun e => ?_)
  · have := hp (-1002) _ (Or.inl ⟨e, rfl⟩) h
    rw [show iI (-1002) = -1002 from by decide] at this
    exact this
  · refine pk_loop (σ := Int32) (fun m x s => wY_swaps_29 post (nI c) (nI n) yc yo yp ym ys yl yb yw yk yt yz yx m s (nI x)) (fun x s => s = nI (e6 (ndA n O c x))) 5 0 0 (by omega) ?_ ?_ ?_
    · rw [show e6 (ndA n O c 0) = 0 from by simp [e6, ndA]]; rfl
    · rintro m s rfl
      rw [wY_swaps_29]
      refine br_t (by decide) ?_
      rw [e6_congr (w := ndA n O c 5) (w' := stn n O c) (fun j hj => if_pos (oth_f hc hj).1)]
      exact y_s95 h hc (by omega) hp
    · rintro m x s hx rfl hK
      rw [wY_swaps_29]
      have hb := Mg_bd hn O c x
      have hMn := Mw_bd (fun _ => true) n O c x
      refine br_f (nI_ge (b := 5) hx (by decide)) (y_mo h hc hx 511 ?_)
      rw [Mw_511 hn]
      have hhave : (iI (Mg n O c x) + nI n) / 2 = nI ((Mg n O c x + n).toNat / 2) := by
        have e1 : iI (Mg n O c x) + nI n = nI (Mg n O c x + n).toNat := by
          rw [← vs_iN, vs_add, ← vs_iN]; exact congrArg iI (by unfold Mg; omega)
        rw [e1, show (2 : Int32) = nI 2 from rfl, pk_div (by omega) (by decide) (by decide)]
      have hlack : nI n / 2 + 1 - nI ((Mg n O c x + n).toNat / 2) = iI (((n / 2 : Nat) : Int) + 1 - (((Mg n O c x + n).toNat / 2 : Nat) : Int)) := by
        rw [show (2 : Int32) = nI 2 from rfl, pk_div (by omega) (by decide) (by decide), nI_1, ← vs_iN, ← vs_iN, vs_sub]
        exact congrArg iI (by omega)
      refine ⟨by decide, nm_r hhave ⟨by decide, nm_r hlack (pk_eq x c (fun e2 => nm_r (nI_1 x) (hK _ ?_)) (fun hne => ?_))⟩⟩
      · refine congrArg nI (e6_congr fun j hj => ?_)
        have := (oth_f hc hj).2.1
        unfold ndA
        by_cases e3 : oth c j < x
        · rw [if_pos e3, if_pos (by omega)]
        · rw [if_neg e3, if_neg (by omega)]
      · have hp4 := pst_f hc hx hne
        have hM := (Mg_bfr hO hc hx (fun z => hne z.symm)).1
        have hbf := bfr_bd n O c x
        have hsame : ∀ j, j < 4 → j ≠ pst c x → ndA n O c (x + 1) j = ndA n O c x j := by
          intro j hj hjn
          have hoj : oth c j ≠ x := fun z => hjn (by rw [← (oth_f hc hj).2.2, z])
          unfold ndA
          by_cases e2 : oth c j < x
          · rw [if_pos e2, if_pos (by omega)]
          · rw [if_neg e2, if_neg (by omega)]
        have hnew : ndA n O c (x + 1) (pst c x) = stn n O c (pst c x) := if_pos (by rw [hp4.2]; omega)
        have hold : ndA n O c x (pst c x) = 0 := if_neg (by rw [hp4.2]; omega)
        refine vi_le _ 0 (fun hle => nm_r (nI_1 x) (hK _ ?_)) (fun hgt => ?_)
        · refine congrArg nI (e6_congr fun j hj => ?_)
          by_cases ej : j = pst c x
          · subst ej
            rw [hnew, hold]
            unfold stn
            rw [hp4.2, if_neg (by omega)]
          · exact (hsame j hj ej).symm
        · refine y_wt hc hx (nm_r (e' := nI (e6 (ndA n O c (x + 1)))) ?_ (nm_r (nI_1 x) (hK _ rfl)))
          have hsv : (((n / 2 : Nat) : Int) + 1 - (((Mg n O c x + n).toNat / 2 : Nat) : Int)) = (stn n O c (pst c x) : Nat) := by
            unfold stn
            rw [hp4.2, if_pos (by omega)]
            omega
          have hsum : e6 (ndA n O c (x + 1)) = e6 (ndA n O c x) + stn n O c (pst c x) * 6 ^ pst c x := by
            revert hsame hnew hold
            generalize stn n O c (pst c x) = S
            have hp5 := hp4.1
            revert hp5
            generalize pst c x = p
            intro hp5 hsame hnew hold
            unfold e6
            match p, hp5 with
            | 0, _ =>
              have a1 := hsame 1 (by omega) (by omega)
              have a2 := hsame 2 (by omega) (by omega)
              have a3 := hsame 3 (by omega) (by omega)
              simp [a1, a2, a3, hold, hnew]; omega
            | 1, _ =>
              have a0 := hsame 0 (by omega) (by omega)
              have a2 := hsame 2 (by omega) (by omega)
              have a3 := hsame 3 (by omega) (by omega)
              simp [a0, a2, a3, hold, hnew]; omega
            | 2, _ =>
              have a0 := hsame 0 (by omega) (by omega)
              have a1 := hsame 1 (by omega) (by omega)
              have a3 := hsame 3 (by omega) (by omega)
              simp [a0, a1, a3, hold, hnew]; omega
            | 3, _ =>
              have a0 := hsame 0 (by omega) (by omega)
              have a1 := hsame 1 (by omega) (by omega)
              have a2 := hsame 2 (by omega) (by omega)
              simp [a0, a1, a2, hold, hnew]; omega
            | q + 4, h => omega
          rw [hsv, vs_iN, wtx_p hne, pk_mul, nI_add, hsum]
theorem i_vc_swaps {k : Nat} {u : SX} {v : SY} (I : i_Rel k u v) (hk : k + 3 ≤ 1536) (v1 : Int32) : wpX_swaps (fun r u' => wpY_swaps (fun r' v' => r' = r ∧ i_Rel (k + 3) u' v') v v1) u v1 := by
  have I0 := I
  obtain ⟨n, O, hX, hY⟩ := I
  obtain ⟨xc, xo, xr, xp, xm, xb, xs, xq, xn, xu, xl, xg, xk, xt, xw, xv⟩ := u
  obtain ⟨yn, yc, yo, yp, ym, ys, yl, yb, yw, yk, yt, yz, yx⟩ := v
  unfold wpX_swaps
  dsimp only
  refine x_cand (fun hno => br_t rfl ?_) (fun c hc e => br_f (by decide) ?_)
  · unfold wpY_swaps
    dsimp only
    exact y_in 0 4 rfl (by decide) (fun _ => br_t rfl ⟨rfl, I0⟩) (fun j _ hj e => absurd e (hno j (by omega)))
  · subst e
    refine x_fsw ⟨hX, rfl⟩ hc (fun z u' hz hX' => ?_)
    exact y_sw hY hc (fun z' v' hz' hY' => ⟨by rw [isSw_u hz hz'], n, O, hX'.1, hY'⟩)
