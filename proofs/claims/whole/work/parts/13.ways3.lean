/-! ===== the reference's strengths; rules 9 and 12; strength ===== -/
theorem y_ln {post : SY → Prop} {yn yc : Int32} {yo yp ym ys yl yb yw yk yt yz yx : Nat → Int32} {n : Nat} {O : Nat → Nat} {Z : Nat → Nat → Int} (hA : arr ys Z) (hZ : snd5 n O Z) (hp : ∀ (s' : Nat → Int32) (Z' : Nat → Nat → Int), arr s' Z' → snd5 n O Z' → LN Z Z' → post (yn, yc, yo, yp, ym, s', yl, yb, yw, yk, yt, yz, yx)) : wpY_lengthen post (yn, yc, yo, yp, ym, ys, yl, yb, yw, yk, yt, yz, yx) := by
  unfold wpY_lengthen
  dsimp only
  refine pk_loop (σ := Nat → Int32) (fun m j s => wY_lengthen_2 post yn yc m (nI j) yo yp ym s yl yb yw yk yt yz yx) (fun j s => ∃ Z', arr s Z' ∧ snd5 n O Z' ∧ (∀ a b, a < 5 → b < 5 → Z a b ≤ Z' a b) ∧ ∀ a b, a < 5 → b < 5 → 5 * a + b < j → a ≠ b → ∀ c, c < 5 → c ≠ a → c ≠ b → Z a c ≤ Z' a b ∨ Z c b ≤ Z' a b) 25 0 ys (by omega) ⟨Z, hA, hZ, fun a b _ _ => Int.le_refl _, fun a b _ _ h => by omega⟩ ?_ ?_
  · rintro m s ⟨Z', h1, h2, h3, h4⟩
    rw [wY_lengthen_2]
    exact br_t (by decide) (hp s Z' h1 h2 (fun a b ha hb => ⟨h3 a b ha hb, fun hab => h4 a b ha hb (by omega) hab⟩))
  · rintro m j s hj ⟨Z', h1, h2, h3, h4⟩ hK
    rw [wY_lengthen_2]
    refine br_f (nI_ge (b := 25) hj (by decide)) ⟨by decide, nm_r (rc_div (show j < 2 ^ 31 by omega)) ⟨by decide, nm_r (rc_rem (show j < 2 ^ 31 by omega)) ?_⟩⟩
    have ha : j / 5 < 5 := by omega
    have hb : j % 5 < 5 := by omega
    have hab : 5 * (j / 5) + j % 5 = j := by omega
    revert ha hb hab
    generalize j / 5 = a
    generalize j % 5 = b
    intro ha hb hab
    subst hab
    refine pk_loop (σ := Nat → Int32) (fun m' c s => wY_lengthen_19 post (wY_lengthen_2 post yn yc m) (nI (5 * a + b)) (nI a) (nI b) yn yc m' (nI c) yo yp ym s yl yb yw yk yt yz yx) (fun c s => ∃ Z', arr s Z' ∧ snd5 n O Z' ∧ (∀ a b, a < 5 → b < 5 → Z a b ≤ Z' a b) ∧ (∀ a' b', a' < 5 → b' < 5 → 5 * a' + b' < 5 * a + b → a' ≠ b' → ∀ c, c < 5 → c ≠ a' → c ≠ b' → Z a' c ≤ Z' a' b' ∨ Z c b' ≤ Z' a' b') ∧ (a ≠ b → ∀ d, d < c → d ≠ a → d ≠ b → Z a d ≤ Z' a b ∨ Z d b ≤ Z' a b)) 5 0 s (by omega) ⟨Z', h1, h2, h3, h4, fun _ d hd => by omega⟩ ?_ ?_
    · rintro m' s' ⟨Z2, g1, g2, g3, g4, g5⟩
      rw [wY_lengthen_19]
      refine br_t (by decide) (nm_r (nI_1 _) (hK s' ⟨Z2, g1, g2, g3, fun a' b' ha' hb' hlt hne c hc hca hcb => ?_⟩))
      by_cases e : 5 * a' + b' = 5 * a + b
      · have e1 : a' = a := by omega
        have e2 : b' = b := by omega
        subst e1 e2
        exact g5 hne c hc hca hcb
      · exact g4 a' b' ha' hb' (by omega) hne c hc hca hcb
    · rintro m' c s' hc ⟨Z2, g1, g2, g3, g4, g5⟩ hK'
      rw [wY_lengthen_19]
      have bac := g2 a c ha hc
      have bcb := g2 c b hc hb
      have bab := g2 a b ha hb
      have vac := g1 a c ha hc
      have vcb := g1 c b hc hb
      have vab := g1 a b ha hb
      have tail : ∀ z : Int, (z = Z2 a c ∨ z = Z2 c b) → z ≤ Z2 a c → z ≤ Z2 c b → wY_lengthen_75 post (wY_lengthen_2 post yn yc m) (wY_lengthen_19 post (wY_lengthen_2 post yn yc m) (nI (5 * a + b)) (nI a) (nI b) yn yc m') (nI (5 * a + b)) (nI a) (nI b) (nI c) (iI z) yn yc yo yp ym s' yl yb yw yk yt yz yx := by
        intro z hz1 hz2 hz3
        unfold wY_lengthen_75
        refine pk_eq a b (fun e => nm_r (nI_1 c) (hK' s' ⟨Z2, g1, g2, g3, g4, fun hne => absurd e hne⟩)) (fun hne => ?_)
        refine pk_eq c a (fun e => nm_r (nI_1 c) (hK' s' ⟨Z2, g1, g2, g3, g4, fun _ d hd hda hdb => g5 hne d (by omega) hda hdb⟩)) (fun hca => ?_)
        refine pk_eq c b (fun e => nm_r (nI_1 c) (hK' s' ⟨Z2, g1, g2, g3, g4, fun _ d hd hda hdb => g5 hne d (by omega) hda hdb⟩)) (fun hcb => ?_)
        rw [nI_clamp (by omega), vab]
        have t1 := g3 a c ha hc
        have t2 := g3 c b hc hb
        refine ⟨vp_in_nI (by omega) (by decide), vi_le z (Z2 a b) (fun hle => nm_r (nI_1 c) (hK' s' ⟨Z2, g1, g2, g3, g4, fun _ d hd hda hdb => ?_⟩)) (fun hlt => ⟨vp_in_nI (by omega) (by decide), nm_e (nm_r (nI_1 c) (hK' (upd s' (5 * a + b) (iI z)) ⟨up2 Z2 a b z, arr_up g1 hb z, ?_, ?_, ?_, ?_⟩))⟩)⟩
        · by_cases e : d = c
          · subst e; omega
          · exact g5 hne d (by omega) hda hdb
        · intro x y hx hy
          unfold up2
          by_cases e : x = a ∧ y = b
          · rw [if_pos e]
            refine ⟨by omega, by omega, fun T hT => ?_⟩
            have t4 := (hT a b ha hb).2 c hc
            have t5 := bac.2.2 T hT
            have t6 := bcb.2.2 T hT
            rw [e.1, e.2]; omega
          · rw [if_neg e]; exact g2 x y hx hy
        · intro x y hx hy
          unfold up2
          by_cases e : x = a ∧ y = b
          · rw [if_pos e]
            have := g3 x y hx hy
            rw [e.1, e.2] at this ⊢; omega
          · rw [if_neg e]; exact g3 x y hx hy
        · intro a' b' ha' hb' hlt' hne' c' hc' h1' h2'
          unfold up2
          rw [if_neg (by omega)]
          exact g4 a' b' ha' hb' hlt' hne' c' hc' h1' h2'
        · intro _ d hd hda hdb
          unfold up2
          rw [if_pos ⟨rfl, rfl⟩]
          by_cases e : d = c
          · subst e; omega
          · have := g5 hne d (by omega) hda hdb
            omega
      refine br_f (nI_ge (b := 5) hc (by decide)) ⟨by rw [vn_5b]; exact vp_in_nI (by omega) (by decide), by rw [vn_5b]; exact vp_in_nI (by omega) (by decide), ?_⟩
      rw [vn_5b, vn_5b, nI_clamp (n := 5 * c + b) (by omega), nI_clamp (n := 5 * a + c) (by omega), vac, vcb]
      exact vi_le (Z2 c b) (Z2 a c) (fun hle => ⟨vp_in_nI (by omega) (by decide), tail _ (Or.inr rfl) hle (Int.le_refl _)⟩) (fun hlt => ⟨vp_in_nI (by omega) (by decide), tail _ (Or.inl rfl) (Int.le_refl _) (by omega)⟩)
theorem y_fs {post : SY → Prop} {v : SY} {n : Nat} {O : Nat → Nat} (h : zRYM n O v) (hp : ∀ v', zRYM n O v' → stA n O v'.2.2.2.2.2.1 → post v') : wpY_findStrengths post v := by
  obtain ⟨yn, yc, yo, yp, ym, ys, yl, yb, yw, yk, yt, yz, yx⟩ := v
  have hn := h.1.1
  unfold wpY_findStrengths
  dsimp only
  refine pk_loop (σ := Nat → Int32) (fun m j s => wY_findStrengths_2 post yn yc m (nI j) yo yp ym s yl yb yw yk yt yz yx) (fun j s => ∀ q, q < j → s q = iI (mp n O (q / 5) (q % 5))) 25 0 ys (by omega) (fun q hq => by omega) ?_ ?_
  · intro m s0 hs0
    rw [wY_findStrengths_2]
    refine br_t (by decide) ?_
    refine pk_loop (σ := SY) (fun m k s => wY_findStrengths_41 post m (nI k) s.1 s.2.1 s.2.2.1 s.2.2.2.1 s.2.2.2.2.1 s.2.2.2.2.2.1 s.2.2.2.2.2.2.1 s.2.2.2.2.2.2.2.1 s.2.2.2.2.2.2.2.2.1 s.2.2.2.2.2.2.2.2.2.1 s.2.2.2.2.2.2.2.2.2.2.1 s.2.2.2.2.2.2.2.2.2.2.2.1 s.2.2.2.2.2.2.2.2.2.2.2.2) (fun k s => zRYM n O s ∧ ∃ Q : Nat → Nat → Nat → Int, (∀ a b, a < 5 → b < 5 → Q 0 a b = mp n O a b) ∧ (∀ j, j < k → LN (Q j) (Q (j + 1))) ∧ snd5 n O (Q k) ∧ arr s.2.2.2.2.2.1 (Q k)) 4 0 (yn, yc, yo, yp, ym, s0, yl, yb, yw, yk, yt, yz, yx) (by omega) ?_ ?_ ?_
    · refine ⟨h, fun _ => mp n O, fun _ _ _ _ => rfl, fun j hj => by omega, fun a b ha hb => ⟨(mp_bd hn O a b).1, (mp_bd hn O a b).2, fun T hT => (hT a b ha hb).1⟩, fun a b ha hb => ?_⟩
      have := hs0 (5 * a + b) (by omega)
      rw [show (5 * a + b) / 5 = a from by omega, show (5 * a + b) % 5 = b from by omega] at this
      exact this
    · rintro m ⟨yn', yc', yo', yp', ym', ys', yl', yb', yw', yk', yt', yz', yx'⟩ ⟨hY, Q, q1, q2, q3, q4⟩
      dsimp only at q4 ⊢
      rw [wY_findStrengths_41]
      exact br_t (by decide) (hp _ hY (ln_end hn q1 q2 q3 q4))
    · rintro m k ⟨yn', yc', yo', yp', ym', ys', yl', yb', yw', yk', yt', yz', yx'⟩ hk ⟨hY, Q, q1, q2, q3, q4⟩ hK
      dsimp only at q4 hK ⊢
      rw [wY_findStrengths_41]
      refine br_f (nI_ge (b := 4) hk (by decide)) (y_ln q4 q3 (fun s' Z' a1 a2 a3 => nm_r (nI_1 k) (hK (yn', yc', yo', yp', ym', s', yl', yb', yw', yk', yt', yz', yx') ⟨hY, fun j => if j ≤ k then Q j else Z', ?_, ?_, ?_, ?_⟩)))
      · intro a b ha hb
        dsimp only
        rw [if_pos (by omega)]; exact q1 a b ha hb
      · intro j hj
        dsimp only
        rw [if_pos (show j ≤ k by omega)]
        by_cases e : j = k
        · subst e; rw [if_neg (by omega)]; exact a3
        · rw [if_pos (by omega)]; exact q2 j (by omega)
      · dsimp only
        rw [if_neg (by omega)]; exact a2
      · dsimp only
        rw [if_neg (by omega)]; exact a1
  · intro m j s hj hs hK
    rw [wY_findStrengths_2]
    have hm := h.2 (j / 5) (j % 5) (by omega) (by omega)
    rw [show 5 * (j / 5) + j % 5 = j from by omega] at hm
    dsimp only at hm
    have hbd := Mg_bd hn O (j / 5) (j % 5)
    refine br_f (nI_ge (b := 25) hj (by decide)) ⟨vp_in_nI hj (by decide), ?_⟩
    rw [nI_clamp (by omega), hm]
    have put : ∀ v : Int, v = mp n O (j / 5) (j % 5) → ∀ q, q < j + 1 → upd s j (iI v) q = iI (mp n O (q / 5) (q % 5)) := by
      intro v hv q hq
      by_cases e : q = j
      · subst e; rw [pk_us, hv]
      · rw [pk_un e]; exact hs q (by omega)
    refine vi_le (Mg n O (j / 5) (j % 5)) 0 (fun hle => ⟨vp_in_nI hj (by decide), nm_r (e' := upd s j (iI 0)) rfl (nm_r (nI_1 j) (hK (upd s j (iI 0)) (put 0 ?_)))⟩) (fun hlt => ⟨vp_in_nI hj (by decide), vp_in_nI hj (by decide), nm_r (e' := upd s j (iI (Mg n O (j / 5) (j % 5)))) rfl (nm_r (nI_1 j) (hK (upd s j (iI (Mg n O (j / 5) (j % 5)))) (put _ ?_)))⟩)
    · unfold mp; rw [if_neg (by omega)]
    · unfold mp; rw [if_pos hlt]
def W9 (n : Nat) (O : Nat → Nat) (a : Nat) : Prop := ∀ b, b < 5 → b ≠ a → ∀ v v', isStr n O a b v → isStr n O b a v' → v' ≤ v
def W12 (n : Nat) (O : Nat → Nat) (a : Nat) : Prop := ∀ b, b < 5 → b ≠ a → ∀ v v', isStr n O b a v → isStr n O a b v' → ¬ (0 < v ∧ v' = 0)
/-- an outer loop over a and an inner over b that strike out a -/
def dl2 (Q : Nat → Nat → Prop) (a b : Nat) (w : Int32) : Prop := isSet w (fun i => ∀ d, d < 5 → (i < a ∨ (i = a ∧ d < b)) → ¬ Q i d)
theorem dl_0 (Q : Nat → Nat → Prop) : dl2 Q 0 0 31 := vb_congr vb_all (fun i hi => ⟨fun _ d hd h => by omega, fun _ => trivial⟩)
theorem dl_row {Q : Nat → Nat → Prop} {a : Nat} {w : Int32} (h : dl2 Q a 5 w) : dl2 Q (a + 1) 0 w :=
  vb_congr h (fun i hi => ⟨fun g d hd h2 => g d hd (by omega), fun g d hd h2 => g d hd (by omega)⟩)
theorem dl_no {Q : Nat → Nat → Prop} {a b : Nat} {w : Int32} (h : dl2 Q a b w) (hq : ¬ Q a b) : dl2 Q a (b + 1) w := by
  refine vb_congr h (fun i hi => ⟨fun g d hd h2 => ?_, fun g d hd h2 => g d hd (by omega)⟩)
  by_cases e : i = a ∧ d = b
  · rw [e.1, e.2]; exact hq
  · exact g d hd (by omega)
theorem dl_yes {Q : Nat → Nat → Prop} {a b : Nat} {w : Int32} (ha : a < 5) (hb : b < 5) (h : dl2 Q a b w) (hq : Q a b) : dl2 Q a (b + 1) (w &&& (((1 : Int32) <<< (nI a &&& 31)) ^^^ (-1))) := by
  refine vb_congr (vb_del h ha) (fun i hi => ⟨fun g d hd h2 => ?_, fun g => ⟨fun d hd h2 => g d hd (by omega), ?_⟩⟩)
  · exact g.1 d hd (by have := g.2; omega)
  · rintro rfl
    exact g b hb (by omega) hq
theorem dl_end {Q : Nat → Nat → Prop} {w : Int32} (h : dl2 Q 5 0 w) : isSet w (fun i => ∀ d, d < 5 → ¬ Q i d) :=
  vb_congr h (fun i hi => ⟨fun g d hd => g d hd (Or.inl hi), fun g d hd _ => g d hd⟩)
theorem w9_iff {n : Nat} {O : Nat → Nat} {S : Nat → Nat → Int} (hS : ∀ a b, a < 5 → b < 5 → 0 ≤ S a b ∧ S a b ≤ 9 ∧ (a ≠ b → isStr n O a b (S a b))) {a : Nat} (ha : a < 5) : (∀ b, b < 5 → ¬ S a b < S b a) ↔ W9 n O a := by
  constructor
  · intro h b hb hne v v' hv hv'
    have e1 := isStr_u ((hS a b ha hb).2.2 (fun z => hne z.symm)) hv
    have e2 := isStr_u ((hS b a hb ha).2.2 hne) hv'
    have := h b hb
    omega
  · intro h b hb hlt
    by_cases e : b = a
    · subst e; omega
    · have := h b hb e _ _ ((hS a b ha hb).2.2 (fun z => e z.symm)) ((hS b a hb ha).2.2 e)
      omega
theorem w12_iff {n : Nat} {O : Nat → Nat} {S : Nat → Nat → Int} (hS : ∀ a b, a < 5 → b < 5 → 0 ≤ S a b ∧ S a b ≤ 9 ∧ (a ≠ b → isStr n O a b (S a b))) {a : Nat} (ha : a < 5) : (∀ b, b < 5 → ¬ (0 < S b a ∧ S a b = 0)) ↔ W12 n O a := by
  constructor
  · intro h b hb hne v v' hv hv'
    have e1 := isStr_u ((hS a b ha hb).2.2 (fun z => hne z.symm)) hv'
    have e2 := isStr_u ((hS b a hb ha).2.2 hne) hv
    have := h b hb
    omega
  · intro h b hb hlt
    by_cases e : b = a
    · subst e; omega
    · exact h b hb e _ _ ((hS b a hb ha).2.2 e) ((hS a b ha hb).2.2 (fun z => e z.symm)) hlt
