/-! ===== rule 10: the reference's levels and its end ===== -/
/-- what a group's turn has kept so far: from the sets below k, and from k with the additions below r -/
def thI (C : Nat) (B W : Nat → Nat) (g : Nat) (yk : Nat → Int32) (k r : Nat) (q : Nat → Int32) : Prop := ∀ t, t < 2 ^ C → (q t ≠ 0 ↔ ∃ k1 r1, (k1 < k ∨ (k1 = k ∧ r1 < r)) ∧ k1 < 2 ^ C ∧ r1 < 2 ^ C ∧ yk k1 ≠ 0 ∧ (∀ p, p < C → r1.testBit p = true → g.testBit p = true) ∧ t = k1 ||| r1 ∧ Acy (Kof C B W t) ∧ ¬ grw C B W t g)
theorem th_same {C : Nat} {B W : Nat → Nat} {g : Nat} {yk : Nat → Int32} {k r : Nat} {q : Nat → Int32} (h : thI C B W g yk k r q) (hno : r < 2 ^ C → yk k ≠ 0 → (∀ p, p < C → r.testBit p = true → g.testBit p = true) → Acy (Kof C B W (k ||| r)) → ¬ grw C B W (k ||| r) g → q (k ||| r) ≠ 0) (hk : k < 2 ^ C) : thI C B W g yk k (r + 1) q := by
  intro t ht
  rw [h t ht]
  constructor
  · rintro ⟨k1, r1, a, b⟩
    exact ⟨k1, r1, by omega, b⟩
  · rintro ⟨k1, r1, a, b, d, e, f, g1, g2, g3⟩
    by_cases e1 : k1 = k ∧ r1 = r
    · obtain ⟨rfl, rfl⟩ := e1
      have := hno d e f (g1 ▸ g2) (g1 ▸ g3)
      rw [← g1] at this
      exact (h t ht).mp this
    · exact ⟨k1, r1, by omega, b, d, e, f, g1, g2, g3⟩
theorem th_new {C : Nat} {B W : Nat → Nat} {g : Nat} {yk : Nat → Int32} {k r : Nat} {q : Nat → Int32} (h : thI C B W g yk k r q) (hk : k < 2 ^ C) (hr : r < 2 ^ C) (hy : yk k ≠ 0) (hg : ∀ p, p < C → r.testBit p = true → g.testBit p = true) (hA : Acy (Kof C B W (k ||| r))) (hn : ¬ grw C B W (k ||| r) g) : thI C B W g yk k (r + 1) (upd q (k ||| r) 1) := by
  intro t ht
  by_cases e : t = k ||| r
  · rw [e, pk_us]
    refine ⟨fun _ => ⟨k, r, by omega, hk, hr, hy, hg, rfl, hA, hn⟩, fun _ => by decide⟩
  · rw [pk_un e, h t ht]
    constructor
    · rintro ⟨k1, r1, a, b⟩
      exact ⟨k1, r1, by omega, b⟩
    · rintro ⟨k1, r1, a, b, d, f, f2, g1, g2⟩
      by_cases e1 : k1 = k ∧ r1 = r
      · obtain ⟨rfl, rfl⟩ := e1; exact absurd g1 e
      · exact ⟨k1, r1, by omega, b, d, f, f2, g1, g2⟩
theorem th_row {C : Nat} {B W : Nat → Nat} {g : Nat} {yk : Nat → Int32} {k r : Nat} {q : Nat → Int32} (h : thI C B W g yk k r q) (hr : 2 ^ C ≤ r ∨ yk k = 0) : thI C B W g yk (k + 1) 0 q := by
  intro t ht
  rw [h t ht]
  constructor
  · rintro ⟨k1, r1, a, b⟩
    exact ⟨k1, r1, by omega, b⟩
  · rintro ⟨k1, r1, a, b, d, e, f⟩
    refine ⟨k1, r1, ?_, b, d, e, f⟩
    by_cases e1 : k1 = k
    · subst e1
      rcases hr with z | z
      · exact Or.inr ⟨rfl, by omega⟩
      · exact absurd z e
    · exact Or.inl (by omega)
theorem pw10' : ∀ p, p ≤ 10 → (1 : Int32) <<< (nI p &&& 31) = nI (2 ^ p) ∧ 2 ^ p ≤ 1024 := by decide +kernel
theorem nar_b {x : Int32} (h : x = 0 ∨ x = 1) : vp_nar .boolean x = x := by
  rcases h with e | e
  · subst e; exact nb0
  · subst e; exact nb1
theorem y_kg {post : SY → Prop} {yn yc : Int32} {yo yp ym ys yl yb yw yk yt yz yx : Nat → Int32} {n : Nat} {O : Nat → Nat} {c : Nat} {B W : Nat → Nat} (hcp : cps n O c B W yc yb yw) {g : Nat} (hg : g < 2 ^ c)
    (hp : ∀ k' t' : Nat → Int32, (∀ t, t < 2 ^ c → (k' t ≠ 0 ↔ ∃ k1 r1, k1 < 2 ^ c ∧ r1 < 2 ^ c ∧ yk k1 ≠ 0 ∧ (∀ p, p < c → r1.testBit p = true → g.testBit p = true) ∧ t = k1 ||| r1 ∧ Acy (Kof c B W t) ∧ ¬ grw c B W t g)) → post (yn, yc, yo, yp, ym, ys, yl, yb, yw, k', t', yz, yx)) : wpY_keepGroup post (yn, yc, yo, yp, ym, ys, yl, yb, yw, yk, yt, yz, yx) (nI g) := by
  have hcp0 := hcp
  obtain ⟨ec, hc10, hI, hq⟩ := hcp
  subst ec
  have hpw := pw10' c hc10
  unfold wpY_keepGroup
  dsimp only
  refine pk_loop (σ := Nat → Int32) (fun m j s => wY_keepGroup_2 post (nI g) yn (nI c) m (nI j) yo yp ym ys yl yb yw yk s yz yx) (fun j s => ∀ t, t < j → s t = 0) 1024 0 yt (by omega) (fun t ht => by omega) ?_ ?_
  · intro m s hs
    rw [wY_keepGroup_2]
    refine br_t (by decide) ?_
    refine pk_loop (σ := Nat → Int32) (fun m k s => wY_keepGroup_24 post (nI g) yn (nI c) m (nI k) yo yp ym ys yl yb yw yk s yz yx) (fun k s => thI c B W g yk k 0 s ∧ ∀ t, t < 1024 → s t = 0 ∨ s t = 1) (2 ^ c) 0 s (by omega) ⟨fun t ht => ⟨fun z => absurd (hs t (by omega)) z, fun ⟨k1, r1, a, _⟩ => by omega⟩, fun t ht => Or.inl (hs t ht)⟩ ?_ ?_
    · rintro m s ⟨hT, h01⟩
      rw [wY_keepGroup_24]
      refine br_t (by rw [hpw.1]; exact nI_le (Nat.le_refl _) (by omega)) ?_
      refine pk_loop (σ := Nat → Int32) (fun m j a => wY_keepGroup_119 post yn (nI c) m (nI j) yo yp ym ys yl yb yw a s yz yx) (fun j a => ∀ t, t < j → a t = s t) 1024 0 yk (by omega) (fun t ht => by omega) ?_ ?_
      · intro m a ha
        rw [wY_keepGroup_119]
        refine br_t (by decide) (hp a s (fun t ht => ?_))
        rw [ha t (by omega), hT t ht]
        constructor
        · rintro ⟨k1, r1, z, b⟩
          exact ⟨k1, r1, b⟩
        · rintro ⟨k1, r1, b⟩
          exact ⟨k1, r1, Or.inl b.1, b⟩
      · intro m j a hj ha hK
        rw [wY_keepGroup_119]
        refine br_f (nI_ge (b := 1024) hj (by decide)) ⟨vp_in_nI hj (by decide), vp_in_nI hj (by decide), nm_r (e' := upd a j (s j)) (by rw [nI_clamp (by omega), nar_b (h01 j hj)]) (nm_r (nI_1 j) (hK (upd a j (s j)) (fun t ht => ?_)))⟩
        by_cases e : t = j
        · subst e; exact pk_us
        · rw [pk_un e]; exact ha t (by omega)
    · rintro m k s hk ⟨hT, h01⟩ hK
      rw [wY_keepGroup_24]
      refine br_f (by rw [hpw.1]; exact nI_ge hk (by omega)) ?_
      refine pk_loop (σ := Nat → Int32) (fun m' r s => wY_keepGroup_36 post (wY_keepGroup_24 post (nI g) yn (nI c) m) (nI g) (nI k) yn (nI c) m' (nI r) yo yp ym ys yl yb yw yk s yz yx) (fun r s => thI c B W g yk k r s ∧ ∀ t, t < 1024 → s t = 0 ∨ s t = 1) (2 ^ c) 0 s (by omega) ⟨hT, h01⟩ ?_ ?_
      · rintro m' s' ⟨hT', h01'⟩
        rw [wY_keepGroup_36]
        exact br_t (by rw [hpw.1]; exact nI_le (Nat.le_refl _) (by omega)) (nm_r (nI_1 k) (hK s' ⟨th_row hT' (Or.inl (Nat.le_refl _)), h01'⟩))
      · rintro m' r s' hr ⟨hT', h01'⟩ hK'
        rw [wY_keepGroup_36]
        refine br_f (by rw [hpw.1]; exact nI_ge hr (by omega)) ⟨vp_in_nI (by omega) (by decide), ?_⟩
        rw [nI_clamp (n := k) (by omega)]
        refine br_c (fun hy => nm_r (nI_1 k) (hK s' ⟨th_row hT' (Or.inr hy), h01'⟩)) (fun hy => nm_r (nI_or k r) ?_)
        have hor : k ||| r < 2 ^ c := Nat.or_lt_two_pow hk hr
        have hsub : (nI r &&& (nI g ^^^ (-1))) = 0 ↔ ∀ p, p < c → r.testBit p = true → g.testBit p = true := by
          rw [and_n0]
          constructor
          · intro z p hp hb
            have := z p (by rw [vb_nI r p (by omega)]; exact hb)
            rw [vb_nI g p (by omega)] at this; exact this
          · intro z p hb
            have hpc : p < c := by
              rcases Nat.lt_or_ge p c with q | q
              · exact q
              · rw [vb_nIs (by omega), Nat.testBit_lt_two_pow (Nat.lt_of_lt_of_le hr (Nat.pow_le_pow_right (by decide) q))] at hb; cases hb
            rw [vb_nI r p (by omega)] at hb
            rw [vb_nI g p (by omega)]; exact z p hpc hb
        refine br_c (fun hs0 => ⟨vp_in_nI (by omega) (by decide), ?_⟩) (fun hs0 => nm_r (nI_1 r) (hK' s' ⟨th_same hT' (fun _ _ f _ _ => absurd (hsub.mpr f) hs0) hk, h01'⟩))
        rw [nI_clamp (n := k ||| r) (by omega)]
        refine br_c (fun ht0 => ?_) (fun ht0 => nm_r (nI_1 r) (hK' s' ⟨th_same hT' (fun _ _ _ _ _ => ht0) hk, h01'⟩))
        refine y_ir (n := n) (O := O) ?_ (by omega) (fun hA => br_f (by decide) (nm_r (nI_1 r) (hK' s' ⟨th_same hT' (fun _ _ _ z _ => absurd z hA) hk, h01'⟩))) (fun hA => br_t rfl ?_)
        · exact hcp0
        refine y_cg (n := n) (O := O) ?_ (by omega) (by omega) (fun hgr => br_f (by decide) (nm_r (nI_1 r) (hK' s' ⟨th_same hT' (fun _ _ _ _ z => absurd hgr z) hk, h01'⟩))) (fun hgr => br_t rfl ⟨vp_in_nI (by omega) (by decide), nm_r (e' := upd s' (k ||| r) 1) (by rw [nb1]) (nm_r (nI_1 r) (hK' (upd s' (k ||| r) 1) ⟨th_new hT' hk hr hy (hsub.mp hs0) hA hgr, fun t ht => ?_⟩))⟩)
        · exact hcp0
        by_cases e : t = k ||| r
        · rw [e, pk_us]; exact Or.inr rfl
        · rw [pk_un e]; exact h01' t ht
  · intro m j s hj hs hK
    rw [wY_keepGroup_2]
    refine br_f (nI_ge (b := 1024) hj (by decide)) ⟨vp_in_nI hj (by decide), nm_r (e' := upd s j 0) (by rw [nI_clamp (by omega), nb0]) (nm_r (nI_1 j) (hK (upd s j 0) (fun t ht => ?_)))⟩
    by_cases e : t = j
    · subst e; exact pk_us
    · rw [pk_un e]; exact hs t (by omega)
theorem y_o166 {post : Int32 → SY → Prop} {yn yc : Int32} {yo yp ym ys yl yb yw yk yt yz yx : Nat → Int32} {n : Nat} {O : Nat → Nat} (h : zRY n O (yn, yc, yo, yp, ym, ys, yl, yb, yw, yk, yt, yz, yx)) {c : Nat} {B W : Nat → Nat} (hcp : cps n O c B W yc yb yw) (hl : ∀ t, t < 2 ^ c → (yk t ≠ 0 ↔ LV n O c B W 0 t)) (hp : ∀ w v', isSet w (W10 n O) → zRY n O v' → post w v') : ∃ m, wY_inOrder_166 post yn yc yo yp ym ys yl yb yw yk yt yz yx m 0 0 := by
  have hcp0 := hcp
  obtain ⟨ec, hc10, hI, hq⟩ := hcp
  subst ec
  have hpw := pw10' c hc10
  refine pk_loop (σ := Int32) (fun m k w => wY_inOrder_166 post yn (nI c) yo yp ym ys yl yb yw yk yt yz yx m w (nI k)) (fun k w => isSet w (fun i => ∃ t, t < k ∧ t < 2 ^ c ∧ LV n O c B W 0 t ∧ ¬ ∃ q, q < c ∧ t.testBit q = true ∧ W q = i)) (2 ^ c) 0 0 (Nat.zero_le _) (vb_congr vb_empty (fun i _ => ⟨fun z => z.elim, fun ⟨t, ht, _⟩ => by omega⟩)) ?_ ?_
  · intro m w hw
    rw [wY_inOrder_166]
    refine br_t (by rw [hpw.1]; exact nI_le (Nat.le_refl _) (by omega)) (hp w _ (vb_congr hw (fun i hi => ⟨?_, ?_⟩)) h)
    · rintro ⟨t, a, b, d, e⟩
      exact ⟨Kof c B W t, LV_fin hI d, fun x _ ⟨r, r1, r2, r3, r4⟩ => e ⟨r, r1, r2, r4⟩⟩
    · rintro ⟨K, hK, hno⟩
      obtain ⟨k, hk, hkk⟩ := fin_LV hI hK
      refine ⟨k, hk.1, hk.1, hk, fun ⟨q, q1, q2, q3⟩ => ?_⟩
      have := (hkk (B q) i (hI.1 q q1).1 hi).mp ⟨q, q1, q2, rfl, q3⟩
      exact hno _ (hI.1 q q1).1 this
  · intro m k w hk hw hK
    rw [wY_inOrder_166]
    refine br_f (by rw [hpw.1]; exact nI_ge hk (by omega)) ⟨vp_in_nI (by omega) (by decide), ?_⟩
    rw [nI_clamp (by omega)]
    have hlk := hl k hk
    refine br_c (fun hz => nm_r (nI_1 k) (hK w (vb_congr hw (fun i _ => ⟨fun ⟨t, a, b⟩ => ⟨t, by omega, b⟩, fun ⟨t, a, b, d, e⟩ => ?_⟩)))) (fun hz => y_free hcp0 (by omega) (fun r hr => nm_e (nm_r (nI_1 k) (hK _ (vb_congr (vb_or hw hr) (fun i _ => ⟨?_, ?_⟩))))))
    · by_cases et : t = k
      · subst et; exact absurd hz (hlk.mpr d)
      · exact ⟨t, by omega, b, d, e⟩
    · rintro (⟨t, a, b⟩ | z)
      · exact ⟨t, by omega, b⟩
      · exact ⟨k, by omega, hk, hlk.mp hz, z⟩
    · rintro ⟨t, a, b, d, e⟩
      by_cases et : t = k
      · subst et; exact Or.inr e
      · exact Or.inl ⟨t, by omega, b, d, e⟩
theorem y_o95 {post : Int32 → SY → Prop} {v : SY} {n : Nat} {O : Nat → Nat} (h : zRYM n O v) {c : Nat} {B W : Nat → Nat} (hcp : cps n O c B W v.2.1 v.2.2.2.2.2.2.2.1 v.2.2.2.2.2.2.2.2.1) (hl : ∀ t, t < 2 ^ c → (v.2.2.2.2.2.2.2.2.2.1 t ≠ 0 ↔ LV n O c B W 9 t)) (hp : ∀ w v', isSet w (W10 n O) → zRY n O v' → post w v') : ∃ m, wY_inOrder_95 post m 9 v.1 v.2.1 v.2.2.1 v.2.2.2.1 v.2.2.2.2.1 v.2.2.2.2.2.1 v.2.2.2.2.2.2.1 v.2.2.2.2.2.2.2.1 v.2.2.2.2.2.2.2.2.1 v.2.2.2.2.2.2.2.2.2.1 v.2.2.2.2.2.2.2.2.2.2.1 v.2.2.2.2.2.2.2.2.2.2.2.1 v.2.2.2.2.2.2.2.2.2.2.2.2 := by
  have hn := h.1.1
  have key := pk_loopD (σ := SY) (fun m e s => wY_inOrder_95 post m (nI e) s.1 s.2.1 s.2.2.1 s.2.2.2.1 s.2.2.2.2.1 s.2.2.2.2.2.1 s.2.2.2.2.2.2.1 s.2.2.2.2.2.2.2.1 s.2.2.2.2.2.2.2.2.1 s.2.2.2.2.2.2.2.2.2.1 s.2.2.2.2.2.2.2.2.2.2.1 s.2.2.2.2.2.2.2.2.2.2.2.1 s.2.2.2.2.2.2.2.2.2.2.2.2)
    (fun e s => e ≤ 9 ∧ zRYM n O s ∧ cps n O c B W s.2.1 s.2.2.2.2.2.2.2.1 s.2.2.2.2.2.2.2.2.1 ∧ ∀ t, t < 2 ^ c → (s.2.2.2.2.2.2.2.2.2.1 t ≠ 0 ↔ LV n O c B W (e : Int) t))
    (by
      rintro m ⟨yn', yc', yo', yp', ym', ys', yl', yb', yw', yk', yt', yz', yx'⟩ ⟨_, hY, hcp, hl⟩
      dsimp only at hcp hl ⊢
      rw [wY_inOrder_95]
      exact br_t (by decide) (y_o166 hY.1 hcp hl hp))
    (by
      rintro m e ⟨yn', yc', yo', yp', ym', ys', yl', yb', yw', yk', yt', yz', yx'⟩ ⟨he, hY, hcp, hl⟩ hK
      dsimp only at hcp hl hK ⊢
      have hcp0 := hcp
      obtain ⟨ec, hc10, hI, hq⟩ := hcp
      subst ec
      have hm : ∀ a b, a < 5 → b < 5 → ym' (5 * a + b) = iI (Mg n O a b) := hY.2
      rw [wY_inOrder_95]
      refine br_f (nI_nle (by omega) (by omega)) ?_
      refine pk_loop (σ := Int32) (fun m' q x => wY_inOrder_103 post (wY_inOrder_95 post m) (nI (e + 1)) yn' (nI c) yo' yp' ym' ys' yl' yb' yw' yk' yt' yz' yx' m' x (nI q)) (fun q x => ∃ g, x = nI g ∧ g < 2 ^ c ∧ ∀ p, p < c → (g.testBit p = true ↔ (p < q ∧ Mg n O (B p) (W p) = ((e + 1 : Nat) : Int)))) c 0 0 (by omega) ⟨0, rfl, Nat.two_pow_pos c, fun p _ => by simp⟩ ?_ ?_
      · rintro m' x ⟨g, rfl, hg, hbit⟩
        rw [wY_inOrder_103]
        have hpw := pw10' c hc10
        have ecast : ((e : Nat) : Int) = ((e + 1 : Nat) : Int) - 1 := by omega
        refine br_t (nI_le (Nat.le_refl _) (by omega)) (pk_eq g 0 (fun e0 => ?_) (fun e0 => ?_))
        · refine nm_r (pk_m1 e) (hK (yn', (nI c), yo', yp', ym', ys', yl', yb', yw', yk', yt', yz', yx') ⟨by omega, hY, hcp0, fun t ht => ?_⟩)
          rw [hl t ht, ecast]
          refine (LV_skip (fun q hqc z => ?_)).symm
          have := (hbit q hqc).mpr ⟨hqc, z⟩
          rw [e0] at this; simp at this
        · refine y_kg hcp0 hg (fun k' t' hk' => nm_r (pk_m1 e) (hK (yn', (nI c), yo', yp', ym', ys', yl', yb', yw', k', t', yz', yx') ⟨by omega, rm_any hY, hcp0, fun t ht => ?_⟩))
          dsimp only
          rw [hk' t ht, ecast, LV_grp (g := g) (fun q hqc => by rw [hbit q hqc]; exact ⟨fun z => z.2, fun z => ⟨hqc, z⟩⟩)]
          constructor
          · rintro ⟨k1, r1, a, b, d, f⟩
            exact ⟨k1, r1, (hl k1 a).mp d, b, f⟩
          · rintro ⟨k1, r1, a, b, f⟩
            exact ⟨k1, r1, a.1, b, (hl k1 a.1).mpr a, f⟩
      · rintro m' q x hqc ⟨g, rfl, hg, hbit⟩ hK'
        rw [wY_inOrder_103]
        obtain ⟨eB, eW, hM⟩ := hq q hqc
        have hIq := hI.1 q hqc
        have hbd := Mg_bd hn O (B q) (W q)
        refine br_f (nI_ge hqc (by omega)) ⟨vp_in_nI (by omega) (by decide), vp_in_nI (by omega) (by decide), ?_⟩
        rw [nI_clamp (n := q) (by omega), eB, eW, vn_5b, nI_clamp (n := 5 * B q + W q) (by omega), hm _ _ hIq.1 hIq.2.1]
        refine ⟨vp_in_nI (by omega) (by decide), vi_eq (Mg n O (B q) (W q)) ((e + 1 : Nat) : Int) (fun em => ?_) (fun em => nm_r (nI_1 q) (hK' (nI g) ⟨g, rfl, hg, fun p hp' => ?_⟩)) rfl (vs_iN (e + 1)).symm⟩
        · refine nm_r (e' := nI (g ||| 2 ^ q)) (by rw [pw10 q (by omega), nI_or]) (nm_r (nI_1 q) (hK' _ ⟨g ||| 2 ^ q, rfl, Nat.or_lt_two_pow hg (Nat.pow_lt_pow_right (by decide) hqc), fun p hp' => ?_⟩))
          rw [or_bit, hbit p hp']
          constructor
          · rintro (⟨a, b⟩ | rfl)
            · exact ⟨by omega, b⟩
            · exact ⟨by omega, em⟩
          · rintro ⟨a, b⟩
            by_cases ep : p = q
            · exact Or.inr ep
            · exact Or.inl ⟨by omega, b⟩
        · rw [hbit p hp']
          refine ⟨fun z => ⟨by omega, z.2⟩, fun z => ⟨?_, z.2⟩⟩
          by_cases ep : p = q
          · subst ep; exact absurd z.2 em
          · omega)
  have k9 := key 9 v ⟨by omega, h, hcp, hl⟩
  exact ⟨10, k9⟩
theorem y_w10 {post : Int32 → SY → Prop} {v : SY} {n : Nat} {O : Nat → Nat} (h : zRYM n O v) (hp : ∀ w v', isSet w (W10 n O) → zRY n O v' → post w v') : wpY_inOrder post v := by
  obtain ⟨yn, yc, yo, yp, ym, ys, yl, yb, yw, yk, yt, yz, yx⟩ := v
  have hn := h.1.1
  unfold wpY_inOrder
  dsimp only
  refine y_cp h (fun c B W yc' b' w' hcp => ?_)
  have hpw := pw10' c hcp.2.1
  refine pk_loop (σ := Nat → Int32) (fun m j s => wY_inOrder_64 post yn yc' m (nI j) yo yp ym ys yl b' w' s yt yz yx) (fun j s => ∀ t, t < j → (s t ≠ 0 ↔ t = 0)) 1024 0 yk (by omega) (fun t ht => by omega) ?_ ?_
  · intro m s hs
    rw [wY_inOrder_64]
    refine br_t (by decide) (y_o95 (v := (yn, yc', yo, yp, ym, ys, yl, b', w', s, yt, yz, yx)) (rm_any h) hcp (fun t ht => ?_) hp)
    dsimp only
    rw [hs t (by omega), LV_9 hn ht]
  · intro m j s hj hs hK
    rw [wY_inOrder_64]
    refine br_f (nI_ge (b := 1024) hj (by decide)) (pk_eq j 0 (fun e => ?_) (fun e => ?_))
    · refine ⟨vp_in_nI hj (by decide), nm_r (e' := upd s j 1) (by rw [nI_clamp (by omega), nb1]) (nm_r (nI_1 j) (hK (upd s j 1) (fun t ht => ?_)))⟩
      by_cases et : t = j
      · subst et; rw [pk_us]; simp [e]
      · rw [pk_un et]; exact hs t (by omega)
    · refine ⟨vp_in_nI hj (by decide), nm_r (e' := upd s j 0) (by rw [nI_clamp (by omega), nb0]) (nm_r (nI_1 j) (hK (upd s j 0) (fun t ht => ?_)))⟩
      by_cases et : t = j
      · subst et; rw [pk_us]; simp [e]
      · rw [pk_un et]; exact hs t (by omega)
