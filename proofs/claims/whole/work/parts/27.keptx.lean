/-! ===== rule 10: the component's walk ===== -/
theorem nI_or (a b : Nat) : nI a ||| nI b = nI (a ||| b) := by
  apply b_ext
  intro i hi
  rw [b_or, vb_nI a i hi, vb_nI b i hi, vb_nI _ i hi, Nat.testBit_or]
theorem pw10 : ∀ p, p < 11 → (1 : Int32) <<< (nI p &&& 31) = nI (2 ^ p) := by decide +kernel
def pa5 (p : Nat) : Nat := if p < 4 then 0 else if p < 7 then 1 else if p < 9 then 2 else 3
def pb5 (p : Nat) : Nat := if p < 4 then p + 1 else if p < 7 then p - 2 else if p < 9 then p - 4 else 4
def ix5 (a b : Nat) : Nat := a * (9 - a) / 2 + (b - a - 1)
theorem pr_t1 : ∀ a, a < 5 → ∀ b, b < 5 → a < b → pa5 (ix5 a b) = a ∧ pb5 (ix5 a b) = b ∧ ix5 a b < 10 := by decide
theorem pr_t2 : ∀ p, p < 10 → pa5 p < pb5 p ∧ pb5 p < 5 := by decide
theorem pr_t3 : ∀ p, p < 10 → ∀ q, q < 10 → pa5 p = pa5 q → pb5 p = pb5 q → p = q := by decide
theorem pr_t4 : ∀ a, a < 5 → ix5 a 5 = ix5 (a + 1) (a + 2) ∧ ix5 a 5 ≤ 10 := by decide
def prU (n : Nat) (O : Nat → Nat) (p : Nat) : Nat := if 0 < Mg n O (pa5 p) (pb5 p) then pa5 p else pb5 p
def prL (n : Nat) (O : Nat → Nat) (p : Nat) : Nat := if 0 < Mg n O (pa5 p) (pb5 p) then pb5 p else pa5 p
theorem pr_idx (n : Nat) (O : Nat → Nat) : IDX n O 10 (prU n O) (prL n O) := by
  refine ⟨fun p hp => ?_, fun a b ha hb hM => ?_, fun p q hp hq h1 h2 => ?_⟩
  · have := pr_t2 p hp
    have ha := Mg_anti n O (pa5 p) (pb5 p)
    unfold prU prL
    split
    · exact ⟨by omega, by omega, by omega⟩
    · exact ⟨by omega, by omega, by omega⟩
  · have hne := ne_of_pos hM
    rcases Nat.lt_or_gt_of_ne hne with g | g
    · obtain ⟨t1, t2, t3⟩ := pr_t1 a ha b hb g
      refine ⟨ix5 a b, t3, ?_, ?_⟩
      · unfold prU; rw [t1, t2, if_pos hM]
      · unfold prL; rw [t1, t2, if_pos hM]
    · obtain ⟨t1, t2, t3⟩ := pr_t1 b hb a ha g
      have hno : ¬ 0 < Mg n O b a := by have := Mg_anti n O a b; omega
      refine ⟨ix5 b a, t3, ?_, ?_⟩
      · unfold prU; rw [t1, t2, if_neg hno]
      · unfold prL; rw [t1, t2, if_neg hno]
  · have hp2 := pr_t2 p hp
    have hq2 := pr_t2 q hq
    unfold prU at h1
    unfold prL at h2
    by_cases c1 : 0 < Mg n O (pa5 p) (pb5 p)
    · by_cases c2 : 0 < Mg n O (pa5 q) (pb5 q)
      · rw [if_pos c1, if_pos c2] at h1 h2
        exact pr_t3 p hp q hq h1 h2
      · rw [if_pos c1, if_neg c2] at h1 h2
        omega
    · by_cases c2 : 0 < Mg n O (pa5 q) (pb5 q)
      · rw [if_neg c1, if_pos c2] at h1 h2
        omega
      · rw [if_neg c1, if_neg c2] at h1 h2
        exact pr_t3 p hp q hq h2 h1
def prs (n : Nat) (O : Nat → Nat) (N : Nat) (xu xl xg : Nat → Int32) : Prop := ∀ p, p < N → xu p = nI (prU n O p) ∧ xl p = nI (prL n O p) ∧ xg p = iI (Mg n O (prU n O p) (prL n O p))
theorem prs_up {n : Nat} {O : Nat → Nat} {N : Nat} {xu xl xg : Nat → Int32} (h : prs n O N xu xl xg) : prs n O (N + 1) (upd xu N (nI (prU n O N))) (upd xl N (nI (prL n O N))) (upd xg N (iI (Mg n O (prU n O N) (prL n O N)))) := by
  intro p hp
  by_cases e : p = N
  · subst e; exact ⟨pk_us, pk_us, pk_us⟩
  · rw [pk_un e, pk_un e, pk_un e]; exact h p (by omega)
theorem x_lp {post : SX → Prop} {xc : Int32} {xo xr xp xm xb xs xq xn xu xl xg xk xt xw xv : Nat → Int32} {n : Nat} {O : Nat → Nat} (h : zRX n O (xc, xo, xr, xp, xm, xb, xs, xq, xn, xu, xl, xg, xk, xt, xw, xv)) (hp : ∀ u' l' g' : Nat → Int32, prs n O 10 u' l' g' → post (xc, xo, xr, xp, xm, xb, xs, xq, xn, u', l', g', xk, xt, xw, xv)) : wpX_listPairs post (xc, xo, xr, xp, xm, xb, xs, xq, xn, xu, xl, xg, xk, xt, xw, xv) := by
  have hn := h.1.1
  have hm : ∀ a b, a < 5 → b < 5 → xm (5 * a + b) = iI (Mg n O a b) := h.2.1
  unfold wpX_listPairs
  dsimp only
  refine pk_loop (σ := Int32 × (Nat → Int32) × (Nat → Int32) × (Nat → Int32)) (fun m a s => wX_listPairs_4 post xc m s.1 (nI a) xo xr xp xm xb xs xq xn s.2.1 s.2.2.1 s.2.2.2 xk xt xw xv) (fun a s => s.1 = nI (ix5 a (a + 1)) ∧ prs n O (ix5 a (a + 1)) s.2.1 s.2.2.1 s.2.2.2) 5 0 (0, xu, xl, xg) (by omega) ⟨rfl, fun p hp => by simp [ix5] at hp⟩ ?_ ?_
  · rintro m ⟨x1, u', l', g'⟩ ⟨_, hs⟩
    dsimp only at hs ⊢
    rw [wX_listPairs_4]
    exact br_t (by decide) (hp u' l' g' hs)
  · rintro m a ⟨x1, u', l', g'⟩ ha ⟨e1, hs⟩ hK
    dsimp only at e1 hs hK ⊢
    subst e1
    rw [wX_listPairs_4]
    refine br_f (nI_ge (b := 5) ha (by decide)) (nm_r (nI_1 a) ?_)
    refine pk_loop (σ := Int32 × (Nat → Int32) × (Nat → Int32) × (Nat → Int32)) (fun m' b s => wX_listPairs_13 post (wX_listPairs_4 post xc m) (nI a) xc m' s.1 (nI b) xo xr xp xm xb xs xq xn s.2.1 s.2.2.1 s.2.2.2 xk xt xw xv) (fun b s => a < b ∧ s.1 = nI (ix5 a b) ∧ prs n O (ix5 a b) s.2.1 s.2.2.1 s.2.2.2) 5 (a + 1) (nI (ix5 a (a + 1)), u', l', g') (by omega) ⟨by omega, rfl, hs⟩ ?_ ?_
    · rintro m' ⟨x1, u2, l2, g2⟩ ⟨_, e1, h2⟩
      dsimp only at e1 h2 ⊢
      subst e1
      rw [wX_listPairs_13]
      have ht := pr_t4 a ha
      refine br_t (by decide) (nm_r (nI_1 a) (hK (nI (ix5 a 5), u2, l2, g2) ⟨?_, ?_⟩))
      · dsimp only; rw [ht.1]
      · dsimp only; rw [← ht.1]; exact h2
    · rintro m' b ⟨x1, u2, l2, g2⟩ hb ⟨hab, e1, h2⟩ hK'
      dsimp only at e1 h2 hK' ⊢
      subst e1
      rw [wX_listPairs_13]
      obtain ⟨t1, t2, t3⟩ := pr_t1 a ha b hb hab
      have hbd := Mg_bd hn O a b
      have hanti := Mg_anti n O a b
      have ei : ix5 a b + 1 = ix5 a (b + 1) := by unfold ix5; omega
      have nxt := hK' (nI (ix5 a (b + 1)), upd u2 (ix5 a b) (nI (prU n O (ix5 a b))), upd l2 (ix5 a b) (nI (prL n O (ix5 a b))), upd g2 (ix5 a b) (iI (Mg n O (prU n O (ix5 a b)) (prL n O (ix5 a b))))) ⟨by omega, rfl, by dsimp only; rw [← ei]; exact prs_up h2⟩
      dsimp only at nxt
      refine br_f (nI_ge (b := 5) hb (by decide)) ⟨by rw [vn_5a]; exact vp_in_nI (by omega) (by decide), nm_r (e' := iI (Mg n O a b)) (by rw [vn_5a, nI_clamp (by omega), hm a b ha hb]) (vi_le (Mg n O a b) 0 (fun hle => ?_) (fun hlt => ?_))⟩
      · have eU : prU n O (ix5 a b) = b := by unfold prU; rw [t1, t2, if_neg (by omega)]
        have eL : prL n O (ix5 a b) = a := by unfold prL; rw [t1, t2, if_neg (by omega)]
        rw [eU, eL] at nxt
        unfold wX_listPairs_45
        refine ⟨vp_in_nI t3 (by decide), nm_r (e' := upd u2 (ix5 a b) (nI b)) (by rw [nI_clamp (by omega)]) (vi_le (Mg n O a b) 0 (fun _ => ?_) (fun q => by omega))⟩
        unfold wX_listPairs_61
        refine ⟨vp_in_nI t3 (by decide), nm_r (e' := upd l2 (ix5 a b) (nI a)) (by rw [nI_clamp (by omega)]) (vi_le (Mg n O a b) 0 (fun _ => ⟨vp_in_nI t3 (by decide), nm_r (e' := upd g2 (ix5 a b) (iI (Mg n O b a))) (by rw [nI_clamp (by omega), vs_neg, hanti, Int.neg_neg]) (nm_r (e' := nI (ix5 a (b + 1))) (by rw [nI_1, ei]) (nm_r (nI_1 b) nxt))⟩) (fun q => by omega))⟩
      · have eU : prU n O (ix5 a b) = a := by unfold prU; rw [t1, t2, if_pos hlt]
        have eL : prL n O (ix5 a b) = b := by unfold prL; rw [t1, t2, if_pos hlt]
        rw [eU, eL] at nxt
        unfold wX_listPairs_45
        refine ⟨vp_in_nI t3 (by decide), nm_r (e' := upd u2 (ix5 a b) (nI a)) (by rw [nI_clamp (by omega)]) (vi_le (Mg n O a b) 0 (fun q => by omega) (fun _ => ?_))⟩
        unfold wX_listPairs_61
        refine ⟨vp_in_nI t3 (by decide), nm_r (e' := upd l2 (ix5 a b) (nI b)) (by rw [nI_clamp (by omega)]) (vi_le (Mg n O a b) 0 (fun q => by omega) (fun _ => ⟨vp_in_nI t3 (by decide), nm_r (e' := upd g2 (ix5 a b) (iI (Mg n O a b))) (by rw [nI_clamp (by omega)]) (nm_r (e' := nI (ix5 a (b + 1))) (by rw [nI_1, ei]) (nm_r (nI_1 b) nxt))⟩))⟩
theorem vb_or {x y : Int32} {W W' : Nat → Prop} (h : isSet x W) (h' : isSet y W') : isSet (x ||| y) (fun i => W i ∨ W' i) := by
  intro i
  rw [b_or, Bool.or_eq_true, h i, h' i]
  constructor
  · rintro (⟨a, b⟩ | ⟨a, b⟩)
    · exact ⟨a, Or.inl b⟩
    · exact ⟨a, Or.inr b⟩
  · rintro ⟨a, b | b⟩
    · exact Or.inl ⟨a, b⟩
    · exact Or.inr ⟨a, b⟩
def wI5 (K C : Nat → Nat → Prop) (k : Nat) : Prop := (∀ a b, a < 5 → b < 5 → K a b → C a b) ∧ (∀ a b, a < 5 → b < 5 → C a b → Rch K a b) ∧ ∀ a b c, a < 5 → b < 5 → c < 5 → c < k → C a c → C c b → C a b
theorem wI_step {K C : Nat → Nat → Prop} {k : Nat} (hk : k < 5) (h : wI5 K C k) : wI5 K (fun a b => C a b ∨ (C a k ∧ C k b)) (k + 1) := by
  obtain ⟨h1, h2, h3⟩ := h
  refine ⟨fun a b ha hb hK => Or.inl (h1 a b ha hb hK), fun a b ha hb hC => ?_, fun a b c ha hb hc hck h4 h5 => ?_⟩
  · rcases hC with hC | ⟨c1, c2⟩
    · exact h2 a b ha hb hC
    · exact rch_t ha hk hb (h2 a k ha hk c1) (h2 k b hk hb c2)
  · by_cases e : c = k
    · subst e
      right
      refine ⟨?_, ?_⟩
      · rcases h4 with z | z
        · exact z
        · exact z.1
      · rcases h5 with z | z
        · exact z
        · exact z.2
    · have hlt : c < k := by omega
      rcases h4 with h4 | ⟨p1, p2⟩ <;> rcases h5 with h5 | ⟨q1, q2⟩
      · exact Or.inl (h3 a b c ha hb hc hlt h4 h5)
      · exact Or.inr ⟨h3 a k c ha hk hc hlt h4 q1, q2⟩
      · exact Or.inr ⟨p1, h3 k b c hk hb hc hlt p2 h5⟩
      · exact Or.inr ⟨p1, q2⟩
theorem wI_end {K C : Nat → Nat → Prop} (h : wI5 K C 5) {a b : Nat} (ha : a < 5) (hb : b < 5) : C a b ↔ Rch K a b := by
  refine ⟨h.2.1 a b ha hb, fun hr => ?_⟩
  exact hr C h.1 (fun x y z hx hy hz h1 h2 => h.2.2 x z y hx hz hy hy h1 h2)
theorem x_fw {post : SX → Prop} {xc : Int32} {xo xr xp xm xb xs xq xn xu xl xg xk xt xw xv : Nat → Int32} {n : Nat} {O : Nat → Nat} (hp3 : prs n O 10 xu xl xg) {k : Nat} (hk : k < 1024)
    (hp : ∀ t' : Nat → Int32, (∀ a, a < 5 → isSet (t' a) (Rch (Kof 10 (prU n O) (prL n O) k) a)) → post (xc, xo, xr, xp, xm, xb, xs, xq, xn, xu, xl, xg, xk, t', xw, xv)) : wpX_findWaysOver post (xc, xo, xr, xp, xm, xb, xs, xq, xn, xu, xl, xg, xk, xt, xw, xv) (nI k) := by
  have hI := pr_idx n O
  unfold wpX_findWaysOver
  dsimp only
  refine pk_loop (σ := Nat → Int32) (fun m a s => wX_findWaysOver_2 post (nI k) xc m (nI a) xo xr xp xm xb xs xq xn xu xl xg xk s xw xv) (fun a s => ∀ x, x < a → s x = 0) 5 0 xt (by omega) (fun x hx => by omega) ?_ ?_
  · intro m s hs
    rw [wX_findWaysOver_2]
    refine br_t (by decide) ?_
    refine pk_loop (σ := Nat → Int32) (fun m p s => wX_findWaysOver_22 post (nI k) xc m (nI p) xo xr xp xm xb xs xq xn xu xl xg xk s xw xv) (fun p s => ∀ x, x < 5 → isSet (s x) (fun b => ∃ q, q < p ∧ k.testBit q = true ∧ prU n O q = x ∧ prL n O q = b)) 10 0 s (by omega) (fun x hx => by rw [hs x hx]; exact vb_congr vb_empty (fun i _ => ⟨fun z => z.elim, fun ⟨q, hq, _⟩ => by omega⟩)) ?_ ?_
    · intro m s hs
      rw [wX_findWaysOver_22]
      refine br_t (by decide) ?_
      refine pk_loop (σ := Nat → Int32) (fun m via s => wX_findWaysOver_66 post xc m (nI via) xo xr xp xm xb xs xq xn xu xl xg xk s xw xv) (fun via s => ∃ C, (∀ x, x < 5 → isSet (s x) (C x)) ∧ wI5 (Kof 10 (prU n O) (prL n O) k) C via) 5 0 s (by omega) ⟨Kof 10 (prU n O) (prL n O) k, hs, fun _ _ _ _ h => h, fun a b ha hb h => rch_1 ha hb h, fun a b c _ _ _ h => by omega⟩ ?_ ?_
      · rintro m s ⟨C, h1, h2⟩
        rw [wX_findWaysOver_66]
        exact br_t (by decide) (hp s (fun a ha => vb_congr (h1 a ha) (fun b hb => wI_end h2 ha hb)))
      · rintro m via s hv ⟨C, h1, h2⟩ hK
        rw [wX_findWaysOver_66]
        refine br_f (nI_ge (b := 5) hv (by decide)) ?_
        refine pk_loop (σ := Nat → Int32) (fun m' a s => wX_findWaysOver_73 post (wX_findWaysOver_66 post xc m) (nI via) xc m' (nI a) xo xr xp xm xb xs xq xn xu xl xg xk s xw xv) (fun a s => ∀ x, x < 5 → isSet (s x) (fun b => C x b ∨ (x < a ∧ C x via ∧ C via b))) 5 0 s (by omega) (fun x hx => vb_congr (h1 x hx) (fun b _ => ⟨Or.inl, fun z => z.elim id (fun w => by omega)⟩)) ?_ ?_
        · intro m' s' hs'
          rw [wX_findWaysOver_73]
          refine br_t (by decide) (nm_r (nI_1 via) (hK s' ⟨fun a b => C a b ∨ (C a via ∧ C via b), fun x hx => vb_congr (hs' x hx) (fun b _ => ?_), wI_step hv h2⟩))
          exact ⟨fun z => z.elim Or.inl (fun w => Or.inr w.2), fun z => z.elim Or.inl (fun w => Or.inr ⟨hx, w⟩)⟩
        · intro m' a s' ha hs' hK'
          rw [wX_findWaysOver_73]
          refine br_f (nI_ge (b := 5) ha (by decide)) ⟨vp_in_nI ha (by decide), ?_⟩
          rw [nI_clamp (n := a) (by omega), nI_clamp (n := via) (by omega)]
          have hav : bt (s' a) via = true ↔ C a via := by
            rw [hs' a ha via]
            exact ⟨fun z => z.2.elim id (fun w => by omega), fun z => ⟨hv, Or.inl z⟩⟩
          have hvr : isSet (s' via) (C via) := vb_congr (hs' via hv) (fun b _ => ⟨fun z => z.elim id (fun w => w.2.2), Or.inl⟩)
          refine x_has (by omega) (fun e => br_f (by decide) ⟨vp_in_nI ha (by decide), vp_in_nI hv (by decide), vp_in_nI ha (by decide), nm_e (nm_r (nI_1 a) (hK' (upd s' a (s' a ||| s' via)) (fun x hx => ?_)))⟩) (fun e => br_t rfl (nm_r (nI_1 a) (hK' s' (fun x hx => vb_congr (hs' x hx) (fun b _ => ?_)))))
          · by_cases ex : x = a
            · subst ex
              rw [pk_us]
              refine vb_congr (vb_or (hs' x hx) hvr) (fun b _ => ⟨?_, ?_⟩)
              · rintro ((z | z) | z)
                · exact Or.inl z
                · omega
                · exact Or.inr ⟨by omega, hav.mp e, z⟩
              · rintro (z | z)
                · exact Or.inl (Or.inl z)
                · exact Or.inr z.2.2
            · rw [pk_un ex]
              exact vb_congr (hs' x hx) (fun b _ => ⟨fun z => z.elim Or.inl (fun w => Or.inr ⟨by omega, w.2⟩), fun z => z.elim Or.inl (fun w => Or.inr ⟨by omega, w.2⟩)⟩)
          · refine ⟨fun z => z.elim Or.inl (fun w => Or.inr ⟨by omega, w.2⟩), fun z => z.elim Or.inl (fun w => ?_)⟩
            by_cases ex : x = a
            · subst ex
              rw [hav.mpr w.2.1] at e; cases e
            · exact Or.inr ⟨by omega, w.2⟩
    · intro m p s hp10 hs hK
      rw [wX_findWaysOver_22]
      obtain ⟨eU, eL, _⟩ := hp3 p hp10
      have hIp := hI.1 p hp10
      refine br_f (nI_ge (b := 10) hp10 (by decide)) (x_has (by omega) (fun e => br_f (by decide) ?_) (fun e => br_t rfl (nm_r (nI_1 p) (hK s (fun x hx => vb_congr (hs x hx) (fun b _ => ?_))))))
      · rw [vb_nI k p (by omega)] at e
        rw [nI_clamp (n := p) (by omega), eU, eL, nI_clamp (n := prU n O p) (by omega)]
        refine ⟨vp_in_nI hp10 (by decide), vp_in_nI hIp.1 (by decide), vp_in_nI hp10 (by decide), vp_in_nI hIp.1 (by decide), nm_e (nm_r (nI_1 p) (hK (upd s (prU n O p) (s (prU n O p) ||| ((1 : Int32) <<< (nI (prL n O p) &&& 31)))) (fun x hx => ?_)))⟩
        by_cases ex : x = prU n O p
        · subst ex
          rw [pk_us]
          refine vb_congr (vb_ins (hs _ hx) hIp.2.1) (fun b _ => ⟨?_, ?_⟩)
          · rintro (⟨q, q1, q2⟩ | z)
            · exact ⟨q, by omega, q2⟩
            · exact ⟨p, by omega, e, rfl, z.symm⟩
          · rintro ⟨q, q1, q2, q3, q4⟩
            by_cases eq : q = p
            · subst eq; exact Or.inr q4.symm
            · exact Or.inl ⟨q, by omega, q2, q3, q4⟩
        · rw [pk_un ex]
          refine vb_congr (hs x hx) (fun b _ => ⟨fun ⟨q, q1, q2⟩ => ⟨q, by omega, q2⟩, fun ⟨q, q1, q2, q3, q4⟩ => ?_⟩)
          by_cases eq : q = p
          · subst eq; exact absurd q3.symm ex
          · exact ⟨q, by omega, q2, q3, q4⟩
      · rw [vb_nI k p (by omega)] at e
        refine ⟨fun ⟨q, q1, q2⟩ => ⟨q, by omega, q2⟩, fun ⟨q, q1, q2, q3⟩ => ?_⟩
        by_cases eq : q = p
        · subst eq; rw [q2] at e; cases e
        · exact ⟨q, by omega, q2, q3⟩
  · intro m a s ha hs hK
    rw [wX_findWaysOver_2]
    refine br_f (nI_ge (b := 5) ha (by decide)) ⟨vp_in_nI ha (by decide), nm_r (e' := upd s a 0) (by rw [nI_clamp (by omega)]) (nm_r (nI_1 a) (hK (upd s a 0) (fun x hx => ?_)))⟩
    by_cases ex : x = a
    · subst ex; exact pk_us
    · rw [pk_un ex]; exact hs x (by omega)
