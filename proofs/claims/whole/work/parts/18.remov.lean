/-! ===== removals ===== -/
def ldk (n : Nat) (O : Nat → Nat) (c k : Nat) : Prop := ∀ d, d < 5 → d ≠ c → 0 < Mw (fun i => k.testBit i) n O c d
def gnk (n k : Nat) : Int := n - sm n (fun i => b01 (k.testBit i))
/-- z is the least number of ballots to remove, or -1002 -/
def isRem (n : Nat) (O : Nat → Nat) (c : Nat) (z : Int) : Prop := (z = -1002 ∧ ∀ k, 0 < k → k < 2 ^ n → ¬ ldk n O c k) ∨ (0 ≤ z ∧ z ≤ 9 ∧ (∃ k, 0 < k ∧ k < 2 ^ n ∧ ldk n O c k ∧ z = gnk n k) ∧ ∀ k, 0 < k → k < 2 ^ n → ldk n O c k → z ≤ gnk n k)
theorem isRem_u {n : Nat} {O : Nat → Nat} {c : Nat} {z z' : Int} (h : isRem n O c z) (h' : isRem n O c z') : z = z' := by
  rcases h with ⟨e, h⟩ | ⟨_, _, ⟨k, k0, k1, kl, ke⟩, hm⟩
  · rcases h' with ⟨e', _⟩ | ⟨_, _, ⟨k', k0', k1', kl', _⟩, _⟩
    · rw [e, e']
    · exact absurd kl' (h k' k0' k1')
  · rcases h' with ⟨e', h'⟩ | ⟨_, _, ⟨k', k0', k1', kl', ke'⟩, hm'⟩
    · exact absurd kl (h' k k0 k1)
    · have := hm k' k0' k1' kl'
      have := hm' k k0 k1 kl
      omega
theorem gn_bd (n k : Nat) : 0 ≤ gnk n k ∧ gnk n k ≤ n := by
  have h1 := sm_lo (n := n) (k := 0) (f := fun i => b01 (k.testBit i)) (fun i _ => (b01_bd _).1)
  have h2 := sm_hi (n := n) (k := 1) (f := fun i => b01 (k.testBit i)) (fun i _ => (b01_bd _).2)
  unfold gnk; omega
theorem cpl_bit {n t i : Nat} (ht : t < 2 ^ n) (hi : i < n) : (2 ^ n - 1 - t).testBit i = !t.testBit i := by
  rw [show 2 ^ n - 1 - t = 2 ^ n - (t + 1) from by omega, Nat.testBit_two_pow_sub_succ ht]
  simp [hi]
theorem cpl_ld {n t : Nat} {O : Nat → Nat} {c : Nat} (hn : n ≤ 9) (ht : t < 2 ^ n) : (∀ d, d < 5 → d ≠ c → 0 < Mw (fun i => !bt (nI t) i) n O c d) ↔ ldk n O c (2 ^ n - 1 - t) := by
  have e : ∀ d, Mw (fun i => !bt (nI t) i) n O c d = Mw (fun i => (2 ^ n - 1 - t).testBit i) n O c d := by
    intro d
    refine Mw_congr (fun i hi => ?_) (fun _ _ => rfl)
    rw [vb_nI t i (by omega), cpl_bit ht hi]
  constructor
  · intro h d hd hne; rw [← e]; exact h d hd hne
  · intro h d hd hne; rw [e]; exact h d hd hne
theorem sm_tail {n m : Nat} {f : Nat → Int} (h : n ≤ m) (hf : ∀ i, n ≤ i → f i = 0) : sm m f = sm n f := by
  induction m with
  | zero => have : n = 0 := by omega
            subst this; rfl
  | succ m ih =>
    by_cases e : n = m + 1
    · subst e; rfl
    · simp only [sm]
      rw [ih (by omega), hf m (by omega)]; omega
theorem cpl_sz {n t : Nat} (hn : n ≤ 9) (ht : t < 2 ^ n) : szI (nI t) = gnk n (2 ^ n - 1 - t) := by
  have e1 : szI (nI t) = sm n (fun j => b01 (t.testBit j)) := by
    have e2 : szI (nI t) = sm 10 (fun j => b01 (t.testBit j)) := sm_congr fun j hj => by rw [vb_nI t j (by omega)]
    rw [e2]
    refine sm_tail (by omega) (fun i hi => ?_)
    rw [Nat.testBit_lt_two_pow (Nat.lt_of_lt_of_le ht (Nat.pow_le_pow_right (by decide) hi))]
    rfl
  have e3 : sm n (fun j => b01 (t.testBit j)) + sm n (fun j => b01 ((2 ^ n - 1 - t).testBit j)) = n := by
    rw [← sm_add]
    have : sm n (fun i => b01 (t.testBit i) + b01 ((2 ^ n - 1 - t).testBit i)) = sm n (fun _ => 1) := by
      refine sm_congr fun i hi => ?_
      rw [cpl_bit ht hi]
      cases t.testBit i <;> rfl
    rw [this]
    have h1 := sm_lo (n := n) (k := 1) (f := fun _ => 1) (fun i _ => Int.le_refl _)
    have h2 := sm_hi (n := n) (k := 1) (f := fun _ => 1) (fun i _ => Int.le_refl _)
    omega
  unfold gnk
  omega
theorem pw9 : ∀ n, n ≤ 9 → (1 : Int32) <<< (nI n &&& 31) = nI (2 ^ n) ∧ 2 ^ n ≤ 512 := by decide +kernel
theorem x_lw {post : Int32 → Prop} {xc : Int32} {xo xr xp xm xb xs xq xn xu xl xg xk xt xw xv : Nat → Int32} {n : Nat} {O : Nat → Nat} (h : zRB n O (xc, xo, xr, xp, xm, xb, xs, xq, xn, xu, xl, xg, xk, xt, xw, xv)) {c : Nat} (hc : c < 5) (S : Int32) (h1 : (∀ d, d < 5 → d ≠ c → 0 < Mw (fun i => !bt S i) n O c d) → post 1) (h0 : ¬ (∀ d, d < 5 → d ≠ c → 0 < Mw (fun i => !bt S i) n O c d) → post 0) : wpX_leadsWithout post (xc, xo, xr, xp, xm, xb, xs, xq, xn, xu, xl, xg, xk, xt, xw, xv) (nI c) S := by
  have hn := h.1
  unfold wpX_leadsWithout
  dsimp only
  refine pk_loop (σ := Unit) (fun m d _ => wX_leadsWithout_2 post (nI c) S xc xo xr xp xm xb xs xq xn xu xl xg xk xt xw xv m (nI d)) (fun d _ => ∀ d', d' < d → d' ≠ c → 0 < Mw (fun i => !bt S i) n O c d') 5 0 () (by omega) (fun d' hd => by omega) ?_ ?_
  · intro m _ hw
    rw [wX_leadsWithout_2]
    exact br_t (by decide) (h1 hw)
  · intro m d _ hd hw hK
    rw [wX_leadsWithout_2]
    have ext : (d ≠ c → 0 < Mw (fun i => !bt S i) n O c d) → ∀ d', d' < d + 1 → d' ≠ c → 0 < Mw (fun i => !bt S i) n O c d' := by
      intro g d' hd' hne
      by_cases e : d' = d
      · subst e; exact g hne
      · exact hw d' (by omega) hne
    have hbd := Mw_bd (fun i => !bt S i) n O c d
    refine br_f (nI_ge (b := 5) hd (by decide)) (pk_eq d c (fun e => nm_r (nI_1 d) (hK () (ext fun z => absurd e z))) (fun e => x_mw h hc hd S ?_))
    exact vi_lt 0 _ (fun hlt => nm_r (nI_1 d) (hK () (ext fun _ => hlt))) (fun hle => h0 (fun g => by have := g d hd e; omega))
theorem x_rem {post : Int32 → Prop} {xc : Int32} {xo xr xp xm xb xs xq xn xu xl xg xk xt xw xv : Nat → Int32} {n : Nat} {O : Nat → Nat} (h : zRB n O (xc, xo, xr, xp, xm, xb, xs, xq, xn, xu, xl, xg, xk, xt, xw, xv)) {c : Nat} (hc : c < 5) (hp : ∀ z, isRem n O c z → post (iI z)) : wpX_fewestRemovals post (xc, xo, xr, xp, xm, xb, xs, xq, xn, xu, xl, xg, xk, xt, xw, xv) (nI c) := by
  have hn := h.1
  have h1 := h.2.1
  dsimp only at h1
  subst h1
  have hpw := pw9 n hn
  have h2p : 0 < 2 ^ n := Nat.two_pow_pos n
  unfold wpX_fewestRemovals
  dsimp only
  refine nm_r (e' := nI (2 ^ n - 1)) (by rw [hpw.1]; exact pk_sub (b := 1) h2p) ?_
  refine pk_loop (σ := Int32) (fun m t x => wX_fewestRemovals_16 post (nI c) (nI (2 ^ n - 1)) (nI n) xo xr xp xm xb xs xq xn xu xl xg xk xt xw xv m x (nI t)) (fun t x => ∃ z, x = iI z ∧ ((z = -1002 ∧ ∀ t', t' < t → ¬ ldk n O c (2 ^ n - 1 - t')) ∨ (0 ≤ z ∧ z ≤ 9 ∧ (∃ t', t' < t ∧ ldk n O c (2 ^ n - 1 - t') ∧ z = gnk n (2 ^ n - 1 - t')) ∧ ∀ t', t' < t → ldk n O c (2 ^ n - 1 - t') → z ≤ gnk n (2 ^ n - 1 - t')))) (2 ^ n - 1) 0 (-1002) (by omega) ⟨-1002, by decide, Or.inl ⟨rfl, fun t' ht => by omega⟩⟩ ?_ ?_
  · rintro m x ⟨z, rfl, hz⟩
    rw [wX_fewestRemovals_16]
    refine br_t (nI_le (Nat.le_refl _) (by omega)) (hp z ?_)
    rcases hz with ⟨e, hno⟩ | ⟨z0, z1, ⟨t, t1, t2, t3⟩, hm⟩
    · refine Or.inl ⟨e, fun k k0 k1 hl => hno (2 ^ n - 1 - k) (by omega) ?_⟩
      rw [show 2 ^ n - 1 - (2 ^ n - 1 - k) = k from by omega]; exact hl
    · refine Or.inr ⟨z0, z1, ⟨2 ^ n - 1 - t, by omega, by omega, t2, t3⟩, fun k k0 k1 hl => ?_⟩
      have := hm (2 ^ n - 1 - k) (by omega)
      rw [show 2 ^ n - 1 - (2 ^ n - 1 - k) = k from by omega] at this
      exact this hl
  · rintro m t x ht ⟨z, rfl, hz⟩ hK
    rw [wX_fewestRemovals_16]
    refine br_f (nI_ge ht (by omega)) (x_size ?_)
    have hsz := cpl_sz hn (show t < 2 ^ n by omega)
    have hgb := gn_bd n (2 ^ n - 1 - t)
    rw [hsz]
    have ask : (z = -1002 ∨ gnk n (2 ^ n - 1 - t) < z) → wX_fewestRemovals_42 post (wX_fewestRemovals_16 post (nI c) (nI (2 ^ n - 1)) (nI n) xo xr xp xm xb xs xq xn xu xl xg xk xt xw xv m) (nI c) (iI z) (nI (2 ^ n - 1)) (nI t) (iI (gnk n (2 ^ n - 1 - t))) (nI n) xo xr xp xm xb xs xq xn xu xl xg xk xt xw xv := by
      intro hq
      unfold wX_fewestRemovals_42
      refine x_lw h hc (nI t) (fun g => br_f (by decide) (nm_r (nI_1 t) (hK _ ⟨gnk n (2 ^ n - 1 - t), rfl, Or.inr ⟨by omega, by omega, ⟨t, by omega, (cpl_ld hn (by omega)).mp g, rfl⟩, fun t' ht' hl => ?_⟩⟩))) (fun g => br_t rfl (nm_r (nI_1 t) (hK _ ⟨z, rfl, ?_⟩)))
      · by_cases e : t' = t
        · subst e; exact Int.le_refl _
        · rcases hz with ⟨e1, hno⟩ | ⟨z0, z1, _, hm⟩
          · exact absurd hl (hno t' (by omega))
          · have := hm t' (by omega) hl
            rcases hq with q | q <;> omega
      · have hnl : ¬ ldk n O c (2 ^ n - 1 - t) := fun q => g ((cpl_ld hn (by omega)).mpr q)
        rcases hz with ⟨e, hno⟩ | ⟨z0, z1, ⟨t', t1, t2, t3⟩, hm⟩
        · refine Or.inl ⟨e, fun t' ht' => ?_⟩
          by_cases e2 : t' = t
          · subst e2; exact hnl
          · exact hno t' (by omega)
        · refine Or.inr ⟨z0, z1, ⟨t', by omega, t2, t3⟩, fun t' ht' hl => ?_⟩
          by_cases e2 : t' = t
          · subst e2; exact absurd hl hnl
          · exact hm t' (by omega) hl
    have hzb : -1002 ≤ z ∧ z ≤ 9 := by rcases hz with ⟨e, _⟩ | ⟨a, b, _⟩ <;> omega
    refine vi_eq z (-1002) (fun e => ask (Or.inl e)) (fun e => vi_le z _ (fun hle => nm_r (nI_1 t) (hK _ ⟨z, rfl, ?_⟩)) (fun hlt => ask (Or.inr hlt))) rfl (by decide)
    rcases hz with ⟨e2, _⟩ | ⟨z0, z1, ⟨t', t1, t2, t3⟩, hm⟩
    · exact absurd e2 e
    · refine Or.inr ⟨z0, z1, ⟨t', by omega, t2, t3⟩, fun t' ht' hl => ?_⟩
      by_cases e2 : t' = t
      · subst e2; exact hle
      · exact hm t' (by omega) hl
theorem y_rem {post : Int32 → Prop} {yn yc : Int32} {yo yp ym ys yl yb yw yk yt yz yx : Nat → Int32} {n : Nat} {O : Nat → Nat} (h : zRY n O (yn, yc, yo, yp, ym, ys, yl, yb, yw, yk, yt, yz, yx)) {c : Nat} (hc : c < 5) (hp : ∀ z, isRem n O c z → post (iI z)) : wpY_removals post (yn, yc, yo, yp, ym, ys, yl, yb, yw, yk, yt, yz, yx) (nI c) := by
  have hn := h.1
  have h1 := h.2.1
  dsimp only at h1
  subst h1
  have hpw := pw9 n hn
  have h2p : 0 < 2 ^ n := Nat.two_pow_pos n
  unfold wpY_removals
  dsimp only
  refine y_in 0 4 rfl (by decide) (fun hh => absurd rfl (hh c (by omega) (by omega))) (fun _ _ _ _ => br_f (by decide) ?_)
  refine pk_loop (σ := Int32) (fun m k x => wY_removals_19 post (nI c) (nI n) yc yo yp ym ys yl yb yw yk yt yz yx m x (nI k)) (fun k x => 0 < k ∧ ∃ z, x = iI z ∧ ((z = 100 ∧ ∀ k', 0 < k' → k' < k → ¬ ldk n O c k') ∨ (0 ≤ z ∧ z ≤ 9 ∧ (∃ k', 0 < k' ∧ k' < k ∧ ldk n O c k' ∧ z = gnk n k') ∧ ∀ k', 0 < k' → k' < k → ldk n O c k' → z ≤ gnk n k'))) (2 ^ n) 1 100 (by omega) ⟨by omega, 100, by decide, Or.inl ⟨rfl, fun t' _ ht => by omega⟩⟩ ?_ ?_
  · rintro m x ⟨_, z, rfl, hz⟩
    rw [wY_removals_19]
    refine br_t (by rw [hpw.1]; exact nI_le (Nat.le_refl _) (by omega)) ?_
    rcases hz with ⟨e, hno⟩ | ⟨z0, z1, ⟨k, k0, k1, k2, k3⟩, hm⟩
    · subst e
      exact br_t (by decide) (hp (-1002) (Or.inl ⟨rfl, hno⟩))
    · exact vi_eq z 100 (fun e => by omega) (fun _ => hp z (Or.inr ⟨z0, z1, ⟨k, k0, k1, k2, k3⟩, hm⟩))
  · rintro m k x hk ⟨k0, z, rfl, hz⟩ hK
    rw [wY_removals_19]
    refine br_f (by rw [hpw.1]; exact nI_ge hk (by omega)) ?_
    have hgb := gn_bd n k
    have hzb : 0 ≤ z ∧ z ≤ 100 := by rcases hz with ⟨e, _⟩ | ⟨a, b, _⟩ <;> omega
    have keep : (ldk n O c k → z ≤ gnk n k) → ((z = 100 ∧ ∀ k', 0 < k' → k' < k + 1 → ¬ ldk n O c k') ∨ (0 ≤ z ∧ z ≤ 9 ∧ (∃ k', 0 < k' ∧ k' < k + 1 ∧ ldk n O c k' ∧ z = gnk n k') ∧ ∀ k', 0 < k' → k' < k + 1 → ldk n O c k' → z ≤ gnk n k')) := by
      intro g
      rcases hz with ⟨e, hno⟩ | ⟨z0, z1, ⟨k', a0, a1, a2, a3⟩, hm⟩
      · refine Or.inl ⟨e, fun k' a b hl => ?_⟩
        by_cases e2 : k' = k
        · subst e2
          have := g hl
          omega
        · exact hno k' a (by omega) hl
      · refine Or.inr ⟨z0, z1, ⟨k', a0, by omega, a2, a3⟩, fun k' a b hl => ?_⟩
        by_cases e2 : k' = k
        · subst e2; exact g hl
        · exact hm k' a (by omega) hl
    have new : ldk n O c k → gnk n k < z → ((gnk n k = 100 ∧ ∀ k', 0 < k' → k' < k + 1 → ¬ ldk n O c k') ∨ (0 ≤ gnk n k ∧ gnk n k ≤ 9 ∧ (∃ k', 0 < k' ∧ k' < k + 1 ∧ ldk n O c k' ∧ gnk n k = gnk n k') ∧ ∀ k', 0 < k' → k' < k + 1 → ldk n O c k' → gnk n k ≤ gnk n k')) := by
      intro hl hlt
      refine Or.inr ⟨by omega, by omega, ⟨k, k0, by omega, hl, rfl⟩, fun k' a b hl' => ?_⟩
      by_cases e2 : k' = k
      · subst e2; exact Int.le_refl _
      · rcases hz with ⟨e, hno⟩ | ⟨z0, z1, _, hm⟩
        · exact absurd hl' (hno k' a (by omega))
        · have := hm k' a (by omega) hl'
          omega
    refine pk_loop (σ := Int32) (fun m' i x => wY_removals_38 post (wY_removals_19 post (nI c) (nI n) yc yo yp ym ys yl yb yw yk yt yz yx m) (nI c) (iI z) (nI k) (nI n) yc yo yp ym ys yl yb yw yk yt yz yx m' x (nI i)) (fun i x => x = iI ((n : Int) - sm i (fun j => b01 (k.testBit j)))) n 0 (nI n) (by omega) (by simp only [sm]; rw [Int.sub_zero, vs_iN]) ?_ ?_
    · rintro m' x rfl
      rw [wY_removals_38]
      refine br_t (nI_le (Nat.le_refl _) (by omega)) ?_
      have inner : ∀ x0 : Int32, ((x0 = 0 ∧ z ≤ gnk n k) ∨ (x0 = 1 ∧ gnk n k < z)) → ∃ n80, wY_removals_80 post (wY_removals_19 post (nI c) (nI n) yc yo yp ym ys yl yb yw yk yt yz yx m) (nI c) (iI z) (nI k) (iI (gnk n k)) (nI n) yc yo yp ym ys yl yb yw yk yt yz yx n80 x0 0 := by
        intro x0 hx0
        refine pk_loop (σ := Int32) (fun m' b x => wY_removals_80 post (wY_removals_19 post (nI c) (nI n) yc yo yp ym ys yl yb yw yk yt yz yx m) (nI c) (iI z) (nI k) (iI (gnk n k)) (nI n) yc yo yp ym ys yl yb yw yk yt yz yx m' x (nI b)) (fun b x => (x = 0 ∧ (ldk n O c k → z ≤ gnk n k)) ∨ (x = 1 ∧ gnk n k < z ∧ ∀ d, d < b → d ≠ c → 0 < Mw (fun i => k.testBit i) n O c d)) 5 0 x0 (by omega) ?_ ?_ ?_
        · rcases hx0 with ⟨a, b⟩ | ⟨a, b⟩
          · exact Or.inl ⟨a, fun _ => b⟩
          · exact Or.inr ⟨a, b, fun d hd => by omega⟩
        · rintro m'' x hx
          rw [wY_removals_80]
          refine br_t (by decide) ?_
          rcases hx with ⟨e, g⟩ | ⟨e, g1, g2⟩
          · subst e
            exact br_t rfl (nm_r (nI_1 k) (hK (iI z) ⟨by omega, z, rfl, keep g⟩))
          · subst e
            exact br_f (by decide) (nm_r (nI_1 k) (hK (iI (gnk n k)) ⟨by omega, _, rfl, new g2 g1⟩))
        · rintro m'' b x hb hx hK'
          rw [wY_removals_80]
          refine br_f (nI_ge (b := 5) hb (by decide)) ?_
          rcases hx with ⟨e, g⟩ | ⟨e, g1, g2⟩
          · subst e
            exact br_t rfl (nm_r (nI_1 b) (hK' 0 (Or.inl ⟨rfl, g⟩)))
          · subst e
            have ext : (b ≠ c → 0 < Mw (fun i => k.testBit i) n O c b) → ∀ d, d < b + 1 → d ≠ c → 0 < Mw (fun i => k.testBit i) n O c d := by
              intro g d hd hne
              by_cases e : d = b
              · subst e; exact g hne
              · exact g2 d (by omega) hne
            refine br_f (by decide) (pk_eq b c (fun e => nm_r (nI_1 b) (hK' 1 (Or.inr ⟨rfl, g1, ext fun q => absurd e q⟩))) (fun e => y_mo h hc hb (nI k) ?_))
            have em : Mw (fun i => bt (nI k) i) n O c b = Mw (fun i => k.testBit i) n O c b := Mw_congr (fun i hi => vb_nI k i (by omega)) (fun _ _ => rfl)
            rw [em]
            have hbd := Mw_bd (fun i => k.testBit i) n O c b
            exact vi_lt 0 _ (fun hlt => nm_r (nI_1 b) (hK' 1 (Or.inr ⟨rfl, g1, ext fun _ => hlt⟩))) (fun hle => nm_r (nI_1 b) (hK' 0 (Or.inl ⟨rfl, fun q => by have := q b hb e; omega⟩)))
      exact vi_le z (gnk n k) (fun hle => inner 0 (Or.inl ⟨rfl, hle⟩)) (fun hlt => inner 1 (Or.inr ⟨rfl, hlt⟩))
    · rintro m' i x hi rfl hK'
      rw [wY_removals_38]
      refine br_f (nI_ge hi (by omega)) (nm_r (e' := iI ((n : Int) - sm (i + 1) (fun j => b01 (k.testBit j)))) ?_ (nm_r (nI_1 i) (hK' _ rfl)))
      rw [vb_b01 _ (by omega), vb_nI k i (by omega), vs_sub]
      simp only [sm]
      exact congrArg iI (by omega)
theorem i_vc_removals {k : Nat} {u : SX} {v : SY} (I : i_Rel k u v) (hk : k + 3 ≤ 1536) (v1 : Int32) : wpX_removals (fun r => wpY_removals (fun r' => r' = r ∧ i_Rel (k + 3) u v) v v1) u v1 := by
  have I0 := I
  obtain ⟨n, O, hX, hY⟩ := I
  obtain ⟨xc, xo, xr, xp, xm, xb, xs, xq, xn, xu, xl, xg, xk, xt, xw, xv⟩ := u
  obtain ⟨yn, yc, yo, yp, ym, ys, yl, yb, yw, yk, yt, yz, yx⟩ := v
  unfold wpX_removals
  dsimp only
  refine x_cand (fun hno => br_t rfl ?_) (fun c hc e => br_f (by decide) ?_)
  · unfold wpY_removals
    dsimp only
    exact y_in 0 4 rfl (by decide) (fun _ => br_t rfl ⟨rfl, I0⟩) (fun j _ hj e => absurd e (hno j (by omega)))
  · subst e
    exact x_rem hX.1 hc (fun z hz => y_rem hY hc (fun z' hz' => ⟨by rw [isRem_u hz hz'], I0⟩))
