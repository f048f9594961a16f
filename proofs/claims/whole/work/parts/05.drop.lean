/-! ===== drop and leader ===== -/
def drn (O : Nat → Nat) (i : Nat) : Nat → Nat := fun j => if j < i then O j else O (j + 1)
theorem x_drop {post : Int32 → SX → Prop} {u : SX} {n : Nat} {O : Nat → Nat} {i : Nat} (hn : n < 9) (hi : i ≤ n) (hc : u.1 = nI n) (hB : ∀ j, j < n + 1 → zBX (O j) j u)
    (hp : ∀ u', zRX n (drn O i) u' → post (nI n) u') : ∃ m, wX_drop_24 post m (nI i) u.1 u.2.1 u.2.2.1 u.2.2.2.1 u.2.2.2.2.1 u.2.2.2.2.2.1 u.2.2.2.2.2.2.1 u.2.2.2.2.2.2.2.1 u.2.2.2.2.2.2.2.2.1 u.2.2.2.2.2.2.2.2.2.1 u.2.2.2.2.2.2.2.2.2.2.1 u.2.2.2.2.2.2.2.2.2.2.2.1 u.2.2.2.2.2.2.2.2.2.2.2.2.1 u.2.2.2.2.2.2.2.2.2.2.2.2.2.1 u.2.2.2.2.2.2.2.2.2.2.2.2.2.2.1 u.2.2.2.2.2.2.2.2.2.2.2.2.2.2.2 := by
  refine pk_loop (σ := SX) (fun m k s => wX_drop_24 post m (nI k) s.1 s.2.1 s.2.2.1 s.2.2.2.1 s.2.2.2.2.1 s.2.2.2.2.2.1 s.2.2.2.2.2.2.1 s.2.2.2.2.2.2.2.1 s.2.2.2.2.2.2.2.2.1 s.2.2.2.2.2.2.2.2.2.1 s.2.2.2.2.2.2.2.2.2.2.1 s.2.2.2.2.2.2.2.2.2.2.2.1 s.2.2.2.2.2.2.2.2.2.2.2.2.1 s.2.2.2.2.2.2.2.2.2.2.2.2.2.1 s.2.2.2.2.2.2.2.2.2.2.2.2.2.2.1 s.2.2.2.2.2.2.2.2.2.2.2.2.2.2.2) (fun k s => i ≤ k ∧ s.1 = nI n ∧ (∀ j, j < k → zBX (drn O i j) j s) ∧ ∀ j, k ≤ j → j < n + 1 → zBX (O j) j s) n i u hi ⟨Nat.le_refl i, hc, fun j hj => ?_, fun j _ h => hB j h⟩ ?_ ?_
  · unfold drn; rw [if_pos hj]; exact hB j (by omega)
  · rintro m ⟨xc, xo, xr, xp, xm, xb, xs, xq, xn, xu, xl, xg, xk, xt, xw, xv⟩ ⟨_, h1, h2, h3⟩
    dsimp only at h1 ⊢
    subst h1
    rw [wX_drop_24]
    have hRB : zRB n (drn O i) ((nI n), xo, xr, xp, xm, xb, xs, xq, xn, xu, xl, xg, xk, xt, xw, xv) := ⟨by omega, rfl, fun j hj => h2 j hj⟩
    exact br_t (nI_le (Nat.le_refl n) (by omega)) (x_cm hRB (fun m' b' hM => hp _ ⟨hRB, hM⟩))
  · rintro m k ⟨xc, xo, xr, xp, xm, xb, xs, xq, xn, xu, xl, xg, xk, xt, xw, xv⟩ hk ⟨hik, h1, h2, h3⟩ hK
    dsimp only at h1 hK ⊢
    subst h1
    rw [wX_drop_24]
    have hb := h3 (k + 1) (by omega) (by omega)
    refine br_f (nI_ge hk (by omega)) ⟨by rw [nI_1]; exact vp_in_nI (by omega) (by decide), vp_in_nI (by omega) (by decide), nm_r (e' := upd xo k (nI (O (k + 1)))) (by rw [nI_1, nI_clamp (by omega), nI_clamp (by omega)]; exact congrArg _ hb.2.1) ?_⟩
    refine x_read (by omega) hb.1 pk_us (fun r' p' g1 g2 => nm_r (nI_1 k) ?_)
    have hg : ∀ j o', j ≠ k → zBX o' j ((nI n), xo, xr, xp, xm, xb, xs, xq, xn, xu, xl, xg, xk, xt, xw, xv) → zBX o' j ((nI n), (upd xo k (nI (O (k + 1)))), r', p', xm, xb, xs, xq, xn, xu, xl, xg, xk, xt, xw, xv) := by
      intro j o' hj hb'
      exact g2 j o' hj ⟨hb'.1, (pk_un hj).trans hb'.2.1, hb'.2.2⟩
    refine hK ((nI n), (upd xo k (nI (O (k + 1)))), r', p', xm, xb, xs, xq, xn, xu, xl, xg, xk, xt, xw, xv) ⟨by omega, rfl, fun j hj => ?_, fun j h4 h5 => hg j _ (by omega) (h3 j (by omega) h5)⟩
    by_cases e : j = k
    · subst e
      unfold drn
      rw [if_neg (by omega)]
      exact g1
    · exact hg j _ e (h2 j (by omega))
theorem y_drop {post : Int32 → SY → Prop} {v : SY} {n : Nat} {O : Nat → Nat} {i : Nat} (hn : n < 9) (hi : i ≤ n) (hc : v.1 = nI (n + 1)) (hB : ∀ j, j < n + 1 → zBY (O j) j v)
    (hp : ∀ v', zRY n (drn O i) v' → post (nI n) v') : ∃ m, wY_drop_21 post m (nI i) v.1 v.2.1 v.2.2.1 v.2.2.2.1 v.2.2.2.2.1 v.2.2.2.2.2.1 v.2.2.2.2.2.2.1 v.2.2.2.2.2.2.2.1 v.2.2.2.2.2.2.2.2.1 v.2.2.2.2.2.2.2.2.2.1 v.2.2.2.2.2.2.2.2.2.2.1 v.2.2.2.2.2.2.2.2.2.2.2.1 v.2.2.2.2.2.2.2.2.2.2.2.2 := by
  refine pk_loop (σ := SY) (fun m k s => wY_drop_21 post m (nI k) s.1 s.2.1 s.2.2.1 s.2.2.2.1 s.2.2.2.2.1 s.2.2.2.2.2.1 s.2.2.2.2.2.2.1 s.2.2.2.2.2.2.2.1 s.2.2.2.2.2.2.2.2.1 s.2.2.2.2.2.2.2.2.2.1 s.2.2.2.2.2.2.2.2.2.2.1 s.2.2.2.2.2.2.2.2.2.2.2.1 s.2.2.2.2.2.2.2.2.2.2.2.2) (fun k s => i ≤ k ∧ s.1 = nI (n + 1) ∧ (∀ j, j < k → zBY (drn O i j) j s) ∧ ∀ j, k ≤ j → j < n + 1 → zBY (O j) j s) n i v hi ⟨Nat.le_refl i, hc, fun j hj => ?_, fun j _ h => hB j h⟩ ?_ ?_
  · unfold drn; rw [if_pos hj]; exact hB j (by omega)
  · rintro m ⟨yn, yc, yo, yp, ym, ys, yl, yb, yw, yk, yt, yz, yx⟩ ⟨_, h1, h2, h3⟩
    dsimp only at h1 ⊢
    subst h1
    rw [wY_drop_21]
    refine br_t (by rw [nI_pred]; exact nI_le (Nat.le_refl n) (by omega)) (nm_r (nI_pred n) (hp _ ⟨by omega, rfl, fun j hj => h2 j hj⟩))
  · rintro m k ⟨yn, yc, yo, yp, ym, ys, yl, yb, yw, yk, yt, yz, yx⟩ hk ⟨hik, h1, h2, h3⟩ hK
    dsimp only at h1 hK ⊢
    subst h1
    rw [wY_drop_21]
    have hb := h3 (k + 1) (by omega) (by omega)
    have hb2 : yo (k + 1) = nI (O (k + 1)) := hb.2.1
    refine br_f (by rw [nI_pred]; exact nI_ge hk (by omega)) ⟨by rw [nI_1]; exact vp_in_nI (by omega) (by decide), ?_⟩
    rw [nI_1, nI_clamp (by omega), hb2]
    refine y_write (by omega) hb.1 (fun p' g1 g2 => nm_e ?_)
    refine hK ((nI (n + 1)), yc, (upd yo k (nI (O (k + 1)))), p', ym, ys, yl, yb, yw, yk, yt, yz, yx) ⟨by omega, rfl, fun j hj => ?_, fun j h4 h5 => g2 j _ (by omega) (h3 j (by omega) h5)⟩
    by_cases e : j = k
    · subst e
      unfold drn
      rw [if_neg (by omega)]
      exact g1
    · exact g2 j _ e (h2 j (by omega))
theorem i_vc_drop {k : Nat} {u : SX} {v : SY} (I : i_Rel k u v) (hk : k + 3 ≤ 1536) (v1 : Int32) : wpX_drop (fun r u' => wpY_drop (fun r' v' => r' = r ∧ i_Rel (k + 3) u' v') v v1) u v1 := by
  have I0 := I
  obtain ⟨n, O, ⟨⟨hn, hc, hB⟩, hM⟩, ⟨_, hc', hB'⟩⟩ := I
  obtain ⟨xc, xo, xr, xp, xm, xb, xs, xq, xn, xu, xl, xg, xk, xt, xw, xv⟩ := u
  obtain ⟨yn, yc, yo, yp, ym, ys, yl, yb, yw, yk, yt, yz, yx⟩ := v
  dsimp only at hc hc'
  unfold wpX_drop
  dsimp only
  refine x_isB hn hc (fun hno => br_t rfl ?_) (fun i hi e => br_f (by decide) ?_)
  · unfold wpY_drop
    dsimp only
    exact y_isB hn hc' (fun _ => br_t rfl ⟨rfl, I0⟩) (fun i hi e => absurd e (hno i hi))
  · subst e
    obtain ⟨m, rfl⟩ : ∃ m, n = m + 1 := ⟨n - 1, by omega⟩
    refine nm_r (e' := nI m) (by rw [hc]; exact nI_pred m) ?_
    refine x_drop (u := ((nI m), xo, xr, xp, xm, xb, xs, xq, xn, xu, xl, xg, xk, xt, xw, xv)) (n := m) (O := O) (i := i) (by omega) (by omega) rfl hB (fun u' hX => ?_)
    unfold wpY_drop
    dsimp only
    refine y_isB hn hc' (fun hno => absurd rfl (hno i hi)) (fun _ _ _ => br_f (by decide) ?_)
    exact y_drop (v := (yn, yc, yo, yp, ym, ys, yl, yb, yw, yk, yt, yz, yx)) (n := m) (O := O) (i := i) (by omega) (by omega) hc' hB' (fun v' hY => ⟨rfl, m, drn O i, hX, hY⟩)
def Ld (n : Nat) (O : Nat → Nat) (c : Nat) : Prop := ∀ d, d < 5 → d ≠ c → 0 < Mg n O c d
theorem ld_iff {n : Nat} {O : Nat → Nat} {c : Nat} {r : Int32} (hc : c < 5) (h : isSet r (fun b => 0 < Mg n O c b)) : (r ||| ((1 : Int32) <<< (nI c &&& 31))) = 31 ↔ Ld n O c := by
  have h2 := vb_ins h hc
  constructor
  · intro e d hd hne
    rw [e] at h2
    have := (h2 d).mp (by rw [vb_31]; simpa using hd)
    rcases this.2 with z | z
    · exact z
    · exact absurd z hne
  · intro hl
    refine vb_uniq (W := fun _ => True) (vb_congr h2 (fun i hi => ⟨fun _ => trivial, fun _ => ?_⟩)) vb_all
    by_cases e : i = c
    · exact Or.inr e
    · exact Or.inl (hl i hi e)
theorem x_leader {post : Int32 → Prop} {xc : Int32} {xo xr xp xm xb xs xq xn xu xl xg xk xt xw xv : Nat → Int32} {n : Nat} {O : Nat → Nat} (h : zRX n O (xc, xo, xr, xp, xm, xb, xs, xq, xn, xu, xl, xg, xk, xt, xw, xv)) (h1 : ∀ c, c < 5 → Ld n O c → (∀ d, d < c → ¬ Ld n O d) → post (nI c)) (h0 : (∀ c, c < 5 → ¬ Ld n O c) → post (-1002)) : wpX_leader post (xc, xo, xr, xp, xm, xb, xs, xq, xn, xu, xl, xg, xk, xt, xw, xv) := by
  unfold wpX_leader
  dsimp only
  refine pk_loop (σ := Unit) (fun m k _ => wX_leader_2 post xc xo xr xp xm xb xs xq xn xu xl xg xk xt xw xv m (nI k)) (fun k _ => ∀ d, d < k → ¬ Ld n O d) 5 0 () (by omega) (fun d hd => by omega) ?_ ?_
  · intro m _ hs
    rw [wX_leader_2]
    exact br_t (by decide) (h0 hs)
  · intro m k _ hk hs hK
    rw [wX_leader_2]
    refine br_f (nI_ge (b := 5) hk (by decide)) ⟨vp_in_nI hk (by decide), ?_⟩
    rw [nI_clamp (by omega)]
    have hl := ld_iff hk (h.2.2 k hk)
    refine br_c (fun e => h1 k hk (hl.mp e) hs) (fun e => nm_r (nI_1 k) (hK () (fun d hd => ?_)))
    by_cases e2 : d = k
    · subst e2; exact fun z => e (hl.mpr z)
    · exact hs d (by omega)
theorem y_leader {post : Int32 → SY → Prop} {yn yc : Int32} {yo yp ym ys yl yb yw yk yt yz yx : Nat → Int32} {n : Nat} {O : Nat → Nat} (h : zRY n O (yn, yc, yo, yp, ym, ys, yl, yb, yw, yk, yt, yz, yx)) (h1 : ∀ c v', zRY n O v' → c < 5 → Ld n O c → (∀ d, d < c → ¬ Ld n O d) → post (nI c) v') (h0 : ∀ v', zRY n O v' → (∀ c, c < 5 → ¬ Ld n O c) → post (-1002) v') : wpY_leader post (yn, yc, yo, yp, ym, ys, yl, yb, yw, yk, yt, yz, yx) := by
  unfold wpY_leader
  dsimp only
  refine y_ct h (fun m' hM => ?_)
  refine pk_loop (σ := Unit) (fun m k _ => wY_leader_6 post yn yc yo yp m' ys yl yb yw yk yt yz yx m (nI k)) (fun k _ => ∀ d, d < k → ¬ Ld n O d) 5 0 () (by omega) (fun d hd => by omega) ?_ ?_
  · intro m _ hs
    rw [wY_leader_6]
    exact br_t (by decide) (h0 _ hM.1 hs)
  · intro m k _ hk hs hK
    rw [wY_leader_6]
    refine br_f (nI_ge (b := 5) hk (by decide)) (y_bb hM hk (fun r hr => ?_))
    have hl := ld_iff hk hr
    refine br_c (fun e => h1 k _ hM.1 hk (hl.mp e) hs) (fun e => nm_r (nI_1 k) (hK () (fun d hd => ?_)))
    by_cases e2 : d = k
    · subst e2; exact fun z => e (hl.mpr z)
    · exact hs d (by omega)
theorem i_vc_leader {k : Nat} {u : SX} {v : SY} (I : i_Rel k u v) (hk : k + 3 ≤ 1536) : wpX_leader (fun r => wpY_leader (fun r' v' => r' = r ∧ i_Rel (k + 3) u v') v) u := by
  obtain ⟨n, O, hX, hY⟩ := I
  obtain ⟨xc, xo, xr, xp, xm, xb, xs, xq, xn, xu, xl, xg, xk, xt, xw, xv⟩ := u
  obtain ⟨yn, yc, yo, yp, ym, ys, yl, yb, yw, yk, yt, yz, yx⟩ := v
  refine x_leader hX (fun c hc hl hm => y_leader hY (fun c' v' hY' hc' hl' hm' => ⟨?_, n, O, hX, hY'⟩) (fun v' hY' h0 => absurd hl (h0 c hc))) (fun h0 => y_leader hY (fun c' v' hY' hc' hl' hm' => absurd hl' (h0 c' hc')) (fun v' hY' _ => ⟨rfl, n, O, hX, hY'⟩))
  rcases Nat.lt_trichotomy c c' with h | h | h
  · exact absurd hl (hm' c h)
  · rw [h]
  · exact absurd hl' (hm c' h)
