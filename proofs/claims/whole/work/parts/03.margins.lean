/-! ===== the ballots in both states, and the margins ===== -/
def prf (o a b : Nat) : Int := if plc o a < plc o b then 1 else if plc o b < plc o a then -1 else 0
def Mw (K : Nat → Bool) (n : Nat) (O : Nat → Nat) (a b : Nat) : Int := sm n (fun i => if K i then prf (O i) a b else 0)
def Mg (n : Nat) (O : Nat → Nat) (a b : Nat) : Int := Mw (fun _ => true) n O a b
/-- the component's ballot i is o -/
def zBX (o i : Nat) (u : SX) : Prop := isr o = true ∧ u.2.1 i = nI o ∧ (∀ p, p < 5 → u.2.2.1 (5 * i + p) = nI (rkc o p)) ∧ (∀ c, c < 5 → u.2.2.2.1 (5 * i + c) = nI (plc o c))
/-- the component's ballots -/
def zRB (n : Nat) (O : Nat → Nat) (u : SX) : Prop := n ≤ 9 ∧ u.1 = nI n ∧ ∀ i, i < n → zBX (O i) i u
/-- the component's margins -/
def zRM (n : Nat) (O : Nat → Nat) (u : SX) : Prop := (∀ a b, a < 5 → b < 5 → u.2.2.2.2.1 (5 * a + b) = iI (Mg n O a b)) ∧ (∀ a, a < 5 → isSet (u.2.2.2.2.2.1 a) (fun b => 0 < Mg n O a b))
def zRX (n : Nat) (O : Nat → Nat) (u : SX) : Prop := zRB n O u ∧ zRM n O u
/-- the reference's ballots -/
def zBY (o i : Nat) (v : SY) : Prop := isr o = true ∧ v.2.2.1 i = nI o ∧ (∀ c, c < 5 → v.2.2.2.1 (5 * i + c) = nI (plc o c))
def zRY (n : Nat) (O : Nat → Nat) (v : SY) : Prop := n ≤ 9 ∧ v.1 = nI n ∧ ∀ i, i < n → zBY (O i) i v
def zRYM (n : Nat) (O : Nat → Nat) (v : SY) : Prop := zRY n O v ∧ ∀ a b, a < 5 → b < 5 → v.2.2.2.2.1 (5 * a + b) = iI (Mg n O a b)
theorem ve_p (e : Nat) : iI (((e + 1 : Nat) : Int) - 1) = nI e := by
  rw [← vs_iN]; exact congrArg iI (by omega)
theorem ve_m (e : Nat) : nI e + (-1) = iI ((e : Int) - 1) := by
  rw [← vs_iN, vs_m1]
theorem x_read {post : SX → Prop} {xc : Int32} {xo xr xp xm xb xs xq xn xu xl xg xk xt xw xv : Nat → Int32} {i o : Nat} (hi : i < 9) (ho : isr o = true) (hx : xo i = nI o)
    (hp : ∀ r' p' : Nat → Int32, zBX o i (xc, xo, r', p', xm, xb, xs, xq, xn, xu, xl, xg, xk, xt, xw, xv) → (∀ j o', j ≠ i → zBX o' j (xc, xo, xr, xp, xm, xb, xs, xq, xn, xu, xl, xg, xk, xt, xw, xv) → zBX o' j (xc, xo, r', p', xm, xb, xs, xq, xn, xu, xl, xg, xk, xt, xw, xv)) → post (xc, xo, r', p', xm, xb, xs, xq, xn, xu, xl, xg, xk, xt, xw, xv)) :
    wpX_readRanking post (xc, xo, xr, xp, xm, xb, xs, xq, xn, xu, xl, xg, xk, xt, xw, xv) (nI i) := by
  unfold wpX_readRanking
  dsimp only
  refine ⟨vp_in_nI hi (by decide), ?_⟩
  rw [nI_clamp (by omega)]
  refine nm_r hx ⟨6, ?_⟩
  have hol := isr_lt ho
  have key := pk_loopD (σ := Int32 × (Nat → Int32) × (Nat → Int32)) (fun n e s => wX_readRanking_9 post (nI i) xc n s.1 (iI ((e : Int) - 1)) xo s.2.1 s.2.2 xm xb xs xq xn xu xl xg xk xt xw xv)
    (fun e s => e ≤ 5 ∧ s.1 = nI (o / 5 ^ (5 - e)) ∧ (∀ q, e ≤ q → q < 5 → s.2.1 (5 * i + q) = nI (rkc o q) ∧ s.2.2 (5 * i + rkc o q) = nI q) ∧ ∀ j, (j < 5 * i ∨ 5 * i + 5 ≤ j) → s.2.1 j = xr j ∧ s.2.2 j = xp j)
    (by
      rintro n ⟨x2, r', p'⟩ ⟨_, _, h3, h4⟩
      dsimp only
      rw [wX_readRanking_9]
      refine br_t (by decide) (hp r' p' ⟨ho, hx, fun q hq => (h3 q (by omega) hq).1, fun c hc => ?_⟩ (fun j o' hj hB => ⟨hB.1, hB.2.1, fun q hq => by rw [← hB.2.2.1 q hq]; exact (h4 _ (by omega)).1, fun q hq => by rw [← hB.2.2.2 q hq]; exact (h4 _ (by omega)).2⟩))
      have hr := rc_all ho hc
      have := (h3 (plc o c) (by omega) hr.2.2.1).2
      rw [hr.2.2.2] at this
      exact this)
    (by
      rintro n e ⟨x2, r', p'⟩ ⟨h1, h2, h3, h4⟩ hk
      dsimp only at h2 h3 h4 ⊢
      subst h2
      rw [ve_p, wX_readRanking_9, show 5 - (e + 1) = 4 - e from by omega]
      have hq := rc_all ho (show e < 5 by omega)
      have hq1 : nI (o / 5 ^ (4 - e)) - nI (o / 5 ^ (4 - e)) / 5 * 5 = nI (rkc o e) := rc_rem (rc_dl o _ hol)
      have hq2 : nI (o / 5 ^ (4 - e)) / 5 = nI (o / 5 ^ (5 - e)) := by
        rw [rc_div (rc_dl o _ hol), rc_step, show 4 - e + 1 = 5 - e from by omega]
      refine br_f (nI_pos (by omega)) ⟨by decide, nm_r hq1 ⟨by decide, nm_r hq2 ⟨by rw [vn_5a]; exact vp_in_nI (by omega) (by decide), nm_r (e' := upd r' (5 * i + e) (nI (rkc o e))) (by rw [vn_5a, nI_clamp (by omega)]) ⟨by rw [vn_5a]; exact vp_in_nI (by omega) (by decide), nm_r (e' := upd p' (5 * i + rkc o e) (nI e)) (by rw [vn_5a, nI_clamp (by omega)]) (nm_r (ve_m e) ?_)⟩⟩⟩⟩
      refine hk (nI (o / 5 ^ (5 - e)), upd r' (5 * i + e) (nI (rkc o e)), upd p' (5 * i + rkc o e) (nI e)) ⟨by omega, rfl, fun q hq1 hq2 => ?_, fun j hj => ?_⟩
      · dsimp only
        by_cases eq : q = e
        · subst eq; exact ⟨pk_us, pk_us⟩
        · have hr := rc_all ho hq2
          have hne : rkc o q ≠ rkc o e := fun z => eq (rc_inj2 ho hq2 (by omega) z)
          rw [pk_un (by omega), pk_un (by omega)]
          exact h3 q (by omega) hq2
      · dsimp only
        rw [pk_un (by omega), pk_un (by omega)]
        exact h4 j hj)
  have k5 := key 5 (nI o, xr, xp) ⟨by omega, by simp, fun q h1 h2 => by omega, fun j _ => ⟨rfl, rfl⟩⟩
  dsimp only at k5
  rw [show iI (((5 : Nat) : Int) - 1) = 4 from by decide] at k5
  exact k5
theorem y_write {post : SY → Prop} {yn yc : Int32} {yo yp ym ys yl yb yw yk yt yz yx : Nat → Int32} {i o : Nat} (hi : i < 9) (ho : isr o = true)
    (hp : ∀ p' : Nat → Int32, zBY o i (yn, yc, (upd yo i (nI o)), p', ym, ys, yl, yb, yw, yk, yt, yz, yx) → (∀ j o', j ≠ i → zBY o' j (yn, yc, yo, yp, ym, ys, yl, yb, yw, yk, yt, yz, yx) → zBY o' j (yn, yc, (upd yo i (nI o)), p', ym, ys, yl, yb, yw, yk, yt, yz, yx)) → post (yn, yc, (upd yo i (nI o)), p', ym, ys, yl, yb, yw, yk, yt, yz, yx)) :
    wpY_write post (yn, yc, yo, yp, ym, ys, yl, yb, yw, yk, yt, yz, yx) (nI i) (nI o) := by
  unfold wpY_write
  dsimp only
  refine ⟨vp_in_nI hi (by decide), ?_⟩
  rw [nI_clamp (by omega)]
  refine nm_e ⟨6, ?_⟩
  have hol := isr_lt ho
  have key := pk_loopD (σ := Int32 × (Nat → Int32)) (fun n e s => wY_write_12 post (nI i) yn yc n s.1 (iI ((e : Int) - 1)) (upd yo i (nI o)) s.2 ym ys yl yb yw yk yt yz yx)
    (fun e s => e ≤ 5 ∧ s.1 = nI (o / 5 ^ (5 - e)) ∧ (∀ q, e ≤ q → q < 5 → s.2 (5 * i + rkc o q) = nI q) ∧ ∀ j, (j < 5 * i ∨ 5 * i + 5 ≤ j) → s.2 j = yp j)
    (by
      rintro n ⟨x2, p'⟩ ⟨_, _, h3, h4⟩
      dsimp only
      rw [wY_write_12]
      refine br_t (by decide) (hp p' ⟨ho, pk_us, fun c hc => ?_⟩ (fun j o' hj hB => ⟨hB.1, (pk_un hj).trans hB.2.1, fun q hq => by rw [← hB.2.2 q hq]; exact h4 _ (by omega)⟩))
      have hr := rc_all ho hc
      have := h3 (plc o c) (by omega) hr.2.2.1
      rw [hr.2.2.2] at this
      exact this)
    (by
      rintro n e ⟨x2, p'⟩ ⟨h1, h2, h3, h4⟩ hk
      dsimp only at h2 h3 h4 ⊢
      subst h2
      rw [ve_p, wY_write_12, show 5 - (e + 1) = 4 - e from by omega]
      have hq := rc_all ho (show e < 5 by omega)
      have hq1 : nI (o / 5 ^ (4 - e)) - nI (o / 5 ^ (4 - e)) / 5 * 5 = nI (rkc o e) := rc_rem (rc_dl o _ hol)
      have hq2 : nI (o / 5 ^ (4 - e)) / 5 = nI (o / 5 ^ (5 - e)) := by
        rw [rc_div (rc_dl o _ hol), rc_step, show 4 - e + 1 = 5 - e from by omega]
      refine br_f (nI_pos (by omega)) ⟨by decide, by rw [hq1, vn_5b]; exact vp_in_nI (by omega) (by decide), nm_r (e' := upd p' (5 * i + rkc o e) (nI e)) (by rw [hq1, vn_5b, nI_clamp (by omega)]) ⟨by decide, nm_r hq2 (nm_r (ve_m e) ?_)⟩⟩
      refine hk (nI (o / 5 ^ (5 - e)), upd p' (5 * i + rkc o e) (nI e)) ⟨by omega, rfl, fun q hq1 hq2 => ?_, fun j hj => ?_⟩
      · dsimp only
        by_cases eq : q = e
        · subst eq; exact pk_us
        · have hr := rc_all ho hq2
          have hne : rkc o q ≠ rkc o e := fun z => eq (rc_inj2 ho hq2 (by omega) z)
          rw [pk_un (by omega)]
          exact h3 q (by omega) hq2
      · dsimp only
        rw [pk_un (by omega)]
        exact h4 j hj)
  have k5 := key 5 (nI o, yp) ⟨by omega, by simp, fun q h1 h2 => by omega, fun j _ => rfl⟩
  dsimp only at k5
  rw [show iI (((5 : Nat) : Int) - 1) = 4 from by decide] at k5
  exact k5
theorem x_mw {post : Int32 → Prop} {xc : Int32} {xo xr xp xm xb xs xq xn xu xl xg xk xt xw xv : Nat → Int32} {n : Nat} {O : Nat → Nat} (h : zRB n O (xc, xo, xr, xp, xm, xb, xs, xq, xn, xu, xl, xg, xk, xt, xw, xv)) {a b : Nat} (ha : a < 5) (hb : b < 5) (S : Int32) (hp : post (iI (Mw (fun i => !bt S i) n O a b))) :
    wpX_marginWithout post (xc, xo, xr, xp, xm, xb, xs, xq, xn, xu, xl, xg, xk, xt, xw, xv) (nI a) (nI b) S := by
  obtain ⟨hn, h1, h2⟩ := h
  have h4 : ∀ i, i < n → ∀ c, c < 5 → xp (5 * i + c) = nI (plc (O i) c) := fun i hi => (h2 i hi).2.2.2
  dsimp only at h1
  unfold wpX_marginWithout
  dsimp only
  subst h1
  refine vl_sum (fun m x4 x5 => wX_marginWithout_6 post (nI a) (nI b) S (nI n) xo xr xp xm xb xs xq xn xu xl xg xk xt xw xv m x4 x5) post n (fun i => if !bt S i then prf (O i) a b else 0) ?_ ?_ hp
  · intro m x hx
    rw [wX_marginWithout_6]
    exact br_t (nI_le (Nat.le_refl n) (by omega)) hx
  · intro m i z hi hW
    rw [wX_marginWithout_6]
    have pa := (rc_all (h2 i hi).1 ha).2.2.1
    have pb := (rc_all (h2 i hi).1 hb).2.2.1
    refine br_f (nI_ge hi (by omega)) ⟨by rw [vn_5a]; exact vp_in_nI (by omega) (by decide), nm_r (e' := nI (plc (O i) a)) (by rw [vn_5a, nI_clamp (by omega), h4 i hi a ha]) ⟨by rw [vn_5a]; exact vp_in_nI (by omega) (by decide), nm_r (e' := nI (plc (O i) b)) (by rw [vn_5a, nI_clamp (by omega), h4 i hi b hb]) ?_⟩⟩
    cases hbt : bt S i with
    | false =>
      refine br_t ((vb_has0 (by omega)).mpr hbt) ?_
      rw [hbt] at hW
      unfold wX_marginWithout_55
      refine br_f (by decide) (pk_le _ _ (fun hle => ?_) (fun hlt => ?_) rfl rfl (by omega) (by omega))
      · unfold wX_marginWithout_75
        refine br_f (by decide) (pk_le _ _ (fun hle2 => ?_) (fun hlt => ?_) rfl rfl (by omega) (by omega))
        · refine nm_r (nI_1 i) ?_
          simp only [prf, if_neg (show ¬ plc (O i) a < plc (O i) b by omega), if_neg (show ¬ plc (O i) b < plc (O i) a by omega)] at hW
          simpa using hW
        · refine nm_r (vs_m1 z) (nm_r (nI_1 i) ?_)
          simp only [prf, if_neg (show ¬ plc (O i) a < plc (O i) b by omega), if_pos (show plc (O i) b < plc (O i) a by omega)] at hW
          exact hW
      · refine nm_r (vs_1 z) (nm_r (nI_1 i) ?_)
        simp only [prf, if_pos (show plc (O i) a < plc (O i) b by omega)] at hW
        exact hW
    | true =>
      refine br_f (fun hh => by rw [vb_has0 (by omega), hbt] at hh; cases hh) ?_
      rw [hbt] at hW
      unfold wX_marginWithout_55
      refine br_t rfl ?_
      unfold wX_marginWithout_75
      refine br_t rfl (nm_r (nI_1 i) ?_)
      simpa using hW
theorem y_mo {post : Int32 → Prop} {yn yc : Int32} {yo yp ym ys yl yb yw yk yt yz yx : Nat → Int32} {n : Nat} {O : Nat → Nat} (h : zRY n O (yn, yc, yo, yp, ym, ys, yl, yb, yw, yk, yt, yz, yx)) {a b : Nat} (ha : a < 5) (hb : b < 5) (S : Int32) (hp : post (iI (Mw (fun i => bt S i) n O a b))) :
    wpY_marginOf post (yn, yc, yo, yp, ym, ys, yl, yb, yw, yk, yt, yz, yx) (nI a) (nI b) S := by
  obtain ⟨hn, h1, h2⟩ := h
  have h4 : ∀ i, i < n → ∀ c, c < 5 → yp (5 * i + c) = nI (plc (O i) c) := fun i hi => (h2 i hi).2.2
  dsimp only at h1
  unfold wpY_marginOf
  dsimp only
  subst h1
  refine vl_sum (fun m x4 x5 => wY_marginOf_6 post (nI a) (nI b) S (nI n) yc yo yp ym ys yl yb yw yk yt yz yx m x4 x5) post n (fun i => if bt S i then prf (O i) a b else 0) ?_ ?_ hp
  · intro m x hx
    rw [wY_marginOf_6]
    exact br_t (nI_le (Nat.le_refl n) (by omega)) hx
  · intro m i z hi hW
    rw [wY_marginOf_6]
    have pa := (rc_all (h2 i hi).1 ha).2.2.1
    have pb := (rc_all (h2 i hi).1 hb).2.2.1
    refine br_f (nI_ge hi (by omega)) ?_
    cases hbt : bt S i with
    | true =>
      refine br_t ((vb_has (by omega)).mpr hbt) ?_
      rw [hbt] at hW
      refine pk_eq a b (fun e => ?_) (fun hne => ?_)
      · subst e
        refine nm_r (nI_1 i) ?_
        simpa [prf] using hW
      · have hpn : plc (O i) a ≠ plc (O i) b := fun z => hne (rc_inj (h2 i hi).1 ha hb z)
        refine ⟨by rw [vn_5b]; exact vp_in_nI (by omega) (by decide), by rw [vn_5b]; exact vp_in_nI (by omega) (by decide), ?_⟩
        rw [vn_5b, vn_5b, nI_clamp (by omega), nI_clamp (by omega), h4 i hi a ha, h4 i hi b hb]
        refine pk_le _ _ (fun hle => ?_) (fun hlt => ?_) rfl rfl (by omega) (by omega)
        · refine nm_r (vs_m1 z) (nm_r (nI_1 i) ?_)
          simp only [prf, if_neg (show ¬ plc (O i) a < plc (O i) b by omega), if_pos (show plc (O i) b < plc (O i) a by omega)] at hW
          exact hW
        · refine nm_r (vs_1 z) (nm_r (nI_1 i) ?_)
          simp only [prf, if_pos (show plc (O i) a < plc (O i) b by omega)] at hW
          exact hW
    | false =>
      refine br_f (fun hh => by rw [vb_has (by omega), hbt] at hh; cases hh) (nm_r (nI_1 i) ?_)
      rw [hbt] at hW
      simpa using hW
theorem Mw_congr {K K' : Nat → Bool} {n : Nat} {O O' : Nat → Nat} {a b : Nat} (h : ∀ i, i < n → K i = K' i) (ho : ∀ i, i < n → O i = O' i) : Mw K n O a b = Mw K' n O' a b :=
  sm_congr fun i hi => by rw [h i hi, ho i hi]
theorem prf_anti (o a b : Nat) : prf o a b = - prf o b a := by
  unfold prf
  by_cases h1 : plc o a < plc o b
  · rw [if_pos h1, if_neg (by omega), if_pos h1]; rfl
  · by_cases h2 : plc o b < plc o a
    · rw [if_neg h1, if_pos h2, if_pos h2]
    · rw [if_neg h1, if_neg h2, if_neg h2, if_neg h1]; rfl
theorem Mw_anti (K : Nat → Bool) (n : Nat) (O : Nat → Nat) (a b : Nat) : Mw K n O a b = - Mw K n O b a := by
  unfold Mw
  rw [← sm_neg]
  refine sm_congr fun i _ => ?_
  skip
  by_cases h : K i = true
  · rw [if_pos h, if_pos h, prf_anti]
  · rw [if_neg h, if_neg h]; rfl
theorem Mg_anti (n : Nat) (O : Nat → Nat) (a b : Nat) : Mg n O a b = - Mg n O b a := Mw_anti _ n O a b
theorem Mg_self (n : Nat) (O : Nat → Nat) (a : Nat) : Mg n O a a = 0 := by
  have := Mg_anti n O a a; omega
theorem Mw_bd (K : Nat → Bool) (n : Nat) (O : Nat → Nat) (a b : Nat) : - (n : Int) ≤ Mw K n O a b ∧ Mw K n O a b ≤ n := by
  have h : ∀ i, i < n → (-1 : Int) ≤ (if K i then prf (O i) a b else 0) ∧ (if K i then prf (O i) a b else 0) ≤ (1 : Int) := by
    intro i _
    unfold prf
    split
    · split
      · omega
      · split <;> omega
    · omega
  have h1 := sm_lo (n := n) (k := -1) (fun i hi => (h i hi).1)
  have h2 := sm_hi (n := n) (k := 1) (fun i hi => (h i hi).2)
  unfold Mw
  omega
theorem Mg_bd {n : Nat} (hn : n ≤ 9) (O : Nat → Nat) (a b : Nat) : -9 ≤ Mg n O a b ∧ Mg n O a b ≤ 9 := by
  have := Mw_bd (fun _ => true) n O a b
  unfold Mg; omega
theorem Mw_0 (n : Nat) (O : Nat → Nat) (a b : Nat) : Mw (fun i => !bt 0 i) n O a b = Mg n O a b :=
  Mw_congr (fun i _ => by rw [b_0]; rfl) (fun _ _ => rfl)
theorem vb_511 : ∀ i, i < 9 → bt 511 i = true := by decide +kernel
theorem Mw_511 {n : Nat} (hn : n ≤ 9) (O : Nat → Nat) (a b : Nat) : Mw (fun i => bt 511 i) n O a b = Mg n O a b :=
  Mw_congr (fun i hi => vb_511 i (by omega)) (fun _ _ => rfl)
/-- the relation speaks of the first six fields alone (a change further down is never compared by unfolding: that costs the kernel too much) -/
theorem rx_any {n : Nat} {O : Nat → Nat} {xc : Int32} {xo xr xp xm xb : Nat → Int32} {r r' : (Nat → Int32) × (Nat → Int32) × (Nat → Int32) × (Nat → Int32) × (Nat → Int32) × (Nat → Int32) × (Nat → Int32) × (Nat → Int32) × (Nat → Int32) × (Nat → Int32)} (h : zRX n O (xc, xo, xr, xp, xm, xb, r)) : zRX n O (xc, xo, xr, xp, xm, xb, r') := h
theorem ry_any {n : Nat} {O : Nat → Nat} {yn yc yc' : Int32} {yo yp : Nat → Int32} {r r' : (Nat → Int32) × (Nat → Int32) × (Nat → Int32) × (Nat → Int32) × (Nat → Int32) × (Nat → Int32) × (Nat → Int32) × (Nat → Int32) × (Nat → Int32)} (h : zRY n O (yn, yc, yo, yp, r)) : zRY n O (yn, yc', yo, yp, r') := h
theorem rm_any {n : Nat} {O : Nat → Nat} {yn yc yc' : Int32} {yo yp ym : Nat → Int32} {r r' : (Nat → Int32) × (Nat → Int32) × (Nat → Int32) × (Nat → Int32) × (Nat → Int32) × (Nat → Int32) × (Nat → Int32) × (Nat → Int32)} (h : zRYM n O (yn, yc, yo, yp, ym, r)) : zRYM n O (yn, yc', yo, yp, ym, r') := h
/-- and the places before, as gain set them down -/
def zRV (n : Nat) (O : Nat → Nat) (V : Nat → Int32) (u : SX) : Prop := zRX n O u ∧ u.2.2.2.2.2.2.2.2.2.2.2.2.2.2.2 = V
theorem rv_any {n : Nat} {O : Nat → Nat} {V : Nat → Int32} {xc : Int32} {xo xr xp xm xb a1 a2 a3 a4 a5 a6 a7 a8 a9 b1 b2 b3 b4 b5 b6 b7 b8 b9 xv : Nat → Int32} (h : zRV n O V (xc, xo, xr, xp, xm, xb, a1, a2, a3, a4, a5, a6, a7, a8, a9, xv)) : zRV n O V (xc, xo, xr, xp, xm, xb, b1, b2, b3, b4, b5, b6, b7, b8, b9, xv) := ⟨rx_any h.1, (h.2 : xv = V)⟩
