/-! ===== members before and behind, the scores by rule 0, 1, 2 among a set ===== -/
def szI (s : Int32) : Int := sm 10 (fun j => b01 (bt s j))
def bh (o c : Nat) (s : Int32) : Int := sm 5 (fun a => b01 (bt s a && decide (plc o c < plc o a)))
def bf (o c : Nat) (s : Int32) : Int := sm 5 (fun a => b01 (bt s a && decide (plc o a < plc o c)))
def vt (r o c : Nat) (s : Int32) : Int := if r = 0 then (if bf o c s = 0 then 1 else 0) else if r = 1 then (if bh o c s = 0 then -1 else 0) else bh o c s
def Vs (r c : Nat) (s : Int32) (n : Nat) (O : Nat → Nat) : Int := sm n (fun i => vt r (O i) c s)
theorem b01_bd (b : Bool) : 0 ≤ b01 b ∧ b01 b ≤ 1 := by cases b <;> decide
theorem bh_bd (o c : Nat) (s : Int32) : 0 ≤ bh o c s ∧ bh o c s ≤ 5 := by
  have h1 := sm_lo (n := 5) (k := 0) (f := fun a => b01 (bt s a && decide (plc o c < plc o a))) (fun i _ => (b01_bd _).1)
  have h2 := sm_hi (n := 5) (k := 1) (f := fun a => b01 (bt s a && decide (plc o c < plc o a))) (fun i _ => (b01_bd _).2)
  unfold bh; omega
theorem bf_bd (o c : Nat) (s : Int32) : 0 ≤ bf o c s ∧ bf o c s ≤ 5 := by
  have h1 := sm_lo (n := 5) (k := 0) (f := fun a => b01 (bt s a && decide (plc o a < plc o c))) (fun i _ => (b01_bd _).1)
  have h2 := sm_hi (n := 5) (k := 1) (f := fun a => b01 (bt s a && decide (plc o a < plc o c))) (fun i _ => (b01_bd _).2)
  unfold bf; omega
theorem szI_bd (s : Int32) : 0 ≤ szI s ∧ szI s ≤ 10 := by
  have h1 := sm_lo (n := 10) (k := 0) (f := fun a => b01 (bt s a)) (fun i _ => (b01_bd _).1)
  have h2 := sm_hi (n := 10) (k := 1) (f := fun a => b01 (bt s a)) (fun i _ => (b01_bd _).2)
  unfold szI; omega
theorem vt_bd (r o c : Nat) (s : Int32) : -1 ≤ vt r o c s ∧ vt r o c s ≤ 5 := by
  have := bh_bd o c s
  unfold vt
  split
  · split <;> omega
  · split
    · split <;> omega
    · omega
theorem Vs_bd {n : Nat} (hn : n ≤ 9) (r c : Nat) (s : Int32) (O : Nat → Nat) : -9 ≤ Vs r c s n O ∧ Vs r c s n O ≤ 45 := by
  have h1 := sm_lo (n := n) (k := -1) (f := fun i => vt r (O i) c s) (fun i _ => (vt_bd _ _ _ _).1)
  have h2 := sm_hi (n := n) (k := 5) (f := fun i => vt r (O i) c s) (fun i _ => (vt_bd _ _ _ _).2)
  unfold Vs; omega
theorem sz_split {o c : Nat} {s : Int32} (ho : isr o = true) (hc : c < 5) (hb : bt s c = true) (hs : ∀ j, 5 ≤ j → bt s j = false) : szI s = bh o c s + bf o c s + 1 := by
  have e1 : szI s = sm 5 (fun j => b01 (bt s j)) := by
    unfold szI
    simp only [sm, hs 5 (by omega), hs 6 (by omega), hs 7 (by omega), hs 8 (by omega), hs 9 (by omega), b01]
    simp
  have e2 : sm 5 (fun j => b01 (bt s j)) = sm 5 (fun a => (b01 (bt s a && decide (plc o c < plc o a)) + b01 (bt s a && decide (plc o a < plc o c))) + (if a = c then 1 else 0)) := by
    refine sm_congr fun a ha => ?_
    by_cases e : a = c
    · subst e
      simp [hb, b01]
    · have hne : plc o a ≠ plc o c := fun z => e (rc_inj ho ha hc z)
      rw [if_neg e]
      cases bt s a
      · rfl
      · rcases Nat.lt_or_gt_of_ne hne with h | h
        · simp [b01, h, Nat.not_lt.mpr (Nat.le_of_lt h)]
        · simp [b01, h, Nat.not_lt.mpr (Nat.le_of_lt h)]
  rw [e1, e2, sm_add, sm_add, sm_single (f := fun a => if a = c then (1 : Int) else 0) hc (fun i _ hi => if_neg hi)]
  simp [bh, bf]
theorem sm_perm {o : Nat} (ho : isr o = true) (g : Nat → Int) : sm 5 g = sm 5 (fun a => g (plc o a)) := by
  have e1 : sm 5 g = sm 5 (fun q => sm 5 (fun a => if plc o a = q then g q else 0)) := by
    refine sm_congr fun q hq => ?_
    have hr := rc_all ho hq
    rw [sm_single (f := fun a => if plc o a = q then g q else 0) hr.1 (fun a ha hne => if_neg (fun z => hne (by rw [← z, (rc_all ho ha).2.2.2])))]
    rw [if_pos hr.2.1]
  rw [e1, sm_comm]
  refine sm_congr fun a ha => ?_
  have hr := rc_all ho ha
  rw [sm_single (f := fun q => if plc o a = q then g q else 0) hr.2.2.1 (fun q _ hne => if_neg (fun z => hne z.symm)), if_pos rfl]
theorem x_size {post : Int32 → Prop} {s : Int32} (hp : post (iI (szI s))) : wpX_sizeOf post s := by
  unfold wpX_sizeOf
  refine vl_sum (fun m x1 x2 => wX_sizeOf_4 post s m x1 x2) post 10 (fun j => b01 (bt s j)) ?_ ?_ hp
  · intro m x hx
    rw [wX_sizeOf_4]
    exact br_t (by decide) hx
  · intro m i z hi hW
    rw [wX_sizeOf_4]
    exact br_f (nI_ge (b := 10) hi (by decide)) (nm_r (by rw [vb_b01 s (by omega), vs_add]) (nm_r (nI_1 i) hW))
theorem x_mb {post : Int32 → Prop} {xc : Int32} {xo xr xp xm xb xs xq xn xu xl xg xk xt xw xv : Nat → Int32} {n : Nat} {O : Nat → Nat} (h : zRB n O (xc, xo, xr, xp, xm, xb, xs, xq, xn, xu, xl, xg, xk, xt, xw, xv)) {i c : Nat} (hi : i < n) (hc : c < 5) (s : Int32) (hp : post (iI (bh (O i) c s))) :
    wpX_membersBehind post (xc, xo, xr, xp, xm, xb, xs, xq, xn, xu, xl, xg, xk, xt, xw, xv) (nI i) (nI c) s := by
  obtain ⟨hn, h1, h2⟩ := h
  have hB := h2 i hi
  have ho := hB.1
  have h3 : ∀ p, p < 5 → xr (5 * i + p) = nI (rkc (O i) p) := hB.2.2.1
  have h4 : ∀ c, c < 5 → xp (5 * i + c) = nI (plc (O i) c) := hB.2.2.2
  have hpc := (rc_all ho hc).2.2.1
  unfold wpX_membersBehind
  dsimp only
  refine ⟨by rw [vn_5a]; exact vp_in_nI (by omega) (by decide), nm_r (e' := nI (plc (O i) c + 1)) (by rw [vn_5a, nI_clamp (by omega), h4 c hc, nI_1]) ?_⟩
  refine pk_loop (σ := Int32) (fun m p x => wX_membersBehind_17 post (nI i) s xc xo xr xp xm xb xs xq xn xu xl xg xk xt xw xv m x (nI p)) (fun p x => plc (O i) c < p ∧ x = iI (sm p (fun q => if plc (O i) c < q then b01 (bt s (rkc (O i) q)) else 0))) 5 (plc (O i) c + 1) 0 (by omega) ⟨by omega, ?_⟩ ?_ ?_
  · rw [sm_zero (fun q hq => if_neg (by omega))]; rfl
  · rintro m x ⟨_, rfl⟩
    rw [wX_membersBehind_17]
    refine br_t (by decide) ?_
    rw [sm_perm ho]
    refine Eq.mp (congrArg post (congrArg iI (sm_congr fun a ha => ?_))) hp
    rw [(rc_all ho ha).2.2.2]
    by_cases hlt : plc (O i) c < plc (O i) a
    · simp [hlt]
    · simp [hlt, b01]
  · rintro m p x hp5 ⟨hlt, rfl⟩ hK
    rw [wX_membersBehind_17]
    have hr := (rc_all ho hp5).1
    refine br_f (nI_ge (b := 5) hp5 (by decide)) ⟨by rw [vn_5a]; exact vp_in_nI (by omega) (by decide), nm_r (e' := iI (sm (p + 1) (fun q => if plc (O i) c < q then b01 (bt s (rkc (O i) q)) else 0))) ?_ (nm_r (nI_1 p) (hK _ ⟨by omega, rfl⟩))⟩
    rw [vn_5a, nI_clamp (by omega), h3 p hp5, vb_b01 s (by omega), vs_add]
    simp only [sm, if_pos hlt]
theorem x_sa {post : Int32 → Prop} {xc : Int32} {xo xr xp xm xb xs xq xn xu xl xg xk xt xw xv : Nat → Int32} {n : Nat} {O : Nat → Nat} (h : zRB n O (xc, xo, xr, xp, xm, xb, xs, xq, xn, xu, xl, xg, xk, xt, xw, xv)) {r c : Nat} (hr : r ≤ 2) (hc : c < 5) {s : Int32} (hs : ∀ j, 5 ≤ j → bt s j = false)
    (hp : ∀ z : Int, (bt s c = true → z = Vs r c s n O) → -9 ≤ z → z ≤ 45 → post (iI z)) : wpX_scoreAmong post (xc, xo, xr, xp, xm, xb, xs, xq, xn, xu, xl, xg, xk, xt, xw, xv) (nI r) (nI c) s := by
  have h0 := h
  obtain ⟨hn, h1, h2⟩ := h
  dsimp only at h1
  subst h1
  unfold wpX_scoreAmong
  dsimp only
  refine x_size (nm_r (e' := iI (szI s - 1)) (vs_sub (szI s) 1) ?_)
  have hsz := szI_bd s
  have hbd : ∀ i, i < n → -1 ≤ (if r = 0 then (if bh (O i) c s = szI s - 1 then (1 : Int) else 0) else if r = 1 then (if bh (O i) c s = 0 then -1 else 0) else bh (O i) c s) ∧ (if r = 0 then (if bh (O i) c s = szI s - 1 then (1 : Int) else 0) else if r = 1 then (if bh (O i) c s = 0 then -1 else 0) else bh (O i) c s) ≤ 5 := by
    intro i hi
    have := bh_bd (O i) c s
    split
    · split <;> omega
    · split
      · split <;> omega
      · omega
  refine vl_sum (fun m x5 x6 => wX_scoreAmong_14 post (nI r) (nI c) s (iI (szI s - 1)) (nI n) xo xr xp xm xb xs xq xn xu xl xg xk xt xw xv m x5 x6) post n (fun i => if r = 0 then (if bh (O i) c s = szI s - 1 then 1 else 0) else if r = 1 then (if bh (O i) c s = 0 then -1 else 0) else bh (O i) c s) ?_ ?_ ?_
  · intro m x hx
    rw [wX_scoreAmong_14]
    exact br_t (nI_le (Nat.le_refl n) (by omega)) hx
  · intro m i z hi hW
    rw [wX_scoreAmong_14]
    have hb := bh_bd (O i) c s
    refine br_f (nI_ge hi (by omega)) (x_mb (n := n) (O := O) h0 hi hc s ?_)
    refine pk_eq r 0 (fun e => ?_) (fun e => ?_)
    · rw [if_pos e] at hW
      refine vi_eq (bh (O i) c s) (szI s - 1) (fun e2 => ?_) (fun e2 => ?_)
      · rw [if_pos e2] at hW
        exact nm_r (vs_1 z) (nm_r (nI_1 i) hW)
      · rw [if_neg e2, Int.add_zero] at hW
        unfold wX_scoreAmong_50
        refine pk_eq r 1 (fun e3 => by omega) (fun e3 => ?_)
        unfold wX_scoreAmong_66
        exact pk_eq r 2 (fun e3 => by omega) (fun e3 => nm_r (nI_1 i) hW)
    · rw [if_neg e] at hW
      unfold wX_scoreAmong_50
      refine pk_eq r 1 (fun e3 => ?_) (fun e3 => ?_)
      · rw [if_pos e3] at hW
        refine vi_eq (bh (O i) c s) 0 (fun e2 => ?_) (fun e2 => ?_)
        · rw [if_pos e2] at hW
          exact nm_r (vs_m1 z) (nm_r (nI_1 i) hW)
        · rw [if_neg e2, Int.add_zero] at hW
          unfold wX_scoreAmong_66
          exact pk_eq r 2 (fun e3 => by omega) (fun e3 => nm_r (nI_1 i) hW)
      · rw [if_neg e3] at hW
        unfold wX_scoreAmong_66
        exact pk_eq r 2 (fun e3 => nm_r (vs_add z _) (nm_r (nI_1 i) hW)) (fun e4 => by omega)
  · have b1 := sm_lo (n := n) (k := -1) (fun i hi => (hbd i hi).1)
    have b2 := sm_hi (n := n) (k := 5) (fun i hi => (hbd i hi).2)
    refine hp _ (fun hb => sm_congr fun i hi => ?_) (by omega) (by omega)
    have := sz_split (h2 i hi).1 hc hb hs
    unfold vt
    by_cases e : r = 0
    · rw [if_pos e, if_pos e]
      by_cases e2 : bf (O i) c s = 0
      · rw [if_pos e2, if_pos (by omega)]
      · rw [if_neg e2, if_neg (by omega)]
    · rw [if_neg e, if_neg e]
theorem y_ar {post : Int32 → Prop} {yn yc : Int32} {yo yp ym ys yl yb yw yk yt yz yx : Nat → Int32} {n : Nat} {O : Nat → Nat} (h : zRY n O (yn, yc, yo, yp, ym, ys, yl, yb, yw, yk, yt, yz, yx)) {i c : Nat} (hi : i < n) (hc : c < 5) (s : Int32) (x4 : Int32)
    (hp : post (iI (if x4 = 0 then bf (O i) c s else bh (O i) c s))) : wpY_around post (yn, yc, yo, yp, ym, ys, yl, yb, yw, yk, yt, yz, yx) (nI i) (nI c) s x4 := by
  obtain ⟨hn, h1, h2⟩ := h
  have hB := h2 i hi
  have ho := hB.1
  have h4 : ∀ c, c < 5 → yp (5 * i + c) = nI (plc (O i) c) := hB.2.2
  unfold wpY_around
  dsimp only
  refine vl_sum (fun m x5 x6 => wY_around_6 post (nI i) (nI c) s x4 yn yc yo yp ym ys yl yb yw yk yt yz yx m x5 x6) post 5 (fun a => if x4 = 0 then b01 (bt s a && decide (plc (O i) a < plc (O i) c)) else b01 (bt s a && decide (plc (O i) c < plc (O i) a))) ?_ ?_ ?_
  · intro m x hx
    rw [wY_around_6]
    exact br_t (by decide) hx
  · intro m a z ha hW
    rw [wY_around_6]
    have pa := (rc_all ho ha).2.2.1
    have pc := (rc_all ho hc).2.2.1
    refine br_f (nI_ge (b := 5) ha (by decide)) ⟨by rw [vn_5b]; exact vp_in_nI (by omega) (by decide), by rw [vn_5b]; exact vp_in_nI (by omega) (by decide), nm_r (e' := iI ((plc (O i) a : Int) - plc (O i) c)) (by rw [vn_5b, vn_5b, nI_clamp (by omega), nI_clamp (by omega), h4 a ha, h4 c hc, ← vs_iN, ← vs_iN, vs_sub]) ?_⟩
    cases hbt : bt s a with
    | false =>
      refine br_f (fun hh => by rw [vb_has (by omega), hbt] at hh; cases hh) (nm_r (nI_1 a) ?_)
      simpa [hbt, b01] using hW
    | true =>
      refine br_t ((vb_has (by omega)).mpr hbt) ?_
      by_cases e : x4 = 0
      · refine br_t e ?_
        rw [if_pos e, hbt, Bool.true_and] at hW
        refine vi_le 0 _ (fun hle => nm_r (nI_1 a) ?_) (fun hlt => nm_r (vs_1 z) (nm_r (nI_1 a) ?_))
        · rw [decide_eq_false (by omega)] at hW
          simpa [b01] using hW
        · rw [decide_eq_true (by omega)] at hW
          exact hW
      · refine br_f e ?_
        rw [if_neg e, hbt, Bool.true_and] at hW
        refine vi_le _ 0 (fun hle => nm_r (nI_1 a) ?_) (fun hlt => nm_r (vs_1 z) (nm_r (nI_1 a) ?_))
        · rw [decide_eq_false (by omega)] at hW
          simpa [b01] using hW
        · rw [decide_eq_true (by omega)] at hW
          exact hW
  · by_cases e : x4 = 0
    · rw [if_pos e] at hp
      simp only [if_pos e]
      exact hp
    · rw [if_neg e] at hp
      simp only [if_neg e]
      exact hp
theorem y_va {post : Int32 → Prop} {yn yc : Int32} {yo yp ym ys yl yb yw yk yt yz yx : Nat → Int32} {n : Nat} {O : Nat → Nat} (h : zRY n O (yn, yc, yo, yp, ym, ys, yl, yb, yw, yk, yt, yz, yx)) {r c : Nat} (hr : r ≤ 2) (hc : c < 5) (s : Int32) (hp : post (iI (Vs r c s n O))) : wpY_value post (yn, yc, yo, yp, ym, ys, yl, yb, yw, yk, yt, yz, yx) (nI r) (nI c) s := by
  have h0 := h
  obtain ⟨hn, h1, h2⟩ := h
  dsimp only at h1
  subst h1
  unfold wpY_value
  dsimp only
  refine vl_sum (fun m x4 x5 => wY_value_6 post (nI r) (nI c) s (nI n) yc yo yp ym ys yl yb yw yk yt yz yx m x4 x5) post n (fun i => vt r (O i) c s) ?_ ?_ hp
  · intro m x hx
    rw [wY_value_6]
    exact br_t (nI_le (Nat.le_refl n) (by omega)) hx
  · intro m i z hi hW
    rw [wY_value_6]
    have b1 := bh_bd (O i) c s
    have b2 := bf_bd (O i) c s
    refine br_f (nI_ge hi (by omega)) (y_ar (n := n) (O := O) h0 hi hc s 1 ?_)
    rw [if_neg (by decide)]
    refine y_ar (n := n) (O := O) h0 hi hc s 0 ?_
    rw [if_pos rfl]
    unfold vt at hW
    refine pk_eq r 0 (fun e => ?_) (fun e => ?_)
    · rw [if_pos e] at hW
      refine vi_eq (bf (O i) c s) 0 (fun e2 => ?_) (fun e2 => ?_)
      · rw [if_pos e2] at hW
        refine nm_r (vs_1 z) ?_
        unfold wY_value_49
        refine pk_eq r 1 (fun e3 => by omega) (fun e3 => ?_)
        unfold wY_value_62
        exact pk_eq r 2 (fun e3 => by omega) (fun e3 => nm_r (nI_1 i) hW)
      · rw [if_neg e2, Int.add_zero] at hW
        unfold wY_value_49
        refine pk_eq r 1 (fun e3 => by omega) (fun e3 => ?_)
        unfold wY_value_62
        exact pk_eq r 2 (fun e3 => by omega) (fun e3 => nm_r (nI_1 i) hW)
    · rw [if_neg e] at hW
      unfold wY_value_49
      refine pk_eq r 1 (fun e3 => ?_) (fun e3 => ?_)
      · rw [if_pos e3] at hW
        refine vi_eq (bh (O i) c s) 0 (fun e2 => ?_) (fun e2 => ?_)
        · rw [if_pos e2] at hW
          refine nm_r (vs_m1 z) ?_
          unfold wY_value_62
          exact pk_eq r 2 (fun e3 => by omega) (fun e3 => nm_r (nI_1 i) hW)
        · rw [if_neg e2, Int.add_zero] at hW
          unfold wY_value_62
          exact pk_eq r 2 (fun e3 => by omega) (fun e3 => nm_r (nI_1 i) hW)
      · rw [if_neg e3] at hW
        unfold wY_value_62
        exact pk_eq r 2 (fun e3 => nm_r (vs_add z _) (nm_r (nI_1 i) hW)) (fun e4 => by omega)
