/-! ===== rule 14: the walks ===== -/
def W14 (n : Nat) (O : Nat → Nat) (N a : Nat) : Prop := ∃ s, 0 < s ∧ s < N ∧ Chn n O s ∧ (∀ d, d < 5 → ¬ ∀ x, x < 5 → s.testBit x = true → bts n O d x) ∧ top5 n O s a
theorem szI_ins (x : Int32) {v : Nat} (hv : v < 10) : szI (x ||| ((1 : Int32) <<< (nI v &&& 31))) = szI x + b01 (!bt x v) := by
  have e : szI (x ||| ((1 : Int32) <<< (nI v &&& 31))) = sm 10 (fun j => b01 (bt x j) + (if j = v then b01 (!bt x v) else 0)) := by
    refine sm_congr fun j hj => ?_
    rw [b_or, vb_pow (by omega)]
    by_cases e : j = v
    · subst e; rw [if_pos rfl, decide_eq_true rfl]; cases bt x j <;> rfl
    · rw [if_neg e, decide_eq_false e, Bool.or_false, Int.add_zero]
  rw [e, sm_add, sm_single (f := fun j => if j = v then b01 (!bt x v) else 0) hv (fun i _ hi => if_neg hi), if_pos rfl]
  rfl
theorem szI_5 {x : Int32} (hx : ∀ i, 5 ≤ i → bt x i = false) : szI x = sm 5 (fun j => b01 (bt x j)) := by
  unfold szI
  simp only [sm, hx 5 (by omega), hx 6 (by omega), hx 7 (by omega), hx 8 (by omega), hx 9 (by omega), b01]
  simp
theorem sg_and {n : Nat} {O : Nat → Nat} {s a : Nat} (hs : s < 32) {r : Int32} (h : isSet r (fun b => 0 < Mg n O a b)) : szI (r &&& nI s) = sgI n O s a := by
  rw [szI_5 (fun i hi => by rw [b_and, set_hi h i hi]; rfl)]
  refine sm_congr fun j hj => congrArg b01 ?_
  rw [b_and, vb_nIs (by omega), Bool.and_comm]
  congr 1
  have := h j
  cases hb : bt r j
  · rw [decide_eq_false]
    intro z
    rw [this.mpr ⟨hj, z⟩] at hb; cases hb
  · rw [decide_eq_true (this.mp hb).2]
theorem sgI_N (n : Nat) (O : Nat → Nat) (s a : Nat) : ∃ v : Nat, v ≤ 5 ∧ sgI n O s a = v := by
  have := sgI_bd n O s a
  exact ⟨(sgI n O s a).toNat, by omega, by omega⟩
def csz (s : Nat) (a : Nat) : Int := sm a (fun d => b01 (s.testBit d))
def injA (n : Nat) (O : Nat → Nat) (s A : Nat) : Prop := ∀ a b, a < A → b < A → s.testBit a = true → s.testBit b = true → a ≠ b → sgI n O s a ≠ sgI n O s b
theorem x_chn {post : Int32 → Prop} {xc : Int32} {xo xr xp xm xb xs xq xn xu xl xg xk xt xw xv : Nat → Int32} {n : Nat} {O : Nat → Nat} (h : zRX n O (xc, xo, xr, xp, xm, xb, xs, xq, xn, xu, xl, xg, xk, xt, xw, xv)) {s : Nat} (hs : s < 32) (h1 : Chn n O s → post 1) (h0 : ¬ Chn n O s → post 0) : wpX_isChain post (xc, xo, xr, xp, xm, xb, xs, xq, xn, xu, xl, xg, xk, xt, xw, xv) (nI s) := by
  have hbe : ∀ a, a < 5 → isSet (xb a) (fun b => 0 < Mg n O a b) := h.2.2
  unfold wpX_isChain
  dsimp only
  refine pk_loop (σ := Int32) (fun m a x => wX_isChain_4 post (nI s) xc xo xr xp xm xb xs xq xn xu xl xg xk xt xw xv m x (nI a)) (fun a x => (∀ v, bt x v = true ↔ ∃ d, d < a ∧ s.testBit d = true ∧ sgI n O s d = (v : Int)) ∧ ((szI x = csz s a ∧ injA n O s a) ∨ (szI x < csz s a ∧ ¬ injA n O s a))) 5 0 0 (by omega) ⟨fun v => by rw [b_0]; simp, Or.inl ⟨(by decide : szI 0 = 0), fun a b ha => by omega⟩⟩ ?_ ?_
  · rintro m x ⟨_, hx⟩
    rw [wX_isChain_4]
    refine br_t (by decide) (x_size (x_size ?_))
    have b1 := szI_bd x
    have b2 := szI_bd (nI s)
    have e : szI (nI s) = csz s 5 := by
      rw [szI_5 (nI_hi hs)]
      exact sm_congr fun j hj => by rw [vb_nIs (by omega)]
    refine vi_eq (szI x) (szI (nI s)) (fun e2 => h1 ?_) (fun e2 => h0 fun hc => ?_)
    · rcases hx with ⟨_, hi⟩ | ⟨hlt, _⟩
      · exact inj_chn s hs hi
      · omega
    · rcases hx with ⟨he, _⟩ | ⟨_, hni⟩
      · omega
      · exact hni (chn_inj hc)
  · rintro m a x ha ⟨hbx, hx⟩ hK
    rw [wX_isChain_4]
    refine br_f (nI_ge (b := 5) ha (by decide)) (x_has (by omega) (fun e => br_f (by decide) ⟨vp_in_nI ha (by decide), x_size ?_⟩) (fun e => br_t rfl (nm_r (nI_1 a) (hK x ⟨fun v => ?_, ?_⟩))))
    · rw [vb_nIs (by omega)] at e
      rw [nI_clamp (by omega), sg_and hs (hbe a ha)]
      obtain ⟨v, hv, ev⟩ := sgI_N n O s a
      rw [ev, vs_iN]
      refine nm_e (nm_r (nI_1 a) (hK (x ||| ((1 : Int32) <<< (nI v &&& 31))) ⟨fun j => ?_, ?_⟩))
      · rw [b_or, vb_pow (by omega), Bool.or_eq_true, decide_eq_true_eq, hbx j]
        constructor
        · rintro (⟨d, d1, d2, d3⟩ | rfl)
          · exact ⟨d, by omega, d2, d3⟩
          · exact ⟨a, by omega, e, ev⟩
        · rintro ⟨d, d1, d2, d3⟩
          by_cases ed : d = a
          · subst ed; right; omega
          · exact Or.inl ⟨d, by omega, d2, d3⟩
      · rw [szI_ins x (by omega)]
        have ec : csz s (a + 1) = csz s a + 1 := by
          unfold csz; simp only [sm]; rw [e]; rfl
        cases hbv : bt x v
        · -- a new number
          have hnew : ∀ d, d < a → s.testBit d = true → sgI n O s d ≠ v := by
            intro d hd hsd z
            rw [(hbx v).mpr ⟨d, hd, hsd, z⟩] at hbv; cases hbv
          have hext : injA n O s a → injA n O s (a + 1) := by
            intro hi b c hb hc hsb hsc hne
            by_cases e1 : b = a
            · subst e1
              rw [ev]
              exact fun z => hnew c (by omega) hsc z.symm
            · by_cases e2 : c = a
              · subst e2
                rw [ev]
                exact hnew b (by omega) hsb
              · exact hi b c (by omega) (by omega) hsb hsc hne
          rcases hx with ⟨h2, h3⟩ | ⟨h2, h3⟩
          · exact Or.inl ⟨by rw [h2, ec]; rfl, hext h3⟩
          · refine Or.inr ⟨?_, fun z => h3 (fun b c hb hc => z b c (by omega) (by omega))⟩
            rw [ec]
            have : b01 (!false) = 1 := rfl
            omega
        · obtain ⟨d, d1, d2, d3⟩ := (hbx v).mp hbv
          have hno : ¬ injA n O s (a + 1) := fun z => z d a (by omega) (by omega) d2 e (by omega) (by rw [d3, ev])
          refine Or.inr ⟨?_, hno⟩
          have : b01 (!true) = 0 := rfl
          rcases hx with ⟨h2, h3⟩ | ⟨h2, h3⟩ <;> omega
    · rw [vb_nIs (by omega)] at e
      rw [hbx v]
      constructor
      · rintro ⟨d, d1, d2, d3⟩
        exact ⟨d, by omega, d2, d3⟩
      · rintro ⟨d, d1, d2, d3⟩
        by_cases ed : d = a
        · subst ed; rw [e] at d2; cases d2
        · exact ⟨d, by omega, d2, d3⟩
    · rw [vb_nIs (by omega)] at e
      have ec : csz s (a + 1) = csz s a := by
        unfold csz; simp only [sm]; rw [e, show b01 false = 0 from rfl, Int.add_zero]
      rw [ec]
      have hii : injA n O s (a + 1) ↔ injA n O s a := by
        constructor
        · exact fun z b c hb hc => z b c (by omega) (by omega)
        · intro z b c hb hc hsb hsc
          have h1 : b ≠ a := by rintro rfl; rw [e] at hsb; cases hsb
          have h2 : c ≠ a := by rintro rfl; rw [e] at hsc; cases hsc
          exact z b c (by omega) (by omega) hsb hsc
      rw [hii]; exact hx
theorem x_sba {post : Int32 → Prop} {xc : Int32} {xo xr xp xm xb xs xq xn xu xl xg xk xt xw xv : Nat → Int32} {n : Nat} {O : Nat → Nat} (h : zRX n O (xc, xo, xr, xp, xm, xb, xs, xq, xn, xu, xl, xg, xk, xt, xw, xv)) {s : Nat} (hs : s < 32) (h1 : (∃ d, d < 5 ∧ ∀ x, x < 5 → s.testBit x = true → bts n O d x) → post 1) (h0 : (∀ d, d < 5 → ¬ ∀ x, x < 5 → s.testBit x = true → bts n O d x) → post 0) : wpX_someoneBeatsAllOf post (xc, xo, xr, xp, xm, xb, xs, xq, xn, xu, xl, xg, xk, xt, xw, xv) (nI s) := by
  have hbe : ∀ a, a < 5 → isSet (xb a) (fun b => 0 < Mg n O a b) := h.2.2
  unfold wpX_someoneBeatsAllOf
  dsimp only
  refine pk_loop (σ := Unit) (fun m a _ => wX_someoneBeatsAllOf_2 post (nI s) xc xo xr xp xm xb xs xq xn xu xl xg xk xt xw xv m (nI a)) (fun a _ => ∀ d, d < a → ¬ ∀ x, x < 5 → s.testBit x = true → bts n O d x) 5 0 () (by omega) (fun d hd => by omega) ?_ ?_
  · intro m _ hw
    rw [wX_someoneBeatsAllOf_2]
    exact br_t (by decide) (h0 hw)
  · intro m a _ ha hw hK
    rw [wX_someoneBeatsAllOf_2]
    refine br_f (nI_ge (b := 5) ha (by decide)) ⟨vp_in_nI ha (by decide), ?_⟩
    rw [nI_clamp (by omega)]
    have hc : (xb a &&& nI s) = nI s ↔ ∀ x, x < 5 → s.testBit x = true → bts n O a x := by
      rw [and_eq]
      constructor
      · intro g x hx hb
        exact ((hbe a ha x).mp (g x (by rw [vb_nIs (by omega)]; exact hb))).2
      · intro g x hb
        have hx : x < 5 := by
          rcases Nat.lt_or_ge x 5 with q | q
          · exact q
          · rw [nI_hi hs x q] at hb; cases hb
        rw [vb_nIs (by omega)] at hb
        exact (hbe a ha x).mpr ⟨hx, g x hx hb⟩
    refine br_c (fun z => h1 ⟨a, ha, hc.mp z⟩) (fun z => nm_r (nI_1 a) (hK () (fun d hd => ?_)))
    by_cases e : d = a
    · subst e; exact fun q => z (hc.mpr q)
    · exact hw d (by omega)
theorem x_fo {post : Int32 → Prop} {xc : Int32} {xo xr xp xm xb xs xq xn xu xl xg xk xt xw xv : Nat → Int32} {n : Nat} {O : Nat → Nat} (h : zRX n O (xc, xo, xr, xp, xm, xb, xs, xq, xn, xu, xl, xg, xk, xt, xw, xv)) {s : Nat} (hs : s < 32) {f : Nat} (hf : f < 5) (ht : top5 n O s f) (hp : post ((1 : Int32) <<< (nI f &&& 31))) : wpX_frontOf post (xc, xo, xr, xp, xm, xb, xs, xq, xn, xu, xl, xg, xk, xt, xw, xv) (nI s) := by
  have hbe : ∀ a, a < 5 → isSet (xb a) (fun b => 0 < Mg n O a b) := h.2.2
  unfold wpX_frontOf
  dsimp only
  refine pk_loop (σ := Unit) (fun m a _ => wX_frontOf_2 post (nI s) xc xo xr xp xm xb xs xq xn xu xl xg xk xt xw xv m (nI a)) (fun a _ => a ≤ f) 5 0 () (by omega) (by omega) ?_ ?_
  · intro m _ hw
    omega
  · intro m a _ ha hw hK
    rw [wX_frontOf_2]
    have hins := vb_ins (hbe a ha) ha
    have hc : ((xb a ||| ((1 : Int32) <<< (nI a &&& 31))) &&& nI s) = nI s ↔ ∀ x, x < 5 → s.testBit x = true → x ≠ a → bts n O a x := by
      rw [and_eq]
      constructor
      · intro g x hx hb hne
        rcases ((hins x).mp (g x (by rw [vb_nIs (by omega)]; exact hb))).2 with q | q
        · exact q
        · exact absurd q hne
      · intro g x hb
        have hx : x < 5 := by
          rcases Nat.lt_or_ge x 5 with q | q
          · exact q
          · rw [nI_hi hs x q] at hb; cases hb
        rw [vb_nIs (by omega)] at hb
        refine (hins x).mpr ⟨hx, ?_⟩
        by_cases e : x = a
        · exact Or.inr e
        · exact Or.inl (g x hx hb e)
    refine br_f (nI_ge (b := 5) ha (by decide)) (x_has (by omega) (fun e => br_f (by decide) ⟨vp_in_nI ha (by decide), ?_⟩) (fun e => br_t rfl (nm_r (nI_1 a) (hK () ?_))))
    · rw [vb_nIs (by omega)] at e
      rw [nI_clamp (by omega)]
      refine br_c (fun z => ?_) (fun z => nm_r (nI_1 a) (hK () ?_))
      · have := top_u ha hf ⟨e, hc.mp z⟩ ht
        rw [this]; exact hp
      · by_cases ea : a = f
        · subst ea; exact absurd (hc.mpr ht.2) z
        · omega
    · rw [vb_nIs (by omega)] at e
      by_cases ea : a = f
      · subst ea; rw [ht.1] at e; cases e
      · omega
theorem w14_s {n : Nat} {O : Nat → Nat} {s : Nat} {w : Int32} (h : isSet w (W14 n O s)) (hno : Chn n O s → (∀ d, d < 5 → ¬ ∀ x, x < 5 → s.testBit x = true → bts n O d x) → False) : isSet w (W14 n O (s + 1)) := by
  refine vb_congr h (fun i hi => ⟨?_, ?_⟩)
  · rintro ⟨t, a, b, c⟩
    exact ⟨t, a, by omega, c⟩
  · rintro ⟨t, a, b, c, d, e⟩
    by_cases et : t = s
    · subst et; exact (hno c d).elim
    · exact ⟨t, a, by omega, c, d, e⟩
theorem w14_y {n : Nat} {O : Nat → Nat} {s f : Nat} {w : Int32} (h : isSet w (W14 n O s)) (s0 : 0 < s) (hf : f < 5) (hc : Chn n O s) (hn : ∀ d, d < 5 → ¬ ∀ x, x < 5 → s.testBit x = true → bts n O d x) (ht : top5 n O s f) : isSet (w ||| ((1 : Int32) <<< (nI f &&& 31))) (W14 n O (s + 1)) := by
  refine vb_congr (vb_ins h hf) (fun i hi => ⟨?_, ?_⟩)
  · rintro (⟨t, a, b, c⟩ | rfl)
    · exact ⟨t, a, by omega, c⟩
    · exact ⟨s, s0, by omega, hc, hn, ht⟩
  · rintro ⟨t, a, b, c, d, e⟩
    by_cases et : t = s
    · subst et; exact Or.inr (top_u hi hf e ht)
    · exact Or.inl ⟨t, a, by omega, c, d, e⟩
theorem sub_rf (s : Nat) : sub5 s s := fun _ _ h => h
theorem x_w14 {post : Int32 → Prop} {xc : Int32} {xo xr xp xm xb xs xq xn xu xl xg xk xt xw xv : Nat → Int32} {n : Nat} {O : Nat → Nat} (h : zRX n O (xc, xo, xr, xp, xm, xb, xs, xq, xn, xu, xl, xg, xk, xt, xw, xv)) (hp : ∀ w, isSet w (W14 n O 32) → post w) : wpX_frontsOfChains post (xc, xo, xr, xp, xm, xb, xs, xq, xn, xu, xl, xg, xk, xt, xw, xv) := by
  unfold wpX_frontsOfChains
  dsimp only
  refine pk_loop (σ := Int32) (fun m s w => wX_frontsOfChains_4 post xc xo xr xp xm xb xs xq xn xu xl xg xk xt xw xv m w (nI s)) (fun s w => 0 < s ∧ isSet w (W14 n O s)) 32 1 0 (by omega) ⟨by omega, vb_congr vb_empty (fun i _ => ⟨fun z => z.elim, fun ⟨t, a, b, _⟩ => by omega⟩)⟩ ?_ ?_
  · rintro m w ⟨_, hw⟩
    rw [wX_frontsOfChains_4]
    exact br_t (by decide) (hp w hw)
  · rintro m s w hs ⟨s0, hw⟩ hK
    rw [wX_frontsOfChains_4]
    refine br_f (nI_ge (b := 32) hs (by decide)) (x_chn h hs (fun hc => br_f (by decide) (x_sba h hs (fun hd => br_f (by decide) (nm_r (nI_1 s) (hK w ⟨by omega, w14_s hw (fun _ g => ?_)⟩))) (fun hd => br_t rfl ?_))) (fun hc => br_t rfl (nm_r (nI_1 s) (hK w ⟨by omega, w14_s hw (fun g _ => hc g)⟩))))
    · obtain ⟨d, d1, d2⟩ := hd
      exact g d d1 d2
    · obtain ⟨f, hf, ht⟩ := hc s s0 hs (sub_rf s)
      exact x_fo h hs hf ht (nm_e (nm_r (nI_1 s) (hK _ ⟨by omega, w14_y hw s0 hf hc hd ht⟩)))
theorem y_fr {post : Int32 → Prop} {yn yc : Int32} {yo yp ym ys yl yb yw yk yt yz yx : Nat → Int32} {n : Nat} {O : Nat → Nat} (h : zRYM n O (yn, yc, yo, yp, ym, ys, yl, yb, yw, yk, yt, yz, yx)) {s : Nat} (hs : s < 32) (s0 : 0 < s) (h1 : ∀ f, f < 5 → Chn n O s → top5 n O s f → post (nI f)) (h0 : ¬ Chn n O s → post (-1)) : wpY_front post (yn, yc, yo, yp, ym, ys, yl, yb, yw, yk, yt, yz, yx) (nI s) := by
  unfold wpY_front
  dsimp only
  refine pk_loop (σ := Int32 × Int32) (fun m j x => wY_front_7 post yn yc yo yp ym ys yl yb yw yk yt yz yx m x.1 x.2 (nI j)) (fun j x => ∃ r, x.1 = nI r ∧ r < 32 ∧ sub5 r s ∧ pcn r ≤ 5 - j ∧ (Chn n O r → Chn n O s) ∧ ((x.2 = -1 ∧ r = s) ∨ ∃ f, f < 5 ∧ x.2 = nI f ∧ top5 n O s f)) 5 0 (nI s, -1) (by omega) ⟨s, rfl, hs, sub_rf s, pcn_5 s hs, fun z => z, Or.inl ⟨rfl, rfl⟩⟩ ?_ ?_
  · rintro m ⟨x2, x3⟩ ⟨r, e, hr, hsub, hp, hch, hx⟩
    dsimp only at e hx ⊢
    rw [wY_front_7]
    refine br_t (by decide) ?_
    have r0 : r = 0 := pcn_0 r hr (by omega)
    subst r0
    have hc : Chn n O s := hch (fun t t0 t1 ts => by
      obtain ⟨c, hc, hb⟩ := bit_ex' t1 t0
      have := ts c hc hb
      simp at this)
    rcases hx with ⟨_, e2⟩ | ⟨f, hf, e2, ht⟩
    · omega
    · rw [e2]; exact h1 f hf hc ht
  · rintro m j ⟨x2, x3⟩ hj ⟨r, e, hr, hsub, hpc, hch, hx⟩ hK
    dsimp only at e hx hK ⊢
    subst e
    rw [wY_front_7]
    refine br_f (nI_ge (b := 5) hj (by decide)) ?_
    refine pk_loop (σ := Int32) (fun m' a x => wY_front_19 post (wY_front_7 post yn yc yo yp ym ys yl yb yw yk yt yz yx m) (nI r) x3 (nI j) yn yc yo yp ym ys yl yb yw yk yt yz yx m' x (nI a)) (fun a x => (x = -1 ∧ ∀ a', a' < a → ¬ top5 n O r a') ∨ ∃ f, f < a ∧ x = nI f ∧ top5 n O r f) 5 0 (-1) (by omega) (Or.inl ⟨rfl, fun a' ha' => by omega⟩) ?_ ?_
    · rintro m' x5 h5
      rw [wY_front_19]
      refine br_t (by decide) (pk_eq r 0 (fun e0 => ?_) (fun e0 => ?_))
      · subst e0
        unfold wY_front_76
        refine br_t rfl ?_
        unfold wY_front_87
        exact br_t rfl (nm_r (nI_1 j) (hK (nI 0, x3) ⟨0, rfl, by omega, hsub, by simp [pcn], hch, hx⟩))
      · rcases h5 with ⟨e5, hno⟩ | ⟨f, hf, e5, ht⟩
        · subst e5
          refine br_f (by decide) (h0 fun hc => ?_)
          obtain ⟨a, ha, hta⟩ := hc r (by omega) hr hsub
          exact hno a ha hta
        · subst e5
          refine br_t (nI_pos' (by omega)) ?_
          have hnext : ∀ y : Int32, (∃ g, g < 5 ∧ y = nI g ∧ top5 n O s g) → wY_front_87 post (wY_front_7 post yn yc yo yp ym ys yl yb yw yk yt yz yx m) (nI r) y (nI j) (nI f) yn yc yo yp ym ys yl yb yw yk yt yz yx := by
            intro y hy
            unfold wY_front_87
            refine br_f (fun z => e0 ((nI_eq (b := 0) (by omega) (by omega)).mp z)) (nm_r (rmv_I r hr f (by omega)) (nm_r (nI_1 j) (hK (nI (rmv r f), y) ⟨rmv r f, rfl, rmv_32 r hr f (by omega), fun c hc hb => hsub c hc ((rmv_bit r hr f (by omega) c hc).mp hb).1, ?_, fun z => hch (chn_top hr (by omega) ht z), Or.inr hy⟩)))
            have := pcn_rm r hr f (by omega) ht.1
            omega
          unfold wY_front_76
          refine br_f (fun z => e0 ((nI_eq (b := 0) (by omega) (by omega)).mp z)) ?_
          rcases hx with ⟨e3, er⟩ | ⟨g, hg, e3, hgt⟩
          · subst e3
            refine br_f (by decide) (hnext (nI f) ⟨f, by omega, rfl, ?_⟩)
            rw [← er]; exact ht
          · subst e3
            exact br_t (nI_pos' (by omega)) (hnext (nI g) ⟨g, hg, rfl, hgt⟩)
    · rintro m' a x5 ha h5 hK'
      rw [wY_front_19]
      refine br_f (nI_ge (b := 5) ha (by decide)) ?_
      have keep : ¬ top5 n O r a → ((x5 = -1 ∧ ∀ a', a' < a + 1 → ¬ top5 n O r a') ∨ ∃ f, f < a + 1 ∧ x5 = nI f ∧ top5 n O r f) := by
        intro hno
        rcases h5 with ⟨e5, g⟩ | ⟨f, f1, f2, f3⟩
        · refine Or.inl ⟨e5, fun a' ha' => ?_⟩
          by_cases e : a' = a
          · subst e; exact hno
          · exact g a' (by omega)
        · exact Or.inr ⟨f, by omega, f2, f3⟩
      cases hb : r.testBit a with
      | true =>
        refine br_t ((vb_has (by omega)).mpr (by rw [vb_nIs (by omega)]; exact hb)) (y_bb h ha (fun q hq => ?_))
        have hc : (nI r &&& (((1 : Int32) <<< (nI a &&& 31)) ^^^ (-1)) &&& (q ^^^ (-1))) = 0 ↔ top5 n O r a := by
          rw [rmv_I r hr a ha, and_n0]
          constructor
          · intro g
            refine ⟨hb, fun b hb5 hbr hne => ?_⟩
            exact ((hq b).mp (g b (by rw [vb_nIs (by have := rmv_32 r hr a ha; omega)]; exact (rmv_bit r hr a ha b hb5).mpr ⟨hbr, hne⟩))).2
          · intro g x hx'
            have hx5 : x < 5 := by
              rcases Nat.lt_or_ge x 5 with z | z
              · exact z
              · rw [nI_hi (rmv_32 r hr a ha) x z] at hx'; cases hx'
            rw [vb_nIs (by have := rmv_32 r hr a ha; omega)] at hx'
            have := (rmv_bit r hr a ha x hx5).mp hx'
            exact (hq x).mpr ⟨hx5, g.2 x hx5 this.1 this.2⟩
        exact br_c (fun z => nm_r (nI_1 a) (hK' (nI a) (Or.inr ⟨a, by omega, rfl, hc.mp z⟩))) (fun z => nm_r (nI_1 a) (hK' x5 (keep fun g => z (hc.mpr g))))
      | false =>
        exact br_f (fun hh => by rw [vb_has (by omega), vb_nIs (by omega), hb] at hh; cases hh) (nm_r (nI_1 a) (hK' x5 (keep fun g => by rw [g.1] at hb; cases hb)))
theorem y_w14 {post : Int32 → Prop} {yn yc : Int32} {yo yp ym ys yl yb yw yk yt yz yx : Nat → Int32} {n : Nat} {O : Nat → Nat} (h : zRYM n O (yn, yc, yo, yp, ym, ys, yl, yb, yw, yk, yt, yz, yx)) (hp : ∀ w, isSet w (W14 n O 32) → post w) : wpY_chains post (yn, yc, yo, yp, ym, ys, yl, yb, yw, yk, yt, yz, yx) := by
  unfold wpY_chains
  dsimp only
  refine pk_loop (σ := Int32) (fun m s w => wY_chains_4 post yn yc yo yp ym ys yl yb yw yk yt yz yx m w (nI s)) (fun s w => 0 < s ∧ isSet w (W14 n O s)) 32 1 0 (by omega) ⟨by omega, vb_congr vb_empty (fun i _ => ⟨fun z => z.elim, fun ⟨t, a, b, _⟩ => by omega⟩)⟩ ?_ ?_
  · rintro m w ⟨_, hw⟩
    rw [wY_chains_4]
    exact br_t (by decide) (hp w hw)
  · rintro m s w hs ⟨s0, hw⟩ hK
    rw [wY_chains_4]
    have lng : ∀ x3 : Int32, ((x3 < 0 ∧ ¬ Chn n O s) ∨ ∃ f, f < 5 ∧ x3 = nI f ∧ Chn n O s ∧ top5 n O s f) → ∃ n22, wY_chains_22 post (wY_chains_4 post yn yc yo yp ym ys yl yb yw yk yt yz yx m) w (nI s) x3 yn yc yo yp ym ys yl yb yw yk yt yz yx n22 0 0 := by
      intro x3 hx3
      refine pk_loop (σ := Int32) (fun m' a x => wY_chains_22 post (wY_chains_4 post yn yc yo yp ym ys yl yb yw yk yt yz yx m) w (nI s) x3 yn yc yo yp ym ys yl yb yw yk yt yz yx m' x (nI a)) (fun a x => (x = 0 ∧ ∀ d, d < a → ¬ ∀ x, x < 5 → s.testBit x = true → bts n O d x) ∨ (x = 1 ∧ ∃ d, d < 5 ∧ ∀ x, x < 5 → s.testBit x = true → bts n O d x)) 5 0 0 (by omega) (Or.inl ⟨rfl, fun d hd => by omega⟩) ?_ ?_
      · rintro m' x4 h4
        rw [wY_chains_22]
        refine br_t (by decide) ?_
        rcases hx3 with ⟨e3, hc⟩ | ⟨f, hf, e3, hc, ht⟩
        · exact br_t e3 (nm_r (nI_1 s) (hK w ⟨by omega, w14_s hw (fun g _ => hc g)⟩))
        · subst e3
          refine br_f (nI_pos (by omega)) ?_
          rcases h4 with ⟨e4, hno⟩ | ⟨e4, d, d1, d2⟩
          · subst e4
            exact br_t rfl (nm_e (nm_r (nI_1 s) (hK _ ⟨by omega, w14_y hw s0 hf hc hno ht⟩)))
          · subst e4
            exact br_f (by decide) (nm_r (nI_1 s) (hK w ⟨by omega, w14_s hw (fun _ g => g d d1 d2)⟩))
      · rintro m' a x4 ha h4 hK'
        rw [wY_chains_22]
        refine br_f (nI_ge (b := 5) ha (by decide)) ?_
        have keep : (¬ ∀ x, x < 5 → s.testBit x = true → bts n O a x) → ((x4 = 0 ∧ ∀ d, d < a + 1 → ¬ ∀ x, x < 5 → s.testBit x = true → bts n O d x) ∨ (x4 = 1 ∧ ∃ d, d < 5 ∧ ∀ x, x < 5 → s.testBit x = true → bts n O d x)) := by
          intro hno
          rcases h4 with ⟨e4, g⟩ | g
          · refine Or.inl ⟨e4, fun d hd => ?_⟩
            by_cases e : d = a
            · subst e; exact hno
            · exact g d (by omega)
          · exact Or.inr g
        cases hb : s.testBit a with
        | false =>
          refine br_t ((vb_has0 (by omega)).mpr (by rw [vb_nIs (by omega)]; exact hb)) (y_bb h ha (fun q hq => ?_))
          have hc : (nI s &&& (q ^^^ (-1))) = 0 ↔ ∀ x, x < 5 → s.testBit x = true → bts n O a x := by
            rw [and_n0]
            constructor
            · intro g x hx hbx
              exact ((hq x).mp (g x (by rw [vb_nIs (by omega)]; exact hbx))).2
            · intro g x hx'
              have hx5 : x < 5 := by
                rcases Nat.lt_or_ge x 5 with z | z
                · exact z
                · rw [nI_hi hs x z] at hx'; cases hx'
              rw [vb_nIs (by omega)] at hx'
              exact (hq x).mpr ⟨hx5, g x hx5 hx'⟩
          exact br_c (fun z => nm_r (nI_1 a) (hK' 1 (Or.inr ⟨rfl, a, ha, hc.mp z⟩))) (fun z => nm_r (nI_1 a) (hK' x4 (keep fun g => z (hc.mpr g))))
        | true =>
          exact br_f (fun hh => by rw [vb_has0 (by omega), vb_nIs (by omega), hb] at hh; cases hh) (nm_r (nI_1 a) (hK' x4 (keep fun g => bts_ir (g a ha hb))))
    exact br_f (nI_ge (b := 32) hs (by decide)) (y_fr h hs s0 (fun f hf hc ht => lng (nI f) (Or.inr ⟨f, hf, rfl, hc, ht⟩)) (fun hc => lng (-1) (Or.inl ⟨by decide, hc⟩)))
