/-! ===== swaps: the component's walk ===== -/
theorem x_ns {post : Int32 → Prop} {c d : Nat} (hc : c < 5) (hd : d < 5) (hne : d ≠ c) (hp : post (nI (3 * pst c d))) : wpX_needShift post (nI c) (nI d) := by
  unfold wpX_needShift
  refine pk_le c d (fun hle => ?_) (fun hlt => ?_)
  · have e : (3 : Int32) * (nI d - 1) = nI (3 * pst c d) := by
      obtain ⟨m, rfl⟩ : ∃ m, d = m + 1 := ⟨d - 1, by omega⟩
      rw [nI_pred, show (3 : Int32) = nI 3 from rfl, pk_mul]
      unfold pst
      rw [if_neg (by omega)]; rfl
    rw [e]; exact hp
  · have e : (3 : Int32) * nI d = nI (3 * pst c d) := by
      rw [show (3 : Int32) = nI 3 from rfl, pk_mul]
      unfold pst
      rw [if_pos (by omega)]
    rw [e]; exact hp
theorem x_shN {k j : Nat} (hk : k * 2 ^ (3 * j) < 2 ^ 31) (hj : j < 4) : nI k <<< (nI (3 * j) &&& 31) = nI (k * 2 ^ (3 * j)) :=
  pk_shlN _ (3 * j) (s_l (3 * j) (by omega)) (by omega)
theorem x_sh1 {j : Nat} (hj : j < 4) : (1 : Int32) <<< (nI (3 * j) &&& 31) = nI (2 ^ (3 * j)) := by
  have : 2 ^ (3 * j) ≤ 2 ^ 9 := Nat.pow_le_pow_right (by decide) (by omega)
  have h := x_shN (k := 1) (j := j) (by omega) hj
  rw [Nat.one_mul] at h
  exact h
theorem x_dg {t j : Nat} (ht : t < 4096) (hj : j < 4) : (nI t >>> (nI (3 * j) &&& 31)) &&& 7 = nI (t / 2 ^ (3 * j) % 8) := by
  rw [pk_shrN (by omega) _ (3 * j) (s_l (3 * j) (by omega))]
  have : t / 2 ^ (3 * j) ≤ t := Nat.div_le_self _ _
  apply Int32.toBitVec_inj.mp
  apply BitVec.eq_of_toNat_eq
  rw [Int32.toBitVec_and, BitVec.toNat_and, pk_tn (by omega), show (7 : Int32).toBitVec.toNat = 2 ^ 3 - 1 from rfl, Nat.and_two_pow_sub_one_eq_mod, pk_tn (by omega)]
/-- the needs as far as the candidates below d go -/
def ndA (n : Nat) (O : Nat → Nat) (c d : Nat) : Nat → Nat := fun j => if oth c j < d then stn n O c j else 0
theorem x_nd {post : Int32 → Prop} {xc : Int32} {xo xr xp xm xb xs xq xn xu xl xg xk xt xw xv : Nat → Int32} {n : Nat} {O : Nat → Nat} (h : zRX n O (xc, xo, xr, xp, xm, xb, xs, xq, xn, xu, xl, xg, xk, xt, xw, xv)) {c : Nat} (hc : c < 5) (hp : post (nI (e8 (stn n O c)))) : wpX_needsOf post (xc, xo, xr, xp, xm, xb, xs, xq, xn, xu, xl, xg, xk, xt, xw, xv) (nI c) := by
  have hn := h.1.1
  have h5 := stn_5 hn O c
  unfold wpX_needsOf
  dsimp only
  refine pk_loop (σ := Int32) (fun m d x => wX_needsOf_4 post (nI c) xc xo xr xp xm xb xs xq xn xu xl xg xk xt xw xv m x (nI d)) (fun d x => x = nI (e8 (ndA n O c d))) 5 0 0 (by omega) ?_ ?_ ?_
  · rw [show e8 (ndA n O c 0) = 0 from by simp [e8, ndA]]; rfl
  · rintro m x rfl
    rw [wX_needsOf_4]
    refine br_t (by decide) ?_
    rw [e8_congr (w := ndA n O c 5) (w' := stn n O c) (fun j hj => if_pos (oth_f hc hj).1)]
    exact hp
  · rintro m d x hd rfl hK
    rw [wX_needsOf_4]
    have hm := h.2.1 c d hc hd
    dsimp only at hm
    have hb := Mg_bd hn O c d
    refine br_f (nI_ge (b := 5) hd (by decide)) ⟨by rw [vn_5a]; exact vp_in_nI (by omega) (by decide), nm_r (e' := iI (Mg n O c d)) (by rw [vn_5a, nI_clamp (by omega), hm]) (pk_eq d c (fun e => nm_r (nI_1 d) (hK _ ?_)) (fun hne => ?_))⟩
    · refine congrArg nI (e8_congr fun j hj => ?_)
      have := (oth_f hc hj).2.1
      unfold ndA
      by_cases e2 : oth c j < d
      · rw [if_pos e2, if_pos (by omega)]
      · rw [if_neg e2, if_neg (by omega)]
    · have hp4 := pst_f hc hd hne
      have hsame : ∀ j, j < 4 → j ≠ pst c d → ndA n O c (d + 1) j = ndA n O c d j := by
        intro j hj hjn
        have hoj : oth c j ≠ d := fun z => hjn (by rw [← (oth_f hc hj).2.2, z])
        unfold ndA
        by_cases e2 : oth c j < d
        · rw [if_pos e2, if_pos (by omega)]
        · rw [if_neg e2, if_neg (by omega)]
      have hnew : ndA n O c (d + 1) (pst c d) = stn n O c (pst c d) := if_pos (by rw [hp4.2]; omega)
      have hold : ndA n O c d (pst c d) = 0 := if_neg (by rw [hp4.2]; omega)
      refine vi_lt 0 (Mg n O c d) (fun hlt => nm_r (nI_1 d) (hK _ ?_)) (fun hle => ⟨by decide, x_ns hc hd hne ?_⟩)
      · refine congrArg nI (e8_congr fun j hj => ?_)
        by_cases ej : j = pst c d
        · subst ej
          rw [hnew, hold]
          unfold stn
          rw [hp4.2, if_neg (by omega)]
        · exact (hsame j hj ej).symm
      · have hv : (-(iI (Mg n O c d))) / 2 + 1 = nI (stn n O c (pst c d)) := by
          have e1 : - iI (Mg n O c d) = nI (- Mg n O c d).toNat := by
            rw [vs_neg, ← vs_iN]; exact congrArg iI (by omega)
          rw [e1, show (2 : Int32) = nI 2 from rfl, pk_div (by omega) (by decide) (by decide), nI_1]
          unfold stn
          rw [hp4.2, if_pos hle]
        have hs5 := h5 (pst c d) hp4.1
        -- what is there lies below the new place
        have hlo : e8 (ndA n O c d) < 2 ^ (3 * pst c d) ∧ e8 (ndA n O c (d + 1)) = stn n O c (pst c d) * 2 ^ (3 * pst c d) + e8 (ndA n O c d) := by
          have hz : ∀ j, j < 4 → pst c d < j → ndA n O c d j = 0 ∧ ndA n O c (d + 1) j = 0 := by
            intro j hj hlt
            have : d < oth c j := by
              have := oth_f hc hj
              unfold pst oth at *
              split at hlt <;> split <;> omega
            exact ⟨if_neg (by omega), if_neg (by omega)⟩
          have hd5 : ∀ j, j < 4 → ndA n O c d j ≤ 5 := by
            intro j hj
            unfold ndA
            split
            · exact h5 j hj
            · omega
          have q0 := hd5 0 (by omega)
          have q1 := hd5 1 (by omega)
          have q2 := hd5 2 (by omega)
          revert hz hsame hnew hold hs5
          generalize stn n O c (pst c d) = S
          have hp5 := hp4.1
          revert hp5
          generalize pst c d = p
          intro hp5 hsame hnew hold hs5 hz
          unfold e8
          match p, hp5 with
          | 0, _ =>
            have a1 := hz 1 (by omega) (by omega)
            have a2 := hz 2 (by omega) (by omega)
            have a3 := hz 3 (by omega) (by omega)
            simp [a1, a2, a3, hold, hnew]
          | 1, _ =>
            have a0 := hsame 0 (by omega) (by omega)
            have a2 := hz 2 (by omega) (by omega)
            have a3 := hz 3 (by omega) (by omega)
            simp [a0, a2, a3, hold, hnew]; omega
          | 2, _ =>
            have a0 := hsame 0 (by omega) (by omega)
            have a1 := hsame 1 (by omega) (by omega)
            have a3 := hz 3 (by omega) (by omega)
            simp [a0, a1, a3, hold, hnew]; omega
          | 3, _ =>
            have a0 := hsame 0 (by omega) (by omega)
            have a1 := hsame 1 (by omega) (by omega)
            have a2 := hsame 2 (by omega) (by omega)
            simp [a0, a1, a2, hold, hnew]; omega
          | q + 4, h => omega
        refine nm_r (e' := nI (e8 (ndA n O c (d + 1)))) ?_ (nm_r (nI_1 d) (hK _ rfl))
        have hpw : 2 ^ (3 * pst c d) ≤ 2 ^ 9 := Nat.pow_le_pow_right (by decide) (by have := hp4.1; omega)
        have hmul : stn n O c (pst c d) * 2 ^ (3 * pst c d) ≤ 5 * 2 ^ 9 := Nat.mul_le_mul hs5 hpw
        rw [hv, x_shN (by omega) hp4.1, hlo.2]
        have hor : ∀ a b : Nat, nI a ||| nI b = nI (a ||| b) := by
          intro a b
          apply b_ext
          intro i hi
          rw [b_or, vb_nI a i hi, vb_nI b i hi, vb_nI _ i hi, Nat.testBit_or]
        rw [hor, Nat.mul_comm, Nat.two_pow_add_eq_or_of_lt hlo.1, Nat.or_comm]
theorem mv_step {o c e : Nat} (ho : isr o = true) (hc : c < 5) (he : e < plc o c) (w : Nat → Nat) : ∀ j, j < 4 → mv o c (plc o c - e) w j = dec1 (mv o c (plc o c - (e + 1)) w) (pst c (rkc o e)) j := by
  intro j hj
  have hp4 := plc_4 o c
  have hr := rc_all ho (show e < 5 by omega)
  have hrc : rkc o e ≠ c := by
    intro z
    have := hr.2.1
    rw [z] at this
    omega
  have hps := pst_f hc hr.1 hrc
  have hoj := oth_f hc hj
  unfold dec1
  by_cases ej : j = pst c (rkc o e)
  · rw [if_pos ej]
    have hpl : plc o (oth c j) = e := by rw [ej, hps.2]; exact hr.2.1
    unfold mv
    rw [hpl, if_pos ⟨he, by omega⟩, if_neg (by omega)]
  · rw [if_neg ej]
    have hpl : plc o (oth c j) ≠ e := by
      intro z
      apply ej
      have h2 : oth c j = rkc o e := by
        rw [← (rc_all ho hoj.1).2.2.2, z]
      rw [← hoj.2.2, h2]
    unfold mv
    by_cases e1 : plc o (oth c j) < plc o c ∧ plc o c ≤ plc o (oth c j) + (plc o c - (e + 1))
    · rw [if_pos e1, if_pos ⟨e1.1, by omega⟩]
    · rw [if_neg e1, if_neg (by omega)]
theorem mv_dig {o c up : Nat} {w : Nat → Nat} (h : dig w) : dig (mv o c up w) := fun j hj => Nat.le_trans (mv_le o c up w j) (h j hj)
def okX (A : Nat → Int32) (Q : (Nat → Nat) → Nat → Prop) : Prop := okA e8 1000000 4096 A Q
theorem okX_ins {A : Nat → Int32} {Q : (Nat → Nat) → Nat → Prop} (h : okX A Q) {v : Nat → Nat} (hv : dig v) {c : Nat} (hc : c < 1000) :
    (A (e8 v) ≤ nI c → okX A (fun w k => Q w k ∨ (k = c ∧ ∀ j, j < 4 → w j = v j))) ∧ (¬ A (e8 v) ≤ nI c → okX (upd A (e8 v) (nI c)) (fun w k => Q w k ∨ (k = c ∧ ∀ j, j < 4 → w j = v j))) :=
  ok_ins (fun _ _ a b e => e8_inj a b e) (fun _ _ e => e8_congr e) (by omega) (by omega) h hv hc
theorem x_mf {post : SX → Prop} {xc : Int32} {xo xr xp xm xb xs xq xn xu xl xg xk xt xw xv : Nat → Int32} {n : Nat} {O : Nat → Nat} (h : zRX n O (xc, xo, xr, xp, xm, xb, xs, xq, xn, xu, xl, xg, xk, xt, xw, xv)) {i c : Nat} (hi : i < n) (hc : c < 5) {w0 : Nat → Nat} (hw : dig w0) {z : Nat} (hz : z < 900) (hA0 : xw (e8 w0) = nI z) {Q : (Nat → Nat) → Nat → Prop} (hA : okX xw Q)
    (hp : ∀ A', okX A' (fun w k => Q w k ∨ ∃ u, 1 ≤ u ∧ u ≤ plc (O i) c ∧ k = z + u ∧ ∀ j, j < 4 → w j = mv (O i) c u w0 j) → post (xc, xo, xr, xp, xm, xb, xs, xq, xn, xu, xl, xg, xk, xt, A', xv)) : wpX_moveForward post (xc, xo, xr, xp, xm, xb, xs, xq, xn, xu, xl, xg, xk, xt, xw, xv) (nI i) (nI c) (nI (e8 w0)) := by
  have hn := h.1.1
  have hB := h.1.2.2 i hi
  have ho := hB.1
  have hrk : ∀ p, p < 5 → xr (5 * i + p) = nI (rkc (O i) p) := hB.2.2.1
  have hpl : ∀ c, c < 5 → xp (5 * i + c) = nI (plc (O i) c) := hB.2.2.2
  have hP := plc_4 (O i) c
  unfold wpX_moveForward
  dsimp only
  refine ⟨by rw [vn_5a]; exact vp_in_nI (by omega) (by decide), nm_r (e' := nI (plc (O i) c)) (by rw [vn_5a, nI_clamp (by omega), hpl c hc]) ⟨vp_in_nI (e8_lt hw) (by decide), nm_r (e' := nI z) (by rw [nI_clamp (by have := e8_lt hw; omega), hA0]) (nm_r (e' := iI ((plc (O i) c : Int) - 1)) (by rw [← vs_iN]; exact vs_sub _ 1) ⟨plc (O i) c + 1, ?_⟩)⟩⟩
  have key := pk_loopD (σ := Int32 × Int32 × (Nat → Int32)) (fun m e s => wX_moveForward_29 post (nI i) (nI c) xc m s.1 s.2.1 (iI ((e : Int) - 1)) xo xr xp xm xb xs xq xn xu xl xg xk xt s.2.2 xv)
    (fun e s => e ≤ plc (O i) c ∧ s.1 = nI (z + (plc (O i) c - e)) ∧ s.2.1 = nI (e8 (mv (O i) c (plc (O i) c - e) w0)) ∧ okX s.2.2 (fun w k => Q w k ∨ ∃ u, 1 ≤ u ∧ u ≤ plc (O i) c - e ∧ k = z + u ∧ ∀ j, j < 4 → w j = mv (O i) c u w0 j))
    (by
      rintro m ⟨x5, x6, A⟩ ⟨_, _, _, hok⟩
      dsimp only at hok ⊢
      rw [wX_moveForward_29]
      exact br_t (by decide) (hp A hok))
    (by
      rintro m e ⟨x5, x6, A⟩ ⟨he, e5, e6, hok⟩ hK
      dsimp only at e5 e6 hok hK ⊢
      subst e5 e6
      rw [ve_p, wX_moveForward_29]
      have hr := rc_all ho (show e < 5 by omega)
      have hrc : rkc (O i) e ≠ c := by
        intro q
        have := hr.2.1
        rw [q] at this
        omega
      have hps := pst_f hc hr.1 hrc
      have hst := mv_step ho hc (show e < plc (O i) c by omega) w0
      have hd1 : dig (mv (O i) c (plc (O i) c - (e + 1)) w0) := mv_dig hw
      have hd2 : dig (mv (O i) c (plc (O i) c - e) w0) := mv_dig hw
      have hl1 := e8_lt hd1
      have hl2 := e8_lt hd2
      have ec : z + (plc (O i) c - (e + 1)) + 1 = z + (plc (O i) c - e) := by omega
      -- behind the step down
      have tail : wX_moveForward_71 post (wX_moveForward_29 post (nI i) (nI c) xc m) (nI i) (nI c) (nI (z + (plc (O i) c - (e + 1)))) (nI (e8 (mv (O i) c (plc (O i) c - e) w0))) (nI e) xc xo xr xp xm xb xs xq xn xu xl xg xk xt A xv := by
        unfold wX_moveForward_71
        have hin := okX_ins hok hd2 (show z + (plc (O i) c - e) < 1000 by omega)
        have conv : ∀ A', okX A' (fun w k => (Q w k ∨ ∃ u, 1 ≤ u ∧ u ≤ plc (O i) c - (e + 1) ∧ k = z + u ∧ ∀ j, j < 4 → w j = mv (O i) c u w0 j) ∨ (k = z + (plc (O i) c - e) ∧ ∀ j, j < 4 → w j = mv (O i) c (plc (O i) c - e) w0 j)) → okX A' (fun w k => Q w k ∨ ∃ u, 1 ≤ u ∧ u ≤ plc (O i) c - e ∧ k = z + u ∧ ∀ j, j < 4 → w j = mv (O i) c u w0 j) := by
          intro A' hA'
          refine ok_conv hA' (fun w _ k hk => ?_) (fun w _ k hk => ⟨k, Nat.le_refl _, ?_⟩)
          · rcases hk with (hk | ⟨u, a, b, d, f⟩) | ⟨a, b⟩
            · exact Or.inl hk
            · exact Or.inr ⟨u, a, by omega, d, f⟩
            · exact Or.inr ⟨plc (O i) c - e, by omega, Nat.le_refl _, a, b⟩
          · rcases hk with hk | ⟨u, a, b, d, f⟩
            · exact Or.inl (Or.inl hk)
            · by_cases eu : u = plc (O i) c - e
              · subst eu; exact Or.inr ⟨d, f⟩
              · exact Or.inl (Or.inr ⟨u, a, by omega, d, f⟩)
        refine nm_r (e' := nI (z + (plc (O i) c - e))) (by rw [nI_1, ec]) ⟨vp_in_nI hl2 (by decide), ?_⟩
        rw [nI_clamp (by omega)]
        exact br_c (fun hle => nm_r (ve_m e) (hK (_, _, A) ⟨by omega, rfl, rfl, conv A (hin.1 hle)⟩)) (fun hgt => ⟨vp_in_nI hl2 (by decide), nm_e (nm_r (ve_m e) (hK (_, _, upd A (e8 (mv (O i) c (plc (O i) c - e) w0)) (nI (z + (plc (O i) c - e)))) ⟨by omega, rfl, rfl, conv _ (hin.2 hgt)⟩))⟩)
      refine br_f (nI_pos (by omega)) ⟨by rw [vn_5a]; exact vp_in_nI (by omega) (by decide), ?_⟩
      rw [vn_5a, nI_clamp (by omega), hrk e (by omega)]
      refine x_ns hc hr.1 hrc ?_
      rw [x_dg hl1 hps.1, e8_dig hd1 _ hps.1]
      have h5 := hd1 _ hps.1
      refine pk_le (mv (O i) c (plc (O i) c - (e + 1)) w0 (pst c (rkc (O i) e))) 0 (fun h0 => ?_) (fun h0 => ?_)
      · have : e8 (mv (O i) c (plc (O i) c - (e + 1)) w0) = e8 (mv (O i) c (plc (O i) c - e) w0) := e8_congr fun j hj => by
          rw [hst j hj, dec_0 (by omega)]
        rw [this]; exact tail
      · have hd := e8_dec _ hps.1 h0
        refine nm_r (e' := nI (e8 (mv (O i) c (plc (O i) c - e) w0))) ?_ tail
        rw [x_sh1 hps.1, pk_sub hd.1, hd.2]
        exact congrArg nI (e8_congr fun j hj => (hst j hj).symm))
  refine key (plc (O i) c) (nI z, nI (e8 w0), xw) ⟨Nat.le_refl _, by simp, ?_, ok_conv hA (fun w _ k hk => Or.inl hk) (fun w _ k hk => ⟨k, Nat.le_refl _, hk.elim id (fun ⟨u, a, b, _⟩ => by omega)⟩)⟩
  dsimp only
  rw [Nat.sub_self]
  exact congrArg nI (e8_congr fun j hj => (mv_0 _ _ _ j).symm)
