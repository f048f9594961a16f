/-! ===== swaps: the reference's walk ===== -/
def wtx (c x : Nat) : Nat := if x ≤ c then x else x - 1
theorem wtx_p {c x : Nat} (h : x ≠ c) : wtx c x = pst c x := by
  unfold wtx pst
  by_cases e : x < c
  · rw [if_pos e, if_pos (by omega)]
  · rw [if_neg e, if_neg (by omega)]
theorem pw6 : ∀ j, j < 5 → 0 < 6 ^ j ∧ 6 ^ j ≤ 1296 := by decide
theorem y_wt {post : Int32 → Prop} {yn yc : Int32} {yo yp ym ys yl yb yw yk yt yz yx : Nat → Int32} {c x : Nat} (hc : c < 5) (hx : x < 5) (hp : post (nI (6 ^ wtx c x))) : wpY_weight post (yn, yc, yo, yp, ym, ys, yl, yb, yw, yk, yt, yz, yx) (nI x) (nI c) := by
  unfold wpY_weight
  dsimp only
  refine pk_loop (σ := Int32) (fun m k a => wY_weight_5 post (nI x) (nI c) yn yc yo yp ym ys yl yb yw yk yt yz yx m a (nI k)) (fun k a => a = nI (6 ^ wtx c k)) x 0 1 (by omega) rfl ?_ ?_
  · rintro m a rfl
    rw [wY_weight_5]
    exact br_t (nI_le (Nat.le_refl _) (by omega)) hp
  · rintro m k a hk rfl hK
    rw [wY_weight_5]
    refine br_f (nI_ge hk (by omega)) (pk_eq k c (fun e => nm_r (nI_1 k) (hK _ ?_)) (fun e => nm_r (e' := nI (6 ^ wtx c (k + 1))) ?_ (nm_r (nI_1 k) (hK _ rfl))))
    · unfold wtx
      rw [if_pos (by omega), if_neg (by omega)]; rfl
    · rw [show (6 : Int32) = nI 6 from rfl, pk_mul, ← Nat.pow_succ]
      refine congrArg (fun q => nI (6 ^ q)) ?_
      unfold wtx
      by_cases e2 : k < c
      · rw [if_pos (by omega), if_pos (by omega)]
      · rw [if_neg (by omega), if_neg (by omega)]; omega
def okY (A : Nat → Int32) (Q : (Nat → Nat) → Nat → Prop) : Prop := okA e6 1000 1296 A Q
theorem okY_ins {A : Nat → Int32} {Q : (Nat → Nat) → Nat → Prop} (h : okY A Q) {v : Nat → Nat} (hv : dig v) {c : Nat} (hc : c < 1000) :
    (A (e6 v) ≤ nI c → okY A (fun w k => Q w k ∨ (k = c ∧ ∀ j, j < 4 → w j = v j))) ∧ (¬ A (e6 v) ≤ nI c → okY (upd A (e6 v) (nI c)) (fun w k => Q w k ∨ (k = c ∧ ∀ j, j < 4 → w j = v j))) :=
  ok_ins (fun _ _ a b e => e6_inj a b e) (fun _ _ e => e6_congr e) (by omega) (by omega) h hv hc
/-- each state of the reference has its digits -/
theorem e6_of {t : Nat} (ht : t < 1296) : ∃ w, dig w ∧ e6 w = t := by
  refine ⟨fun j => t / 6 ^ j % 6, fun j _ => ?_, ?_⟩
  · have : t / 6 ^ j % 6 < 6 := Nat.mod_lt _ (by decide)
    dsimp only; omega
  · unfold e6
    simp; omega
def mvA (o c up x : Nat) (w : Nat → Nat) : Nat → Nat := fun j => if oth c j < x then mv o c up w j else w j
theorem mvA_dig {o c up x : Nat} {w : Nat → Nat} (h : dig w) : dig (mvA o c up x w) := by
  intro j hj
  unfold mvA
  split
  · exact Nat.le_trans (mv_le o c up w j) (h j hj)
  · exact h j hj
theorem y_gu {post : SY → Prop} {yn yc : Int32} {yo yp ym ys yl yb yw yk yt yz yx : Nat → Int32} {n : Nat} {O : Nat → Nat} (h : zRY n O (yn, yc, yo, yp, ym, ys, yl, yb, yw, yk, yt, yz, yx)) {i c up : Nat} (hi : i < n) (hc : c < 5) (hup : up ≤ plc (O i) c) {st : Nat → Nat} (hst : dig st) {Q : (Nat → Nat) → Nat → Prop} (hz : okY yz (RC O c st i)) (hx : okY yx Q)
    (hp : ∀ A', okY A' (fun w k => Q w k ∨ ∃ (w' : Nat → Nat) (k' : Nat), RC O c st i w' k' ∧ k = k' + up ∧ ∀ j, j < 4 → w j = mv (O i) c up w' j) → post (yn, yc, yo, yp, ym, ys, yl, yb, yw, yk, yt, yz, A')) : wpY_goUp post (yn, yc, yo, yp, ym, ys, yl, yb, yw, yk, yt, yz, yx) (nI i) (nI c) (nI up) := by
  have hn := h.1
  have hB := h.2.2 i hi
  have ho := hB.1
  have hpl : ∀ c, c < 5 → yp (5 * i + c) = nI (plc (O i) c) := hB.2.2
  have hP := plc_4 (O i) c
  unfold wpY_goUp
  dsimp only
  refine pk_loop (σ := Nat → Int32) (fun m t A => wY_goUp_3 post (nI i) (nI c) (nI up) yn yc m (nI t) yo yp ym ys yl yb yw yk yt yz A) (fun t A => okY A (fun w k => Q w k ∨ ∃ (w' : Nat → Nat) (k' : Nat), e6 w' < t ∧ RC O c st i w' k' ∧ k = k' + up ∧ ∀ j, j < 4 → w j = mv (O i) c up w' j)) 1296 0 yx (by omega) ?_ ?_ ?_
  · exact ok_conv hx (fun w _ k hk => Or.inl hk) (fun w _ k hk => ⟨k, Nat.le_refl _, hk.elim id (fun ⟨w', k', a, _⟩ => by omega)⟩)
  · intro m A hA
    rw [wY_goUp_3]
    refine br_t (by decide) (hp A (ok_conv hA (fun w _ k hk => ?_) (fun w _ k hk => ⟨k, Nat.le_refl _, ?_⟩)))
    · rcases hk with hk | ⟨w', k', a, b⟩
      · exact Or.inl hk
      · exact Or.inr ⟨w', k', b⟩
    · rcases hk with hk | ⟨w', k', b, d⟩
      · exact Or.inl hk
      · exact Or.inr ⟨w', k', e6_lt (fun j hj => Nat.le_trans ((RC_bd b).1 j hj) (hst j hj)), b, d⟩
  · intro m t A ht hA hK
    rw [wY_goUp_3]
    obtain ⟨w0, hw0, e0⟩ := e6_of ht
    subst e0
    refine br_f (nI_ge (b := 1296) ht (by decide)) ⟨vp_in_nI ht (by decide), ?_⟩
    rw [nI_clamp (by omega)]
    rcases hz.1 w0 hw0 with ⟨z, z1, ez, hq, hmin⟩ | ⟨ez, hno⟩
    · have hzb := (RC_bd hq).2
      refine br_f (by rw [ez]; exact nI_ge (b := 1000) z1 (by decide)) ?_
      refine pk_loop (σ := Int32) (fun m' x to => wY_goUp_31 post (wY_goUp_3 post (nI i) (nI c) (nI up) yn yc m) (nI i) (nI c) (nI up) (nI (e6 w0)) yn yc yo yp ym ys yl yb yw yk yt yz A m' to (nI x)) (fun x to => to = nI (e6 (mvA (O i) c up x w0))) 5 0 (nI (e6 w0)) (by omega) (congrArg nI (e6_congr fun j _ => (if_neg (by omega)).symm)) ?_ ?_
      · rintro m' to rfl
        rw [wY_goUp_31]
        have em : e6 (mvA (O i) c up 5 w0) = e6 (mv (O i) c up w0) := e6_congr fun j hj => if_pos (oth_f hc hj).1
        have hdm : dig (mv (O i) c up w0) := mv_dig hw0
        have hlm := e6_lt hdm
        rw [em]
        have hin := okY_ins hA hdm (show z + up < 1000 by omega)
        have conv : ∀ A', okY A' (fun w k => (Q w k ∨ ∃ (w' : Nat → Nat) (k' : Nat), e6 w' < e6 w0 ∧ RC O c st i w' k' ∧ k = k' + up ∧ ∀ j, j < 4 → w j = mv (O i) c up w' j) ∨ (k = z + up ∧ ∀ j, j < 4 → w j = mv (O i) c up w0 j)) → okY A' (fun w k => Q w k ∨ ∃ (w' : Nat → Nat) (k' : Nat), e6 w' < e6 w0 + 1 ∧ RC O c st i w' k' ∧ k = k' + up ∧ ∀ j, j < 4 → w j = mv (O i) c up w' j) := by
          intro A' hA'
          refine ok_conv hA' (fun w _ k hk => ?_) (fun w _ k hk => ?_)
          · rcases hk with (hk | ⟨w', k', a, b⟩) | ⟨a, b⟩
            · exact Or.inl hk
            · exact Or.inr ⟨w', k', by omega, b⟩
            · exact Or.inr ⟨w0, z, by omega, hq, a, b⟩
          · rcases hk with hk | ⟨w', k', a, b, d, f⟩
            · exact ⟨k, Nat.le_refl _, Or.inl (Or.inl hk)⟩
            · by_cases e2 : e6 w' = e6 w0
              · have hd : dig w' := fun j hj => Nat.le_trans ((RC_bd b).1 j hj) (hst j hj)
                have hj := e6_inj hd hw0 e2
                have := hmin k' (RC_congr b hj)
                exact ⟨z + up, by omega, Or.inr ⟨rfl, fun j hj4 => by rw [f j hj4]; exact mv_congr (hj j hj4)⟩⟩
              · exact ⟨k, Nat.le_refl _, Or.inl (Or.inr ⟨w', k', by omega, b, d, f⟩)⟩
        refine br_t (by decide) ⟨vp_in_nI ht (by decide), vp_in_nI hlm (by decide), ?_⟩
        rw [nI_clamp (n := e6 w0) (by omega), nI_clamp (n := e6 (mv (O i) c up w0)) (by omega), ez, nI_add]
        exact br_c (fun hle => nm_r (nI_1 _) (hK A (conv A (hin.1 hle)))) (fun hgt => ⟨vp_in_nI ht (by decide), vp_in_nI hlm (by decide), nm_e (nm_r (nI_1 _) (hK (upd A (e6 (mv (O i) c up w0)) (nI (z + up))) (conv _ (hin.2 hgt))))⟩)
      · rintro m' x to hx5 rfl hK'
        rw [wY_goUp_31]
        have px := (rc_all ho hx5).2.2.1
        have pc := (rc_all ho hc).2.2.1
        have hdA : dig (mvA (O i) c up x w0) := mvA_dig hw0
        have hlA := e6_lt hdA
        have hw6 := pw6 (wtx c x) (by unfold wtx; split <;> omega)
        refine br_f (nI_ge (b := 5) hx5 (by decide)) ⟨by rw [vn_5b]; exact vp_in_nI (by omega) (by decide), by rw [vn_5b]; exact vp_in_nI (by omega) (by decide), nm_r (e' := iI ((plc (O i) c : Int) - plc (O i) x)) (by rw [vn_5b, vn_5b, nI_clamp (by omega), nI_clamp (by omega), hpl c hc, hpl x hx5, ← vs_iN, ← vs_iN, vs_sub]) (y_wt hc hx5 ?_)⟩
        have same : (∀ j, j < 4 → oth c j = x → mv (O i) c up w0 j = w0 j) → nI (e6 (mvA (O i) c up x w0)) = nI (e6 (mvA (O i) c up (x + 1) w0)) := by
          intro hs
          refine congrArg nI (e6_congr fun j hj => ?_)
          unfold mvA
          by_cases e1 : oth c j < x
          · rw [if_pos e1, if_pos (by omega)]
          · by_cases e2 : oth c j = x
            · rw [if_neg e1, if_pos (by omega), hs j hj e2]
            · rw [if_neg e1, if_neg (by omega)]
        refine pk_eq x c (fun e => nm_r (nI_1 x) (hK' _ (same fun j hj e2 => absurd (e2.trans e) (oth_f hc hj).2.1))) (fun hne => ?_)
        have hps := pst_f hc hx5 hne
        have hj : ∀ j, j < 4 → oth c j = x → j = pst c x := fun j hj e2 => by rw [← (oth_f hc hj).2.2, e2]
        refine vi_le _ 0 (fun hle => nm_r (nI_1 x) (hK' _ (same fun j hj4 e2 => ?_))) (fun hgt => ?_)
        · unfold mv; rw [e2, if_neg (by omega)]
        · refine vi_lt (up : Int) _ (fun hlt => nm_r (nI_1 x) (hK' _ (same fun j hj4 e2 => ?_))) (fun hge => ?_) (vs_iN up).symm
          · unfold mv; rw [e2, if_neg (by omega)]
          · have hval : mvA (O i) c up x w0 (pst c x) = w0 (pst c x) := if_neg (by rw [hps.2]; omega)
            have hmv : mv (O i) c up w0 (pst c x) = w0 (pst c x) - 1 := by
              unfold mv; rw [hps.2, if_pos (by omega)]
            have hstep : ∀ j, j < 4 → mvA (O i) c up (x + 1) w0 j = dec1 (mvA (O i) c up x w0) (pst c x) j := by
              intro j hj4
              unfold dec1
              by_cases e1 : j = pst c x
              · rw [if_pos e1, e1, hval]
                unfold mvA
                rw [if_pos (by rw [hps.2]; omega), hmv]
              · rw [if_neg e1]
                have : oth c j ≠ x := fun e2 => e1 (hj j hj4 e2)
                unfold mvA
                by_cases e3 : oth c j < x
                · rw [if_pos e3, if_pos (by omega)]
                · rw [if_neg e3, if_neg (by omega)]
            rw [wtx_p hne] at hw6 ⊢
            refine br_t (nI_le (a := 1) hw6.1 (by omega)) ?_
            unfold wY_goUp_101
            have hdg : nI (e6 (mvA (O i) c up x w0)) / nI (6 ^ pst c x) = nI (e6 (mvA (O i) c up x w0) / 6 ^ pst c x) := pk_div (by omega) hw6.1 (by omega)
            have hdl : e6 (mvA (O i) c up x w0) / 6 ^ pst c x ≤ e6 (mvA (O i) c up x w0) := Nat.div_le_self _ _
            have hdg2 : nI (e6 (mvA (O i) c up x w0) / 6 ^ pst c x) - nI (e6 (mvA (O i) c up x w0) / 6 ^ pst c x) / 6 * 6 = nI (w0 (pst c x)) := by
              have := pk_rem (a := e6 (mvA (O i) c up x w0) / 6 ^ pst c x) (d := 6) (by omega) (by decide) (by decide)
              rw [e6_dig hdA _ hps.1, hval] at this
              exact this
            rw [hdg, hdg2]
            have h5 := hw0 (pst c x) hps.1
            refine ⟨fun z => nI_ne0 hw6.1 (by omega) z, by decide, pk_le (w0 (pst c x)) 0 (fun h0 => nm_r (nI_1 x) (hK' _ ?_)) (fun h0 => nm_r (e' := nI (e6 (mvA (O i) c up (x + 1) w0))) ?_ (nm_r (nI_1 x) (hK' _ rfl)))⟩
            · refine congrArg nI (e6_congr fun j hj4 => ?_)
              rw [hstep j hj4, dec_0 (by rw [hval]; omega)]
            · have hd := e6_dec (w := mvA (O i) c up x w0) _ hps.1 (by rw [hval]; exact h0)
              rw [pk_sub hd.1, hd.2]
              exact congrArg nI (e6_congr fun j hj4 => (hstep j hj4).symm)
    · refine br_t (by rw [ez]; decide) (nm_r (nI_1 _) (hK A (ok_conv hA (fun w _ k hk => ?_) (fun w _ k hk => ⟨k, Nat.le_refl _, ?_⟩))))
      · rcases hk with hk | ⟨w', k', a, b⟩
        · exact Or.inl hk
        · exact Or.inr ⟨w', k', by omega, b⟩
      · rcases hk with hk | ⟨w', k', a, b, d⟩
        · exact Or.inl hk
        · by_cases e2 : e6 w' = e6 w0
          · have hd : dig w' := fun j hj => Nat.le_trans ((RC_bd b).1 j hj) (hst j hj)
            exact absurd (RC_congr b (e6_inj hd hw0 e2)) (hno k')
          · exact Or.inr ⟨w', k', by omega, b, d⟩
