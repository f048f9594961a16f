/-! ===== rule 10: the reference's walk ===== -/
def cE (n : Nat) (O : Nat → Nat) (j : Nat) : Int := sm j (fun q => if 0 < Mg n O (q / 5) (q % 5) then 1 else 0)
theorem sm_mono {f : Nat → Int} (hf : ∀ i, 0 ≤ f i) : ∀ {n m : Nat}, n ≤ m → sm n f ≤ sm m f := by
  intro n m h
  induction m with
  | zero => have : n = 0 := by omega
            subst this; exact Int.le_refl _
  | succ m ih =>
    by_cases e : n = m + 1
    · subst e; exact Int.le_refl _
    · have := ih (by omega)
      have := hf m
      simp only [sm]; omega
theorem cE_10 (n : Nat) (O : Nat → Nat) : cE n O 25 ≤ 10 := by
  have hI := pr_idx n O
  have e1 : cE n O 25 ≤ sm 25 (fun j => sm 10 (fun p => if 5 * prU n O p + prL n O p = j then (1 : Int) else 0)) := by
    refine sm_le fun j hj => ?_
    have hnn : ∀ i, 0 ≤ (fun p => if 5 * prU n O p + prL n O p = j then (1 : Int) else 0) i := by
      intro i; dsimp only; split <;> omega
    by_cases hM : 0 < Mg n O (j / 5) (j % 5)
    · rw [if_pos hM]
      obtain ⟨p, hp, eU, eL⟩ := hI.2.1 (j / 5) (j % 5) (by omega) (by omega) hM
      have h1 : sm 10 (fun q => if q = p then (1 : Int) else 0) = 1 := by
        rw [sm_single (f := fun q => if q = p then (1 : Int) else 0) hp (fun i _ hi => if_neg hi), if_pos rfl]
      refine Int.le_trans (Int.le_of_eq h1.symm) (sm_le fun q hq => ?_)
      by_cases e : q = p
      · subst e
        rw [if_pos rfl, if_pos (by rw [eU, eL]; omega)]; exact Int.le_refl _
      · rw [if_neg e]; exact hnn q
    · rw [if_neg hM]
      exact sm_mono hnn (Nat.zero_le 10)
  rw [sm_comm] at e1
  have e2 := sm_hi (n := 10) (k := 1) (f := fun p => sm 25 (fun j => if 5 * prU n O p + prL n O p = j then (1 : Int) else 0)) (fun p hp => by
    refine sm_one (fun j _ => ?_) (fun i j _ _ h1 h2 => ?_)
    · split
      · exact Or.inr rfl
      · exact Or.inl rfl
    · split at h1
      · split at h2
        · omega
        · omega
      · omega)
  omega
/-- the couples as listed -/
def cps (n : Nat) (O : Nat → Nat) (c : Nat) (B W : Nat → Nat) (yc : Int32) (yb yw : Nat → Int32) : Prop := yc = nI c ∧ c ≤ 10 ∧ IDX n O c B W ∧ ∀ q, q < c → yb q = nI (B q) ∧ yw q = nI (W q) ∧ 0 < Mg n O (B q) (W q)
theorem y_cp {post : Int32 → SY → Prop} {yn yc : Int32} {yo yp ym ys yl yb yw yk yt yz yx : Nat → Int32} {n : Nat} {O : Nat → Nat} (h : zRYM n O (yn, yc, yo, yp, ym, ys, yl, yb, yw, yk, yt, yz, yx)) (hp : ∀ (c : Nat) (B W : Nat → Nat) (yc' : Int32) (b' w' : Nat → Int32), cps n O c B W yc' b' w' → ∃ n64, wY_inOrder_64 post yn yc' n64 0 yo yp ym ys yl b' w' yk yt yz yx) : ∃ m, wY_inOrder_7 post yn m 0 0 yo yp ym ys yl yb yw yk yt yz yx := by
  have hn := h.1.1
  have hm : ∀ a b, a < 5 → b < 5 → ym (5 * a + b) = iI (Mg n O a b) := h.2
  refine pk_loop (σ := Int32 × (Nat → Int32) × (Nat → Int32)) (fun m j s => wY_inOrder_7 post yn m (nI j) s.1 yo yp ym ys yl s.2.1 s.2.2 yk yt yz yx) (fun j s => ∃ (c : Nat) (B W : Nat → Nat), s.1 = nI c ∧ (c : Int) = cE n O j ∧ (∀ q, q < c → s.2.1 q = nI (B q) ∧ s.2.2 q = nI (W q) ∧ 0 < Mg n O (B q) (W q) ∧ B q < 5 ∧ W q < 5 ∧ 5 * B q + W q < j) ∧ (∀ a b, a < 5 → b < 5 → 5 * a + b < j → 0 < Mg n O a b → ∃ q, q < c ∧ B q = a ∧ W q = b) ∧ ∀ p q, p < c → q < c → B p = B q → W p = W q → p = q) 25 0 (0, yb, yw) (by omega) ⟨0, fun _ => 0, fun _ => 0, rfl, rfl, fun q hq => by omega, fun a b _ _ h => by omega, fun p q hp => by omega⟩ ?_ ?_
  · rintro m ⟨yc', b', w'⟩ ⟨c, B, W, e1, e2, e3, e4, e5⟩
    dsimp only at e1 e3 ⊢
    rw [wY_inOrder_7]
    have := cE_10 n O
    exact br_t (by decide) (hp c B W yc' b' w' ⟨e1, by omega, ⟨fun q hq => ⟨(e3 q hq).2.2.2.1, (e3 q hq).2.2.2.2.1, by have := (e3 q hq).2.2.1; omega⟩, fun a b ha hb hM => e4 a b ha hb (by omega) hM, e5⟩, fun q hq => ⟨(e3 q hq).1, (e3 q hq).2.1, (e3 q hq).2.2.1⟩⟩)
  · rintro m j ⟨yc', b', w'⟩ hj ⟨c, B, W, e1, e2, e3, e4, e5⟩ hK
    dsimp only at e1 e3 hK ⊢
    subst e1
    rw [wY_inOrder_7]
    have hmj := hm (j / 5) (j % 5) (by omega) (by omega)
    rw [show 5 * (j / 5) + j % 5 = j from by omega] at hmj
    have hbd := Mg_bd hn O (j / 5) (j % 5)
    refine br_f (nI_ge (b := 25) hj (by decide)) ⟨vp_in_nI hj (by decide), ?_⟩
    rw [nI_clamp (n := j) (by omega), hmj]
    refine vi_le (Mg n O (j / 5) (j % 5)) 0 (fun hle => nm_r (nI_1 j) (hK (nI c, b', w') ⟨c, B, W, rfl, ?_, fun q hq => ?_, fun a b ha hb hlt hM => ?_, e5⟩)) (fun hgt => ?_)
    · rw [e2]; unfold cE; simp only [sm]; rw [if_neg (by omega), Int.add_zero]
    · obtain ⟨x1, x2, x3, x4, x5, x6⟩ := e3 q hq
      exact ⟨x1, x2, x3, x4, x5, by omega⟩
    · by_cases e : 5 * a + b = j
      · have ea : a = j / 5 := by omega
        have eb : b = j % 5 := by omega
        rw [ea, eb] at hM; omega
      · exact e4 a b ha hb (by omega) hM
    · have hc1 : cE n O (j + 1) = cE n O j + 1 := by unfold cE; simp only [sm]; rw [if_pos hgt]
      have hmono : cE n O (j + 1) ≤ cE n O 25 := sm_mono (fun i => by split <;> omega) (by omega)
      have h10 := cE_10 n O
      have hc9 : c < 10 := by omega
      refine ⟨by decide, vp_in_nI hc9 (by decide), nm_r (e' := upd b' c (nI (j / 5))) (by rw [nI_clamp (by omega), rc_div (by omega)]) ⟨by decide, vp_in_nI hc9 (by decide), nm_r (e' := upd w' c (nI (j % 5))) (by rw [nI_clamp (by omega), rc_rem (by omega)]) (nm_r (nI_1 c) (nm_r (nI_1 j) (hK (nI (c + 1), upd b' c (nI (j / 5)), upd w' c (nI (j % 5))) ⟨c + 1, upn B c (j / 5), upn W c (j % 5), rfl, by omega, fun q hq => ?_, fun a b ha hb hlt hM => ?_, fun p q hp' hq' h1 h2 => ?_⟩)))⟩⟩
      · dsimp only
        by_cases e : q = c
        · subst e
          rw [pk_us, pk_us, upn_s, upn_s]
          exact ⟨rfl, rfl, hgt, by omega, by omega, by omega⟩
        · rw [pk_un e, pk_un e, upn_n B e, upn_n W e]
          obtain ⟨x1, x2, x3, x4, x5, x6⟩ := e3 q (by omega)
          exact ⟨x1, x2, x3, x4, x5, by omega⟩
      · by_cases e : 5 * a + b = j
        · exact ⟨c, by omega, by rw [upn_s]; omega, by rw [upn_s]; omega⟩
        · obtain ⟨q, q1, q2, q3⟩ := e4 a b ha hb (by omega) hM
          exact ⟨q, by omega, by rw [upn_n B (by omega)]; exact q2, by rw [upn_n W (by omega)]; exact q3⟩
      · by_cases ep : p = c
        · by_cases eq : q = c
          · omega
          · have hx := e3 q (by omega)
            rw [ep, upn_s, upn_n B eq] at h1
            rw [ep, upn_s, upn_n W eq] at h2
            omega
        · by_cases eq : q = c
          · have hx := e3 p (by omega)
            rw [eq, upn_s, upn_n B ep] at h1
            rw [eq, upn_s, upn_n W ep] at h2
            omega
          · rw [upn_n B ep, upn_n B eq] at h1
            rw [upn_n W ep, upn_n W eq] at h2
            exact e5 p q (by omega) (by omega) h1 h2
def crc (K : Nat → Nat → Prop) (t : Nat) : Prop := ∀ a, a < 5 → t.testBit a = true → ∃ b, b < 5 ∧ t.testBit b = true ∧ K a b
def rnd (K : Nat → Nat → Prop) (r a t : Nat) : Prop := crc K t ∨ pcn t + r ≤ 4 ∨ (pcn t + r ≤ 5 ∧ ∀ x, x < a → t.testBit x = true → ∃ b, b < 5 ∧ t.testBit b = true ∧ K x b)
theorem rnd_wrap {K : Nat → Nat → Prop} {r t : Nat} (h : rnd K r 5 t) : rnd K (r + 1) 0 t := by
  rcases h with h | h | h
  · exact Or.inl h
  · exact Or.inr (Or.inr ⟨by omega, fun x hx => by omega⟩)
  · exact Or.inl (fun a ha hb => h.2 a ha hb)
theorem rnd_goes {K : Nat → Nat → Prop} {r a t : Nat} (h : rnd K r a t) (hg : t.testBit a = true → ∃ b, b < 5 ∧ t.testBit b = true ∧ K a b) : rnd K r (a + 1) t := by
  rcases h with h | h | h
  · exact Or.inl h
  · exact Or.inr (Or.inl h)
  · refine Or.inr (Or.inr ⟨h.1, fun x hx hb => ?_⟩)
    by_cases e : x = a
    · subst e; exact hg hb
    · exact h.2 x (by omega) hb
theorem rnd_no {K : Nat → Nat → Prop} {r a t : Nat} (ht : t < 32) (ha : a < 5) (h : rnd K r a t) (hb : t.testBit a = true) (hg : ¬ ∃ b, b < 5 ∧ t.testBit b = true ∧ K a b) : rnd K r (a + 1) (rmv t a) := by
  have hp := pcn_rm t ht a ha hb
  rcases h with h | h | h
  · exact absurd (h a ha hb) hg
  · exact Or.inr (Or.inl (by omega))
  · exact Or.inr (Or.inl (by omega))
theorem rmv_no {t a : Nat} (h : t.testBit a = false) : rmv t a = t := by
  unfold rmv; rw [h]; rfl
theorem y_ir {post : Int32 → Prop} {yn yc : Int32} {yo yp ym ys yl yb yw yk yt yz yx : Nat → Int32} {n : Nat} {O : Nat → Nat} {c : Nat} {B W : Nat → Nat} (hcp : cps n O c B W yc yb yw) {k : Nat} (hk : k < 1024) (h1 : ¬ Acy (Kof c B W k) → post 1) (h0 : Acy (Kof c B W k) → post 0) : wpY_isRound post (yn, yc, yo, yp, ym, ys, yl, yb, yw, yk, yt, yz, yx) (nI k) := by
  obtain ⟨ec, hc10, hI, hq⟩ := hcp
  subst ec
  unfold wpY_isRound
  dsimp only
  refine pk_loop (σ := Int32) (fun m s x => wY_isRound_5 post (nI k) yn (nI c) yo yp ym ys yl yb yw yk yt yz yx m x (nI s)) (fun s x => ∃ t, x = nI t ∧ t < 32 ∧ (∀ S : Nat → Prop, (∀ a, a < 5 → S a → ∃ b, b < 5 ∧ S b ∧ Kof c B W k a b) → ∀ a, a < 5 → S a → t.testBit a = true) ∧ rnd (Kof c B W k) (s / 5) (s % 5) t) 25 0 31 (by omega) ⟨31, rfl, by omega, fun S _ a ha _ => bit_31 a ha, Or.inr (Or.inr ⟨by decide, fun x hx => by omega⟩)⟩ ?_ ?_
  · rintro m x ⟨t, rfl, ht, hsub, hr⟩
    rw [wY_isRound_5]
    refine br_t (by decide) (pk_eq t 0 (fun e => h0 (fun S hS a ha hSa => ?_)) (fun e => h1 (fun hA => ?_)))
    · have := hsub S hS a ha hSa
      rw [e] at this; simp at this
    · obtain ⟨a, ha, hb⟩ := bit_ex' ht (by omega)
      have hc : crc (Kof c B W k) t := by
        rcases hr with z | z | z
        · exact z
        · omega
        · exact absurd (pcn_0 t ht (by omega)) e
      exact hA (fun x => t.testBit x = true) (fun x hx hbx => hc x hx hbx) a ha hb
  · rintro m s x hs ⟨t, rfl, ht, hsub, hr⟩ hK
    rw [wY_isRound_5]
    have ha : s % 5 < 5 := by omega
    have nxt : ∀ t', rnd (Kof c B W k) (s / 5) (s % 5 + 1) t' → rnd (Kof c B W k) ((s + 1) / 5) ((s + 1) % 5) t' := by
      intro t' h'
      by_cases e : s % 5 = 4
      · rw [e] at h'
        rw [show (s + 1) / 5 = s / 5 + 1 from by omega, show (s + 1) % 5 = 0 from by omega]
        exact rnd_wrap h'
      · rw [show (s + 1) / 5 = s / 5 from by omega, show (s + 1) % 5 = s % 5 + 1 from by omega]
        exact h'
    refine br_f (nI_ge (b := 25) hs (by decide)) ⟨by decide, nm_r (rc_rem (by omega)) ?_⟩
    revert ha nxt
    generalize s % 5 = a at hr ⊢
    intro ha nxt
    refine pk_loop (σ := Int32) (fun m' q x => wY_isRound_22 post (wY_isRound_5 post (nI k) yn (nI c) yo yp ym ys yl yb yw yk yt yz yx m) (nI k) (nI t) (nI s) (nI a) yn (nI c) yo yp ym ys yl yb yw yk yt yz yx m' x (nI q)) (fun q x => (x = 0 ∧ ∀ p, p < q → ¬ (k.testBit p = true ∧ B p = a ∧ t.testBit (W p) = true)) ∨ (x = 1 ∧ ∃ b, b < 5 ∧ t.testBit b = true ∧ Kof c B W k a b)) c 0 0 (by omega) (Or.inl ⟨rfl, fun p hp => by omega⟩) ?_ ?_
    · rintro m' x hx
      rw [wY_isRound_22]
      refine br_t (nI_le (Nat.le_refl _) (by omega)) ?_
      rcases hx with ⟨e, hno⟩ | ⟨e, hg⟩
      · subst e
        have hng : ¬ ∃ b, b < 5 ∧ t.testBit b = true ∧ Kof c B W k a b := by
          rintro ⟨b, hb, htb, p, hp, hbp, e1, e2⟩
          exact hno p hp ⟨hbp, e1, by rw [e2]; exact htb⟩
        refine br_t rfl (nm_r (rmv_I t ht a ha) (nm_r (nI_1 s) (hK (nI (rmv t a)) ⟨rmv t a, rfl, rmv_32 t ht a ha, fun S hS x hx hSx => ?_, nxt _ ?_⟩)))
        · refine (rmv_bit t ht a ha x hx).mpr ⟨hsub S hS x hx hSx, ?_⟩
          rintro rfl
          obtain ⟨b, hb, hSb, hKb⟩ := hS x hx hSx
          exact hng ⟨b, hb, hsub S hS b hb hSb, hKb⟩
        · cases hb : t.testBit a with
          | true => exact rnd_no ht ha hr hb hng
          | false =>
            rw [rmv_no hb]
            exact rnd_goes hr (fun z => by rw [z] at hb; cases hb)
      · subst e
        exact br_f (by decide) (nm_r (nI_1 s) (hK (nI t) ⟨t, rfl, ht, hsub, nxt _ (rnd_goes hr (fun _ => hg))⟩))
    · rintro m' q x hqc hx hK'
      rw [wY_isRound_22]
      obtain ⟨eB, eW, hM⟩ := hq q hqc
      have hIq := hI.1 q hqc
      have keep : ¬ (k.testBit q = true ∧ B q = a ∧ t.testBit (W q) = true) → ((x = 0 ∧ ∀ p, p < q + 1 → ¬ (k.testBit p = true ∧ B p = a ∧ t.testBit (W p) = true)) ∨ (x = 1 ∧ ∃ b, b < 5 ∧ t.testBit b = true ∧ Kof c B W k a b)) := by
        intro hno
        rcases hx with ⟨e, g⟩ | g
        · refine Or.inl ⟨e, fun p hp => ?_⟩
          by_cases ep : p = q
          · subst ep; exact hno
          · exact g p (by omega)
        · exact Or.inr g
      refine br_f (nI_ge hqc (by omega)) ?_
      rw [nI_clamp (by omega), eB, eW]
      cases hb : k.testBit q with
      | true =>
        refine br_t ((vb_has (by omega)).mpr (by rw [vb_nI k q (by omega)]; exact hb)) ⟨vp_in_nI (by omega) (by decide), pk_eq (B q) a (fun e => ⟨vp_in_nI (by omega) (by decide), ?_⟩) (fun e => nm_r (nI_1 q) (hK' x (keep (fun z => e z.2.1))))⟩
        cases hb2 : t.testBit (W q) with
        | true =>
          exact br_t ((vb_has (by omega)).mpr (by rw [vb_nI t _ (by omega)]; exact hb2)) (nm_r (nI_1 q) (hK' 1 (Or.inr ⟨rfl, W q, hIq.2.1, hb2, q, hqc, hb, e, rfl⟩)))
        | false =>
          exact br_f (fun hh => by rw [vb_has (by omega), vb_nI t _ (by omega), hb2] at hh; cases hh) (nm_r (nI_1 q) (hK' x (keep (fun z => by rw [z.2.2] at hb2; cases hb2))))
      | false =>
        exact br_f (fun hh => by rw [vb_has (by omega), vb_nI k q (by omega), hb] at hh; cases hh) (nm_r (nI_1 q) (hK' x (keep (fun z => by rw [z.1] at hb; cases hb))))
theorem y_cg {post : Int32 → Prop} {yn yc : Int32} {yo yp ym ys yl yb yw yk yt yz yx : Nat → Int32} {n : Nat} {O : Nat → Nat} {c : Nat} {B W : Nat → Nat} (hcp : cps n O c B W yc yb yw) {k g : Nat} (hk : k < 1024) (hg : g < 1024) (h1 : grw c B W k g → post 1) (h0 : ¬ grw c B W k g → post 0) : wpY_canGrow post (yn, yc, yo, yp, ym, ys, yl, yb, yw, yk, yt, yz, yx) (nI k) (nI g) := by
  have hcp0 := hcp
  obtain ⟨ec, hc10, hI, hq⟩ := hcp
  subst ec
  unfold wpY_canGrow
  dsimp only
  refine pk_loop (σ := Unit) (fun m q _ => wY_canGrow_2 post (nI k) (nI g) yn (nI c) yo yp ym ys yl yb yw yk yt yz yx m (nI q)) (fun q _ => ∀ p, p < q → ¬ (g.testBit p = true ∧ k.testBit p = false ∧ Acy (adE (Kof c B W k) (B p) (W p)))) c 0 () (by omega) (fun p hp => by omega) ?_ ?_
  · intro m _ hs
    rw [wY_canGrow_2]
    exact br_t (nI_le (Nat.le_refl _) (by omega)) (h0 (fun ⟨p, hp, z⟩ => hs p hp z))
  · intro m q _ hqc hs hK
    rw [wY_canGrow_2]
    have keep : ¬ (g.testBit q = true ∧ k.testBit q = false ∧ Acy (adE (Kof c B W k) (B q) (W q))) → ∀ p, p < q + 1 → ¬ (g.testBit p = true ∧ k.testBit p = false ∧ Acy (adE (Kof c B W k) (B p) (W p))) := by
      intro hno p hp
      by_cases e : p = q
      · subst e; exact hno
      · exact hs p (by omega)
    refine br_f (nI_ge hqc (by omega)) ?_
    cases hgq : g.testBit q with
    | false =>
      exact br_f (fun hh => by rw [vb_has (by omega), vb_nI g q (by omega), hgq] at hh; cases hh) (nm_r (nI_1 q) (hK () (keep (fun z => by rw [z.1] at hgq; cases hgq))))
    | true =>
      refine br_t ((vb_has (by omega)).mpr (by rw [vb_nI g q (by omega)]; exact hgq)) ?_
      cases hkq : k.testBit q with
      | true =>
        exact br_f (fun hh => by rw [vb_has0 (by omega), vb_nI k q (by omega), hkq] at hh; cases hh) (nm_r (nI_1 q) (hK () (keep (fun z => by rw [z.2.1] at hkq; cases hkq))))
      | false =>
        refine br_t ((vb_has0 (by omega)).mpr (by rw [vb_nI k q (by omega)]; exact hkq)) ?_
        have hlt : k ||| 2 ^ q < 1024 := Nat.or_lt_two_pow (n := 10) hk (Nat.pow_lt_pow_right (by decide) (by omega))
        rw [pw10 q (by omega), nI_or]
        have hiff : Acy (Kof c B W (k ||| 2 ^ q)) ↔ Acy (adE (Kof c B W k) (B q) (W q)) := ⟨fun z => acy_mono z (fun a b _ _ h => (kof_or hqc a b).mpr h), fun z => acy_mono z (fun a b _ _ h => (kof_or hqc a b).mp h)⟩
        exact y_ir hcp0 hlt (fun hA => br_f (by decide) (nm_r (nI_1 q) (hK () (keep (fun z => hA (hiff.mpr z.2.2)))))) (fun hA => br_t rfl (h1 ⟨q, hqc, hgq, hkq, hiff.mp hA⟩))
theorem y_free {post : Int32 → Prop} {yn yc : Int32} {yo yp ym ys yl yb yw yk yt yz yx : Nat → Int32} {n : Nat} {O : Nat → Nat} {c : Nat} {B W : Nat → Nat} (hcp : cps n O c B W yc yb yw) {k : Nat} (hk : k < 1024) (hp : ∀ r, isSet r (fun x => ¬ ∃ q, q < c ∧ k.testBit q = true ∧ W q = x) → post r) : wpY_free post (yn, yc, yo, yp, ym, ys, yl, yb, yw, yk, yt, yz, yx) (nI k) := by
  obtain ⟨ec, hc10, hI, hq⟩ := hcp
  subst ec
  unfold wpY_free
  dsimp only
  refine pk_loop (σ := Int32) (fun m q x => wY_free_5 post (nI k) yn (nI c) yo yp ym ys yl yb yw yk yt yz yx m x (nI q)) (fun q x => isSet x (fun i => ¬ ∃ p, p < q ∧ k.testBit p = true ∧ W p = i)) c 0 31 (by omega) (vb_congr vb_all (fun i _ => ⟨fun _ ⟨p, hp, _⟩ => by omega, fun _ => trivial⟩)) ?_ ?_
  · intro m x hx
    rw [wY_free_5]
    exact br_t (nI_le (Nat.le_refl _) (by omega)) (hp x hx)
  · intro m q x hqc hx hK
    rw [wY_free_5]
    obtain ⟨eB, eW, hM⟩ := hq q hqc
    have hIq := hI.1 q hqc
    refine br_f (nI_ge hqc (by omega)) ?_
    cases hb : k.testBit q with
    | true =>
      refine br_t ((vb_has (by omega)).mpr (by rw [vb_nI k q (by omega)]; exact hb)) ⟨vp_in_nI (by omega) (by decide), ?_⟩
      rw [nI_clamp (by omega), eW]
      refine nm_e (nm_r (nI_1 q) (hK _ (vb_congr (vb_del hx hIq.2.1) (fun i _ => ⟨fun z ⟨p, p1, p2, p3⟩ => ?_, fun z => ⟨fun ⟨p, p1, p2, p3⟩ => z ⟨p, by omega, p2, p3⟩, fun e => z ⟨q, by omega, hb, e.symm⟩⟩⟩))))
      by_cases e : p = q
      · subst e; exact z.2 p3.symm
      · exact z.1 ⟨p, by omega, p2, p3⟩
    | false =>
      refine br_f (fun hh => by rw [vb_has (by omega), vb_nI k q (by omega), hb] at hh; cases hh) (nm_r (nI_1 q) (hK x (vb_congr hx (fun i _ => ⟨fun z ⟨p, p1, p2, p3⟩ => ?_, fun z ⟨p, p1, p2, p3⟩ => z ⟨p, by omega, p2, p3⟩⟩))))
      by_cases e : p = q
      · subst e; rw [p2] at hb; cases hb
      · exact z ⟨p, by omega, p2, p3⟩
