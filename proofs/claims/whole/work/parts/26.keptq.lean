/-! ===== rule 10: pure, the search is complete; the reference's levels ===== -/
theorem mx_ex (P : Nat → Prop) (f : Nat → Int) : ∀ N, (∃ p, p < N ∧ P p) → ∃ p, p < N ∧ P p ∧ ∀ q, q < N → P q → f q ≤ f p := by
  intro N
  induction N with
  | zero => rintro ⟨p, hp, _⟩; omega
  | succ N ih =>
    rintro ⟨p, hp, hP⟩
    by_cases hex : ∃ p, p < N ∧ P p
    · obtain ⟨r, hr, hPr, hm⟩ := ih hex
      by_cases hN : P N ∧ f r < f N
      · refine ⟨N, by omega, hN.1, fun q hq hPq => ?_⟩
        by_cases e : q = N
        · subst e; exact Int.le_refl _
        · have := hm q (by omega) hPq
          omega
      · refine ⟨r, by omega, hPr, fun q hq hPq => ?_⟩
        by_cases e : q = N
        · subst e
          apply Classical.byContradiction
          intro z; exact hN ⟨hPq, by omega⟩
        · exact hm q (by omega) hPq
    · have e : p = N := by
        apply Classical.byContradiction
        intro z; exact hex ⟨p, by omega, hP⟩
      subst e
      refine ⟨p, by omega, hP, fun q hq hPq => ?_⟩
      by_cases e : q = p
      · subst e; exact Int.le_refl _
      · exact absurd ⟨q, by omega, hPq⟩ hex
theorem or_gt {k p : Nat} (h : k.testBit p = false) : k < k ||| 2 ^ p := by
  have h1 : k ≤ k ||| 2 ^ p := Nat.left_le_or
  rcases Nat.lt_or_eq_of_le h1 with g | g
  · exact g
  · have := (or_bit k p p).mpr (Or.inr rfl)
    rw [← g, h] at this; cases this
theorem x_cover {n : Nat} {O : Nat → Nat} {U L : Nat → Nat} (hI : IDX n O 10 U L) {F : Nat → Prop} (h0 : F 0) (hF : ∀ k f, k < 1024 → F k → f < 10 → opn n O U L k f → (∀ p, p < 10 → opn n O U L k p → Mg n O (U p) (L p) ≤ Mg n O (U f) (L f)) → F (k ||| 2 ^ f))
    {K : Nat → Nat → Prop} (hK : FIN n O K) : ∃ k, k < 1024 ∧ F k ∧ (∀ p, p < 10 → ¬ opn n O U L k p) ∧ ∀ a b, a < 5 → b < 5 → (Kof 10 U L k a b ↔ K a b) := by
  obtain ⟨kK, hk, hbit, hkof⟩ := fin_mask hI hK
  have hk : kK < 1024 := hk
  have hpos : ∀ p, p < 10 → kK.testBit p = true → 0 < Mg n O (U p) (L p) := fun p hp hb => hK.1 _ _ (hI.1 p hp).1 (hI.1 p hp).2.1 ((hbit p hp).mp hb)
  have hAk : Acy (Kof 10 U L kK) := acy_mono hK.2.1 (fun a b ha hb h => (hkof a b ha hb).mp h)
  -- what is outside closes a circle with those at least as strong
  have hout : ∀ p, p < 10 → 0 < Mg n O (U p) (L p) → kK.testBit p = false → ¬ Acy (adE (gE n O (Mg n O (U p) (L p)) (Kof 10 U L kK)) (U p) (L p)) := by
    intro p hp hM hb hA
    refine hK.2.2 _ _ (hI.1 p hp).1 (hI.1 p hp).2.1 hM (fun z => ?_) (acy_mono hA (fun x y hx hy hh => ?_))
    · rw [(hbit p hp).mpr z] at hb; cases hb
    · rcases hh with hh | hh
      · exact Or.inl ⟨(hkof x y hx hy).mpr hh.1, hh.2⟩
      · exact Or.inr hh
  have main : ∀ d l, 1024 - l ≤ d → l < 1024 → F l → (∀ p, p < 10 → l.testBit p = true → kK.testBit p = true) → (∀ p q, p < 10 → q < 10 → l.testBit p = true → kK.testBit q = true → l.testBit q = false → Mg n O (U q) (L q) ≤ Mg n O (U p) (L p)) → F kK := by
    intro d
    induction d with
    | zero => intro l h1 h2; omega
    | succ d ih =>
      intro l h1 hl hFl hsub hup
      by_cases hmiss : ∃ q, q < 10 ∧ (kK.testBit q = true ∧ l.testBit q = false)
      · obtain ⟨f, hf, ⟨hfk, hfl⟩, hmax⟩ := mx_ex (fun q => kK.testBit q = true ∧ l.testBit q = false) (fun q => Mg n O (U q) (L q)) 10 hmiss
        have hgt := or_gt hfl
        have hlt : l ||| 2 ^ f < 1024 := Nat.or_lt_two_pow (n := 10) hl (Nat.pow_lt_pow_right (by decide) hf)
        have hsub2 : ∀ p, p < 10 → (l ||| 2 ^ f).testBit p = true → kK.testBit p = true := by
          intro p hp hb
          rcases (or_bit l f p).mp hb with g | g
          · exact hsub p hp g
          · subst g; exact hfk
        have hopen : opn n O U L l f := by
          refine ⟨hpos f hf hfk, hfl, fun hr => acy_no (hI.1 f hf).1 (hI.1 f hf).2.1 hr (acy_mono hAk (fun a b ha hb hh => ?_))⟩
          have := (kof_or (U := U) (L := L) (k := l) hf a b).mpr hh
          obtain ⟨q, hq, hbq, e1, e2⟩ := this
          exact ⟨q, hq, hsub2 q hq hbq, e1, e2⟩
        refine ih (l ||| 2 ^ f) (by omega) hlt (hF l f hl hFl hf hopen (fun p hp hop => ?_)) hsub2 (fun p q hp hq hb hbk hbl => ?_)
        · apply Classical.byContradiction
          intro hlt2
          cases hkp : kK.testBit p with
          | true => exact hlt2 (hmax p hp ⟨hkp, hop.2.1⟩)
          | false =>
            refine hout p hp hop.1 hkp (acy_mono (acy_yes (K := Kof 10 U L l) (hI.1 p hp).2.1 (ne_of_pos hop.1) (acy_mono hAk (fun a b _ _ ⟨q, hq, hb, e1, e2⟩ => ⟨q, hq, hsub q hq hb, e1, e2⟩)) hop.2.2) (fun a b _ _ hh => ?_))
            rcases hh with ⟨⟨q, hq, hb, e1, e2⟩, hw⟩ | hh
            · rw [← e1, ← e2] at hw
              cases hlq : l.testBit q with
              | true => exact Or.inl ⟨q, hq, hlq, e1, e2⟩
              | false => have := hmax q hq ⟨hb, hlq⟩; omega
            · exact Or.inr hh
        · have hbl2 : l.testBit q = false := by
            cases h2 : l.testBit q
            · rfl
            · rw [(or_bit l f q).mpr (Or.inl h2)] at hbl; cases hbl
          rcases (or_bit l f p).mp hb with g | g
          · exact hup p q hp hq g hbk hbl2
          · subst g; exact hmax q hq ⟨hbk, hbl2⟩
      · have e : l = kK := bit_ext (N := 10) hl hk (fun q hq => ⟨hsub q hq, fun h => by
          cases h2 : l.testBit q
          · exact absurd ⟨q, hq, h, h2⟩ hmiss
          · rfl⟩)
        rw [← e]; exact hFl
  refine ⟨kK, hk, main 1024 0 (by omega) (by omega) h0 (fun p _ hb => by simp at hb) (fun p q _ _ hb => by simp at hb), fun p hp hop => ?_, hkof⟩
  refine hout p hp hop.1 hop.2.1 (acy_mono (acy_yes (hI.1 p hp).2.1 (ne_of_pos hop.1) hAk hop.2.2) (fun a b _ _ hh => ?_))
  rcases hh with hh | hh
  · exact Or.inl hh.1
  · exact Or.inr hh
/-! the reference -/
def LV (n : Nat) (O : Nat → Nat) (C : Nat) (B W : Nat → Nat) (m : Int) (k : Nat) : Prop := k < 2 ^ C ∧ (∀ q, q < C → k.testBit q = true → m < Mg n O (B q) (W q)) ∧ Acy (Kof C B W k) ∧ ∀ q, q < C → m < Mg n O (B q) (W q) → k.testBit q = false → ¬ Acy (adE (gE n O (Mg n O (B q) (W q)) (Kof C B W k)) (B q) (W q))
def grw (C : Nat) (B W : Nat → Nat) (k g : Nat) : Prop := ∃ q, q < C ∧ g.testBit q = true ∧ k.testBit q = false ∧ Acy (adE (Kof C B W k) (B q) (W q))
theorem LV_9 {n : Nat} (hn : n ≤ 9) {O : Nat → Nat} {C : Nat} {B W : Nat → Nat} {k : Nat} (hk : k < 2 ^ C) : LV n O C B W 9 k ↔ k = 0 := by
  constructor
  · rintro ⟨_, h2, _⟩
    refine bit_ext (N := C) hk (Nat.two_pow_pos C) (fun q hq => ⟨fun hb => ?_, fun hb => by simp at hb⟩)
    have := h2 q hq hb
    have := Mg_bd hn O (B q) (W q)
    omega
  · rintro rfl
    refine ⟨Nat.two_pow_pos C, fun q _ hb => by simp at hb, fun S hS a ha hSa => ?_, fun q _ hM => ?_⟩
    · obtain ⟨b, _, _, q, _, hb, _⟩ := hS a ha hSa
      simp at hb
    · have := Mg_bd hn O (B q) (W q)
      omega
theorem LV_skip {n : Nat} {O : Nat → Nat} {C : Nat} {B W : Nat → Nat} {m : Int} {k : Nat} (hno : ∀ q, q < C → Mg n O (B q) (W q) ≠ m) : LV n O C B W (m - 1) k ↔ LV n O C B W m k := by
  constructor
  · rintro ⟨h1, h2, h3, h4⟩
    exact ⟨h1, fun q hq hb => by have := h2 q hq hb; have := hno q hq; omega, h3, fun q hq hM hb => h4 q hq (by omega) hb⟩
  · rintro ⟨h1, h2, h3, h4⟩
    exact ⟨h1, fun q hq hb => by have := h2 q hq hb; omega, h3, fun q hq hM hb => h4 q hq (by have := hno q hq; omega) hb⟩
theorem LV_grp {n : Nat} {O : Nat → Nat} {C : Nat} {B W : Nat → Nat} {m : Int} {g : Nat} (hg : ∀ q, q < C → (g.testBit q = true ↔ Mg n O (B q) (W q) = m)) {k : Nat} : LV n O C B W (m - 1) k ↔ ∃ k1 r, LV n O C B W m k1 ∧ r < 2 ^ C ∧ (∀ q, q < C → r.testBit q = true → g.testBit q = true) ∧ k = k1 ||| r ∧ Acy (Kof C B W k) ∧ ¬ grw C B W k g := by
  constructor
  · rintro ⟨h1, h2, h3, h4⟩
    obtain ⟨k1, hk1, hb1⟩ := mk_ex (fun q => k.testBit q = true ∧ m < Mg n O (B q) (W q)) C
    obtain ⟨r, hr, hbr⟩ := mk_ex (fun q => k.testBit q = true ∧ Mg n O (B q) (W q) = m) C
    have hge : ∀ a b, Kof C B W k a b → gE n O m (Kof C B W k) a b := by
      rintro a b ⟨q, hq, hb, e1, e2⟩
      refine ⟨⟨q, hq, hb, e1, e2⟩, ?_⟩
      have := h2 q hq hb
      rw [← e1, ← e2]; omega
    refine ⟨k1, r, ⟨hk1, fun q hq hb => ((hb1 q hq).mp hb).2, acy_mono h3 (fun a b _ _ ⟨q, hq, hb, e1, e2⟩ => ⟨q, hq, ((hb1 q hq).mp hb).1, e1, e2⟩), fun q hq hM hb hA => ?_⟩, hr, fun q hq hb => (hg q hq).mpr ((hbr q hq).mp hb).2, ?_, h3, ?_⟩
    · have hbk : k.testBit q = false := by
        cases h5 : k.testBit q
        · rfl
        · rw [(hb1 q hq).mpr ⟨h5, hM⟩] at hb; cases hb
      refine h4 q hq (by omega) hbk (acy_mono hA (fun a b _ _ hh => ?_))
      rcases hh with ⟨⟨p, hp, hbp, e1, e2⟩, hw⟩ | hh
      · refine Or.inl ⟨⟨p, hp, (hb1 p hp).mpr ⟨hbp, ?_⟩, e1, e2⟩, hw⟩
        rw [← e1, ← e2] at hw; omega
      · exact Or.inr hh
    · refine bit_ext h1 (Nat.or_lt_two_pow hk1 hr) (fun q hq => ?_)
      rw [Nat.testBit_or, Bool.or_eq_true, hb1 q hq, hbr q hq]
      constructor
      · intro hb
        have := h2 q hq hb
        by_cases e : Mg n O (B q) (W q) = m
        · exact Or.inr ⟨hb, e⟩
        · exact Or.inl ⟨hb, by omega⟩
      · rintro (z | z)
        · exact z.1
        · exact z.1
    · rintro ⟨q, hq, hgq, hb, hA⟩
      have em := (hg q hq).mp hgq
      refine h4 q hq (by omega) hb (acy_mono hA (fun a b _ _ hh => ?_))
      rcases hh with hh | hh
      · exact Or.inl hh.1
      · exact Or.inr hh
  · rintro ⟨k1, r, ⟨h1, h2, h3, h4⟩, hr, hrg, e, hA, hng⟩
    subst e
    have hbit : ∀ q, (k1 ||| r).testBit q = true ↔ (k1.testBit q = true ∨ r.testBit q = true) := by
      intro q; rw [Nat.testBit_or, Bool.or_eq_true]
    have hlow : ∀ q, q < C → (k1 ||| r).testBit q = true → m ≤ Mg n O (B q) (W q) := by
      intro q hq hb
      rcases (hbit q).mp hb with z | z
      · have := h2 q hq z; omega
      · have := (hg q hq).mp (hrg q hq z); omega
    refine ⟨Nat.or_lt_two_pow h1 hr, fun q hq hb => by have := hlow q hq hb; omega, hA, fun q hq hM hb hA2 => ?_⟩
    have hb1 : k1.testBit q = false := by
      cases h5 : k1.testBit q
      · rfl
      · rw [(hbit q).mpr (Or.inl h5)] at hb; cases hb
    by_cases em : Mg n O (B q) (W q) = m
    · refine hng ⟨q, hq, (hg q hq).mpr em, hb, acy_mono hA2 (fun a b _ _ hh => ?_)⟩
      rcases hh with ⟨p, hp, hbp, e1, e2⟩ | hh
      · refine Or.inl ⟨⟨p, hp, hbp, e1, e2⟩, ?_⟩
        have := hlow p hp hbp
        rw [← e1, ← e2]; omega
      · exact Or.inr hh
    · refine h4 q hq (by omega) hb1 (acy_mono hA2 (fun a b _ _ hh => ?_))
      rcases hh with ⟨⟨p, hp, hbp, e1, e2⟩, hw⟩ | hh
      · exact Or.inl ⟨⟨p, hp, (hbit p).mpr (Or.inl hbp), e1, e2⟩, hw⟩
      · exact Or.inr hh
theorem LV_fin {n : Nat} {O : Nat → Nat} {C : Nat} {B W : Nat → Nat} (hI : IDX n O C B W) {k : Nat} (h : LV n O C B W 0 k) : FIN n O (Kof C B W k) := by
  obtain ⟨h1, h2, h3, h4⟩ := h
  refine ⟨fun a b _ _ ⟨p, hp, hb, e1, e2⟩ => by rw [← e1, ← e2]; exact h2 p hp hb, h3, fun a b ha hb hM hK hA => ?_⟩
  obtain ⟨p, hp, e1, e2⟩ := hI.2.1 a b ha hb hM
  subst e1 e2
  have hbp : k.testBit p = false := by
    cases hk : k.testBit p
    · rfl
    · exact absurd ((kof_at hI hp).mpr hk) hK
  exact h4 p hp hM hbp hA
theorem fin_LV {n : Nat} {O : Nat → Nat} {C : Nat} {B W : Nat → Nat} (hI : IDX n O C B W) {K : Nat → Nat → Prop} (hK : FIN n O K) : ∃ k, LV n O C B W 0 k ∧ ∀ a b, a < 5 → b < 5 → (Kof C B W k a b ↔ K a b) := by
  obtain ⟨k, hk, hbit, hkof⟩ := fin_mask hI hK
  refine ⟨k, ⟨hk, fun q hq hb => hK.1 _ _ (hI.1 q hq).1 (hI.1 q hq).2.1 ((hbit q hq).mp hb), acy_mono hK.2.1 (fun a b ha hb h => (hkof a b ha hb).mp h), fun q hq hM hb hA => ?_⟩, hkof⟩
  refine hK.2.2 _ _ (hI.1 q hq).1 (hI.1 q hq).2.1 hM (fun z => ?_) (acy_mono hA (fun x y hx hy hh => ?_))
  · rw [(hbit q hq).mpr z] at hb; cases hb
  · rcases hh with hh | hh
    · exact Or.inl ⟨(hkof x y hx hy).mpr hh.1, hh.2⟩
    · exact Or.inr hh
