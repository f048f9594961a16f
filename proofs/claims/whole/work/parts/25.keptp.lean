/-! ===== rule 10: pure ===== -/
/-- no set in which each has one to go to -/
def Acy (K : Nat → Nat → Prop) : Prop := ∀ S : Nat → Prop, (∀ a, a < 5 → S a → ∃ b, b < 5 ∧ S b ∧ K a b) → ∀ a, a < 5 → ¬ S a
def Rch (K : Nat → Nat → Prop) (a b : Nat) : Prop := ∀ R : Nat → Nat → Prop, (∀ x y, x < 5 → y < 5 → K x y → R x y) → (∀ x y z, x < 5 → y < 5 → z < 5 → R x y → R y z → R x z) → R a b
def adE (K : Nat → Nat → Prop) (u l : Nat) : Nat → Nat → Prop := fun a b => K a b ∨ (a = u ∧ b = l)
theorem acy_mono {K K' : Nat → Nat → Prop} (h : Acy K') (hs : ∀ a b, a < 5 → b < 5 → K a b → K' a b) : Acy K := by
  intro S hS
  refine h S (fun a ha hSa => ?_)
  obtain ⟨b, hb, hSb, hK⟩ := hS a ha hSa
  exact ⟨b, hb, hSb, hs a b ha hb hK⟩
theorem rch_1 {K : Nat → Nat → Prop} {a b : Nat} (ha : a < 5) (hb : b < 5) (h : K a b) : Rch K a b := fun _ h1 _ => h1 a b ha hb h
theorem rch_t {K : Nat → Nat → Prop} {a b c : Nat} (ha : a < 5) (hb : b < 5) (hc : c < 5) (h : Rch K a b) (h' : Rch K b c) : Rch K a c := fun R h1 h2 => h2 a b c ha hb hc (h R h1 h2) (h' R h1 h2)
theorem rch_left {K : Nat → Nat → Prop} {a b : Nat} (h : Rch K a b) (ha : a < 5) (hb : b < 5) : ∃ y, y < 5 ∧ K a y ∧ (y = b ∨ Rch K y b) := by
  have := h (fun x z => x < 5 ∧ z < 5 ∧ ∃ y, y < 5 ∧ K x y ∧ (y = z ∨ Rch K y z)) (fun x y hx hy hK => ⟨hx, hy, y, hy, hK, Or.inl rfl⟩) (by
    rintro x y z hx hy hz ⟨_, _, y1, h1, h2, h3⟩ ⟨_, _, y2, g1, g2, g3⟩
    have hyz : Rch K y z := by
      rcases g3 with e | g3
      · subst e; exact rch_1 hy g1 g2
      · exact rch_t hy g1 hz (rch_1 hy g1 g2) g3
    refine ⟨hx, hz, y1, h1, h2, Or.inr ?_⟩
    rcases h3 with e | h3
    · subst e; exact hyz
    · exact rch_t h1 hy hz h3 hyz)
  exact this.2.2
theorem acy_no {K : Nat → Nat → Prop} {u l : Nat} (hu : u < 5) (hl : l < 5) (h : Rch K l u) : ¬ Acy (adE K u l) := by
  intro hA
  refine hA (fun x => (x = l ∨ Rch K l x) ∧ (x = u ∨ Rch K x u)) (fun x hx hS => ?_) l hl ⟨Or.inl rfl, Or.inr h⟩
  obtain ⟨h1, h2⟩ := hS
  by_cases e : x = u
  · exact ⟨l, hl, ⟨Or.inl rfl, Or.inr h⟩, Or.inr ⟨e, rfl⟩⟩
  · rcases h2 with h2 | h2
    · exact absurd h2 e
    · obtain ⟨y, hy, hK, hr⟩ := rch_left h2 hx hu
      refine ⟨y, hy, ⟨Or.inr ?_, hr⟩, Or.inl hK⟩
      rcases h1 with e1 | h1
      · subst e1; exact rch_1 hx hy hK
      · exact rch_t hl hx hy h1 (rch_1 hx hy hK)
theorem acy_yes {K : Nat → Nat → Prop} {u l : Nat} (hl : l < 5) (hne : u ≠ l) (hA : Acy K) (h : ¬ Rch K l u) : Acy (adE K u l) := by
  intro S hS
  have h1 : ∀ x, x < 5 → ¬ (S x ∧ (x = l ∨ Rch K l x)) := by
    refine hA (fun x => S x ∧ (x = l ∨ Rch K l x)) (fun x hx hSx => ?_)
    obtain ⟨y, hy, hSy, hK⟩ := hS x hx hSx.1
    rcases hK with hK | ⟨e1, e2⟩
    · refine ⟨y, hy, ⟨hSy, Or.inr ?_⟩, hK⟩
      rcases hSx.2 with e | g
      · subst e; exact rch_1 hx hy hK
      · exact rch_t hl hx hy g (rch_1 hx hy hK)
    · exfalso
      rcases hSx.2 with e | g
      · exact hne (e1.symm.trans e)
      · rw [e1] at g; exact h g
  have hlS : ¬ S l := fun z => h1 l hl ⟨z, Or.inl rfl⟩
  refine hA S (fun x hx hSx => ?_)
  obtain ⟨y, hy, hSy, hK⟩ := hS x hx hSx
  rcases hK with hK | ⟨e1, e2⟩
  · exact ⟨y, hy, hSy, hK⟩
  · rw [e2] at hSy; exact absurd hSy hlS
/-- the couples of K with a margin of at least w -/
def gE (n : Nat) (O : Nat → Nat) (w : Int) (K : Nat → Nat → Prop) : Nat → Nat → Prop := fun a b => K a b ∧ w ≤ Mg n O a b
/-- K is what is kept at the end of some order -/
def FIN (n : Nat) (O : Nat → Nat) (K : Nat → Nat → Prop) : Prop := (∀ a b, a < 5 → b < 5 → K a b → 0 < Mg n O a b) ∧ Acy K ∧ ∀ a b, a < 5 → b < 5 → 0 < Mg n O a b → ¬ K a b → ¬ Acy (adE (gE n O (Mg n O a b) K) a b)
def W10 (n : Nat) (O : Nat → Nat) (c : Nat) : Prop := ∃ K, FIN n O K ∧ ∀ a, a < 5 → ¬ K a c
/-- couples by numbers -/
def IDX (n : Nat) (O : Nat → Nat) (N : Nat) (U L : Nat → Nat) : Prop := (∀ p, p < N → U p < 5 ∧ L p < 5 ∧ 0 ≤ Mg n O (U p) (L p)) ∧ (∀ a b, a < 5 → b < 5 → 0 < Mg n O a b → ∃ p, p < N ∧ U p = a ∧ L p = b) ∧ (∀ p q, p < N → q < N → U p = U q → L p = L q → p = q)
def Kof (N : Nat) (U L : Nat → Nat) (k : Nat) : Nat → Nat → Prop := fun a b => ∃ p, p < N ∧ k.testBit p = true ∧ U p = a ∧ L p = b
theorem kof_at {n : Nat} {O : Nat → Nat} {N : Nat} {U L : Nat → Nat} (hI : IDX n O N U L) {k p : Nat} (hp : p < N) : Kof N U L k (U p) (L p) ↔ k.testBit p = true := by
  constructor
  · rintro ⟨q, hq, hb, e1, e2⟩
    rw [← hI.2.2 q p hq hp e1 e2]; exact hb
  · intro h; exact ⟨p, hp, h, rfl, rfl⟩
theorem mk_ex (P : Nat → Prop) : ∀ N, ∃ k, k < 2 ^ N ∧ ∀ q, q < N → (k.testBit q = true ↔ P q) := by
  intro N
  induction N with
  | zero => exact ⟨0, by decide, fun q hq => by omega⟩
  | succ N ih =>
    obtain ⟨k, hk, hb⟩ := ih
    have h2 : 2 ^ (N + 1) = 2 ^ N + 2 ^ N := by rw [Nat.pow_succ]; omega
    by_cases hP : P N
    · refine ⟨k ||| 2 ^ N, ?_, fun q hq => ?_⟩
      · exact Nat.or_lt_two_pow (by omega) (Nat.pow_lt_pow_right (by decide) (by omega))
      · rw [Nat.testBit_or, Nat.testBit_two_pow, Bool.or_eq_true, decide_eq_true_eq]
        by_cases e : q = N
        · subst e; exact ⟨fun _ => hP, fun _ => Or.inr rfl⟩
        · rw [hb q (by omega)]
          exact ⟨fun z => z.elim id (fun w => absurd w.symm e), Or.inl⟩
    · refine ⟨k, by omega, fun q hq => ?_⟩
      by_cases e : q = N
      · subst e
        rw [Nat.testBit_lt_two_pow hk]
        exact ⟨fun z => Bool.noConfusion z, fun z => absurd z hP⟩
      · exact hb q (by omega)
theorem bit_ext {N k k' : Nat} (hk : k < 2 ^ N) (hk' : k' < 2 ^ N) (h : ∀ q, q < N → (k.testBit q = true ↔ k'.testBit q = true)) : k = k' := by
  apply Nat.eq_of_testBit_eq
  intro q
  rcases Nat.lt_or_ge q N with g | g
  · have := h q g
    cases h1 : k.testBit q <;> cases h2 : k'.testBit q <;> simp_all
  · rw [Nat.testBit_lt_two_pow (Nat.lt_of_lt_of_le hk (Nat.pow_le_pow_right (by decide) g)), Nat.testBit_lt_two_pow (Nat.lt_of_lt_of_le hk' (Nat.pow_le_pow_right (by decide) g))]
theorem or_bit (k p q : Nat) : (k ||| 2 ^ p).testBit q = true ↔ (k.testBit q = true ∨ q = p) := by
  rw [Nat.testBit_or, Nat.testBit_two_pow, Bool.or_eq_true, decide_eq_true_eq]
  exact ⟨fun z => z.elim Or.inl (fun e => Or.inr e.symm), fun z => z.elim Or.inl (fun e => Or.inr e.symm)⟩
theorem kof_or {N : Nat} {U L : Nat → Nat} {k p : Nat} (hp : p < N) (a b : Nat) : Kof N U L (k ||| 2 ^ p) a b ↔ adE (Kof N U L k) (U p) (L p) a b := by
  constructor
  · rintro ⟨q, hq, hb, e1, e2⟩
    rcases (or_bit k p q).mp hb with g | g
    · exact Or.inl ⟨q, hq, g, e1, e2⟩
    · subst g; exact Or.inr ⟨e1.symm, e2.symm⟩
  · rintro (⟨q, hq, hb, e1, e2⟩ | ⟨e1, e2⟩)
    · exact ⟨q, hq, (or_bit k p q).mpr (Or.inl hb), e1, e2⟩
    · exact ⟨p, hp, (or_bit k p p).mpr (Or.inr rfl), e1.symm, e2.symm⟩
/-- the mask of what is kept at the end -/
theorem fin_mask {n : Nat} {O : Nat → Nat} {N : Nat} {U L : Nat → Nat} (hI : IDX n O N U L) {K : Nat → Nat → Prop} (hF : FIN n O K) : ∃ k, k < 2 ^ N ∧ (∀ p, p < N → (k.testBit p = true ↔ K (U p) (L p))) ∧ ∀ a b, a < 5 → b < 5 → (Kof N U L k a b ↔ K a b) := by
  obtain ⟨k, hk, hb⟩ := mk_ex (fun p => K (U p) (L p)) N
  refine ⟨k, hk, hb, fun a b ha hb' => ⟨?_, fun h => ?_⟩⟩
  · rintro ⟨p, hp, h1, e1, e2⟩
    have := (hb p hp).mp h1
    rw [e1, e2] at this; exact this
  · obtain ⟨p, hp, e1, e2⟩ := hI.2.1 a b ha hb' (hF.1 a b ha hb' h)
    exact ⟨p, hp, (hb p hp).mpr (by rw [e1, e2]; exact h), e1, e2⟩
theorem fin_congr {n : Nat} {O : Nat → Nat} {K K' : Nat → Nat → Prop} (h : FIN n O K) (e : ∀ a b, a < 5 → b < 5 → (K a b ↔ K' a b)) : FIN n O K' := by
  refine ⟨fun a b ha hb hK => h.1 a b ha hb ((e a b ha hb).mpr hK), acy_mono h.2.1 (fun a b ha hb hK => (e a b ha hb).mpr hK), fun a b ha hb hM hK hA => ?_⟩
  refine h.2.2 a b ha hb hM (fun z => hK ((e a b ha hb).mp z)) (acy_mono hA (fun x y hx hy hh => ?_))
  rcases hh with hh | hh
  · exact Or.inl ⟨(e x y hx hy).mp hh.1, hh.2⟩
  · exact Or.inr hh
/-! the component's search -/
def opn (n : Nat) (O : Nat → Nat) (U L : Nat → Nat) (k p : Nat) : Prop := 0 < Mg n O (U p) (L p) ∧ k.testBit p = false ∧ ¬ Rch (Kof 10 U L k) (L p) (U p)
/-- what holds of each set that the search comes to -/
def xIv (n : Nat) (O : Nat → Nat) (U L : Nat → Nat) (k : Nat) : Prop := k < 1024 ∧ (∀ p, p < 10 → k.testBit p = true → 0 < Mg n O (U p) (L p)) ∧ Acy (Kof 10 U L k) ∧ ∀ p, p < 10 → 0 < Mg n O (U p) (L p) → k.testBit p = false → (∃ q, q < 10 ∧ k.testBit q = true ∧ Mg n O (U q) (L q) < Mg n O (U p) (L p)) → ¬ Acy (adE (gE n O (Mg n O (U p) (L p)) (Kof 10 U L k)) (U p) (L p))
theorem ne_of_pos {n : Nat} {O : Nat → Nat} {a b : Nat} (h : 0 < Mg n O a b) : a ≠ b := by
  rintro rfl; rw [Mg_self] at h; omega
theorem xIv_0 {n : Nat} {O : Nat → Nat} {U L : Nat → Nat} : xIv n O U L 0 := by
  refine ⟨by omega, fun p _ hb => by simp at hb, fun S hS a ha hSa => ?_, fun p _ _ _ ⟨q, _, hb, _⟩ => by simp at hb⟩
  obtain ⟨b, _, _, q, _, hb, _⟩ := hS a ha hSa
  simp at hb
/-- neither in nor to be had: it would close a circle -/
theorem nopn {n : Nat} {O : Nat → Nat} {U L : Nat → Nat} (hI : IDX n O 10 U L) {k p : Nat} (hp : p < 10) (hM : 0 < Mg n O (U p) (L p)) (hb : k.testBit p = false) (h : ¬ opn n O U L k p) : ¬ Acy (adE (Kof 10 U L k) (U p) (L p)) := by
  have hr : Rch (Kof 10 U L k) (L p) (U p) := by
    apply Classical.byContradiction
    intro z; exact h ⟨hM, hb, z⟩
  exact acy_no (hI.1 p hp).1 (hI.1 p hp).2.1 hr
theorem ge_all {n : Nat} {O : Nat → Nat} {U L : Nat → Nat} {k : Nat} {w : Int} (h : ∀ q, q < 10 → k.testBit q = true → w ≤ Mg n O (U q) (L q)) : ∀ a b, Kof 10 U L k a b → gE n O w (Kof 10 U L k) a b := by
  rintro a b ⟨q, hq, hb, e1, e2⟩
  refine ⟨⟨q, hq, hb, e1, e2⟩, ?_⟩
  rw [← e1, ← e2]; exact h q hq hb
theorem xIv_step {n : Nat} {O : Nat → Nat} {U L : Nat → Nat} (hI : IDX n O 10 U L) {k f : Nat} (h : xIv n O U L k) (hf : f < 10) (ho : opn n O U L k f) (hm : ∀ p, p < 10 → opn n O U L k p → Mg n O (U p) (L p) ≤ Mg n O (U f) (L f)) : xIv n O U L (k ||| 2 ^ f) := by
  obtain ⟨h1, h2, h3, h4⟩ := h
  have hadd : ∀ a b, Kof 10 U L (k ||| 2 ^ f) a b ↔ adE (Kof 10 U L k) (U f) (L f) a b := kof_or hf
  refine ⟨Nat.or_lt_two_pow (n := 10) h1 (Nat.pow_lt_pow_right (by decide) hf), fun p hp hb => ?_, ?_, fun p hp hM hb hex hA => ?_⟩
  · rcases (or_bit k f p).mp hb with g | g
    · exact h2 p hp g
    · subst g; exact ho.1
  · exact acy_mono (acy_yes (hI.1 f hf).2.1 (ne_of_pos ho.1) h3 ho.2.2) (fun a b _ _ hK => (hadd a b).mp hK)
  · have hbk : k.testBit p = false := by
      cases hk : k.testBit p
      · rfl
      · rw [(or_bit k f p).mpr (Or.inl hk)] at hb; cases hb
    by_cases hex2 : ∃ q, q < 10 ∧ k.testBit q = true ∧ Mg n O (U q) (L q) < Mg n O (U p) (L p)
    · refine h4 p hp hM hbk hex2 (acy_mono hA (fun a b _ _ hh => ?_))
      rcases hh with hh | hh
      · exact Or.inl ⟨(hadd a b).mpr (Or.inl hh.1), hh.2⟩
      · exact Or.inr hh
    · obtain ⟨q, hq, hbq, hlt⟩ := hex
      have eq : q = f := by
        rcases (or_bit k f q).mp hbq with g | g
        · exact absurd ⟨q, hq, g, hlt⟩ hex2
        · exact g
      subst eq
      have hno : ¬ opn n O U L k p := fun z => by have := hm p hp z; omega
      refine nopn hI hp hM hbk hno (acy_mono hA (fun a b _ _ hh => ?_))
      rcases hh with hh | hh
      · have := ge_all (n := n) (O := O) (w := Mg n O (U p) (L p)) (fun r hr hbr => by
          apply Classical.byContradiction
          intro z; exact hex2 ⟨r, hr, hbr, by omega⟩) a b hh
        exact Or.inl ⟨(hadd a b).mpr (Or.inl hh), this.2⟩
      · exact Or.inr hh
theorem xIv_end {n : Nat} {O : Nat → Nat} {U L : Nat → Nat} (hI : IDX n O 10 U L) {k : Nat} (h : xIv n O U L k) (hno : ∀ p, p < 10 → ¬ opn n O U L k p) : FIN n O (Kof 10 U L k) := by
  obtain ⟨h1, h2, h3, h4⟩ := h
  refine ⟨fun a b _ _ ⟨p, hp, hb, e1, e2⟩ => by rw [← e1, ← e2]; exact h2 p hp hb, h3, fun a b ha hb hM hK hA => ?_⟩
  obtain ⟨p, hp, e1, e2⟩ := hI.2.1 a b ha hb hM
  subst e1 e2
  have hbp : k.testBit p = false := by
    cases hk : k.testBit p
    · rfl
    · exact absurd ((kof_at hI hp).mpr hk) hK
  by_cases hex : ∃ q, q < 10 ∧ k.testBit q = true ∧ Mg n O (U q) (L q) < Mg n O (U p) (L p)
  · exact h4 p hp hM hbp hex hA
  · refine nopn hI hp hM hbp (hno p hp) (acy_mono hA (fun a b _ _ hh => ?_))
    rcases hh with hh | hh
    · exact Or.inl (ge_all (n := n) (O := O) (w := Mg n O (U p) (L p)) (fun r hr hbr => by
        apply Classical.byContradiction
        intro z; exact hex ⟨r, hr, hbr, by omega⟩) a b hh)
    · exact Or.inr hh
