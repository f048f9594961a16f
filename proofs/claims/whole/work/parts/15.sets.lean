/-! ===== rules 11, 13, 14: pure ===== -/
def bts (n : Nat) (O : Nat → Nat) (a b : Nat) : Prop := 0 < Mg n O a b
theorem bts_as {n : Nat} {O : Nat → Nat} {a b : Nat} (h : bts n O a b) (h' : bts n O b a) : False := by
  unfold bts at h h'
  have := Mg_anti n O a b
  omega
theorem bts_ir {n : Nat} {O : Nat → Nat} {a : Nat} (h : bts n O a a) : False := bts_as h h
/-- t lies in s -/
def sub5 (t s : Nat) : Prop := ∀ c, c < 5 → t.testBit c = true → s.testBit c = true
def pcn (s : Nat) : Nat := s % 2 + s / 2 % 2 + s / 4 % 2 + s / 8 % 2 + s / 16 % 2
def sb5 (t s : Nat) : Bool := (!t.testBit 0 || s.testBit 0) && (!t.testBit 1 || s.testBit 1) && (!t.testBit 2 || s.testBit 2) && (!t.testBit 3 || s.testBit 3) && (!t.testBit 4 || s.testBit 4)
theorem sb5_of {t s : Nat} (h : sub5 t s) : sb5 t s = true := by
  have h0 := h 0 (by omega)
  have h1 := h 1 (by omega)
  have h2 := h 2 (by omega)
  have h3 := h 3 (by omega)
  have h4 := h 4 (by omega)
  unfold sb5
  simp only [Bool.and_eq_true, Bool.or_eq_true, Bool.not_eq_true']
  have q : ∀ x y : Bool, (x = true → y = true) → (x = false ∨ y = true) := by decide
  exact ⟨⟨⟨⟨q _ _ h0, q _ _ h1⟩, q _ _ h2⟩, q _ _ h3⟩, q _ _ h4⟩
theorem sb5_le0 : (List.range 32).all (fun s => (List.range 32).all (fun t => !sb5 t s || (decide (t ≤ s) && (t == s || decide (pcn t < pcn s))))) = true := by decide +kernel
theorem sb5_le {t s : Nat} (ht : t < 32) (hs : s < 32) (h : sub5 t s) : t ≤ s ∧ (t = s ∨ pcn t < pcn s) := by
  have h0 := sb5_le0
  rw [List.all_eq_true] at h0
  have h1 := h0 s (by rw [List.mem_range]; exact hs)
  rw [List.all_eq_true] at h1
  have h2 := h1 t (by rw [List.mem_range]; exact ht)
  rw [sb5_of h] at h2
  simpa using h2
theorem s5_ext {t s : Nat} (ht : t < 32) (hs : s < 32) (h : ∀ c, c < 5 → (t.testBit c = true ↔ s.testBit c = true)) : t = s := by
  have a := (sb5_le ht hs (fun c hc => (h c hc).mp)).1
  have b := (sb5_le hs ht (fun c hc => (h c hc).mpr)).1
  omega
theorem pcn_rm : ∀ s, s < 32 → ∀ c, c < 5 → s.testBit c = true → pcn (rmv s c) + 1 = pcn s := by decide +kernel
theorem pcn_0 : ∀ s, s < 32 → pcn s = 0 → s = 0 := by decide +kernel
theorem pcn_5 : ∀ s, s < 32 → pcn s ≤ 5 := by decide +kernel
theorem rmv_bit : ∀ s, s < 32 → ∀ c, c < 5 → ∀ d, d < 5 → ((rmv s c).testBit d = true ↔ (s.testBit d = true ∧ d ≠ c)) := by decide +kernel
theorem bit_ex' {s : Nat} (hs : s < 32) (h0 : 0 < s) : ∃ c, c < 5 ∧ s.testBit c = true := by
  rcases bit_ex s hs h0 with h | h | h | h | h
  · exact ⟨0, by omega, h⟩
  · exact ⟨1, by omega, h⟩
  · exact ⟨2, by omega, h⟩
  · exact ⟨3, by omega, h⟩
  · exact ⟨4, by omega, h⟩
theorem bit_31 : ∀ c, c < 5 → (31 : Nat).testBit c = true := by decide
def dom5 (n : Nat) (O : Nat → Nat) (s : Nat) : Prop := ∀ a, a < 5 → s.testBit a = true → ∀ b, b < 5 → s.testBit b = true ∨ bts n O a b
theorem dom_31 (n : Nat) (O : Nat → Nat) : dom5 n O 31 := fun _ _ _ b hb => Or.inl (bit_31 b hb)
/-- of two that dominate one lies in the other -/
theorem dom_nest {n : Nat} {O : Nat → Nat} {s t : Nat} (hs : dom5 n O s) (ht : dom5 n O t) : sub5 s t ∨ sub5 t s := by
  by_cases h : sub5 s t
  · exact Or.inl h
  · right
    intro b hb hbt
    apply Classical.byContradiction
    intro hbs
    apply h
    intro a ha has
    apply Classical.byContradiction
    intro hat
    rcases hs a ha has b hb with g | g
    · exact hbs g
    · rcases ht b hb hbt a ha with g2 | g2
      · exact hat g2
      · exact bts_as g g2
def isDom (n : Nat) (O : Nat → Nat) (w : Nat) : Prop := 0 < w ∧ w < 32 ∧ dom5 n O w ∧ ∀ s, 0 < s → s < 32 → dom5 n O s → sub5 w s
theorem isDom_u {n : Nat} {O : Nat → Nat} {w w' : Nat} (h : isDom n O w) (h' : isDom n O w') : w = w' := by
  have a := (sb5_le h.2.1 h'.2.1 (h.2.2.2 w' h'.1 h'.2.1 h'.2.2.1)).1
  have b := (sb5_le h'.2.1 h.2.1 (h'.2.2.2 w h.1 h.2.1 h.2.2.1)).1
  omega
theorem dom_first {n : Nat} {O : Nat → Nat} {w : Nat} (h0 : 0 < w) (h1 : w < 32) (hd : dom5 n O w) (hm : ∀ s, 0 < s → s < w → ¬ dom5 n O s) : isDom n O w := by
  refine ⟨h0, h1, hd, fun s hs0 hs hds => ?_⟩
  rcases dom_nest hd hds with h | h
  · exact h
  · have := (sb5_le hs h1 h).1
    have e : s = w := by
      rcases Nat.lt_or_ge s w with g | g
      · exact absurd hds (hm s hs0 g)
      · omega
    subst e
    exact h
theorem dom_small {n : Nat} {O : Nat → Nat} {w : Nat} (h0 : 0 < w) (h1 : w < 32) (hd : dom5 n O w) (hm : ∀ s, 0 < s → s < 32 → dom5 n O s → pcn w ≤ pcn s) : isDom n O w := by
  refine ⟨h0, h1, hd, fun s hs0 hs hds => ?_⟩
  rcases dom_nest hd hds with h | h
  · exact h
  · have a := (sb5_le hs h1 h).2
    have b := hm s hs0 hs hds
    have e : s = w := by omega
    subst e
    exact h
/-- a is in s and beats all the others there -/
def top5 (n : Nat) (O : Nat → Nat) (s a : Nat) : Prop := s.testBit a = true ∧ ∀ b, b < 5 → s.testBit b = true → b ≠ a → bts n O a b
theorem top_u {n : Nat} {O : Nat → Nat} {s a b : Nat} (ha : a < 5) (hb : b < 5) (h : top5 n O s a) (h' : top5 n O s b) : a = b := by
  apply Classical.byContradiction
  intro hne
  exact bts_as (h.2 b hb h'.1 (fun z => hne z.symm)) (h'.2 a ha h.1 hne)
/-- the members of s form a chain: each part of s has a top -/
def Chn (n : Nat) (O : Nat → Nat) (s : Nat) : Prop := ∀ t, 0 < t → t < 32 → sub5 t s → ∃ a, a < 5 ∧ top5 n O t a
theorem chn_sub {n : Nat} {O : Nat → Nat} {s t : Nat} (h : Chn n O s) (hts : sub5 t s) : Chn n O t :=
  fun r h0 h1 hr => h r h0 h1 (fun c hc hb => hts c hc (hr c hc hb))
theorem chn_top {n : Nat} {O : Nat → Nat} {s a : Nat} (hs : s < 32) (ha : a < 5) (ht : top5 n O s a) (h : Chn n O (rmv s a)) : Chn n O s := by
  intro t h0 h1 hts
  by_cases hta : t.testBit a = true
  · exact ⟨a, ha, hta, fun b hb hbt hne => ht.2 b hb (hts b hb hbt) hne⟩
  · refine h t h0 h1 (fun c hc hb => (rmv_bit s hs a ha c hc).mpr ⟨hts c hc hb, ?_⟩)
    rintro rfl
    exact hta hb
def sgI (n : Nat) (O : Nat → Nat) (s a : Nat) : Int := sm 5 (fun b => b01 (s.testBit b && decide (0 < Mg n O a b)))
def szN (s : Nat) : Int := sm 5 (fun b => b01 (s.testBit b))
theorem sgI_bd (n : Nat) (O : Nat → Nat) (s a : Nat) : 0 ≤ sgI n O s a ∧ sgI n O s a ≤ 5 := by
  have h1 := sm_lo (n := 5) (k := 0) (f := fun b => b01 (s.testBit b && decide (0 < Mg n O a b))) (fun i _ => (b01_bd _).1)
  have h2 := sm_hi (n := 5) (k := 1) (f := fun b => b01 (s.testBit b && decide (0 < Mg n O a b))) (fun i _ => (b01_bd _).2)
  unfold sgI; omega
/-- no two members of s beat equally many -/
def inj5 (n : Nat) (O : Nat → Nat) (s : Nat) : Prop := ∀ a b, a < 5 → b < 5 → s.testBit a = true → s.testBit b = true → a ≠ b → sgI n O s a ≠ sgI n O s b
theorem bit_3 {a b c : Nat} (ha : a < 5) (hb : b < 5) (hc : c < 5) : 0 < 2 ^ a ||| 2 ^ b ||| 2 ^ c ∧ 2 ^ a ||| 2 ^ b ||| 2 ^ c < 32 ∧ ∀ d, (2 ^ a ||| 2 ^ b ||| 2 ^ c).testBit d = true ↔ (d = a ∨ d = b ∨ d = c) := by
  have hbit : ∀ d, (2 ^ a ||| 2 ^ b ||| 2 ^ c).testBit d = true ↔ (d = a ∨ d = b ∨ d = c) := by
    intro d
    simp only [Nat.testBit_or, Nat.testBit_two_pow, Bool.or_eq_true, decide_eq_true_eq]
    omega
  refine ⟨?_, ?_, hbit⟩
  · apply Nat.pos_of_ne_zero
    intro e
    have := (hbit a).mpr (Or.inl rfl)
    rw [e] at this
    simp at this
  · refine Nat.or_lt_two_pow (n := 5) (Nat.or_lt_two_pow ?_ ?_) ?_
    · exact Nat.pow_lt_pow_right (by decide) ha
    · exact Nat.pow_lt_pow_right (by decide) hb
    · exact Nat.pow_lt_pow_right (by decide) hc
theorem chn_lt {n : Nat} {O : Nat → Nat} {s a b : Nat} (h : Chn n O s) (ha : a < 5) (hb : b < 5) (hsa : s.testBit a = true) (hsb : s.testBit b = true) (hab : bts n O a b) : sgI n O s b < sgI n O s a := by
  refine sm_lt (fun x hx => ?_) hb ?_
  · cases hsx : s.testBit x
    · simp [b01]
    · by_cases hbx : 0 < Mg n O b x
      · obtain ⟨t0, t1, tb⟩ := bit_3 ha hb hx
        obtain ⟨y, hy, hty, hall⟩ := h _ t0 t1 (fun c hc hbc => by
          rcases (tb c).mp hbc with rfl | rfl | rfl
          · exact hsa
          · exact hsb
          · exact hsx)
        have e : y = a := by
          rcases (tb y).mp hty with e | e | e
          · exact e
          · by_cases hya : a = y
            · exact hya.symm
            · have := hall a ha ((tb a).mpr (Or.inl rfl)) hya
              rw [e] at this
              exact (bts_as hab this).elim
          · by_cases hyb : b = y
            · rw [hyb] at hbx; rw [e] at hbx; exact (bts_ir hbx).elim
            · have := hall b hb ((tb b).mpr (Or.inr (Or.inl rfl))) hyb
              rw [e] at this
              exact (bts_as hbx this).elim
        have hax : 0 < Mg n O a x := by
          by_cases exa : x = a
          · rw [exa] at hbx; exact (bts_as hab hbx).elim
          · have := hall x hx ((tb x).mpr (Or.inr (Or.inr rfl))) (by rw [e]; exact exa)
            rw [e] at this
            exact this
        simp [hbx, hax]
      · simp only [hbx, decide_false, Bool.and_false]
        exact (b01_bd _).1
  · have h1 : ¬ 0 < Mg n O b b := fun z => bts_ir z
    have h2 : 0 < Mg n O a b := hab
    simp [hsb, h1, h2, b01]
theorem chn_inj {n : Nat} {O : Nat → Nat} {s : Nat} (h : Chn n O s) : inj5 n O s := by
  intro a b ha hb hsa hsb hne
  obtain ⟨t0, t1, tb⟩ := bit_3 ha hb hb
  obtain ⟨y, hy, hty, hall⟩ := h _ t0 t1 (fun c hc hbc => by
    rcases (tb c).mp hbc with rfl | rfl | rfl
    · exact hsa
    · exact hsb
    · exact hsb)
  rcases (tb y).mp hty with e | e
  · subst e
    have := chn_lt h hy hb hsa hsb (hall b hb ((tb b).mpr (by omega)) (fun z => hne z.symm))
    omega
  · have e : y = b := by omega
    subst e
    have := chn_lt h hy ha hsb hsa (hall a ha ((tb a).mpr (by omega)) hne)
    omega
theorem sm_one {n : Nat} {f : Nat → Int} (h0 : ∀ i, i < n → f i = 0 ∨ f i = 1) (h1 : ∀ i j, i < n → j < n → f i = 1 → f j = 1 → i = j) : sm n f ≤ 1 := by
  by_cases h : ∃ k, k < n ∧ f k = 1
  · obtain ⟨k, hk, e⟩ := h
    rw [sm_single hk (fun i hi hne => ?_), e]
    · exact Int.le_refl _
    · rcases h0 i hi with g | g
      · exact g
      · exact absurd (h1 i k hi hk g e) hne
  · rw [sm_zero (fun i hi => ?_)]
    · decide
    · rcases h0 i hi with g | g
      · exact g
      · exact absurd ⟨i, hi, g⟩ h
theorem b01_1 (b : Bool) : (b01 b = 0 ∨ b01 b = 1) ∧ (b01 b = 1 ↔ b = true) := by cases b <;> decide
/-- k different numbers below k: one is k - 1 -/
theorem ph5 {n : Nat} {O : Nat → Nat} {s : Nat} {k : Nat} (hk : szN s = (k : Int) + 1) (hi : inj5 n O s) (hb : ∀ a, a < 5 → s.testBit a = true → sgI n O s a ≤ k) : ∃ a, a < 5 ∧ s.testBit a = true ∧ sgI n O s a = k := by
  apply Classical.byContradiction
  intro hno
  have e1 : szN s = sm 5 (fun a => sm k (fun v => b01 (s.testBit a && decide (sgI n O s a = (v : Int))))) := by
    refine sm_congr fun a ha => ?_
    cases hs : s.testBit a
    · rw [sm_zero (fun v _ => by simp [b01])]; rfl
    · have h0 := sgI_bd n O s a
      have h1 := hb a ha hs
      have h2 : sgI n O s a ≠ k := fun z => hno ⟨a, ha, hs, z⟩
      rw [sm_single (k := (sgI n O s a).toNat) (by omega) (fun v hv hne => ?_)]
      · have : sgI n O s a = ((sgI n O s a).toNat : Int) := by omega
        rw [decide_eq_true this]; rfl
      · rw [decide_eq_false (by omega)]; rfl
  rw [sm_comm] at e1
  have e2 : sm k (fun v => sm 5 (fun a => b01 (s.testBit a && decide (sgI n O s a = (v : Int))))) ≤ 1 * (k : Int) := by
    refine sm_hi fun v hv => sm_one (fun a _ => (b01_1 _).1) (fun a b ha hb' h1 h2 => ?_)
    rw [(b01_1 _).2, Bool.and_eq_true, decide_eq_true_eq] at h1 h2
    apply Classical.byContradiction
    intro hne
    exact hi a b ha hb' h1.1 h2.1 hne (by rw [h1.2, h2.2])
  omega
theorem szN_p : ∀ s, s < 32 → szN s = pcn s := by decide +kernel
theorem inj_chn {n : Nat} {O : Nat → Nat} : ∀ s, s < 32 → inj5 n O s → Chn n O s := by
  intro s
  induction s using Nat.strongRecOn with
  | _ s ih =>
    intro hs hi
    by_cases h0 : s = 0
    · subst h0
      intro t ht0 ht hts
      obtain ⟨c, hc, hb⟩ := bit_ex' ht ht0
      have := hts c hc hb
      simp at this
    · have hp : 0 < pcn s := by
        rcases Nat.eq_zero_or_pos (pcn s) with g | g
        · exact absurd (pcn_0 s hs g) h0
        · exact g
      have hsz := szN_p s hs
      -- a member beats at most the others
      have hle : ∀ a, a < 5 → s.testBit a = true → sgI n O s a ≤ ((pcn s - 1 : Nat) : Int) := by
        intro a ha hsa
        have : sgI n O s a < szN s := by
          refine sm_lt (fun b hb => ?_) ha ?_
          · cases s.testBit b
            · exact Int.le_refl _
            · exact (b01_bd _).2
          · have : ¬ 0 < Mg n O a a := fun z => bts_ir z
            simp [hsa, this, b01]
        omega
      obtain ⟨a, ha, hsa, he⟩ := ph5 (k := pcn s - 1) (by omega) hi hle
      have htop : top5 n O s a := by
        refine ⟨hsa, fun b hb hsb hne => ?_⟩
        apply Classical.byContradiction
        intro hnb
        -- then two members are not beaten: a itself and b
        have h2 : sgI n O s a + (1 + 1) ≤ szN s := by
          have e1 : sgI n O s a + (sm 5 (fun x => if x = a then (1 : Int) else 0) + sm 5 (fun x => if x = b then (1 : Int) else 0)) ≤ szN s := by
            unfold sgI szN
            rw [← sm_add, ← sm_add]
            refine sm_le fun x hx => ?_
            by_cases exa : x = a
            · subst exa
              have : ¬ 0 < Mg n O x x := fun z => bts_ir z
              have hxb : x ≠ b := fun z => hne z.symm
              simp [hsa, this, b01, hxb]
            · by_cases exb : x = b
              · subst exb
                have : ¬ 0 < Mg n O a x := hnb
                simp [hsb, this, b01, exa]
              · simp only [if_neg exa, if_neg exb, Int.add_zero]
                cases s.testBit x
                · exact Int.le_refl _
                · exact (b01_bd _).2
          rw [sm_single (f := fun x => if x = a then (1 : Int) else 0) ha (fun i _ hi => if_neg hi), sm_single (f := fun x => if x = b then (1 : Int) else 0) hb (fun i _ hi => if_neg hi), if_pos rfl, if_pos rfl] at e1
          exact e1
        omega
      refine chn_top hs ha htop (ih (rmv s a) (rmv_lt s hs a ha hsa) (rmv_32 s hs a ha) ?_)
      have same : ∀ b, b < 5 → (rmv s a).testBit b = true → sgI n O (rmv s a) b = sgI n O s b := by
        intro b hb hrb
        have hb2 := (rmv_bit s hs a ha b hb).mp hrb
        refine sm_congr fun x hx => ?_
        by_cases exa : x = a
        · subst exa
          have : ¬ 0 < Mg n O b x := fun z => bts_as (htop.2 b hb hb2.1 hb2.2) z
          simp [this]
        · have := rmv_bit s hs a ha x hx
          have e : (rmv s a).testBit x = s.testBit x := by
            cases h1 : (rmv s a).testBit x <;> cases h2 : s.testBit x <;> simp_all
          rw [e]
      intro b c hb hc hrb hrc hne
      rw [same b hb hrb, same c hc hrc]
      exact hi b c hb hc ((rmv_bit s hs a ha b hb).mp hrb).1 ((rmv_bit s hs a ha c hc).mp hrc).1 hne
