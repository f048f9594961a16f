/-! ===== strongest ways: pure ===== -/
def mp (n : Nat) (O : Nat → Nat) (a b : Nat) : Int := if 0 < Mg n O a b then Mg n O a b else 0
theorem mp_bd {n : Nat} (hn : n ≤ 9) (O : Nat → Nat) (a b : Nat) : 0 ≤ mp n O a b ∧ mp n O a b ≤ 9 := by
  have := Mg_bd hn O a b
  unfold mp; split <;> omega
theorem mp_self (n : Nat) (O : Nat → Nat) (a : Nat) : mp n O a a = 0 := by
  unfold mp; rw [Mg_self, if_neg (by omega)]
def Clo (n : Nat) (O : Nat → Nat) (T : Nat → Nat → Int) : Prop := ∀ a b, a < 5 → b < 5 → mp n O a b ≤ T a b ∧ ∀ c, c < 5 → T a c ≤ T a b ∨ T c b ≤ T a b
def isStr (n : Nat) (O : Nat → Nat) (a b : Nat) (v : Int) : Prop := (∀ T, Clo n O T → v ≤ T a b) ∧ ∃ T, Clo n O T ∧ T a b ≤ v
theorem isStr_u {n : Nat} {O : Nat → Nat} {a b : Nat} {v v' : Int} (h : isStr n O a b v) (h' : isStr n O a b v') : v = v' := by
  obtain ⟨h1, T, hT, h2⟩ := h
  obtain ⟨g1, U, hU, g2⟩ := h'
  have := h1 U hU
  have := g1 T hT
  omega
def arr (s : Nat → Int32) (S : Nat → Nat → Int) : Prop := ∀ a b, a < 5 → b < 5 → s (5 * a + b) = iI (S a b)
def up2 (S : Nat → Nat → Int) (a b : Nat) (v : Int) : Nat → Nat → Int := fun x y => if x = a ∧ y = b then v else S x y
theorem arr_up {s : Nat → Int32} {S : Nat → Nat → Int} (h : arr s S) {a b : Nat} (hb : b < 5) (v : Int) : arr (upd s (5 * a + b) (iI v)) (up2 S a b v) := by
  intro x y hx hy
  unfold up2
  by_cases e : x = a ∧ y = b
  · rw [if_pos e, e.1, e.2, pk_us]
  · rw [if_neg e, pk_un (by omega)]; exact h x y hx hy
theorem arr_congr {s : Nat → Int32} {S S' : Nat → Nat → Int} (h : arr s S) (e : ∀ a b, a < 5 → b < 5 → S a b = S' a b) : arr s S' :=
  fun a b ha hb => by rw [h a b ha hb, e a b ha hb]
/-- what both sides come to -/
def stA (n : Nat) (O : Nat → Nat) (s : Nat → Int32) : Prop := ∃ S, arr s S ∧ ∀ a b, a < 5 → b < 5 → 0 ≤ S a b ∧ S a b ≤ 9 ∧ (a ≠ b → isStr n O a b (S a b))
def fst5 (S : Nat → Nat → Int) (k a b : Nat) : Int := if S a k ≤ S k b then (if S a k ≤ S a b then S a b else S a k) else (if S k b ≤ S a b then S a b else S k b)
theorem fst_row (S : Nat → Nat → Int) (k a : Nat) : fst5 S k a k = S a k := by
  unfold fst5; split <;> split <;> omega
theorem fst_col (S : Nat → Nat → Int) (k b : Nat) : fst5 S k k b = S k b := by
  unfold fst5; by_cases h : S k k ≤ S k b <;> simp [h]
theorem fst_ge (S : Nat → Nat → Int) (k a b : Nat) : S a b ≤ fst5 S k a b ∧ (S a k ≤ fst5 S k a b ∨ S k b ≤ fst5 S k a b) ∧ (fst5 S k a b = S a b ∨ (fst5 S k a b ≤ S a k ∧ fst5 S k a b ≤ S k b)) := by
  unfold fst5; split <;> split <;> omega
def fwI (n : Nat) (O : Nat → Nat) (k : Nat) (S : Nat → Nat → Int) : Prop := ∀ a b, a < 5 → b < 5 → 0 ≤ S a b ∧ S a b ≤ 9 ∧ mp n O a b ≤ S a b ∧ (∀ T, Clo n O T → S a b ≤ T a b) ∧ ∀ c, c < k → c < 5 → S a c ≤ S a b ∨ S c b ≤ S a b
theorem fw_step {n : Nat} {O : Nat → Nat} {k : Nat} {S : Nat → Nat → Int} (hk : k < 5) (h : fwI n O k S) : fwI n O (k + 1) (fst5 S k) := by
  intro a b ha hb
  obtain ⟨h1, h2, h3, h4, h5⟩ := h a b ha hb
  have hak := h a k ha hk
  have hkb := h k b hk hb
  have g := fst_ge S k a b
  refine ⟨by omega, by omega, by omega, fun T hT => ?_, fun c hc hc5 => ?_⟩
  · have t1 := h4 T hT
    have t2 := hak.2.2.2.1 T hT
    have t3 := hkb.2.2.2.1 T hT
    have t4 := (hT a b ha hb).2 k hk
    omega
  · by_cases e : c = k
    · subst e
      rw [fst_row, fst_col]; omega
    · have gac := fst_ge S k a c
      have gcb := fst_ge S k c b
      have i1 := h5 c (by omega) hc5
      have i2 := hak.2.2.2.2 c (by omega) hc5
      have i3 := hkb.2.2.2.2 c (by omega) hc5
      omega
theorem fw_end {n : Nat} {O : Nat → Nat} {s : Nat → Int32} {S : Nat → Nat → Int} (ha : arr s S) (h : fwI n O 5 S) : stA n O s := by
  refine ⟨S, ha, fun a b ha hb => ⟨(h a b ha hb).1, (h a b ha hb).2.1, fun _ => ⟨(h a b ha hb).2.2.2.1, S, fun x y hx hy => ⟨(h x y hx hy).2.2.1, fun c hc => (h x y hx hy).2.2.2.2 c hc hc⟩, Int.le_refl _⟩⟩⟩
/-- one round of lengthening, from Z to Z' -/
def LN (Z Z' : Nat → Nat → Int) : Prop := ∀ a b, a < 5 → b < 5 → Z a b ≤ Z' a b ∧ (a ≠ b → ∀ c, c < 5 → c ≠ a → c ≠ b → Z a c ≤ Z' a b ∨ Z c b ≤ Z' a b)
def snd5 (n : Nat) (O : Nat → Nat) (Z : Nat → Nat → Int) : Prop := ∀ a b, a < 5 → b < 5 → 0 ≤ Z a b ∧ Z a b ≤ 9 ∧ ∀ T, Clo n O T → Z a b ≤ T a b
theorem sm_lt {n : Nat} {f g : Nat → Int} (h : ∀ i, i < n → f i ≤ g i) {k : Nat} (hk : k < n) (hl : f k < g k) : sm n f < sm n g := by
  induction n with
  | zero => omega
  | succ n ih =>
    simp only [sm]
    have b := h n (by omega)
    by_cases e : k = n
    · subst e
      have := sm_le (n := k) (f := f) (g := g) (fun i hi => h i (by omega))
      omega
    · have := ih (fun i hi => h i (by omega)) (by omega)
      omega
theorem ch_fix (kb : Nat → Nat → Bool) (hm : ∀ r x, r < 5 → x < 5 → kb r x = true → kb (r + 1) x = true) {a : Nat} (ha : a < 5) (h0 : kb 0 a = true) : ∃ r, r < 5 ∧ ∀ x, x < 5 → kb (r + 1) x = true → kb r x = true := by
  apply Classical.byContradiction
  intro hno
  have step : ∀ r, r < 5 → sm 5 (fun x => b01 (kb r x)) < sm 5 (fun x => b01 (kb (r + 1) x)) := by
    intro r hr
    have : ∃ x, x < 5 ∧ kb (r + 1) x = true ∧ kb r x = false := by
      apply Classical.byContradiction
      intro hn2
      refine hno ⟨r, hr, fun x hx h1 => ?_⟩
      cases h2 : kb r x
      · exact absurd ⟨x, hx, h1, h2⟩ hn2
      · rfl
    obtain ⟨x, hx, h1, h2⟩ := this
    refine sm_lt (fun i hi => ?_) hx (by rw [h1, h2]; decide)
    cases h3 : kb r i
    · exact (b01_bd _).1
    · rw [hm r i hr hi h3]; exact Int.le_refl _
  have s0 : sm 5 (fun x => b01 (kb 0 x)) < sm 5 (fun x => b01 (kb 1 x)) := step 0 (by omega)
  have s1 : sm 5 (fun x => b01 (kb 1 x)) < sm 5 (fun x => b01 (kb 2 x)) := step 1 (by omega)
  have s2 : sm 5 (fun x => b01 (kb 2 x)) < sm 5 (fun x => b01 (kb 3 x)) := step 2 (by omega)
  have s3 : sm 5 (fun x => b01 (kb 3 x)) < sm 5 (fun x => b01 (kb 4 x)) := step 3 (by omega)
  have s4 : sm 5 (fun x => b01 (kb 4 x)) < sm 5 (fun x => b01 (kb 5 x)) := step 4 (by omega)
  have e0 : 1 ≤ sm 5 (fun x => b01 (kb 0 x)) := by
    have h1 : sm 5 (fun x => if x = a then (1 : Int) else 0) = 1 := by
      rw [sm_single (f := fun x => if x = a then (1 : Int) else 0) ha (fun i _ hi => if_neg hi), if_pos rfl]
    rw [← h1]
    refine sm_le fun i hi => ?_
    by_cases e : i = a
    · subst e; rw [if_pos rfl, h0]; exact Int.le_refl _
    · rw [if_neg e]; exact (b01_bd _).1
  have e5 := sm_hi (n := 5) (k := 1) (f := fun x => b01 (kb 5 x)) (fun i _ => (b01_bd _).2)
  omega
theorem ln_end {n : Nat} (hn : n ≤ 9) {O : Nat → Nat} {Q : Nat → Nat → Nat → Int} (h0 : ∀ a b, a < 5 → b < 5 → Q 0 a b = mp n O a b) (hq : ∀ j, j < 4 → LN (Q j) (Q (j + 1))) (hs : snd5 n O (Q 4)) {s : Nat → Int32} (hA : arr s (Q 4)) : stA n O s := by
  refine ⟨Q 4, hA, fun a b ha hb => ⟨(hs a b ha hb).1, (hs a b ha hb).2.1, fun hab => ⟨(hs a b ha hb).2.2, ?_⟩⟩⟩
  have hz := hs a b ha hb
  -- those reached from a with strength t after j steps
  have kb : ∃ kb : Nat → Nat → Bool, (∀ x, kb 0 x = decide (x = a)) ∧ ∀ j x, kb (j + 1) x = (decide (x = a) || decide (Q 4 a b + 1 ≤ Q j a x)) :=
    ⟨fun j x => match j with | 0 => decide (x = a) | j + 1 => (decide (x = a) || decide (Q 4 a b + 1 ≤ Q j a x)), fun _ => rfl, fun _ _ => rfl⟩
  obtain ⟨kb, k0, k1⟩ := kb
  have kS : ∀ j x, kb (j + 1) x = true ↔ (x = a ∨ Q 4 a b + 1 ≤ Q j a x) := by
    intro j x; rw [k1]; simp
  have kZ : ∀ x, kb 0 x = true ↔ x = a := by intro x; rw [k0]; simp
  have hmono : ∀ r x, r < 5 → x < 5 → kb r x = true → kb (r + 1) x = true := by
    intro r x hr hx hk
    cases r with
    | zero => rw [kZ] at hk; rw [kS]; exact Or.inl hk
    | succ j =>
      rw [kS] at hk ⊢
      rcases hk with e | e
      · exact Or.inl e
      · have := (hq j (by omega) a x ha hx).1
        exact Or.inr (by omega)
  obtain ⟨r, hr, hfix⟩ := ch_fix kb hmono ha (by rw [kZ])
  -- up to where Q j has grown
  have hup : ∀ d j, j + d = 4 → ∀ x y, x < 5 → y < 5 → Q j x y ≤ Q 4 x y := by
    intro d
    induction d with
    | zero => intro j hj x y _ _; have : j = 4 := by omega
              subst this; exact Int.le_refl _
    | succ d ih =>
      intro j hj x y hx hy
      have h1 := (hq j (by omega) x y hx hy).1
      have h2 := ih (j + 1) (by omega) x y hx hy
      omega
  have hge : ∀ j, j ≤ 4 → ∀ x y, x < 5 → y < 5 → mp n O x y ≤ Q j x y := by
    intro j
    induction j with
    | zero => intro _ x y hx hy; rw [h0 x y hx hy]; exact Int.le_refl _
    | succ j ih =>
      intro hj x y hx hy
      have h1 := (hq j (by omega) x y hx hy).1
      have h2 := ih (by omega) x y hx hy
      omega
  have hsucc : ∀ x y, x < 5 → y < 5 → kb r x = true → Q 4 a b + 1 ≤ mp n O x y → kb (r + 1) y = true := by
    intro x y hx hy hkx hm
    rw [kS]
    by_cases ey : y = a
    · exact Or.inl ey
    · right
      have hxy : x ≠ y := by
        rintro rfl
        rw [mp_self] at hm; omega
      by_cases ex : x = a
      · subst ex
        have := hge r (by omega) x y hx hy
        omega
      · cases r with
        | zero => rw [kZ] at hkx; exact absurd hkx ex
        | succ j =>
          rw [kS] at hkx
          have h1 := hge j (by omega) x y hx hy
          have h2 := (hq j (by omega) a y ha hy).2 (fun z => ey z.symm) x hx ex hxy
          rcases hkx with e | e
          · exact absurd e ex
          · omega
  have hcl : ∀ x y, x < 5 → y < 5 → kb r x = true → kb r y = false → mp n O x y ≤ Q 4 a b := by
    intro x y hx hy h1 h2
    apply Classical.byContradiction
    intro h3
    have := hfix y hy (hsucc x y hx hy h1 (by omega))
    rw [h2] at this; cases this
  refine ⟨fun x y => if kb r x = true ∧ kb r y = false then Q 4 a b else 9, fun x y hx hy => ⟨?_, fun c hc => ?_⟩, ?_⟩
  · have := mp_bd hn O x y
    dsimp only
    split
    · rename_i hh; exact hcl x y hx hy hh.1 hh.2
    · omega
  · dsimp only
    by_cases hh : kb r x = true ∧ kb r y = false
    · rw [if_pos hh]
      cases hc2 : kb r c
      · left; rw [if_pos ⟨hh.1, rfl⟩]; exact Int.le_refl _
      · right; rw [if_pos ⟨rfl, hh.2⟩]; exact Int.le_refl _
    · rw [if_neg hh]
      left; split <;> omega
  · dsimp only
    have hka : kb r a = true := by
      cases r with
      | zero => rw [kZ]
      | succ j => rw [kS]; exact Or.inl rfl
    have hkb : kb r b = false := by
      cases hh : kb r b
      · rfl
      · cases r with
        | zero => rw [kZ] at hh; exact absurd hh.symm hab
        | succ j =>
          rw [kS] at hh
          rcases hh with e | e
          · exact absurd e.symm hab
          · have := hup (4 - j) j (by omega) a b ha hb
            omega
    rw [if_pos ⟨hka, hkb⟩]
    exact Int.le_refl _
