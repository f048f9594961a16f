section
theorem pk_us {f : Nat → Int32} {k : Nat} {x : Int32} : upd f k x k = x := if_pos rfl
theorem pk_un {f : Nat → Int32} {k j : Nat} {x : Int32} (h : j ≠ k) : upd f k x j = f j := if_neg h
theorem pk_sub {a b : Nat} (h : b ≤ a) : nI a - nI b = nI (a - b) := by
  obtain ⟨c, rfl⟩ : ∃ c, a = c + b := ⟨a - b, by omega⟩
  rw [← nI_add, Int32.add_sub_cancel, Nat.add_sub_cancel]
theorem pk_m1 (n : Nat) : nI (n + 1) + (-1) = nI n := by
  rw [← nI_1, Int32.add_assoc, show (1 : Int32) + (-1) = 0 from rfl, Int32.add_zero]
theorem pk_mul (a b : Nat) : nI a * nI b = nI (a * b) := (Int32.ofNat_mul a b).symm
theorem pk_div {a d : Nat} (ha : a < 2 ^ 31) (h0 : 0 < d) (hd : d < 2 ^ 31) : nI a / nI d = nI (a / d) := by
  apply Int32.toInt_inj.mp
  rw [lg_idiv_nonneg (by rw [nI_toInt ha]; omega) (by rw [nI_toInt hd]; omega), nI_toInt ha, nI_toInt hd, nI_toInt (Nat.lt_of_le_of_lt (Nat.div_le_self a d) ha)]
  first | rfl | exact (Int.natCast_ediv _ _).symm
theorem pk_rem {a d : Nat} (ha : a < 2 ^ 31) (h0 : 0 < d) (hd : d < 2 ^ 31) : nI a - nI a / nI d * nI d = nI (a % d) := by
  rw [pk_div ha h0 hd, pk_mul, pk_sub (Nat.div_mul_le_self a d)]
  exact congrArg nI (by have := Nat.div_add_mod' a d; omega)
theorem pk_ix (x : Int32) {n : Nat} (hn : n < 2 ^ 31) : x < 0 ∨ nI n ≤ x ∨ ∃ j : Nat, j < n ∧ x = nI j := by
  by_cases h : x < 0
  · exact Or.inl h
  · obtain ⟨j, hj, rfl⟩ := nI_of h
    by_cases h2 : j < n
    · exact Or.inr (Or.inr ⟨j, h2, rfl⟩)
    · exact Or.inr (Or.inl (nI_le (by omega) hj))
theorem pk_le {x y : Int32} {A B : Prop} (a b : Nat) (f : a ≤ b → A) (g : b < a → B) (hx : x = nI a := by rfl) (hy : y = nI b := by rfl) (ha : a < 2 ^ 31 := by omega) (hb : b < 2 ^ 31 := by omega) : (x ≤ y → A) ∧ (¬ x ≤ y → B) := by
  subst hx hy
  rw [nI_leI ha hb]
  exact ⟨f, fun z => g (by omega)⟩
theorem pk_lt {x y : Int32} {A B : Prop} (a b : Nat) (f : a < b → A) (g : b ≤ a → B) (hx : x = nI a := by rfl) (hy : y = nI b := by rfl) (ha : a < 2 ^ 31 := by omega) (hb : b < 2 ^ 31 := by omega) : (x < y → A) ∧ (¬ x < y → B) := by
  subst hx hy
  rw [nI_ltI ha hb]
  exact ⟨f, fun z => g (by omega)⟩
theorem pk_eq {x y : Int32} {A B : Prop} (a b : Nat) (f : a = b → A) (g : a ≠ b → B) (hx : x = nI a := by rfl) (hy : y = nI b := by rfl) (ha : a < 2 ^ 31 := by omega) (hb : b < 2 ^ 31 := by omega) : (x = y → A) ∧ (¬ x = y → B) := by
  subst hx hy
  rw [nI_eq ha hb]
  exact ⟨f, g⟩
theorem pk_in {x : Int32} (n N : Nat) (h : n < N) (hx : x = nI n := by rfl) (hN : N < 2 ^ 31 := by omega) : vp_in x N := by
  subst hx
  exact vp_in_nI h hN
theorem pk_cl {x : Int32} (n : Nat) (hx : x = nI n := by rfl) (h : n < 2 ^ 31 := by omega) : x.toNatClampNeg = n := by
  subst hx
  exact nI_clamp h
theorem pk_tn {n : Nat} (h : n < 2 ^ 32) : (nI n).toBitVec.toNat = n := Nat.mod_eq_of_lt h
theorem pk_shl (a s : Int32) (k : Nat) (hs : (s.toBitVec.smod 32).toNat = k) : (a <<< s).toBitVec.toNat = a.toBitVec.toNat * 2 ^ k % 2 ^ 32 := by
  show (a.toBitVec <<< (s.toBitVec.smod 32).toNat).toNat = _
  rw [hs, BitVec.toNat_shiftLeft, Nat.shiftLeft_eq]
theorem pk_shlN {n : Nat} (s : Int32) (k : Nat) (hs : (s.toBitVec.smod 32).toNat = k) (h : n * 2 ^ k < 2 ^ 32) : nI n <<< s = nI (n * 2 ^ k) := by
  apply Int32.toBitVec_inj.mp
  apply BitVec.eq_of_toNat_eq
  have hn : n < 2 ^ 32 := Nat.lt_of_le_of_lt (Nat.le_mul_of_pos_right n (Nat.two_pow_pos k)) h
  rw [pk_shl _ _ k hs, pk_tn hn, pk_tn h, Nat.mod_eq_of_lt h]
theorem pk_shr (a s : Int32) (k : Nat) (hs : (s.toBitVec.smod 32).toNat = k) : (a >>> s).toInt = a.toInt >>> k := by
  show (a.toBitVec.sshiftRight (s.toBitVec.smod 32).toNat).toInt = _
  rw [hs, BitVec.toInt_sshiftRight]
  rfl
theorem pk_shrN {n : Nat} (h : n < 2 ^ 31) (s : Int32) (k : Nat) (hs : (s.toBitVec.smod 32).toNat = k) : nI n >>> s = nI (n / 2 ^ k) := by
  apply Int32.toInt_inj.mp
  have h2 : n / 2 ^ k ≤ n := Nat.div_le_self _ _
  rw [pk_shr _ _ k hs, nI_toInt h, nI_toInt (by omega), Int.shiftRight_eq_div_pow]
  rfl
theorem pk_loop {σ : Type} (W : Nat → Nat → σ → Prop) (I : Nat → σ → Prop) (e i0 : Nat) (s : σ) (hi : i0 ≤ e) (h0 : I i0 s) (hx : ∀ n s, I e s → W (n + 1) e s)
    (hs : ∀ n i s, i < e → I i s → (∀ s', I (i + 1) s' → W n (i + 1) s') → W (n + 1) i s) : ∃ n, W n i0 s :=
  ⟨e + 1, loop_i W I e hx hs (e + 1) i0 s hi (by omega) h0⟩
theorem pk_loopD {σ : Type} (W : Nat → Nat → σ → Prop) (I : Nat → σ → Prop) (hx : ∀ n s, I 0 s → W (n + 1) 0 s)
    (hs : ∀ n i s, I (i + 1) s → (∀ s', I i s' → W n i s') → W (n + 1) (i + 1) s) : ∀ (e : Nat) (s : σ), I e s → W (e + 1) e s := by
  intro e
  induction e with
  | zero => exact fun s h => hx 0 s h
  | succ e ih => exact fun s h => hs (e + 1) e s h (fun s' h' => ih s' h')
theorem pk_least (P : Nat → Prop) (h : ∃ k, P k) : ∃ k, P k ∧ ∀ j, j < k → ¬ P j := by
  obtain ⟨k, hk⟩ := h
  induction k using Nat.strongRecOn with
  | ind k ih =>
    by_cases e : ∃ j, j < k ∧ P j
    · obtain ⟨j, hj, pj⟩ := e
      exact ih j hj pj
    · exact ⟨k, hk, fun j hj pj => e ⟨j, hj, pj⟩⟩
def bt (x : Int32) (i : Nat) : Bool := x.toBitVec.getLsbD i
theorem b_ext {x y : Int32} (h : ∀ i, i < 32 → bt x i = bt y i) : x = y := Int32.toBitVec_inj.mp (BitVec.eq_of_getLsbD_eq (fun i hi => h i hi))
theorem b_or (x y : Int32) (i : Nat) : bt (x ||| y) i = (bt x i || bt y i) := by unfold bt; rw [Int32.toBitVec_or, BitVec.getLsbD_or]
theorem b_and (x y : Int32) (i : Nat) : bt (x &&& y) i = (bt x i && bt y i) := by unfold bt; rw [Int32.toBitVec_and, BitVec.getLsbD_and]
theorem b_xor (x y : Int32) (i : Nat) : bt (x ^^^ y) i = (bt x i ^^ bt y i) := by unfold bt; rw [Int32.toBitVec_xor, BitVec.getLsbD_xor]
theorem b_big {x : Int32} {i : Nat} (h : 32 ≤ i) : bt x i = false := BitVec.getLsbD_of_ge _ _ h
theorem b_m1 : ∀ i, i < 32 → bt (-1) i = true := by decide +kernel
theorem b_0 (i : Nat) : bt 0 i = false := BitVec.getLsbD_zero
theorem s_l : ∀ n, n < 32 → ((nI n &&& 31).toBitVec.smod 32).toNat = n := by decide +kernel
theorem b_shl (n : Nat) (hn : n < 32) (x : Int32) {i : Nat} (hi : i < 32) : bt (x <<< (nI n &&& 31)) i = (decide (n ≤ i) && bt x (i - n)) := by
  unfold bt
  rw [Int32.toBitVec_shiftLeft]
  show (x.toBitVec <<< ((nI n &&& 31).toBitVec.smod 32).toNat).getLsbD i = _
  rw [s_l n hn, BitVec.getLsbD_shiftLeft]
  rcases Nat.lt_or_ge i n with h | h
  · simp [h, Nat.not_le.mpr h]
  · simp [hi, h, Nat.not_lt.mpr h]
theorem b_sshr (n : Nat) (hn : n < 32) (x : Int32) {i : Nat} (hi : i < 32) : bt (x >>> (nI n &&& 31)) i = if n + i < 32 then bt x (n + i) else bt x 31 := by
  unfold bt
  rw [Int32.toBitVec_shiftRight]
  show (x.toBitVec.sshiftRight ((nI n &&& 31).toBitVec.smod 32).toNat).getLsbD i = _
  rw [s_l n hn, BitVec.getLsbD_sshiftRight, BitVec.msb_eq_getLsbD_last]
  simp [hi]
/-! ===== our own rows: numbers, bits, sums, loops ===== -/
def iI (z : Int) : Int32 := Int32.ofInt z
theorem vs_iN (n : Nat) : iI (n : Int) = nI n := by
  apply Int32.toBitVec_inj.mp
  show BitVec.ofInt 32 (n : Int) = BitVec.ofNat 32 n
  exact BitVec.ofInt_natCast 32 n
theorem vs_toInt {z : Int} (h : -2147483648 ≤ z ∧ z < 2147483648) : (iI z).toInt = z := by
  show (Int32.ofInt z).toInt = z
  rw [Int32.toInt_ofInt, show Int32.size = 4294967296 from rfl]
  exact Int.bmod_eq_of_le (by omega) (by omega)
theorem vs_le {a b : Int} (h : -2147483648 ≤ a ∧ a < 2147483648 ∧ -2147483648 ≤ b ∧ b < 2147483648) : iI a ≤ iI b ↔ a ≤ b := by
  rw [Int32.le_iff_toInt_le, vs_toInt (by omega), vs_toInt (by omega)]
theorem vs_lt {a b : Int} (h : -2147483648 ≤ a ∧ a < 2147483648 ∧ -2147483648 ≤ b ∧ b < 2147483648) : iI a < iI b ↔ a < b := by
  rw [Int32.lt_iff_toInt_lt, vs_toInt (by omega), vs_toInt (by omega)]
theorem vs_eq {a b : Int} (h : -2147483648 ≤ a ∧ a < 2147483648 ∧ -2147483648 ≤ b ∧ b < 2147483648) : iI a = iI b ↔ a = b := by
  rw [← Int32.toInt_inj, vs_toInt (by omega), vs_toInt (by omega)]
theorem vs_add (a b : Int) : iI a + iI b = iI (a + b) := (Int32.ofInt_add a b).symm
theorem vs_sub (a b : Int) : iI a - iI b = iI (a - b) := (Int32.ofInt_sub a b).symm
theorem vs_mul (a b : Int) : iI a * iI b = iI (a * b) := (Int32.ofInt_mul a b).symm
theorem vs_neg (a : Int) : -iI a = iI (-a) := (Int32.ofInt_neg a).symm
theorem vs_1 (a : Int) : iI a + 1 = iI (a + 1) := vs_add a 1
theorem vs_2 (a : Int) : iI a + 2 = iI (a + 2) := vs_add a 2
theorem vs_m1 (a : Int) : iI a + (-1) = iI (a - 1) := by
  rw [show (-1 : Int32) = iI (-1) from by decide, vs_add]; rfl
theorem vi_le {x y : Int32} {A B : Prop} (a b : Int) (f : a ≤ b → A) (g : b < a → B) (hx : x = iI a := by rfl) (hy : y = iI b := by rfl) (hr : -2147483648 ≤ a ∧ a < 2147483648 ∧ -2147483648 ≤ b ∧ b < 2147483648 := by omega) : (x ≤ y → A) ∧ (¬ x ≤ y → B) := by
  subst hx hy
  rw [vs_le hr]
  exact ⟨f, fun z => g (by omega)⟩
theorem vi_lt {x y : Int32} {A B : Prop} (a b : Int) (f : a < b → A) (g : b ≤ a → B) (hx : x = iI a := by rfl) (hy : y = iI b := by rfl) (hr : -2147483648 ≤ a ∧ a < 2147483648 ∧ -2147483648 ≤ b ∧ b < 2147483648 := by omega) : (x < y → A) ∧ (¬ x < y → B) := by
  subst hx hy
  rw [vs_lt hr]
  exact ⟨f, fun z => g (by omega)⟩
theorem vi_eq {x y : Int32} {A B : Prop} (a b : Int) (f : a = b → A) (g : a ≠ b → B) (hx : x = iI a := by rfl) (hy : y = iI b := by rfl) (hr : -2147483648 ≤ a ∧ a < 2147483648 ∧ -2147483648 ≤ b ∧ b < 2147483648 := by omega) : (x = y → A) ∧ (¬ x = y → B) := by
  subst hx hy
  rw [vs_eq hr]
  exact ⟨f, g⟩
theorem vb_1 : ∀ i, i < 32 → bt 1 i = decide (i = 0) := by decide +kernel
theorem vb_31 (i : Nat) : bt 31 i = decide (i < 5) := by
  rcases Nat.lt_or_ge i 32 with h | h
  · exact (by decide +kernel : ∀ i, i < 32 → bt 31 i = decide (i < 5)) i h
  · rw [b_big h, decide_eq_false (by omega)]
theorem vb_nI (s i : Nat) (hi : i < 32) : bt (nI s) i = s.testBit i := by
  show (BitVec.ofNat 32 s).getLsbD i = _
  rw [BitVec.getLsbD_ofNat]
  simp [hi]
theorem vb_nIs {s : Nat} (hs : s < 2 ^ 32) (i : Nat) : bt (nI s) i = s.testBit i := by
  rcases Nat.lt_or_ge i 32 with h | h
  · exact vb_nI s i h
  · rw [b_big h, Nat.testBit_lt_two_pow (Nat.lt_of_lt_of_le hs (Nat.pow_le_pow_right (by decide) h))]
theorem vb_bit (x : Int32) {j : Nat} (hj : j < 32) : (x >>> (nI j &&& 31)) &&& 1 = if bt x j then 1 else 0 := by
  apply b_ext
  intro i hi
  rw [b_and, b_sshr j hj x hi, vb_1 i hi]
  by_cases h0 : i = 0
  · subst h0
    cases hb : bt x j <;> simp [hj, hb, vb_1, b_0]
  · cases hb : bt x j <;> simp [h0, vb_1 i hi, b_0]
theorem vb_has {x : Int32} {j : Nat} (hj : j < 32) : (x >>> (nI j &&& 31)) &&& 1 = 1 ↔ bt x j = true := by
  rw [vb_bit x hj]
  cases bt x j <;> simp
theorem vb_has0 {x : Int32} {j : Nat} (hj : j < 32) : (x >>> (nI j &&& 31)) &&& 1 = 0 ↔ bt x j = false := by
  rw [vb_bit x hj]
  cases bt x j <;> simp
theorem vb_pow {c : Nat} (hc : c < 32) (i : Nat) : bt ((1 : Int32) <<< (nI c &&& 31)) i = decide (i = c) := by
  rcases Nat.lt_or_ge i 32 with h | h
  · rw [b_shl c hc _ h]
    rcases Nat.lt_or_ge i c with h2 | h2
    · simp [Nat.not_le.mpr h2, Nat.ne_of_lt h2]
    · rw [vb_1 (i - c) (by omega)]
      by_cases e : i = c
      · simp [e]
      · simp [e, h2]; omega
  · rw [b_big h, decide_eq_false (by omega)]
theorem vb_not (x : Int32) {i : Nat} (hi : i < 32) : bt (x ^^^ (-1)) i = !bt x i := by
  rw [b_xor, b_m1 i hi]; cases bt x i <;> rfl
theorem vb_lo {x : Int32} {N : Nat} (h : ∀ i, N ≤ i → bt x i = false) (hN : N ≤ 31) : ∃ s, s < 2 ^ N ∧ x = nI s := by
  refine ⟨x.toBitVec.toNat, ?_, ?_⟩
  · apply Nat.lt_pow_two_of_testBit
    intro i hi
    exact h i hi
  · apply Int32.toBitVec_inj.mp
    show x.toBitVec = BitVec.ofNat 32 _
    rw [BitVec.ofNat_toNat]; simp
/-- the set r of candidates holds just those of W -/
def isSet (r : Int32) (W : Nat → Prop) : Prop := ∀ i, bt r i = true ↔ (i < 5 ∧ W i)
theorem vb_uniq {r r' : Int32} {W : Nat → Prop} (h : isSet r W) (h' : isSet r' W) : r = r' := by
  apply b_ext
  intro i _
  have h1 := h i
  have h2 := h' i
  cases e1 : bt r i <;> cases e2 : bt r' i <;> simp_all
theorem vb_congr {r : Int32} {W W' : Nat → Prop} (h : isSet r W) (e : ∀ i, i < 5 → (W i ↔ W' i)) : isSet r W' := by
  intro i
  rw [h i]
  exact ⟨fun a => ⟨a.1, (e i a.1).mp a.2⟩, fun a => ⟨a.1, (e i a.1).mpr a.2⟩⟩
theorem vb_empty : isSet 0 (fun _ => False) := by
  intro i; rw [b_0]; simp
theorem vb_all : isSet 31 (fun _ => True) := by
  intro i; rw [vb_31]; simp
theorem vb_ins {r : Int32} {W : Nat → Prop} (h : isSet r W) {c : Nat} (hc : c < 5) : isSet (r ||| ((1 : Int32) <<< (nI c &&& 31))) (fun i => W i ∨ i = c) := by
  intro i
  rw [b_or, vb_pow (by omega), Bool.or_eq_true, h i, decide_eq_true_eq]
  constructor
  · rintro (⟨a, b⟩ | rfl)
    · exact ⟨a, Or.inl b⟩
    · exact ⟨hc, Or.inr rfl⟩
  · rintro ⟨a, b | b⟩
    · exact Or.inl ⟨a, b⟩
    · exact Or.inr b
theorem vb_del {r : Int32} {W : Nat → Prop} (h : isSet r W) {c : Nat} (hc : c < 5) : isSet (r &&& (((1 : Int32) <<< (nI c &&& 31)) ^^^ (-1))) (fun i => W i ∧ i ≠ c) := by
  intro i
  rw [b_and]
  rcases Nat.lt_or_ge i 32 with hi | hi
  · rw [vb_not _ hi, vb_pow (by omega), Bool.and_eq_true, h i]
    by_cases e : i = c <;> simp [e, and_assoc]
  · rw [b_big hi]
    simp; omega
def sm : Nat → (Nat → Int) → Int
  | 0, _ => 0
  | n + 1, f => sm n f + f n
theorem sm_congr {n : Nat} {f g : Nat → Int} (h : ∀ i, i < n → f i = g i) : sm n f = sm n g := by
  induction n with
  | zero => rfl
  | succ n ih => simp only [sm]; rw [ih (fun i hi => h i (by omega)), h n (by omega)]
theorem sm_zero {n : Nat} {f : Nat → Int} (h : ∀ i, i < n → f i = 0) : sm n f = 0 := by
  induction n with
  | zero => rfl
  | succ n ih => simp only [sm]; rw [ih (fun i hi => h i (by omega)), h n (by omega)]; rfl
theorem sm_single {n k : Nat} {f : Nat → Int} (hk : k < n) (h : ∀ i, i < n → i ≠ k → f i = 0) : sm n f = f k := by
  induction n with
  | zero => omega
  | succ n ih =>
    simp only [sm]
    by_cases e : k = n
    · subst e
      rw [sm_zero (fun i hi => h i (by omega) (by omega))]; omega
    · rw [ih (by omega) (fun i hi => h i (by omega)), h n (by omega) (by omega)]; omega
theorem sm_add (n : Nat) (f g : Nat → Int) : sm n (fun i => f i + g i) = sm n f + sm n g := by
  induction n with
  | zero => rfl
  | succ n ih => simp only [sm]; rw [ih]; omega
theorem sm_neg (n : Nat) (f : Nat → Int) : sm n (fun i => - f i) = - sm n f := by
  induction n with
  | zero => rfl
  | succ n ih => simp only [sm]; rw [ih]; omega
theorem sm_comm (n m : Nat) (f : Nat → Nat → Int) : sm n (fun i => sm m (fun j => f i j)) = sm m (fun j => sm n (fun i => f i j)) := by
  induction n with
  | zero => exact (sm_zero (fun _ _ => rfl)).symm
  | succ n ih => simp only [sm]; rw [ih, ← sm_add]
theorem sm_le {n : Nat} {f g : Nat → Int} (h : ∀ i, i < n → f i ≤ g i) : sm n f ≤ sm n g := by
  induction n with
  | zero => exact Int.le_refl 0
  | succ n ih =>
    simp only [sm]
    have a := ih (fun i hi => h i (by omega))
    have b := h n (by omega)
    omega
theorem sm_lo {n : Nat} {f : Nat → Int} {k : Int} (h : ∀ i, i < n → k ≤ f i) : k * n ≤ sm n f := by
  induction n with
  | zero => simp [sm]
  | succ n ih =>
    simp only [sm]
    have a := ih (fun i hi => h i (by omega))
    have b := h n (by omega)
    have c : k * ((n + 1 : Nat) : Int) = k * n + k := by rw [Int.natCast_add, Int.mul_add]; simp
    omega
theorem sm_hi {n : Nat} {f : Nat → Int} {k : Int} (h : ∀ i, i < n → f i ≤ k) : sm n f ≤ k * n := by
  induction n with
  | zero => simp [sm]
  | succ n ih =>
    simp only [sm]
    have a := ih (fun i hi => h i (by omega))
    have b := h n (by omega)
    have c : k * ((n + 1 : Nat) : Int) = k * n + k := by rw [Int.natCast_add, Int.mul_add]; simp
    omega
theorem vl_sum (W : Nat → Int32 → Int32 → Prop) (post : Int32 → Prop) (e : Nat) (f : Nat → Int)
    (hx : ∀ n x, post x → W (n + 1) x (nI e))
    (hs : ∀ n i z, i < e → W n (iI (z + f i)) (nI (i + 1)) → W (n + 1) (iI z) (nI i))
    (hp : post (iI (sm e f))) : ∃ n, W n 0 0 :=
  pk_loop (σ := Int32) (fun n i s => W n s (nI i)) (fun i s => s = iI (sm i f)) e 0 0 (by omega) rfl
    (fun n s h => hx n s (h ▸ hp)) (fun n i s hi h k => by
      subst h
      exact hs n i _ hi (k _ rfl))
def b01 (b : Bool) : Int := if b then 1 else 0
theorem vb_b01 (x : Int32) {j : Nat} (hj : j < 32) : (x >>> (nI j &&& 31)) &&& 1 = iI (b01 (bt x j)) := by
  rw [vb_bit x hj]; cases bt x j <;> rfl
theorem vn_5a {a b : Nat} : nI a * 5 + nI b = nI (5 * a + b) := by
  rw [show (5 : Int32) = nI 5 from rfl, pk_mul, nI_add, Nat.mul_comm]
theorem vn_5b {a b : Nat} : (5 : Int32) * nI a + nI b = nI (5 * a + b) := by
  rw [show (5 : Int32) = nI 5 from rfl, pk_mul, nI_add]
end
section
/-! ===== codes of rankings ===== -/
def rkc (o p : Nat) : Nat := o / 5 ^ (4 - p) % 5
def plc (o c : Nat) : Nat := if rkc o 0 = c then 0 else if rkc o 1 = c then 1 else if rkc o 2 = c then 2 else if rkc o 3 = c then 3 else 4
def rc_sj (o : Nat) : Bool := (List.range 5).all fun c => (List.range 5).any fun p => rkc o p == c
def rc_pm (o : Nat) : Bool := (List.range 5).all fun p => decide (rkc o p < 5) && (plc o (rkc o p) == p) && decide (plc o p < 5) && (rkc o (plc o p) == p)
theorem rc_dec : (List.range 3125).all (fun o => !rc_sj o || rc_pm o) = true := by decide +kernel
/-- the seen digits after k steps -/
def rc_sn (o : Nat) : Nat → Int32
  | 0 => 0
  | k + 1 => rc_sn o k ||| ((1 : Int32) <<< (nI (o / 5 ^ k % 5) &&& 31))
def isr (o : Nat) : Bool := decide (o < 3125) && decide (rc_sn o 5 = 31)
theorem rc_bits (o : Nat) : ∀ k i, bt (rc_sn o k) i = true ↔ ∃ j, j < k ∧ o / 5 ^ j % 5 = i := by
  intro k
  induction k with
  | zero => intro i; simp [rc_sn, b_0]
  | succ k ih =>
    intro i
    have h5 : o / 5 ^ k % 5 < 5 := Nat.mod_lt _ (by decide)
    rw [rc_sn, b_or, vb_pow (by omega), Bool.or_eq_true, ih i, decide_eq_true_eq]
    constructor
    · rintro (⟨j, a, b⟩ | e)
      · exact ⟨j, by omega, b⟩
      · exact ⟨k, by omega, e.symm⟩
    · rintro ⟨j, a, b⟩
      by_cases e : j = k
      · subst e; exact Or.inr b.symm
      · exact Or.inl ⟨j, by omega, b⟩
theorem isr_lt {o : Nat} (h : isr o = true) : o < 3125 := by
  unfold isr at h
  simp only [Bool.and_eq_true, decide_eq_true_eq] at h
  exact h.1
theorem rc_perm {o : Nat} (h : isr o = true) : rc_pm o = true := by
  have hl := isr_lt h
  unfold isr at h
  simp only [Bool.and_eq_true, decide_eq_true_eq] at h
  have hs : rc_sj o = true := by
    unfold rc_sj
    rw [List.all_eq_true]
    intro c hc
    rw [List.mem_range] at hc
    have hb := (rc_bits o 5 c).mp (by rw [h.2, vb_31, decide_eq_true hc])
    obtain ⟨j, hj, e⟩ := hb
    rw [List.any_eq_true]
    refine ⟨4 - j, by rw [List.mem_range]; omega, ?_⟩
    rw [beq_iff_eq]
    unfold rkc
    rw [show 4 - (4 - j) = j from by omega]
    exact e
  have hd := rc_dec
  rw [List.all_eq_true] at hd
  have := hd o (by rw [List.mem_range]; exact hl)
  rw [hs] at this
  simpa using this
theorem rc_all {o p : Nat} (h : isr o = true) (hp : p < 5) : rkc o p < 5 ∧ plc o (rkc o p) = p ∧ plc o p < 5 ∧ rkc o (plc o p) = p := by
  have := rc_perm h
  unfold rc_pm at this
  rw [List.all_eq_true] at this
  have := this p (by rw [List.mem_range]; exact hp)
  simp only [Bool.and_eq_true, decide_eq_true_eq, beq_iff_eq] at this
  exact ⟨this.1.1.1, this.1.1.2, this.1.2, this.2⟩
theorem rc_inj {o a b : Nat} (h : isr o = true) (ha : a < 5) (hb : b < 5) (e : plc o a = plc o b) : a = b := by
  rw [← (rc_all h ha).2.2.2, e, (rc_all h hb).2.2.2]
theorem rc_inj2 {o a b : Nat} (h : isr o = true) (ha : a < 5) (hb : b < 5) (e : rkc o a = rkc o b) : a = b := by
  rw [← (rc_all h ha).2.1, e, (rc_all h hb).2.1]
theorem rc_step {o k : Nat} : o / 5 ^ k / 5 = o / 5 ^ (k + 1) := by
  rw [Nat.div_div_eq_div_mul, Nat.pow_succ]
theorem rc_div {a : Nat} (h : a < 2 ^ 31) : nI a / 5 = nI (a / 5) := pk_div h (by decide) (by decide)
theorem rc_rem {a : Nat} (h : a < 2 ^ 31) : nI a - nI a / 5 * 5 = nI (a % 5) := pk_rem h (by decide) (by decide)
theorem rc_dl (o k : Nat) (h : o < 3125) : o / 5 ^ k < 2 ^ 31 := Nat.lt_of_le_of_lt (Nat.div_le_self _ _) (by omega)
theorem rc_xl {post : Int32 → Prop} {o : Nat} (ho : o < 3125) (hp : post (if isr o then 1 else 0)) : ∃ n, wX_isRanking_19 post n 0 (nI o) 0 := by
  refine pk_loop (σ := Int32 × Int32) (fun n i s => wX_isRanking_19 post n s.1 s.2 (nI i)) (fun i s => s = (rc_sn o i, nI (o / 5 ^ i))) 5 0 (0, nI o) (by omega) (by simp [rc_sn]) ?_ ?_
  · rintro n s rfl
    rw [wX_isRanking_19]
    refine br_t (by decide) ?_
    unfold isr at hp
    simp only [ho, decide_true, Bool.true_and, decide_eq_true_eq] at hp
    exact br_c (fun h => by rw [if_pos h] at hp; exact hp) (fun h => by rw [if_neg h] at hp; exact hp)
  · rintro n i s hi rfl hk
    rw [wX_isRanking_19]
    refine br_f (nI_ge (b := 5) hi (by decide)) ⟨by decide, nm_r rfl ⟨by decide, nm_r (rc_div (rc_dl o i ho)) (nm_r (nI_1 i) ?_)⟩⟩
    have := hk (rc_sn o (i + 1), nI (o / 5 ^ (i + 1))) rfl
    rw [rc_rem (rc_dl o i ho), rc_step]
    exact this
theorem rc_yl {post : Int32 → Prop} {yn yc : Int32} {yo yp ym ys yl yb yw yk yt yz yx : Nat → Int32} {o : Nat} (ho : o < 3125) (hp : post (if isr o then 1 else 0)) : ∃ n, wY_isOrder_21 post yn yc yo yp ym ys yl yb yw yk yt yz yx n (nI o) 0 0 := by
  refine pk_loop (σ := Int32 × Int32) (fun n i s => wY_isOrder_21 post yn yc yo yp ym ys yl yb yw yk yt yz yx n s.2 s.1 (nI i)) (fun i s => s = (rc_sn o i, nI (o / 5 ^ i))) 5 0 (0, nI o) (by omega) (by simp [rc_sn]) ?_ ?_
  · rintro n s rfl
    rw [wY_isOrder_21]
    refine br_t (by decide) ?_
    unfold isr at hp
    simp only [ho, decide_true, Bool.true_and, decide_eq_true_eq] at hp
    exact br_c (fun h => by rw [if_pos h] at hp; exact hp) (fun h => by rw [if_neg h] at hp; exact hp)
  · rintro n i s hi rfl hk
    rw [wY_isOrder_21]
    refine br_f (nI_ge (b := 5) hi (by decide)) ⟨by decide, nm_r rfl ⟨by decide, nm_r (rc_div (rc_dl o i ho)) (nm_r (nI_1 i) ?_)⟩⟩
    have := hk (rc_sn o (i + 1), nI (o / 5 ^ (i + 1))) rfl
    rw [rc_rem (rc_dl o i ho), rc_step]
    exact this
theorem x_isRanking {post : Int32 → Prop} {x : Int32} (h0 : (∀ o, isr o = true → x ≠ nI o) → post 0) (h1 : ∀ o, x = nI o → isr o = true → post 1) : wpX_isRanking post x := by
  unfold wpX_isRanking
  by_cases hn : x < 0
  · refine br_t hn (h0 fun o ho e => ?_)
    subst e
    exact nI_pos (Nat.lt_trans (isr_lt ho) (by decide)) hn
  · obtain ⟨o, ho, rfl⟩ := nI_of hn
    refine br_f hn ?_
    by_cases hl : o < 3125
    · refine br_t (nI_lt (b := 3125) hl (by decide)) (rc_xl hl ?_)
      by_cases hi : isr o = true
      · rw [if_pos hi]; exact h1 o rfl hi
      · rw [if_neg hi]
        refine h0 fun o' ho' e => hi ?_
        rw [nI_eq ho (Nat.lt_trans (isr_lt ho') (by decide))] at e
        rw [e]; exact ho'
    · refine br_f (nI_nlt (b := 3125) (by omega) ho) (h0 fun o' ho' e => ?_)
      have := isr_lt ho'
      rw [nI_eq ho (by omega)] at e
      omega
theorem y_in {post : Int32 → Prop} {v : SY} {x : Int32} {b : Int32} (lo hi : Nat) (hb : b = nI hi) (hh : hi < 2 ^ 31) (h0 : (∀ j, lo ≤ j → j ≤ hi → x ≠ nI j) → post 0) (h1 : ∀ j, lo ≤ j → j ≤ hi → x = nI j → post 1) (hlo : lo = 0 := by rfl) : wpY_in post v x 0 b := by
  obtain ⟨yn, yc, yo, yp, ym, ys, yl, yb, yw, yk, yt, yz, yx⟩ := v
  unfold wpY_in
  dsimp only
  subst hb hlo
  by_cases hn : x < 0
  · refine br_t hn (h0 fun j _ hj e => ?_)
    subst e
    exact nI_pos (by omega) hn
  · obtain ⟨o, ho, rfl⟩ := nI_of hn
    refine br_f hn ?_
    refine pk_lt hi o (fun h => h0 fun j _ hj e => ?_) (fun h => h1 o (by omega) h rfl) rfl rfl hh ho
    rw [nI_eq ho (by omega)] at e
    omega
theorem y_isOrder {post : Int32 → Prop} {v : SY} {x : Int32} (h0 : (∀ o, isr o = true → x ≠ nI o) → post 0) (h1 : ∀ o, x = nI o → isr o = true → post 1) : wpY_isOrder post v x := by
  obtain ⟨yn, yc, yo, yp, ym, ys, yl, yb, yw, yk, yt, yz, yx⟩ := v
  unfold wpY_isOrder
  dsimp only
  refine y_in 0 3124 rfl (by decide) (fun hno => br_t rfl (h0 fun o ho e => hno o (by omega) (by have := isr_lt ho; omega) e)) (fun o _ hl e => br_f (by decide) ?_)
  subst e
  refine rc_yl (by omega) ?_
  by_cases hi : isr o = true
  · rw [if_pos hi]; exact h1 o rfl hi
  · rw [if_neg hi]
    refine h0 fun o' ho' e => hi ?_
    have := isr_lt ho'
    rw [nI_eq (by omega) (by omega)] at e
    rw [e]; exact ho'
end
section
/-! ===== the ballots in both states, and the margins ===== -/
def prf (o a b : Nat) : Int := if plc o a < plc o b then 1 else if plc o b < plc o a then -1 else 0
def Mw (K : Nat → Bool) (n : Nat) (O : Nat → Nat) (a b : Nat) : Int := sm n (fun i => if K i then prf (O i) a b else 0)
def Mg (n : Nat) (O : Nat → Nat) (a b : Nat) : Int := Mw (fun _ => true) n O a b
/-- the component's ballot i is o -/
def zBX (o i : Nat) (u : SX) : Prop := isr o = true ∧ u.2.1 i = nI o ∧ (∀ p, p < 5 → u.2.2.1 (5 * i + p) = nI (rkc o p)) ∧ (∀ c, c < 5 → u.2.2.2.1 (5 * i + c) = nI (plc o c))
/-- the component's ballots -/
def zRB (n : Nat) (O : Nat → Nat) (u : SX) : Prop := n ≤ 9 ∧ u.1 = nI n ∧ ∀ i, i < n → zBX (O i) i u
/-- the component's margins -/
def zRM (n : Nat) (O : Nat → Nat) (u : SX) : Prop := (∀ a b, a < 5 → b < 5 → u.2.2.2.2.1 (5 * a + b) = iI (Mg n O a b)) ∧ (∀ a, a < 5 → isSet (u.2.2.2.2.2.1 a) (fun b => 0 < Mg n O a b))
def zRX (n : Nat) (O : Nat → Nat) (u : SX) : Prop := zRB n O u ∧ zRM n O u
/-- the reference's ballots -/
def zBY (o i : Nat) (v : SY) : Prop := isr o = true ∧ v.2.2.1 i = nI o ∧ (∀ c, c < 5 → v.2.2.2.1 (5 * i + c) = nI (plc o c))
def zRY (n : Nat) (O : Nat → Nat) (v : SY) : Prop := n ≤ 9 ∧ v.1 = nI n ∧ ∀ i, i < n → zBY (O i) i v
def zRYM (n : Nat) (O : Nat → Nat) (v : SY) : Prop := zRY n O v ∧ ∀ a b, a < 5 → b < 5 → v.2.2.2.2.1 (5 * a + b) = iI (Mg n O a b)
theorem ve_p (e : Nat) : iI (((e + 1 : Nat) : Int) - 1) = nI e := by
  rw [← vs_iN]; exact congrArg iI (by omega)
theorem ve_m (e : Nat) : nI e + (-1) = iI ((e : Int) - 1) := by
  rw [← vs_iN, vs_m1]
theorem x_read {post : SX → Prop} {xc : Int32} {xo xr xp xm xb xs xq xn xu xl xg xk xt xw xv : Nat → Int32} {i o : Nat} (hi : i < 9) (ho : isr o = true) (hx : xo i = nI o)
    (hp : ∀ r' p' : Nat → Int32, zBX o i (xc, xo, r', p', xm, xb, xs, xq, xn, xu, xl, xg, xk, xt, xw, xv) → (∀ j o', j ≠ i → zBX o' j (xc, xo, xr, xp, xm, xb, xs, xq, xn, xu, xl, xg, xk, xt, xw, xv) → zBX o' j (xc, xo, r', p', xm, xb, xs, xq, xn, xu, xl, xg, xk, xt, xw, xv)) → post (xc, xo, r', p', xm, xb, xs, xq, xn, xu, xl, xg, xk, xt, xw, xv)) :
    wpX_readRanking post (xc, xo, xr, xp, xm, xb, xs, xq, xn, xu, xl, xg, xk, xt, xw, xv) (nI i) := by
  unfold wpX_readRanking
  dsimp only
  refine ⟨vp_in_nI hi (by decide), ?_⟩
  rw [nI_clamp (by omega)]
  refine nm_r hx ⟨6, ?_⟩
  have hol := isr_lt ho
  have key := pk_loopD (σ := Int32 × (Nat → Int32) × (Nat → Int32)) (fun n e s => wX_readRanking_9 post (nI i) xc n s.1 (iI ((e : Int) - 1)) xo s.2.1 s.2.2 xm xb xs xq xn xu xl xg xk xt xw xv)
    (fun e s => e ≤ 5 ∧ s.1 = nI (o / 5 ^ (5 - e)) ∧ (∀ q, e ≤ q → q < 5 → s.2.1 (5 * i + q) = nI (rkc o q) ∧ s.2.2 (5 * i + rkc o q) = nI q) ∧ ∀ j, (j < 5 * i ∨ 5 * i + 5 ≤ j) → s.2.1 j = xr j ∧ s.2.2 j = xp j)
    (by
      rintro n ⟨x2, r', p'⟩ ⟨_, _, h3, h4⟩
      dsimp only
      rw [wX_readRanking_9]
      refine br_t (by decide) (hp r' p' ⟨ho, hx, fun q hq => (h3 q (by omega) hq).1, fun c hc => ?_⟩ (fun j o' hj hB => ⟨hB.1, hB.2.1, fun q hq => by rw [← hB.2.2.1 q hq]; exact (h4 _ (by omega)).1, fun q hq => by rw [← hB.2.2.2 q hq]; exact (h4 _ (by omega)).2⟩))
      have hr := rc_all ho hc
      have := (h3 (plc o c) (by omega) hr.2.2.1).2
      rw [hr.2.2.2] at this
      exact this)
    (by
      rintro n e ⟨x2, r', p'⟩ ⟨h1, h2, h3, h4⟩ hk
      dsimp only at h2 h3 h4 ⊢
      subst h2
      rw [ve_p, wX_readRanking_9, show 5 - (e + 1) = 4 - e from by omega]
      have hq := rc_all ho (show e < 5 by omega)
      have hq1 : nI (o / 5 ^ (4 - e)) - nI (o / 5 ^ (4 - e)) / 5 * 5 = nI (rkc o e) := rc_rem (rc_dl o _ hol)
      have hq2 : nI (o / 5 ^ (4 - e)) / 5 = nI (o / 5 ^ (5 - e)) := by
        rw [rc_div (rc_dl o _ hol), rc_step, show 4 - e + 1 = 5 - e from by omega]
      refine br_f (nI_pos (by omega)) ⟨by decide, nm_r hq1 ⟨by decide, nm_r hq2 ⟨by rw [vn_5a]; exact vp_in_nI (by omega) (by decide), nm_r (e' := upd r' (5 * i + e) (nI (rkc o e))) (by rw [vn_5a, nI_clamp (by omega)]) ⟨by rw [vn_5a]; exact vp_in_nI (by omega) (by decide), nm_r (e' := upd p' (5 * i + rkc o e) (nI e)) (by rw [vn_5a, nI_clamp (by omega)]) (nm_r (ve_m e) ?_)⟩⟩⟩⟩
      refine hk (nI (o / 5 ^ (5 - e)), upd r' (5 * i + e) (nI (rkc o e)), upd p' (5 * i + rkc o e) (nI e)) ⟨by omega, rfl, fun q hq1 hq2 => ?_, fun j hj => ?_⟩
      · dsimp only
        by_cases eq : q = e
        · subst eq; exact ⟨pk_us, pk_us⟩
        · have hr := rc_all ho hq2
          have hne : rkc o q ≠ rkc o e := fun z => eq (rc_inj2 ho hq2 (by omega) z)
          rw [pk_un (by omega), pk_un (by omega)]
          exact h3 q (by omega) hq2
      · dsimp only
        rw [pk_un (by omega), pk_un (by omega)]
        exact h4 j hj)
  have k5 := key 5 (nI o, xr, xp) ⟨by omega, by simp, fun q h1 h2 => by omega, fun j _ => ⟨rfl, rfl⟩⟩
  dsimp only at k5
  rw [show iI (((5 : Nat) : Int) - 1) = 4 from by decide] at k5
  exact k5
theorem y_write {post : SY → Prop} {yn yc : Int32} {yo yp ym ys yl yb yw yk yt yz yx : Nat → Int32} {i o : Nat} (hi : i < 9) (ho : isr o = true)
    (hp : ∀ p' : Nat → Int32, zBY o i (yn, yc, (upd yo i (nI o)), p', ym, ys, yl, yb, yw, yk, yt, yz, yx) → (∀ j o', j ≠ i → zBY o' j (yn, yc, yo, yp, ym, ys, yl, yb, yw, yk, yt, yz, yx) → zBY o' j (yn, yc, (upd yo i (nI o)), p', ym, ys, yl, yb, yw, yk, yt, yz, yx)) → post (yn, yc, (upd yo i (nI o)), p', ym, ys, yl, yb, yw, yk, yt, yz, yx)) :
    wpY_write post (yn, yc, yo, yp, ym, ys, yl, yb, yw, yk, yt, yz, yx) (nI i) (nI o) := by
  unfold wpY_write
  dsimp only
  refine ⟨vp_in_nI hi (by decide), ?_⟩
  rw [nI_clamp (by omega)]
  refine nm_e ⟨6, ?_⟩
  have hol := isr_lt ho
  have key := pk_loopD (σ := Int32 × (Nat → Int32)) (fun n e s => wY_write_12 post (nI i) yn yc n s.1 (iI ((e : Int) - 1)) (upd yo i (nI o)) s.2 ym ys yl yb yw yk yt yz yx)
    (fun e s => e ≤ 5 ∧ s.1 = nI (o / 5 ^ (5 - e)) ∧ (∀ q, e ≤ q → q < 5 → s.2 (5 * i + rkc o q) = nI q) ∧ ∀ j, (j < 5 * i ∨ 5 * i + 5 ≤ j) → s.2 j = yp j)
    (by
      rintro n ⟨x2, p'⟩ ⟨_, _, h3, h4⟩
      dsimp only
      rw [wY_write_12]
      refine br_t (by decide) (hp p' ⟨ho, pk_us, fun c hc => ?_⟩ (fun j o' hj hB => ⟨hB.1, (pk_un hj).trans hB.2.1, fun q hq => by rw [← hB.2.2 q hq]; exact h4 _ (by omega)⟩))
      have hr := rc_all ho hc
      have := h3 (plc o c) (by omega) hr.2.2.1
      rw [hr.2.2.2] at this
      exact this)
    (by
      rintro n e ⟨x2, p'⟩ ⟨h1, h2, h3, h4⟩ hk
      dsimp only at h2 h3 h4 ⊢
      subst h2
      rw [ve_p, wY_write_12, show 5 - (e + 1) = 4 - e from by omega]
      have hq := rc_all ho (show e < 5 by omega)
      have hq1 : nI (o / 5 ^ (4 - e)) - nI (o / 5 ^ (4 - e)) / 5 * 5 = nI (rkc o e) := rc_rem (rc_dl o _ hol)
      have hq2 : nI (o / 5 ^ (4 - e)) / 5 = nI (o / 5 ^ (5 - e)) := by
        rw [rc_div (rc_dl o _ hol), rc_step, show 4 - e + 1 = 5 - e from by omega]
      refine br_f (nI_pos (by omega)) ⟨by decide, by rw [hq1, vn_5b]; exact vp_in_nI (by omega) (by decide), nm_r (e' := upd p' (5 * i + rkc o e) (nI e)) (by rw [hq1, vn_5b, nI_clamp (by omega)]) ⟨by decide, nm_r hq2 (nm_r (ve_m e) ?_)⟩⟩
      refine hk (nI (o / 5 ^ (5 - e)), upd p' (5 * i + rkc o e) (nI e)) ⟨by omega, rfl, fun q hq1 hq2 => ?_, fun j hj => ?_⟩
      · dsimp only
        by_cases eq : q = e
        · subst eq; exact pk_us
        · have hr := rc_all ho hq2
          have hne : rkc o q ≠ rkc o e := fun z => eq (rc_inj2 ho hq2 (by omega) z)
          rw [pk_un (by omega)]
          exact h3 q (by omega) hq2
      · dsimp only
        rw [pk_un (by omega)]
        exact h4 j hj)
  have k5 := key 5 (nI o, yp) ⟨by omega, by simp, fun q h1 h2 => by omega, fun j _ => rfl⟩
  dsimp only at k5
  rw [show iI (((5 : Nat) : Int) - 1) = 4 from by decide] at k5
  exact k5
theorem x_mw {post : Int32 → Prop} {xc : Int32} {xo xr xp xm xb xs xq xn xu xl xg xk xt xw xv : Nat → Int32} {n : Nat} {O : Nat → Nat} (h : zRB n O (xc, xo, xr, xp, xm, xb, xs, xq, xn, xu, xl, xg, xk, xt, xw, xv)) {a b : Nat} (ha : a < 5) (hb : b < 5) (S : Int32) (hp : post (iI (Mw (fun i => !bt S i) n O a b))) :
    wpX_marginWithout post (xc, xo, xr, xp, xm, xb, xs, xq, xn, xu, xl, xg, xk, xt, xw, xv) (nI a) (nI b) S := by
  obtain ⟨hn, h1, h2⟩ := h
  have h4 : ∀ i, i < n → ∀ c, c < 5 → xp (5 * i + c) = nI (plc (O i) c) := fun i hi => (h2 i hi).2.2.2
  dsimp only at h1
  unfold wpX_marginWithout
  dsimp only
  subst h1
  refine vl_sum (fun m x4 x5 => wX_marginWithout_6 post (nI a) (nI b) S (nI n) xo xr xp xm xb xs xq xn xu xl xg xk xt xw xv m x4 x5) post n (fun i => if !bt S i then prf (O i) a b else 0) ?_ ?_ hp
  · intro m x hx
    rw [wX_marginWithout_6]
    exact br_t (nI_le (Nat.le_refl n) (by omega)) hx
  · intro m i z hi hW
    rw [wX_marginWithout_6]
    have pa := (rc_all (h2 i hi).1 ha).2.2.1
    have pb := (rc_all (h2 i hi).1 hb).2.2.1
    refine br_f (nI_ge hi (by omega)) ⟨by rw [vn_5a]; exact vp_in_nI (by omega) (by decide), nm_r (e' := nI (plc (O i) a)) (by rw [vn_5a, nI_clamp (by omega), h4 i hi a ha]) ⟨by rw [vn_5a]; exact vp_in_nI (by omega) (by decide), nm_r (e' := nI (plc (O i) b)) (by rw [vn_5a, nI_clamp (by omega), h4 i hi b hb]) ?_⟩⟩
    cases hbt : bt S i with
    | false =>
      refine br_t ((vb_has0 (by omega)).mpr hbt) ?_
      rw [hbt] at hW
      unfold wX_marginWithout_55
      refine br_f (by decide) (pk_le _ _ (fun hle => ?_) (fun hlt => ?_) rfl rfl (by omega) (by omega))
      · unfold wX_marginWithout_75
        refine br_f (by decide) (pk_le _ _ (fun hle2 => ?_) (fun hlt => ?_) rfl rfl (by omega) (by omega))
        · refine nm_r (nI_1 i) ?_
          simp only [prf, if_neg (show ¬ plc (O i) a < plc (O i) b by omega), if_neg (show ¬ plc (O i) b < plc (O i) a by omega)] at hW
          simpa using hW
        · refine nm_r (vs_m1 z) (nm_r (nI_1 i) ?_)
          simp only [prf, if_neg (show ¬ plc (O i) a < plc (O i) b by omega), if_pos (show plc (O i) b < plc (O i) a by omega)] at hW
          exact hW
      · refine nm_r (vs_1 z) (nm_r (nI_1 i) ?_)
        simp only [prf, if_pos (show plc (O i) a < plc (O i) b by omega)] at hW
        exact hW
    | true =>
      refine br_f (fun hh => by rw [vb_has0 (by omega), hbt] at hh; cases hh) ?_
      rw [hbt] at hW
      unfold wX_marginWithout_55
      refine br_t rfl ?_
      unfold wX_marginWithout_75
      refine br_t rfl (nm_r (nI_1 i) ?_)
      simpa using hW
theorem y_mo {post : Int32 → Prop} {yn yc : Int32} {yo yp ym ys yl yb yw yk yt yz yx : Nat → Int32} {n : Nat} {O : Nat → Nat} (h : zRY n O (yn, yc, yo, yp, ym, ys, yl, yb, yw, yk, yt, yz, yx)) {a b : Nat} (ha : a < 5) (hb : b < 5) (S : Int32) (hp : post (iI (Mw (fun i => bt S i) n O a b))) :
    wpY_marginOf post (yn, yc, yo, yp, ym, ys, yl, yb, yw, yk, yt, yz, yx) (nI a) (nI b) S := by
  obtain ⟨hn, h1, h2⟩ := h
  have h4 : ∀ i, i < n → ∀ c, c < 5 → yp (5 * i + c) = nI (plc (O i) c) := fun i hi => (h2 i hi).2.2
  dsimp only at h1
  unfold wpY_marginOf
  dsimp only
  subst h1
  refine vl_sum (fun m x4 x5 => wY_marginOf_6 post (nI a) (nI b) S (nI n) yc yo yp ym ys yl yb yw yk yt yz yx m x4 x5) post n (fun i => if bt S i then prf (O i) a b else 0) ?_ ?_ hp
  · intro m x hx
    rw [wY_marginOf_6]
    exact br_t (nI_le (Nat.le_refl n) (by omega)) hx
  · intro m i z hi hW
    rw [wY_marginOf_6]
    have pa := (rc_all (h2 i hi).1 ha).2.2.1
    have pb := (rc_all (h2 i hi).1 hb).2.2.1
    refine br_f (nI_ge hi (by omega)) ?_
    cases hbt : bt S i with
    | true =>
      refine br_t ((vb_has (by omega)).mpr hbt) ?_
      rw [hbt] at hW
      refine pk_eq a b (fun e => ?_) (fun hne => ?_)
      · subst e
        refine nm_r (nI_1 i) ?_
        simpa [prf] using hW
      · have hpn : plc (O i) a ≠ plc (O i) b := fun z => hne (rc_inj (h2 i hi).1 ha hb z)
        refine ⟨by rw [vn_5b]; exact vp_in_nI (by omega) (by decide), by rw [vn_5b]; exact vp_in_nI (by omega) (by decide), ?_⟩
        rw [vn_5b, vn_5b, nI_clamp (by omega), nI_clamp (by omega), h4 i hi a ha, h4 i hi b hb]
        refine pk_le _ _ (fun hle => ?_) (fun hlt => ?_) rfl rfl (by omega) (by omega)
        · refine nm_r (vs_m1 z) (nm_r (nI_1 i) ?_)
          simp only [prf, if_neg (show ¬ plc (O i) a < plc (O i) b by omega), if_pos (show plc (O i) b < plc (O i) a by omega)] at hW
          exact hW
        · refine nm_r (vs_1 z) (nm_r (nI_1 i) ?_)
          simp only [prf, if_pos (show plc (O i) a < plc (O i) b by omega)] at hW
          exact hW
    | false =>
      refine br_f (fun hh => by rw [vb_has (by omega), hbt] at hh; cases hh) (nm_r (nI_1 i) ?_)
      rw [hbt] at hW
      simpa using hW
theorem Mw_congr {K K' : Nat → Bool} {n : Nat} {O O' : Nat → Nat} {a b : Nat} (h : ∀ i, i < n → K i = K' i) (ho : ∀ i, i < n → O i = O' i) : Mw K n O a b = Mw K' n O' a b :=
  sm_congr fun i hi => by rw [h i hi, ho i hi]
theorem prf_anti (o a b : Nat) : prf o a b = - prf o b a := by
  unfold prf
  by_cases h1 : plc o a < plc o b
  · rw [if_pos h1, if_neg (by omega), if_pos h1]; rfl
  · by_cases h2 : plc o b < plc o a
    · rw [if_neg h1, if_pos h2, if_pos h2]
    · rw [if_neg h1, if_neg h2, if_neg h2, if_neg h1]; rfl
theorem Mw_anti (K : Nat → Bool) (n : Nat) (O : Nat → Nat) (a b : Nat) : Mw K n O a b = - Mw K n O b a := by
  unfold Mw
  rw [← sm_neg]
  refine sm_congr fun i _ => ?_
  skip
  by_cases h : K i = true
  · rw [if_pos h, if_pos h, prf_anti]
  · rw [if_neg h, if_neg h]; rfl
theorem Mg_anti (n : Nat) (O : Nat → Nat) (a b : Nat) : Mg n O a b = - Mg n O b a := Mw_anti _ n O a b
theorem Mg_self (n : Nat) (O : Nat → Nat) (a : Nat) : Mg n O a a = 0 := by
  have := Mg_anti n O a a; omega
theorem Mw_bd (K : Nat → Bool) (n : Nat) (O : Nat → Nat) (a b : Nat) : - (n : Int) ≤ Mw K n O a b ∧ Mw K n O a b ≤ n := by
  have h : ∀ i, i < n → (-1 : Int) ≤ (if K i then prf (O i) a b else 0) ∧ (if K i then prf (O i) a b else 0) ≤ (1 : Int) := by
    intro i _
    unfold prf
    split
    · split
      · omega
      · split <;> omega
    · omega
  have h1 := sm_lo (n := n) (k := -1) (fun i hi => (h i hi).1)
  have h2 := sm_hi (n := n) (k := 1) (fun i hi => (h i hi).2)
  unfold Mw
  omega
theorem Mg_bd {n : Nat} (hn : n ≤ 9) (O : Nat → Nat) (a b : Nat) : -9 ≤ Mg n O a b ∧ Mg n O a b ≤ 9 := by
  have := Mw_bd (fun _ => true) n O a b
  unfold Mg; omega
theorem Mw_0 (n : Nat) (O : Nat → Nat) (a b : Nat) : Mw (fun i => !bt 0 i) n O a b = Mg n O a b :=
  Mw_congr (fun i _ => by rw [b_0]; rfl) (fun _ _ => rfl)
theorem vb_511 : ∀ i, i < 9 → bt 511 i = true := by decide +kernel
theorem Mw_511 {n : Nat} (hn : n ≤ 9) (O : Nat → Nat) (a b : Nat) : Mw (fun i => bt 511 i) n O a b = Mg n O a b :=
  Mw_congr (fun i hi => vb_511 i (by omega)) (fun _ _ => rfl)
/-- the relation speaks of the first six fields alone (a change further down is never compared by unfolding: that costs the kernel too much) -/
theorem rx_any {n : Nat} {O : Nat → Nat} {xc : Int32} {xo xr xp xm xb : Nat → Int32} {r r' : (Nat → Int32) × (Nat → Int32) × (Nat → Int32) × (Nat → Int32) × (Nat → Int32) × (Nat → Int32) × (Nat → Int32) × (Nat → Int32) × (Nat → Int32) × (Nat → Int32)} (h : zRX n O (xc, xo, xr, xp, xm, xb, r)) : zRX n O (xc, xo, xr, xp, xm, xb, r') := h
theorem ry_any {n : Nat} {O : Nat → Nat} {yn yc yc' : Int32} {yo yp : Nat → Int32} {r r' : (Nat → Int32) × (Nat → Int32) × (Nat → Int32) × (Nat → Int32) × (Nat → Int32) × (Nat → Int32) × (Nat → Int32) × (Nat → Int32) × (Nat → Int32)} (h : zRY n O (yn, yc, yo, yp, r)) : zRY n O (yn, yc', yo, yp, r') := h
theorem rm_any {n : Nat} {O : Nat → Nat} {yn yc yc' : Int32} {yo yp ym : Nat → Int32} {r r' : (Nat → Int32) × (Nat → Int32) × (Nat → Int32) × (Nat → Int32) × (Nat → Int32) × (Nat → Int32) × (Nat → Int32) × (Nat → Int32)} (h : zRYM n O (yn, yc, yo, yp, ym, r)) : zRYM n O (yn, yc', yo, yp, ym, r') := h
/-- and the places before, as gain set them down -/
def zRV (n : Nat) (O : Nat → Nat) (V : Nat → Int32) (u : SX) : Prop := zRX n O u ∧ u.2.2.2.2.2.2.2.2.2.2.2.2.2.2.2 = V
theorem rv_any {n : Nat} {O : Nat → Nat} {V : Nat → Int32} {xc : Int32} {xo xr xp xm xb a1 a2 a3 a4 a5 a6 a7 a8 a9 b1 b2 b3 b4 b5 b6 b7 b8 b9 xv : Nat → Int32} (h : zRV n O V (xc, xo, xr, xp, xm, xb, a1, a2, a3, a4, a5, a6, a7, a8, a9, xv)) : zRV n O V (xc, xo, xr, xp, xm, xb, b1, b2, b3, b4, b5, b6, b7, b8, b9, xv) := ⟨rx_any h.1, (h.2 : xv = V)⟩
end
section
/-! ===== counting margins; ballot, drop, order, margin, leader, ballots ===== -/
theorem x_cm {post : SX → Prop} {xc : Int32} {xo xr xp xm xb xs xq xn xu xl xg xk xt xw xv : Nat → Int32} {n : Nat} {O : Nat → Nat} (h : zRB n O (xc, xo, xr, xp, xm, xb, xs, xq, xn, xu, xl, xg, xk, xt, xw, xv)) (hp : ∀ m' b' : Nat → Int32, zRM n O (xc, xo, xr, xp, m', b', xs, xq, xn, xu, xl, xg, xk, xt, xw, xv) → post (xc, xo, xr, xp, m', b', xs, xq, xn, xu, xl, xg, xk, xt, xw, xv)) :
    wpX_countMargins post (xc, xo, xr, xp, xm, xb, xs, xq, xn, xu, xl, xg, xk, xt, xw, xv) := by
  unfold wpX_countMargins
  dsimp only
  have hn := h.1
  refine pk_loop (σ := (Nat → Int32) × (Nat → Int32)) (fun k a s => wX_countMargins_2 post xc k (nI a) xo xr xp s.1 s.2 xs xq xn xu xl xg xk xt xw xv)
    (fun a s => (∀ a' b', a' < a → b' < 5 → s.1 (5 * a' + b') = iI (Mg n O a' b')) ∧ (∀ a', a' < a → isSet (s.2 a') (fun b => 0 < Mg n O a' b))) 5 0 (xm, xb) (by omega) ⟨fun a' b' h1 => by omega, fun a' h1 => by omega⟩ ?_ ?_
  · rintro k ⟨m', b'⟩ ⟨h1, h2⟩
    dsimp only at h1 h2 ⊢
    rw [wX_countMargins_2]
    exact br_t (by decide) (hp m' b' ⟨fun a b ha hb => h1 a b ha hb, fun a ha => h2 a ha⟩)
  · rintro k a ⟨m', b'⟩ ha ⟨h1, h2⟩ hk
    dsimp only at h1 h2 hk ⊢
    rw [wX_countMargins_2]
    refine br_f (nI_ge (b := 5) ha (by decide)) ⟨vp_in_nI ha (by decide), nm_r (e' := upd b' a 0) (by rw [nI_clamp (by omega)]) ?_⟩
    refine pk_loop (σ := (Nat → Int32) × (Nat → Int32)) (fun k' b s => wX_countMargins_16 post (wX_countMargins_2 post xc k) (nI a) xc k' (nI b) xo xr xp s.1 s.2 xs xq xn xu xl xg xk xt xw xv)
      (fun b s => (∀ a' b', (a' < a ∧ b' < 5) ∨ (a' = a ∧ b' < b) → s.1 (5 * a' + b') = iI (Mg n O a' b')) ∧ (∀ a', a' < a → isSet (s.2 a') (fun b => 0 < Mg n O a' b)) ∧ isSet (s.2 a) (fun d => d < b ∧ 0 < Mg n O a d)) 5 0 (m', upd b' a 0) (by omega) ?_ ?_ ?_
    · refine ⟨fun a' b'' h3 => ?_, fun a' h3 => ?_, ?_⟩
      · dsimp only; rcases h3 with h3 | h3
        · exact h1 a' b'' h3.1 h3.2
        · omega
      · dsimp only; rw [pk_un (by omega)]; exact h2 a' h3
      · dsimp only; rw [pk_us]; exact vb_congr vb_empty (fun i _ => by simp)
    · rintro k' ⟨m2, b2⟩ ⟨g1, g2, g3⟩
      dsimp only at g1 g2 g3 ⊢
      rw [wX_countMargins_16]
      refine br_t (by decide) (nm_r (nI_1 a) (hk (m2, b2) ⟨fun a' b' h3 h4 => ?_, fun a' h3 => ?_⟩))
      · by_cases e : a' = a
        · exact g1 a' b' (Or.inr ⟨e, h4⟩)
        · exact g1 a' b' (Or.inl ⟨by omega, h4⟩)
      · by_cases e : a' = a
        · subst e; exact vb_congr g3 (fun i hi => by simp [hi])
        · exact g2 a' (by omega)
    · rintro k' b ⟨m2, b2⟩ hb ⟨g1, g2, g3⟩ hk'
      dsimp only at g1 g2 g3 hk' ⊢
      rw [wX_countMargins_16]
      refine br_f (nI_ge (b := 5) hb (by decide)) (x_mw (n := n) (O := O) ?_ ha hb 0 ?_)
      · exact h
      rw [Mw_0]
      have hbd := Mg_bd hn O a b
      have hm : ∀ a' b', (a' < a ∧ b' < 5) ∨ (a' = a ∧ b' < b + 1) → upd m2 (5 * a + b) (iI (Mg n O a b)) (5 * a' + b') = iI (Mg n O a' b') := by
        intro a' b' h3
        by_cases e : a' = a ∧ b' = b
        · rw [e.1, e.2, pk_us]
        · rw [pk_un (by omega)]
          exact g1 a' b' (by omega)
      refine ⟨by rw [vn_5a]; exact vp_in_nI (by omega) (by decide), nm_r (e' := upd m2 (5 * a + b) (iI (Mg n O a b))) (by rw [vn_5a, nI_clamp (by omega)]) (vi_le (Mg n O a b) 0 (fun hle => ?_) (fun hlt => ?_))⟩
      · refine nm_r (nI_1 b) (hk' (_, b2) ⟨hm, g2, ?_⟩)
        refine vb_congr g3 (fun i hi => ⟨fun z => ⟨by omega, z.2⟩, fun z => ⟨?_, z.2⟩⟩)
        by_cases e : i = b
        · subst e; omega
        · omega
      · refine ⟨vp_in_nI ha (by decide), vp_in_nI ha (by decide), nm_r (e' := upd b2 a (b2 a ||| ((1 : Int32) <<< (nI b &&& 31)))) (by rw [nI_clamp (by omega)]) (nm_r (nI_1 b) (hk' (upd m2 (5 * a + b) (iI (Mg n O a b)), upd b2 a (b2 a ||| ((1 : Int32) <<< (nI b &&& 31)))) ⟨hm, fun a' h3 => ?_, ?_⟩))⟩
        · dsimp only; rw [pk_un (by omega)]; exact g2 a' h3
        · dsimp only; rw [pk_us]
          refine vb_congr (vb_ins g3 hb) (fun i hi => ?_)
          constructor
          · rintro (z | rfl)
            · exact ⟨by omega, z.2⟩
            · exact ⟨by omega, hlt⟩
          · intro z
            by_cases e : i = b
            · exact Or.inr e
            · exact Or.inl ⟨by omega, z.2⟩
theorem y_ct {post : SY → Prop} {yn yc : Int32} {yo yp ym ys yl yb yw yk yt yz yx : Nat → Int32} {n : Nat} {O : Nat → Nat} (h : zRY n O (yn, yc, yo, yp, ym, ys, yl, yb, yw, yk, yt, yz, yx)) (hp : ∀ m' : Nat → Int32, zRYM n O (yn, yc, yo, yp, m', ys, yl, yb, yw, yk, yt, yz, yx) → post (yn, yc, yo, yp, m', ys, yl, yb, yw, yk, yt, yz, yx)) :
    wpY_count post (yn, yc, yo, yp, ym, ys, yl, yb, yw, yk, yt, yz, yx) := by
  unfold wpY_count
  dsimp only
  have hn := h.1
  refine pk_loop (σ := (Nat → Int32)) (fun k j s => wY_count_2 post yn yc k (nI j) yo yp s ys yl yb yw yk yt yz yx)
    (fun j s => ∀ q, q < j → s q = iI (Mg n O (q / 5) (q % 5))) 25 0 ym (by omega) (fun q hq => by omega) ?_ ?_
  · intro k s hs
    rw [wY_count_2]
    refine br_t (by decide) (hp s ⟨h, fun a b ha hb => ?_⟩)
    have := hs (5 * a + b) (by omega)
    rw [show (5 * a + b) / 5 = a from by omega, show (5 * a + b) % 5 = b from by omega] at this
    exact this
  · intro k j s hj hs hk
    rw [wY_count_2]
    refine br_f (nI_ge (b := 25) hj (by decide)) ⟨by decide, by decide, ?_⟩
    rw [rc_rem (show j < 2 ^ 31 by omega), rc_div (show j < 2 ^ 31 by omega)]
    refine y_mo (n := n) (O := O) (a := j / 5) (b := j % 5) ?_ (by omega) (by omega) 511 ?_
    · exact h
    rw [Mw_511 hn]
    refine ⟨vp_in_nI hj (by decide), nm_r (e' := upd s j (iI (Mg n O (j / 5) (j % 5)))) (by rw [nI_clamp (by omega)]) (nm_r (nI_1 j) (hk (upd s j (iI (Mg n O (j / 5) (j % 5)))) (fun q hq => ?_)))⟩
    by_cases e : q = j
    · subst e; exact pk_us
    · rw [pk_un e]; exact hs q (by omega)
theorem x_has {post : Int32 → Prop} {x : Int32} {j : Nat} (hj : j < 32) (h1 : bt x j = true → post 1) (h0 : bt x j = false → post 0) : wpX_has post x (nI j) := by
  unfold wpX_has
  refine br_c (fun h => h1 ((vb_has hj).mp h)) (fun h => h0 ?_)
  rw [vb_has hj] at h
  simpa using h
theorem y_be {post : Int32 → Prop} {yn yc : Int32} {yo yp ym ys yl yb yw yk yt yz yx : Nat → Int32} {n : Nat} {O : Nat → Nat} (h : zRYM n O (yn, yc, yo, yp, ym, ys, yl, yb, yw, yk, yt, yz, yx)) {a b : Nat} (ha : a < 5) (hb : b < 5) (h1 : 0 < Mg n O a b → post 1) (h0 : Mg n O a b ≤ 0 → post 0) : wpY_beats post (yn, yc, yo, yp, ym, ys, yl, yb, yw, yk, yt, yz, yx) (nI a) (nI b) := by
  have hm := h.2 a b ha hb
  have hbd := Mg_bd h.1.1 O a b
  dsimp only at hm
  unfold wpY_beats
  dsimp only
  rw [vn_5b, nI_clamp (by omega), hm]
  exact ⟨vp_in_nI (by omega) (by decide), vi_le (Mg n O a b) 0 h0 h1⟩
theorem y_bb {post : Int32 → Prop} {yn yc : Int32} {yo yp ym ys yl yb yw yk yt yz yx : Nat → Int32} {n : Nat} {O : Nat → Nat} (h : zRYM n O (yn, yc, yo, yp, ym, ys, yl, yb, yw, yk, yt, yz, yx)) {a : Nat} (ha : a < 5) (hp : ∀ r, isSet r (fun b => 0 < Mg n O a b) → post r) : wpY_beatenBy post (yn, yc, yo, yp, ym, ys, yl, yb, yw, yk, yt, yz, yx) (nI a) := by
  unfold wpY_beatenBy
  dsimp only
  refine pk_loop (σ := Int32) (fun k b s => wY_beatenBy_4 post (nI a) yn yc yo yp ym ys yl yb yw yk yt yz yx k s (nI b)) (fun b s => isSet s (fun d => d < b ∧ 0 < Mg n O a d)) 5 0 0 (by omega) (vb_congr vb_empty (fun i _ => by simp)) ?_ ?_
  · intro k s hs
    rw [wY_beatenBy_4]
    exact br_t (by decide) (hp s (vb_congr hs (fun i hi => by simp [hi])))
  · intro k b s hb hs hk
    rw [wY_beatenBy_4]
    refine br_f (nI_ge (b := 5) hb (by decide)) (y_be h ha hb (fun hlt => br_f (by decide) (nm_e (nm_r (nI_1 b) (hk _ (vb_congr (vb_ins hs hb) (fun i hi => ?_)))))) (fun hle => br_t rfl (nm_r (nI_1 b) (hk _ (vb_congr hs (fun i hi => ?_))))))
    · constructor
      · rintro (z | rfl)
        · exact ⟨by omega, z.2⟩
        · exact ⟨by omega, hlt⟩
      · intro z
        by_cases e : i = b
        · exact Or.inr e
        · exact Or.inl ⟨by omega, z.2⟩
    · refine ⟨fun z => ⟨by omega, z.2⟩, fun z => ⟨?_, z.2⟩⟩
      by_cases e : i = b
      · subst e; omega
      · omega
theorem x_cand {post : Int32 → Prop} {x : Int32} (h0 : (∀ c, c < 5 → x ≠ nI c) → post 0) (h1 : ∀ c, c < 5 → x = nI c → post 1) : wpX_isCandidate post x := by
  unfold wpX_isCandidate
  by_cases hn : x < 0
  · refine br_t hn (h0 fun c hc e => ?_)
    subst e
    exact nI_pos (by omega) hn
  · obtain ⟨o, ho, rfl⟩ := nI_of hn
    refine br_f hn (pk_le 5 o (fun h => h0 fun c hc e => ?_) (fun h => h1 o h rfl) rfl rfl (by omega) ho)
    rw [nI_eq ho (by omega)] at e
    omega
theorem x_rule {post : Int32 → Prop} {x : Int32} (h0 : (∀ c, c ≤ 16 → x ≠ nI c) → post 0) (h1 : ∀ c, c ≤ 16 → x = nI c → post 1) : wpX_isRule post x := by
  unfold wpX_isRule
  by_cases hn : x < 0
  · refine br_t hn (h0 fun c hc e => ?_)
    subst e
    exact nI_pos (by omega) hn
  · obtain ⟨o, ho, rfl⟩ := nI_of hn
    refine br_f hn (pk_lt 16 o (fun h => h0 fun c hc e => ?_) (fun h => h1 o h rfl) rfl rfl (by omega) ho)
    rw [nI_eq ho (by omega)] at e
    omega
theorem x_isB {post : Int32 → Prop} {xc : Int32} {xo xr xp xm xb xs xq xn xu xl xg xk xt xw xv : Nat → Int32} {n : Nat} (hn : n ≤ 9) (hc : xc = nI n) {x : Int32} (h0 : (∀ i, i < n → x ≠ nI i) → post 0) (h1 : ∀ i, i < n → x = nI i → post 1) : wpX_isBallot post (xc, xo, xr, xp, xm, xb, xs, xq, xn, xu, xl, xg, xk, xt, xw, xv) x := by
  unfold wpX_isBallot
  dsimp only
  subst hc
  by_cases hn : x < 0
  · refine br_t hn (h0 fun c hc e => ?_)
    subst e
    exact nI_pos (by omega) hn
  · obtain ⟨o, ho, rfl⟩ := nI_of hn
    refine br_f hn (pk_le n o (fun h => h0 fun c hc e => ?_) (fun h => h1 o h rfl) rfl rfl (by omega) ho)
    rw [nI_eq ho (by omega)] at e
    omega
/-- the reference's question whether i is a ballot: its upper bound is n - 1, which may be -1 -/
theorem y_isB {post : Int32 → Prop} {v : SY} {n : Nat} {yn : Int32} (hn : n ≤ 9) (hc : yn = nI n) {x : Int32} (h0 : (∀ i, i < n → x ≠ nI i) → post 0) (h1 : ∀ i, i < n → x = nI i → post 1) : wpY_in post v x 0 (yn - 1) := by
  subst hc
  cases n with
  | zero =>
    obtain ⟨yn, yc, yo, yp, ym, ys, yl, yb, yw, yk, yt, yz, yx⟩ := v
    unfold wpY_in
    dsimp only
    by_cases hn : x < 0
    · exact br_t hn (h0 fun c hc e => by omega)
    · refine br_f hn (br_t ?_ (h0 fun c hc e => by omega))
      obtain ⟨o, ho, rfl⟩ := nI_of hn
      rw [Int32.lt_iff_toInt_lt, nI_toInt ho]
      have : (nI 0 - 1 : Int32).toInt = -1 := by decide
      omega
  | succ m =>
    rw [nI_pred]
    exact y_in 0 m rfl (by omega) (fun hh => h0 fun i hi => hh i (by omega) (by omega)) (fun j _ hj e => h1 j (by omega) e)
/-- the relation: the same ballots; the component's margins are those of the ballots -/
def i_Rel (k : Nat) (u : SX) (v : SY) : Prop := ∃ (n : Nat) (O : Nat → Nat), zRX n O u ∧ zRY n O v
theorem i_up {k : Nat} {u : SX} {v : SY} (h : i_Rel k u v) : i_Rel (k + 3) u v := h
theorem i_vc0 : wpX_init (fun u => wpY_init (fun v => i_Rel 0 u v)) := by
  refine ⟨0, fun _ => 0, ⟨⟨by omega, rfl, fun i hi => by omega⟩, fun a b ha hb => ?_, fun a ha => ?_⟩, ⟨by omega, rfl, fun i hi => by omega⟩⟩
  · rfl
  · exact vb_congr vb_empty (fun i _ => by simp [Mg, Mw, sm])
def upn (O : Nat → Nat) (k o : Nat) : Nat → Nat := fun j => if j = k then o else O j
theorem upn_s (O : Nat → Nat) (k o : Nat) : upn O k o k = o := if_pos rfl
theorem upn_n (O : Nat → Nat) {k o j : Nat} (h : j ≠ k) : upn O k o j = O j := if_neg h
theorem i_vc_ballot {k : Nat} {u : SX} {v : SY} (I : i_Rel k u v) (hk : k + 3 ≤ 1536) (v1 : Int32) : wpX_ballot (fun r u' => wpY_ballot (fun r' v' => r' = r ∧ i_Rel (k + 3) u' v') v v1) u v1 := by
  have I0 := I
  obtain ⟨n, O, ⟨⟨hn, hc, hB⟩, hM⟩, ⟨_, hc', hB'⟩⟩ := I
  obtain ⟨xc, xo, xr, xp, xm, xb, xs, xq, xn, xu, xl, xg, xk, xt, xw, xv⟩ := u
  obtain ⟨yn, yc, yo, yp, ym, ys, yl, yb, yw, yk, yt, yz, yx⟩ := v
  dsimp only at hc hc'
  subst hc hc'
  unfold wpX_ballot
  dsimp only
  by_cases h9 : n < 9
  · refine br_t (nI_lt (b := 9) h9 (by decide)) (x_isRanking (fun hno => br_t rfl ?_) (fun o e ho => br_f (by decide) ?_))
    · unfold wpY_ballot
      dsimp only
      refine br_f (fun h => by rw [show (9 : Int32) = nI 9 from rfl, nI_eq (by omega) (by omega)] at h; omega) (y_isOrder (fun _ => br_t rfl ⟨rfl, I0⟩) (fun o e ho => absurd e (hno o ho)))
    · subst e
      refine ⟨vp_in_nI h9 (by decide), nm_r (e' := upd xo n (nI o)) (by rw [nI_clamp (by omega)]) (x_read h9 ho pk_us (fun r' p' g1 g2 => ?_))⟩
      refine nm_r (nI_1 n) ?_
      have hRB : zRB (n + 1) (upn O n o) ((nI (n + 1)), (upd xo n (nI o)), r', p', xm, xb, xs, xq, xn, xu, xl, xg, xk, xt, xw, xv) := by
        refine ⟨by omega, rfl, fun i hi => ?_⟩
        by_cases e : i = n
        · subst e; rw [upn_s]; exact g1
        · rw [upn_n O e]
          refine g2 i (O i) e ?_
          have := hB i (by omega)
          exact ⟨this.1, (pk_un e).trans this.2.1, this.2.2⟩
      refine x_cm hRB (fun m' b' hM' => ?_)
      unfold wpY_ballot
      dsimp only
      refine br_f (fun h => by rw [show (9 : Int32) = nI 9 from rfl, nI_eq (by omega) (by omega)] at h; omega) (y_isOrder (fun hno => absurd rfl (hno o ho)) (fun _ _ _ => br_f (by decide) (y_write h9 ho (fun p'' q1 q2 => nm_r (nI_1 n) ⟨rfl, n + 1, upn O n o, ⟨hRB, hM'⟩, ⟨by omega, rfl, fun i hi => ?_⟩⟩))))
      by_cases e : i = n
      · subst e; rw [upn_s]; exact q1
      · rw [upn_n O e]
        exact q2 i (O i) e (hB' i (by omega))
  · have e : n = 9 := by omega
    subst e
    refine br_f (by decide) ?_
    unfold wpY_ballot
    exact br_t rfl ⟨rfl, I0⟩
theorem i_vc_order {k : Nat} {u : SX} {v : SY} (I : i_Rel k u v) (hk : k + 3 ≤ 1536) (v1 : Int32) : wpX_order (fun r => wpY_order (fun r' => r' = r ∧ i_Rel (k + 3) u v) v v1) u v1 := by
  have I0 := I
  obtain ⟨n, O, ⟨⟨hn, hc, hB⟩, hM⟩, ⟨_, hc', hB'⟩⟩ := I
  obtain ⟨xc, xo, xr, xp, xm, xb, xs, xq, xn, xu, xl, xg, xk, xt, xw, xv⟩ := u
  obtain ⟨yn, yc, yo, yp, ym, ys, yl, yb, yw, yk, yt, yz, yx⟩ := v
  dsimp only at hc hc'
  unfold wpX_order
  dsimp only
  refine x_isB hn hc (fun hno => br_t rfl ?_) (fun i hi e => br_f (by decide) ?_)
  · unfold wpY_order
    dsimp only
    exact y_isB hn hc' (fun _ => br_t rfl ⟨rfl, I0⟩) (fun i hi e => absurd e (hno i hi))
  · subst e
    refine ⟨vp_in_nI (by omega) (by decide), ?_⟩
    unfold wpY_order
    dsimp only
    refine y_isB hn hc' (fun hno => absurd rfl (hno i hi)) (fun _ _ _ => br_f (by decide) ⟨vp_in_nI (by omega) (by decide), ?_, I0⟩)
    rw [nI_clamp (by omega)]
    exact (hB' i hi).2.1.trans (hB i hi).2.1.symm
theorem i_vc_margin {k : Nat} {u : SX} {v : SY} (I : i_Rel k u v) (hk : k + 3 ≤ 1536) (v1 : Int32) (v2 : Int32) : wpX_margin (fun r => wpY_margin (fun r' => r' = r ∧ i_Rel (k + 3) u v) v v1 v2) u v1 v2 := by
  have I0 := I
  obtain ⟨n, O, ⟨⟨hn, hc, hB⟩, hM⟩, hY⟩ := I
  obtain ⟨xc, xo, xr, xp, xm, xb, xs, xq, xn, xu, xl, xg, xk, xt, xw, xv⟩ := u
  obtain ⟨yn, yc, yo, yp, ym, ys, yl, yb, yw, yk, yt, yz, yx⟩ := v
  unfold wpX_margin
  dsimp only
  refine x_cand (fun hno => br_t rfl ?_) (fun a ha e => br_f (by decide) ?_)
  · unfold wpY_margin
    dsimp only
    exact y_in 0 4 rfl (by decide) (fun _ => br_t rfl ⟨rfl, I0⟩) (fun j _ hj e => absurd e (hno j (by omega)))
  · subst e
    refine x_cand (fun hno => br_t rfl ?_) (fun b hb e => br_f (by decide) ?_)
    · unfold wpY_margin
      dsimp only
      refine y_in 0 4 rfl (by decide) (fun hh => absurd rfl (hh a (by omega) (by omega))) (fun _ _ _ _ => br_f (by decide) ?_)
      exact y_in 0 4 rfl (by decide) (fun _ => br_t rfl ⟨rfl, I0⟩) (fun j _ hj e => absurd e (hno j (by omega)))
    · subst e
      have hm := hM.1 a b ha hb
      dsimp only at hm
      rw [vn_5a, nI_clamp (by omega), hm]
      refine ⟨vp_in_nI (by omega) (by decide), ?_⟩
      unfold wpY_margin
      dsimp only
      refine y_in 0 4 rfl (by decide) (fun hh => absurd rfl (hh a (by omega) (by omega))) (fun _ _ _ _ => br_f (by decide) ?_)
      refine y_in 0 4 rfl (by decide) (fun hh => absurd rfl (hh b (by omega) (by omega))) (fun _ _ _ _ => br_f (by decide) ?_)
      refine y_mo hY ha hb 511 ?_
      rw [Mw_511 hn]
      exact ⟨rfl, I0⟩
theorem i_vc_ballots {k : Nat} {u : SX} {v : SY} (I : i_Rel k u v) (hk : k + 3 ≤ 1536) : wpX_ballots (fun r => wpY_ballots (fun r' => r' = r ∧ i_Rel (k + 3) u v) v) u := by
  have I0 := I
  obtain ⟨n, O, ⟨⟨hn, hc, hB⟩, hM⟩, ⟨_, hc', hB'⟩⟩ := I
  obtain ⟨xc, xo, xr, xp, xm, xb, xs, xq, xn, xu, xl, xg, xk, xt, xw, xv⟩ := u
  obtain ⟨yn, yc, yo, yp, ym, ys, yl, yb, yw, yk, yt, yz, yx⟩ := v
  exact ⟨hc'.trans hc.symm, I0⟩
end
section
/-! ===== drop and leader ===== -/
def drn (O : Nat → Nat) (i : Nat) : Nat → Nat := fun j => if j < i then O j else O (j + 1)
theorem x_drop {post : Int32 → SX → Prop} {u : SX} {n : Nat} {O : Nat → Nat} {i : Nat} (hn : n < 9) (hi : i ≤ n) (hc : u.1 = nI n) (hB : ∀ j, j < n + 1 → zBX (O j) j u)
    (hp : ∀ u', zRX n (drn O i) u' → post (nI n) u') : ∃ m, wX_drop_24 post m (nI i) u.1 u.2.1 u.2.2.1 u.2.2.2.1 u.2.2.2.2.1 u.2.2.2.2.2.1 u.2.2.2.2.2.2.1 u.2.2.2.2.2.2.2.1 u.2.2.2.2.2.2.2.2.1 u.2.2.2.2.2.2.2.2.2.1 u.2.2.2.2.2.2.2.2.2.2.1 u.2.2.2.2.2.2.2.2.2.2.2.1 u.2.2.2.2.2.2.2.2.2.2.2.2.1 u.2.2.2.2.2.2.2.2.2.2.2.2.2.1 u.2.2.2.2.2.2.2.2.2.2.2.2.2.2.1 u.2.2.2.2.2.2.2.2.2.2.2.2.2.2.2 := by
  refine pk_loop (σ := SX) (fun m k s => wX_drop_24 post m (nI k) s.1 s.2.1 s.2.2.1 s.2.2.2.1 s.2.2.2.2.1 s.2.2.2.2.2.1 s.2.2.2.2.2.2.1 s.2.2.2.2.2.2.2.1 s.2.2.2.2.2.2.2.2.1 s.2.2.2.2.2.2.2.2.2.1 s.2.2.2.2.2.2.2.2.2.2.1 s.2.2.2.2.2.2.2.2.2.2.2.1 s.2.2.2.2.2.2.2.2.2.2.2.2.1 s.2.2.2.2.2.2.2.2.2.2.2.2.2.1 s.2.2.2.2.2.2.2.2.2.2.2.2.2.2.1 s.2.2.2.2.2.2.2.2.2.2.2.2.2.2.2) (fun k s => i ≤ k ∧ s.1 = nI n ∧ (∀ j, j < k → zBX (drn O i j) j s) ∧ ∀ j, k ≤ j → j < n + 1 → zBX (O j) j s) n i u hi ⟨Nat.le_refl i, hc, fun j hj => ?_, fun j _ h => hB j h⟩ ?_ ?_
  · unfold drn; rw [if_pos hj]; exact hB j (by omega)
  · rintro m ⟨xc, xo, xr, xp, xm, xb, xs, xq, xn, xu, xl, xg, xk, xt, xw, xv⟩ ⟨_, h1, h2, h3⟩
    dsimp only at h1 ⊢
    subst h1
    rw [wX_drop_24]
    have hRB : zRB n (drn O i) ((nI n), xo, xr, xp, xm, xb, xs, xq, xn, xu, xl, xg, xk, xt, xw, xv) := ⟨by omega, rfl, fun j hj => h2 j hj⟩
    exact br_t (nI_le (Nat.le_refl n) (by omega)) (x_cm hRB (fun m' b' hM => hp _ ⟨hRB, hM⟩))
  · rintro m k ⟨xc, xo, xr, xp, xm, xb, xs, xq, xn, xu, xl, xg, xk, xt, xw, xv⟩ hk ⟨hik, h1, h2, h3⟩ hK
    dsimp only at h1 hK ⊢
    subst h1
    rw [wX_drop_24]
    have hb := h3 (k + 1) (by omega) (by omega)
    refine br_f (nI_ge hk (by omega)) ⟨by rw [nI_1]; exact vp_in_nI (by omega) (by decide), vp_in_nI (by omega) (by decide), nm_r (e' := upd xo k (nI (O (k + 1)))) (by rw [nI_1, nI_clamp (by omega), nI_clamp (by omega)]; exact congrArg _ hb.2.1) ?_⟩
    refine x_read (by omega) hb.1 pk_us (fun r' p' g1 g2 => nm_r (nI_1 k) ?_)
    have hg : ∀ j o', j ≠ k → zBX o' j ((nI n), xo, xr, xp, xm, xb, xs, xq, xn, xu, xl, xg, xk, xt, xw, xv) → zBX o' j ((nI n), (upd xo k (nI (O (k + 1)))), r', p', xm, xb, xs, xq, xn, xu, xl, xg, xk, xt, xw, xv) := by
      intro j o' hj hb'
      exact g2 j o' hj ⟨hb'.1, (pk_un hj).trans hb'.2.1, hb'.2.2⟩
    refine hK ((nI n), (upd xo k (nI (O (k + 1)))), r', p', xm, xb, xs, xq, xn, xu, xl, xg, xk, xt, xw, xv) ⟨by omega, rfl, fun j hj => ?_, fun j h4 h5 => hg j _ (by omega) (h3 j (by omega) h5)⟩
    by_cases e : j = k
    · subst e
      unfold drn
      rw [if_neg (by omega)]
      exact g1
    · exact hg j _ e (h2 j (by omega))
theorem y_drop {post : Int32 → SY → Prop} {v : SY} {n : Nat} {O : Nat → Nat} {i : Nat} (hn : n < 9) (hi : i ≤ n) (hc : v.1 = nI (n + 1)) (hB : ∀ j, j < n + 1 → zBY (O j) j v)
    (hp : ∀ v', zRY n (drn O i) v' → post (nI n) v') : ∃ m, wY_drop_21 post m (nI i) v.1 v.2.1 v.2.2.1 v.2.2.2.1 v.2.2.2.2.1 v.2.2.2.2.2.1 v.2.2.2.2.2.2.1 v.2.2.2.2.2.2.2.1 v.2.2.2.2.2.2.2.2.1 v.2.2.2.2.2.2.2.2.2.1 v.2.2.2.2.2.2.2.2.2.2.1 v.2.2.2.2.2.2.2.2.2.2.2.1 v.2.2.2.2.2.2.2.2.2.2.2.2 := by
  refine pk_loop (σ := SY) (fun m k s => wY_drop_21 post m (nI k) s.1 s.2.1 s.2.2.1 s.2.2.2.1 s.2.2.2.2.1 s.2.2.2.2.2.1 s.2.2.2.2.2.2.1 s.2.2.2.2.2.2.2.1 s.2.2.2.2.2.2.2.2.1 s.2.2.2.2.2.2.2.2.2.1 s.2.2.2.2.2.2.2.2.2.2.1 s.2.2.2.2.2.2.2.2.2.2.2.1 s.2.2.2.2.2.2.2.2.2.2.2.2) (fun k s => i ≤ k ∧ s.1 = nI (n + 1) ∧ (∀ j, j < k → zBY (drn O i j) j s) ∧ ∀ j, k ≤ j → j < n + 1 → zBY (O j) j s) n i v hi ⟨Nat.le_refl i, hc, fun j hj => ?_, fun j _ h => hB j h⟩ ?_ ?_
  · unfold drn; rw [if_pos hj]; exact hB j (by omega)
  · rintro m ⟨yn, yc, yo, yp, ym, ys, yl, yb, yw, yk, yt, yz, yx⟩ ⟨_, h1, h2, h3⟩
    dsimp only at h1 ⊢
    subst h1
    rw [wY_drop_21]
    refine br_t (by rw [nI_pred]; exact nI_le (Nat.le_refl n) (by omega)) (nm_r (nI_pred n) (hp _ ⟨by omega, rfl, fun j hj => h2 j hj⟩))
  · rintro m k ⟨yn, yc, yo, yp, ym, ys, yl, yb, yw, yk, yt, yz, yx⟩ hk ⟨hik, h1, h2, h3⟩ hK
    dsimp only at h1 hK ⊢
    subst h1
    rw [wY_drop_21]
    have hb := h3 (k + 1) (by omega) (by omega)
    have hb2 : yo (k + 1) = nI (O (k + 1)) := hb.2.1
    refine br_f (by rw [nI_pred]; exact nI_ge hk (by omega)) ⟨by rw [nI_1]; exact vp_in_nI (by omega) (by decide), ?_⟩
    rw [nI_1, nI_clamp (by omega), hb2]
    refine y_write (by omega) hb.1 (fun p' g1 g2 => nm_e ?_)
    refine hK ((nI (n + 1)), yc, (upd yo k (nI (O (k + 1)))), p', ym, ys, yl, yb, yw, yk, yt, yz, yx) ⟨by omega, rfl, fun j hj => ?_, fun j h4 h5 => g2 j _ (by omega) (h3 j (by omega) h5)⟩
    by_cases e : j = k
    · subst e
      unfold drn
      rw [if_neg (by omega)]
      exact g1
    · exact g2 j _ e (h2 j (by omega))
theorem i_vc_drop {k : Nat} {u : SX} {v : SY} (I : i_Rel k u v) (hk : k + 3 ≤ 1536) (v1 : Int32) : wpX_drop (fun r u' => wpY_drop (fun r' v' => r' = r ∧ i_Rel (k + 3) u' v') v v1) u v1 := by
  have I0 := I
  obtain ⟨n, O, ⟨⟨hn, hc, hB⟩, hM⟩, ⟨_, hc', hB'⟩⟩ := I
  obtain ⟨xc, xo, xr, xp, xm, xb, xs, xq, xn, xu, xl, xg, xk, xt, xw, xv⟩ := u
  obtain ⟨yn, yc, yo, yp, ym, ys, yl, yb, yw, yk, yt, yz, yx⟩ := v
  dsimp only at hc hc'
  unfold wpX_drop
  dsimp only
  refine x_isB hn hc (fun hno => br_t rfl ?_) (fun i hi e => br_f (by decide) ?_)
  · unfold wpY_drop
    dsimp only
    exact y_isB hn hc' (fun _ => br_t rfl ⟨rfl, I0⟩) (fun i hi e => absurd e (hno i hi))
  · subst e
    obtain ⟨m, rfl⟩ : ∃ m, n = m + 1 := ⟨n - 1, by omega⟩
    refine nm_r (e' := nI m) (by rw [hc]; exact nI_pred m) ?_
    refine x_drop (u := ((nI m), xo, xr, xp, xm, xb, xs, xq, xn, xu, xl, xg, xk, xt, xw, xv)) (n := m) (O := O) (i := i) (by omega) (by omega) rfl hB (fun u' hX => ?_)
    unfold wpY_drop
    dsimp only
    refine y_isB hn hc' (fun hno => absurd rfl (hno i hi)) (fun _ _ _ => br_f (by decide) ?_)
    exact y_drop (v := (yn, yc, yo, yp, ym, ys, yl, yb, yw, yk, yt, yz, yx)) (n := m) (O := O) (i := i) (by omega) (by omega) hc' hB' (fun v' hY => ⟨rfl, m, drn O i, hX, hY⟩)
def Ld (n : Nat) (O : Nat → Nat) (c : Nat) : Prop := ∀ d, d < 5 → d ≠ c → 0 < Mg n O c d
theorem ld_iff {n : Nat} {O : Nat → Nat} {c : Nat} {r : Int32} (hc : c < 5) (h : isSet r (fun b => 0 < Mg n O c b)) : (r ||| ((1 : Int32) <<< (nI c &&& 31))) = 31 ↔ Ld n O c := by
  have h2 := vb_ins h hc
  constructor
  · intro e d hd hne
    rw [e] at h2
    have := (h2 d).mp (by rw [vb_31]; simpa using hd)
    rcases this.2 with z | z
    · exact z
    · exact absurd z hne
  · intro hl
    refine vb_uniq (W := fun _ => True) (vb_congr h2 (fun i hi => ⟨fun _ => trivial, fun _ => ?_⟩)) vb_all
    by_cases e : i = c
    · exact Or.inr e
    · exact Or.inl (hl i hi e)
theorem x_leader {post : Int32 → Prop} {xc : Int32} {xo xr xp xm xb xs xq xn xu xl xg xk xt xw xv : Nat → Int32} {n : Nat} {O : Nat → Nat} (h : zRX n O (xc, xo, xr, xp, xm, xb, xs, xq, xn, xu, xl, xg, xk, xt, xw, xv)) (h1 : ∀ c, c < 5 → Ld n O c → (∀ d, d < c → ¬ Ld n O d) → post (nI c)) (h0 : (∀ c, c < 5 → ¬ Ld n O c) → post (-1002)) : wpX_leader post (xc, xo, xr, xp, xm, xb, xs, xq, xn, xu, xl, xg, xk, xt, xw, xv) := by
  unfold wpX_leader
  dsimp only
  refine pk_loop (σ := Unit) (fun m k _ => wX_leader_2 post xc xo xr xp xm xb xs xq xn xu xl xg xk xt xw xv m (nI k)) (fun k _ => ∀ d, d < k → ¬ Ld n O d) 5 0 () (by omega) (fun d hd => by omega) ?_ ?_
  · intro m _ hs
    rw [wX_leader_2]
    exact br_t (by decide) (h0 hs)
  · intro m k _ hk hs hK
    rw [wX_leader_2]
    refine br_f (nI_ge (b := 5) hk (by decide)) ⟨vp_in_nI hk (by decide), ?_⟩
    rw [nI_clamp (by omega)]
    have hl := ld_iff hk (h.2.2 k hk)
    refine br_c (fun e => h1 k hk (hl.mp e) hs) (fun e => nm_r (nI_1 k) (hK () (fun d hd => ?_)))
    by_cases e2 : d = k
    · subst e2; exact fun z => e (hl.mpr z)
    · exact hs d (by omega)
theorem y_leader {post : Int32 → SY → Prop} {yn yc : Int32} {yo yp ym ys yl yb yw yk yt yz yx : Nat → Int32} {n : Nat} {O : Nat → Nat} (h : zRY n O (yn, yc, yo, yp, ym, ys, yl, yb, yw, yk, yt, yz, yx)) (h1 : ∀ c v', zRY n O v' → c < 5 → Ld n O c → (∀ d, d < c → ¬ Ld n O d) → post (nI c) v') (h0 : ∀ v', zRY n O v' → (∀ c, c < 5 → ¬ Ld n O c) → post (-1002) v') : wpY_leader post (yn, yc, yo, yp, ym, ys, yl, yb, yw, yk, yt, yz, yx) := by
  unfold wpY_leader
  dsimp only
  refine y_ct h (fun m' hM => ?_)
  refine pk_loop (σ := Unit) (fun m k _ => wY_leader_6 post yn yc yo yp m' ys yl yb yw yk yt yz yx m (nI k)) (fun k _ => ∀ d, d < k → ¬ Ld n O d) 5 0 () (by omega) (fun d hd => by omega) ?_ ?_
  · intro m _ hs
    rw [wY_leader_6]
    exact br_t (by decide) (h0 _ hM.1 hs)
  · intro m k _ hk hs hK
    rw [wY_leader_6]
    refine br_f (nI_ge (b := 5) hk (by decide)) (y_bb hM hk (fun r hr => ?_))
    have hl := ld_iff hk hr
    refine br_c (fun e => h1 k _ hM.1 hk (hl.mp e) hs) (fun e => nm_r (nI_1 k) (hK () (fun d hd => ?_)))
    by_cases e2 : d = k
    · subst e2; exact fun z => e (hl.mpr z)
    · exact hs d (by omega)
theorem i_vc_leader {k : Nat} {u : SX} {v : SY} (I : i_Rel k u v) (hk : k + 3 ≤ 1536) : wpX_leader (fun r => wpY_leader (fun r' v' => r' = r ∧ i_Rel (k + 3) u v') v) u := by
  obtain ⟨n, O, hX, hY⟩ := I
  obtain ⟨xc, xo, xr, xp, xm, xb, xs, xq, xn, xu, xl, xg, xk, xt, xw, xv⟩ := u
  obtain ⟨yn, yc, yo, yp, ym, ys, yl, yb, yw, yk, yt, yz, yx⟩ := v
  refine x_leader hX (fun c hc hl hm => y_leader hY (fun c' v' hY' hc' hl' hm' => ⟨?_, n, O, hX, hY'⟩) (fun v' hY' h0 => absurd hl (h0 c hc))) (fun h0 => y_leader hY (fun c' v' hY' hc' hl' hm' => absurd hl' (h0 c' hc')) (fun v' hY' _ => ⟨rfl, n, O, hX, hY'⟩))
  rcases Nat.lt_trichotomy c c' with h | h | h
  · exact absurd hl (hm' c h)
  · rw [h]
  · exact absurd hl' (hm c' h)
end
section
/-! ===== members before and behind, the scores by rule 0, 1, 2 among a set ===== -/
def szI (s : Int32) : Int := sm 10 (fun j => b01 (bt s j))
def bh (o c : Nat) (s : Int32) : Int := sm 5 (fun a => b01 (bt s a && decide (plc o c < plc o a)))
def bf (o c : Nat) (s : Int32) : Int := sm 5 (fun a => b01 (bt s a && decide (plc o a < plc o c)))
def vt (r o c : Nat) (s : Int32) : Int := if r = 0 then (if bf o c s = 0 then 1 else 0) else if r = 1 then (if bh o c s = 0 then -1 else 0) else bh o c s
def Vs (r c : Nat) (s : Int32) (n : Nat) (O : Nat → Nat) : Int := sm n (fun i => vt r (O i) c s)
theorem b01_bd (b : Bool) : 0 ≤ b01 b ∧ b01 b ≤ 1 := by cases b <;> decide
theorem bh_bd (o c : Nat) (s : Int32) : 0 ≤ bh o c s ∧ bh o c s ≤ 5 := by
  have h1 := sm_lo (n := 5) (k := 0) (f := fun a => b01 (bt s a && decide (plc o c < plc o a))) (fun i _ => (b01_bd _).1)
  have h2 := sm_hi (n := 5) (k := 1) (f := fun a => b01 (bt s a && decide (plc o c < plc o a))) (fun i _ => (b01_bd _).2)
  unfold bh; omega
theorem bf_bd (o c : Nat) (s : Int32) : 0 ≤ bf o c s ∧ bf o c s ≤ 5 := by
  have h1 := sm_lo (n := 5) (k := 0) (f := fun a => b01 (bt s a && decide (plc o a < plc o c))) (fun i _ => (b01_bd _).1)
  have h2 := sm_hi (n := 5) (k := 1) (f := fun a => b01 (bt s a && decide (plc o a < plc o c))) (fun i _ => (b01_bd _).2)
  unfold bf; omega
theorem szI_bd (s : Int32) : 0 ≤ szI s ∧ szI s ≤ 10 := by
  have h1 := sm_lo (n := 10) (k := 0) (f := fun a => b01 (bt s a)) (fun i _ => (b01_bd _).1)
  have h2 := sm_hi (n := 10) (k := 1) (f := fun a => b01 (bt s a)) (fun i _ => (b01_bd _).2)
  unfold szI; omega
theorem vt_bd (r o c : Nat) (s : Int32) : -1 ≤ vt r o c s ∧ vt r o c s ≤ 5 := by
  have := bh_bd o c s
  unfold vt
  split
  · split <;> omega
  · split
    · split <;> omega
    · omega
theorem Vs_bd {n : Nat} (hn : n ≤ 9) (r c : Nat) (s : Int32) (O : Nat → Nat) : -9 ≤ Vs r c s n O ∧ Vs r c s n O ≤ 45 := by
  have h1 := sm_lo (n := n) (k := -1) (f := fun i => vt r (O i) c s) (fun i _ => (vt_bd _ _ _ _).1)
  have h2 := sm_hi (n := n) (k := 5) (f := fun i => vt r (O i) c s) (fun i _ => (vt_bd _ _ _ _).2)
  unfold Vs; omega
theorem sz_split {o c : Nat} {s : Int32} (ho : isr o = true) (hc : c < 5) (hb : bt s c = true) (hs : ∀ j, 5 ≤ j → bt s j = false) : szI s = bh o c s + bf o c s + 1 := by
  have e1 : szI s = sm 5 (fun j => b01 (bt s j)) := by
    unfold szI
    simp only [sm, hs 5 (by omega), hs 6 (by omega), hs 7 (by omega), hs 8 (by omega), hs 9 (by omega), b01]
    simp
  have e2 : sm 5 (fun j => b01 (bt s j)) = sm 5 (fun a => (b01 (bt s a && decide (plc o c < plc o a)) + b01 (bt s a && decide (plc o a < plc o c))) + (if a = c then 1 else 0)) := by
    refine sm_congr fun a ha => ?_
    by_cases e : a = c
    · subst e
      simp [hb, b01]
    · have hne : plc o a ≠ plc o c := fun z => e (rc_inj ho ha hc z)
      rw [if_neg e]
      cases bt s a
      · rfl
      · rcases Nat.lt_or_gt_of_ne hne with h | h
        · simp [b01, h, Nat.not_lt.mpr (Nat.le_of_lt h)]
        · simp [b01, h, Nat.not_lt.mpr (Nat.le_of_lt h)]
  rw [e1, e2, sm_add, sm_add, sm_single (f := fun a => if a = c then (1 : Int) else 0) hc (fun i _ hi => if_neg hi)]
  simp [bh, bf]
theorem sm_perm {o : Nat} (ho : isr o = true) (g : Nat → Int) : sm 5 g = sm 5 (fun a => g (plc o a)) := by
  have e1 : sm 5 g = sm 5 (fun q => sm 5 (fun a => if plc o a = q then g q else 0)) := by
    refine sm_congr fun q hq => ?_
    have hr := rc_all ho hq
    rw [sm_single (f := fun a => if plc o a = q then g q else 0) hr.1 (fun a ha hne => if_neg (fun z => hne (by rw [← z, (rc_all ho ha).2.2.2])))]
    rw [if_pos hr.2.1]
  rw [e1, sm_comm]
  refine sm_congr fun a ha => ?_
  have hr := rc_all ho ha
  rw [sm_single (f := fun q => if plc o a = q then g q else 0) hr.2.2.1 (fun q _ hne => if_neg (fun z => hne z.symm)), if_pos rfl]
theorem x_size {post : Int32 → Prop} {s : Int32} (hp : post (iI (szI s))) : wpX_sizeOf post s := by
  unfold wpX_sizeOf
  refine vl_sum (fun m x1 x2 => wX_sizeOf_4 post s m x1 x2) post 10 (fun j => b01 (bt s j)) ?_ ?_ hp
  · intro m x hx
    rw [wX_sizeOf_4]
    exact br_t (by decide) hx
  · intro m i z hi hW
    rw [wX_sizeOf_4]
    exact br_f (nI_ge (b := 10) hi (by decide)) (nm_r (by rw [vb_b01 s (by omega), vs_add]) (nm_r (nI_1 i) hW))
theorem x_mb {post : Int32 → Prop} {xc : Int32} {xo xr xp xm xb xs xq xn xu xl xg xk xt xw xv : Nat → Int32} {n : Nat} {O : Nat → Nat} (h : zRB n O (xc, xo, xr, xp, xm, xb, xs, xq, xn, xu, xl, xg, xk, xt, xw, xv)) {i c : Nat} (hi : i < n) (hc : c < 5) (s : Int32) (hp : post (iI (bh (O i) c s))) :
    wpX_membersBehind post (xc, xo, xr, xp, xm, xb, xs, xq, xn, xu, xl, xg, xk, xt, xw, xv) (nI i) (nI c) s := by
  obtain ⟨hn, h1, h2⟩ := h
  have hB := h2 i hi
  have ho := hB.1
  have h3 : ∀ p, p < 5 → xr (5 * i + p) = nI (rkc (O i) p) := hB.2.2.1
  have h4 : ∀ c, c < 5 → xp (5 * i + c) = nI (plc (O i) c) := hB.2.2.2
  have hpc := (rc_all ho hc).2.2.1
  unfold wpX_membersBehind
  dsimp only
  refine ⟨by rw [vn_5a]; exact vp_in_nI (by omega) (by decide), nm_r (e' := nI (plc (O i) c + 1)) (by rw [vn_5a, nI_clamp (by omega), h4 c hc, nI_1]) ?_⟩
  refine pk_loop (σ := Int32) (fun m p x => wX_membersBehind_17 post (nI i) s xc xo xr xp xm xb xs xq xn xu xl xg xk xt xw xv m x (nI p)) (fun p x => plc (O i) c < p ∧ x = iI (sm p (fun q => if plc (O i) c < q then b01 (bt s (rkc (O i) q)) else 0))) 5 (plc (O i) c + 1) 0 (by omega) ⟨by omega, ?_⟩ ?_ ?_
  · rw [sm_zero (fun q hq => if_neg (by omega))]; rfl
  · rintro m x ⟨_, rfl⟩
    rw [wX_membersBehind_17]
    refine br_t (by decide) ?_
    rw [sm_perm ho]
    refine Eq.mp (congrArg post (congrArg iI (sm_congr fun a ha => ?_))) hp
    rw [(rc_all ho ha).2.2.2]
    by_cases hlt : plc (O i) c < plc (O i) a
    · simp [hlt]
    · simp [hlt, b01]
  · rintro m p x hp5 ⟨hlt, rfl⟩ hK
    rw [wX_membersBehind_17]
    have hr := (rc_all ho hp5).1
    refine br_f (nI_ge (b := 5) hp5 (by decide)) ⟨by rw [vn_5a]; exact vp_in_nI (by omega) (by decide), nm_r (e' := iI (sm (p + 1) (fun q => if plc (O i) c < q then b01 (bt s (rkc (O i) q)) else 0))) ?_ (nm_r (nI_1 p) (hK _ ⟨by omega, rfl⟩))⟩
    rw [vn_5a, nI_clamp (by omega), h3 p hp5, vb_b01 s (by omega), vs_add]
    simp only [sm, if_pos hlt]
theorem x_sa {post : Int32 → Prop} {xc : Int32} {xo xr xp xm xb xs xq xn xu xl xg xk xt xw xv : Nat → Int32} {n : Nat} {O : Nat → Nat} (h : zRB n O (xc, xo, xr, xp, xm, xb, xs, xq, xn, xu, xl, xg, xk, xt, xw, xv)) {r c : Nat} (hr : r ≤ 2) (hc : c < 5) {s : Int32} (hs : ∀ j, 5 ≤ j → bt s j = false)
    (hp : ∀ z : Int, (bt s c = true → z = Vs r c s n O) → -9 ≤ z → z ≤ 45 → post (iI z)) : wpX_scoreAmong post (xc, xo, xr, xp, xm, xb, xs, xq, xn, xu, xl, xg, xk, xt, xw, xv) (nI r) (nI c) s := by
  have h0 := h
  obtain ⟨hn, h1, h2⟩ := h
  dsimp only at h1
  subst h1
  unfold wpX_scoreAmong
  dsimp only
  refine x_size (nm_r (e' := iI (szI s - 1)) (vs_sub (szI s) 1) ?_)
  have hsz := szI_bd s
  have hbd : ∀ i, i < n → -1 ≤ (if r = 0 then (if bh (O i) c s = szI s - 1 then (1 : Int) else 0) else if r = 1 then (if bh (O i) c s = 0 then -1 else 0) else bh (O i) c s) ∧ (if r = 0 then (if bh (O i) c s = szI s - 1 then (1 : Int) else 0) else if r = 1 then (if bh (O i) c s = 0 then -1 else 0) else bh (O i) c s) ≤ 5 := by
    intro i hi
    have := bh_bd (O i) c s
    split
    · split <;> omega
    · split
      · split <;> omega
      · omega
  refine vl_sum (fun m x5 x6 => wX_scoreAmong_14 post (nI r) (nI c) s (iI (szI s - 1)) (nI n) xo xr xp xm xb xs xq xn xu xl xg xk xt xw xv m x5 x6) post n (fun i => if r = 0 then (if bh (O i) c s = szI s - 1 then 1 else 0) else if r = 1 then (if bh (O i) c s = 0 then -1 else 0) else bh (O i) c s) ?_ ?_ ?_
  · intro m x hx
    rw [wX_scoreAmong_14]
    exact br_t (nI_le (Nat.le_refl n) (by omega)) hx
  · intro m i z hi hW
    rw [wX_scoreAmong_14]
    have hb := bh_bd (O i) c s
    refine br_f (nI_ge hi (by omega)) (x_mb (n := n) (O := O) h0 hi hc s ?_)
    refine pk_eq r 0 (fun e => ?_) (fun e => ?_)
    · rw [if_pos e] at hW
      refine vi_eq (bh (O i) c s) (szI s - 1) (fun e2 => ?_) (fun e2 => ?_)
      · rw [if_pos e2] at hW
        exact nm_r (vs_1 z) (nm_r (nI_1 i) hW)
      · rw [if_neg e2, Int.add_zero] at hW
        unfold wX_scoreAmong_50
        refine pk_eq r 1 (fun e3 => by omega) (fun e3 => ?_)
        unfold wX_scoreAmong_66
        exact pk_eq r 2 (fun e3 => by omega) (fun e3 => nm_r (nI_1 i) hW)
    · rw [if_neg e] at hW
      unfold wX_scoreAmong_50
      refine pk_eq r 1 (fun e3 => ?_) (fun e3 => ?_)
      · rw [if_pos e3] at hW
        refine vi_eq (bh (O i) c s) 0 (fun e2 => ?_) (fun e2 => ?_)
        · rw [if_pos e2] at hW
          exact nm_r (vs_m1 z) (nm_r (nI_1 i) hW)
        · rw [if_neg e2, Int.add_zero] at hW
          unfold wX_scoreAmong_66
          exact pk_eq r 2 (fun e3 => by omega) (fun e3 => nm_r (nI_1 i) hW)
      · rw [if_neg e3] at hW
        unfold wX_scoreAmong_66
        exact pk_eq r 2 (fun e3 => nm_r (vs_add z _) (nm_r (nI_1 i) hW)) (fun e4 => by omega)
  · have b1 := sm_lo (n := n) (k := -1) (fun i hi => (hbd i hi).1)
    have b2 := sm_hi (n := n) (k := 5) (fun i hi => (hbd i hi).2)
    refine hp _ (fun hb => sm_congr fun i hi => ?_) (by omega) (by omega)
    have := sz_split (h2 i hi).1 hc hb hs
    unfold vt
    by_cases e : r = 0
    · rw [if_pos e, if_pos e]
      by_cases e2 : bf (O i) c s = 0
      · rw [if_pos e2, if_pos (by omega)]
      · rw [if_neg e2, if_neg (by omega)]
    · rw [if_neg e, if_neg e]
theorem y_ar {post : Int32 → Prop} {yn yc : Int32} {yo yp ym ys yl yb yw yk yt yz yx : Nat → Int32} {n : Nat} {O : Nat → Nat} (h : zRY n O (yn, yc, yo, yp, ym, ys, yl, yb, yw, yk, yt, yz, yx)) {i c : Nat} (hi : i < n) (hc : c < 5) (s : Int32) (x4 : Int32)
    (hp : post (iI (if x4 = 0 then bf (O i) c s else bh (O i) c s))) : wpY_around post (yn, yc, yo, yp, ym, ys, yl, yb, yw, yk, yt, yz, yx) (nI i) (nI c) s x4 := by
  obtain ⟨hn, h1, h2⟩ := h
  have hB := h2 i hi
  have ho := hB.1
  have h4 : ∀ c, c < 5 → yp (5 * i + c) = nI (plc (O i) c) := hB.2.2
  unfold wpY_around
  dsimp only
  refine vl_sum (fun m x5 x6 => wY_around_6 post (nI i) (nI c) s x4 yn yc yo yp ym ys yl yb yw yk yt yz yx m x5 x6) post 5 (fun a => if x4 = 0 then b01 (bt s a && decide (plc (O i) a < plc (O i) c)) else b01 (bt s a && decide (plc (O i) c < plc (O i) a))) ?_ ?_ ?_
  · intro m x hx
    rw [wY_around_6]
    exact br_t (by decide) hx
  · intro m a z ha hW
    rw [wY_around_6]
    have pa := (rc_all ho ha).2.2.1
    have pc := (rc_all ho hc).2.2.1
    refine br_f (nI_ge (b := 5) ha (by decide)) ⟨by rw [vn_5b]; exact vp_in_nI (by omega) (by decide), by rw [vn_5b]; exact vp_in_nI (by omega) (by decide), nm_r (e' := iI ((plc (O i) a : Int) - plc (O i) c)) (by rw [vn_5b, vn_5b, nI_clamp (by omega), nI_clamp (by omega), h4 a ha, h4 c hc, ← vs_iN, ← vs_iN, vs_sub]) ?_⟩
    cases hbt : bt s a with
    | false =>
      refine br_f (fun hh => by rw [vb_has (by omega), hbt] at hh; cases hh) (nm_r (nI_1 a) ?_)
      simpa [hbt, b01] using hW
    | true =>
      refine br_t ((vb_has (by omega)).mpr hbt) ?_
      by_cases e : x4 = 0
      · refine br_t e ?_
        rw [if_pos e, hbt, Bool.true_and] at hW
        refine vi_le 0 _ (fun hle => nm_r (nI_1 a) ?_) (fun hlt => nm_r (vs_1 z) (nm_r (nI_1 a) ?_))
        · rw [decide_eq_false (by omega)] at hW
          simpa [b01] using hW
        · rw [decide_eq_true (by omega)] at hW
          exact hW
      · refine br_f e ?_
        rw [if_neg e, hbt, Bool.true_and] at hW
        refine vi_le _ 0 (fun hle => nm_r (nI_1 a) ?_) (fun hlt => nm_r (vs_1 z) (nm_r (nI_1 a) ?_))
        · rw [decide_eq_false (by omega)] at hW
          simpa [b01] using hW
        · rw [decide_eq_true (by omega)] at hW
          exact hW
  · by_cases e : x4 = 0
    · rw [if_pos e] at hp
      simp only [if_pos e]
      exact hp
    · rw [if_neg e] at hp
      simp only [if_neg e]
      exact hp
theorem y_va {post : Int32 → Prop} {yn yc : Int32} {yo yp ym ys yl yb yw yk yt yz yx : Nat → Int32} {n : Nat} {O : Nat → Nat} (h : zRY n O (yn, yc, yo, yp, ym, ys, yl, yb, yw, yk, yt, yz, yx)) {r c : Nat} (hr : r ≤ 2) (hc : c < 5) (s : Int32) (hp : post (iI (Vs r c s n O))) : wpY_value post (yn, yc, yo, yp, ym, ys, yl, yb, yw, yk, yt, yz, yx) (nI r) (nI c) s := by
  have h0 := h
  obtain ⟨hn, h1, h2⟩ := h
  dsimp only at h1
  subst h1
  unfold wpY_value
  dsimp only
  refine vl_sum (fun m x4 x5 => wY_value_6 post (nI r) (nI c) s (nI n) yc yo yp ym ys yl yb yw yk yt yz yx m x4 x5) post n (fun i => vt r (O i) c s) ?_ ?_ hp
  · intro m x hx
    rw [wY_value_6]
    exact br_t (nI_le (Nat.le_refl n) (by omega)) hx
  · intro m i z hi hW
    rw [wY_value_6]
    have b1 := bh_bd (O i) c s
    have b2 := bf_bd (O i) c s
    refine br_f (nI_ge hi (by omega)) (y_ar (n := n) (O := O) h0 hi hc s 1 ?_)
    rw [if_neg (by decide)]
    refine y_ar (n := n) (O := O) h0 hi hc s 0 ?_
    rw [if_pos rfl]
    unfold vt at hW
    refine pk_eq r 0 (fun e => ?_) (fun e => ?_)
    · rw [if_pos e] at hW
      refine vi_eq (bf (O i) c s) 0 (fun e2 => ?_) (fun e2 => ?_)
      · rw [if_pos e2] at hW
        refine nm_r (vs_1 z) ?_
        unfold wY_value_49
        refine pk_eq r 1 (fun e3 => by omega) (fun e3 => ?_)
        unfold wY_value_62
        exact pk_eq r 2 (fun e3 => by omega) (fun e3 => nm_r (nI_1 i) hW)
      · rw [if_neg e2, Int.add_zero] at hW
        unfold wY_value_49
        refine pk_eq r 1 (fun e3 => by omega) (fun e3 => ?_)
        unfold wY_value_62
        exact pk_eq r 2 (fun e3 => by omega) (fun e3 => nm_r (nI_1 i) hW)
    · rw [if_neg e] at hW
      unfold wY_value_49
      refine pk_eq r 1 (fun e3 => ?_) (fun e3 => ?_)
      · rw [if_pos e3] at hW
        refine vi_eq (bh (O i) c s) 0 (fun e2 => ?_) (fun e2 => ?_)
        · rw [if_pos e2] at hW
          refine nm_r (vs_m1 z) ?_
          unfold wY_value_62
          exact pk_eq r 2 (fun e3 => by omega) (fun e3 => nm_r (nI_1 i) hW)
        · rw [if_neg e2, Int.add_zero] at hW
          unfold wY_value_62
          exact pk_eq r 2 (fun e3 => by omega) (fun e3 => nm_r (nI_1 i) hW)
      · rw [if_neg e3] at hW
        unfold wY_value_62
        exact pk_eq r 2 (fun e3 => nm_r (vs_add z _) (nm_r (nI_1 i) hW)) (fun e4 => by omega)
end
section
/-! ===== victories, smallest margin, majority depth; score; the highest scores ===== -/
def Wn (n : Nat) (O : Nat → Nat) (c : Nat) : Int := sm 5 (fun d => if d = c then 0 else if 0 < Mg n O c d then 2 else if Mg n O c d = 0 then 1 else 0)
theorem x_vic {post : Int32 → Prop} {xc : Int32} {xo xr xp xm xb xs xq xn xu xl xg xk xt xw xv : Nat → Int32} {n : Nat} {O : Nat → Nat} (h : zRX n O (xc, xo, xr, xp, xm, xb, xs, xq, xn, xu, xl, xg, xk, xt, xw, xv)) {c : Nat} (hc : c < 5) (hp : post (iI (Wn n O c))) : wpX_victoryScore post (xc, xo, xr, xp, xm, xb, xs, xq, xn, xu, xl, xg, xk, xt, xw, xv) (nI c) := by
  unfold wpX_victoryScore
  dsimp only
  refine vl_sum (fun m x2 x3 => wX_victoryScore_4 post (nI c) xc xo xr xp xm xb xs xq xn xu xl xg xk xt xw xv m x2 x3) post 5 (fun d => if d = c then 0 else if 0 < Mg n O c d then 2 else if Mg n O c d = 0 then 1 else 0) ?_ ?_ hp
  · intro m x hx
    rw [wX_victoryScore_4]
    exact br_t (by decide) hx
  · intro m d z hd hW
    rw [wX_victoryScore_4]
    have hb1 := h.2.2 c hc d
    have hb2 := h.2.2 d hd c
    dsimp only at hb1 hb2
    have ha := Mg_anti n O c d
    refine br_f (nI_ge (b := 5) hd (by decide)) ⟨vp_in_nI hc (by decide), ?_⟩
    rw [nI_clamp (n := c) (by omega), nI_clamp (n := d) (by omega)]
    refine x_has (by omega) (fun e => br_f (by decide) ?_) (fun e => br_t rfl ?_)
    · have := (hb1.mp e).2
      have hne : d ≠ c := by rintro rfl; rw [Mg_self] at this; omega
      rw [if_neg hne, if_pos this] at hW
      exact nm_r (vs_2 z) (nm_r (nI_1 d) hW)
    · have hno : ¬ 0 < Mg n O c d := fun q => by rw [hb1.mpr ⟨hd, q⟩] at e; cases e
      refine pk_eq d c (fun e2 => ?_) (fun e2 => ⟨vp_in_nI hd (by decide), ?_⟩)
      · rw [if_pos e2, Int.add_zero] at hW
        exact nm_r (nI_1 d) hW
      · rw [if_neg e2, if_neg hno] at hW
        refine x_has (by omega) (fun e3 => br_f (by decide) ?_) (fun e3 => br_t rfl ?_)
        · have := (hb2.mp e3).2
          rw [if_neg (by omega), Int.add_zero] at hW
          exact nm_r (nI_1 d) hW
        · have hno2 : ¬ 0 < Mg n O d c := fun q => by rw [hb2.mpr ⟨hc, q⟩] at e3; cases e3
          rw [if_pos (by omega)] at hW
          exact nm_r (vs_1 z) (nm_r (nI_1 d) hW)
/-- the least margin of c over another among those below k, begun with z -/
def lmf (n : Nat) (O : Nat → Nat) (c : Nat) (z : Int) : Nat → Int
  | 0 => z
  | k + 1 => if k ≠ c ∧ Mg n O c k < lmf n O c z k then Mg n O c k else lmf n O c z k
theorem lmf_le (n : Nat) (O : Nat → Nat) (c : Nat) (z : Int) : ∀ k d, d < k → d ≠ c → lmf n O c z k ≤ Mg n O c d := by
  intro k
  induction k with
  | zero => intro d hd; omega
  | succ k ih =>
    intro d hd hne
    unfold lmf
    by_cases e : d = k
    · subst e
      split
      · exact Int.le_refl _
      · rename_i hh
        by_cases h2 : Mg n O c d < lmf n O c z d
        · exact absurd ⟨hne, h2⟩ hh
        · omega
    · have := ih d (by omega) hne
      split
      · rename_i hh; omega
      · exact this
theorem lmf_z (n : Nat) (O : Nat → Nat) (c : Nat) (z : Int) : ∀ k, lmf n O c z k ≤ z := by
  intro k
  induction k with
  | zero => exact Int.le_refl _
  | succ k ih => unfold lmf; split <;> omega
theorem lmf_9 (n : Nat) (O : Nat → Nat) (c : Nat) : ∀ k, (lmf n O c 100 k ≤ 9 → lmf n O c 9 k = lmf n O c 100 k) ∧ (9 ≤ lmf n O c 100 k → lmf n O c 9 k = 9) := by
  intro k
  induction k with
  | zero => exact ⟨fun h => by simp [lmf] at h, fun _ => rfl⟩
  | succ k ih =>
    obtain ⟨i1, i2⟩ := ih
    unfold lmf
    by_cases hk : k = c
    · simp only [hk, ne_eq, not_true_eq_false, false_and, if_false]
      rw [hk] at i1 i2
      exact ⟨i1, i2⟩
    · simp only [ne_eq, hk, not_false_eq_true, true_and]
      rcases Int.lt_or_le 9 (lmf n O c 100 k) with h9 | h9
      · have e := i2 (by omega)
        rw [e]
        split <;> split <;> constructor <;> intro <;> omega
      · have e := i1 h9
        rw [e]
        split <;> constructor <;> intro <;> omega
theorem lmf_eq {n : Nat} (hn : n ≤ 9) (O : Nat → Nat) {c : Nat} (hc : c < 5) : lmf n O c 100 5 = lmf n O c 9 5 := by
  refine ((lmf_9 n O c 5).1 ?_).symm
  by_cases h : c = 0
  · have h1 := lmf_le n O c 100 5 1 (by omega) (by omega)
    have := Mg_bd hn O c 1
    omega
  · have h1 := lmf_le n O c 100 5 0 (by omega) (by omega)
    have := Mg_bd hn O c 0
    omega
theorem lmf_bd {n : Nat} (hn : n ≤ 9) (O : Nat → Nat) (c : Nat) (z : Int) (hz : 9 ≤ z) : ∀ k, -9 ≤ lmf n O c z k := by
  intro k
  induction k with
  | zero => unfold lmf; omega
  | succ k ih =>
    have := Mg_bd hn O c k
    unfold lmf; split <;> omega
theorem x_smm {post : Int32 → Prop} {xc : Int32} {xo xr xp xm xb xs xq xn xu xl xg xk xt xw xv : Nat → Int32} {n : Nat} {O : Nat → Nat} (h : zRX n O (xc, xo, xr, xp, xm, xb, xs, xq, xn, xu, xl, xg, xk, xt, xw, xv)) {c : Nat} (hc : c < 5) (hp : post (iI (lmf n O c 9 5))) : wpX_smallestMargin post (xc, xo, xr, xp, xm, xb, xs, xq, xn, xu, xl, xg, xk, xt, xw, xv) (nI c) := by
  unfold wpX_smallestMargin
  dsimp only
  have hn := h.1.1
  refine pk_loop (σ := Int32) (fun m d x => wX_smallestMargin_5 post (nI c) xc xo xr xp xm xb xs xq xn xu xl xg xk xt xw xv m x (nI d)) (fun d x => x = iI (lmf n O c 9 d)) 5 0 9 (by omega) rfl ?_ ?_
  · rintro m x rfl
    rw [wX_smallestMargin_5]
    exact br_t (by decide) hp
  · rintro m d x hd rfl hK
    rw [wX_smallestMargin_5]
    have hm := h.2.1 c d hc hd
    dsimp only at hm
    have hb := Mg_bd hn O c d
    have hl := lmf_bd hn O c 9 (by omega) d
    have hz := lmf_z n O c 9 d
    refine br_f (nI_ge (b := 5) hd (by decide)) ⟨by rw [vn_5a]; exact vp_in_nI (by omega) (by decide), nm_r (e' := iI (Mg n O c d)) (by rw [vn_5a, nI_clamp (by omega), hm]) (pk_eq d c (fun e => ?_) (fun e => ?_))⟩
    · refine nm_r (nI_1 d) (hK _ ?_)
      rw [lmf, if_neg (by omega)]
    · refine vi_le (lmf n O c 9 d) (Mg n O c d) (fun hle => nm_r (nI_1 d) (hK _ ?_)) (fun hlt => nm_r (nI_1 d) (hK _ ?_))
      · rw [lmf, if_neg (by omega)]
      · rw [lmf, if_pos ⟨e, hlt⟩]
def wi (n : Nat) (O : Nat → Nat) (c k : Nat) : Int := sm n (fun i => if plc (O i) c < k then 1 else 0)
theorem wi_bd (n : Nat) (O : Nat → Nat) (c k : Nat) : 0 ≤ wi n O c k ∧ wi n O c k ≤ n := by
  have h1 := sm_lo (n := n) (k := 0) (f := fun i => if plc (O i) c < k then 1 else 0) (fun i _ => by split <;> omega)
  have h2 := sm_hi (n := n) (k := 1) (f := fun i => if plc (O i) c < k then 1 else 0) (fun i _ => by split <;> omega)
  unfold wi; omega
theorem x_wi {post : Int32 → Prop} {xc : Int32} {xo xr xp xm xb xs xq xn xu xl xg xk xt xw xv : Nat → Int32} {n : Nat} {O : Nat → Nat} (h : zRB n O (xc, xo, xr, xp, xm, xb, xs, xq, xn, xu, xl, xg, xk, xt, xw, xv)) {c k : Nat} (hc : c < 5) (hk : k ≤ 5) (hp : post (iI (wi n O c k))) : wpX_ballotsWithin post (xc, xo, xr, xp, xm, xb, xs, xq, xn, xu, xl, xg, xk, xt, xw, xv) (nI c) (nI k) := by
  obtain ⟨hn, h1, h2⟩ := h
  have h4 : ∀ i, i < n → ∀ c, c < 5 → xp (5 * i + c) = nI (plc (O i) c) := fun i hi => (h2 i hi).2.2.2
  dsimp only at h1
  subst h1
  unfold wpX_ballotsWithin
  dsimp only
  refine vl_sum (fun m x3 x4 => wX_ballotsWithin_5 post (nI c) (nI k) (nI n) xo xr xp xm xb xs xq xn xu xl xg xk xt xw xv m x3 x4) post n (fun i => if plc (O i) c < k then 1 else 0) ?_ ?_ hp
  · intro m x hx
    rw [wX_ballotsWithin_5]
    exact br_t (nI_le (Nat.le_refl n) (by omega)) hx
  · intro m i z hi hW
    rw [wX_ballotsWithin_5]
    have pa := (rc_all (h2 i hi).1 hc).2.2.1
    refine br_f (nI_ge hi (by omega)) ⟨by rw [vn_5a]; exact vp_in_nI (by omega) (by decide), ?_⟩
    rw [vn_5a, nI_clamp (by omega), h4 i hi c hc]
    refine pk_le _ _ (fun hle => nm_r (nI_1 i) ?_) (fun hlt => nm_r (vs_1 z) (nm_r (nI_1 i) ?_)) rfl rfl (by omega) (by omega)
    · rw [if_neg (by omega), Int.add_zero] at hW; exact hW
    · rw [if_pos hlt] at hW; exact hW
theorem y_wi {post : Int32 → Prop} {yn yc : Int32} {yo yp ym ys yl yb yw yk yt yz yx : Nat → Int32} {n : Nat} {O : Nat → Nat} (h : zRY n O (yn, yc, yo, yp, ym, ys, yl, yb, yw, yk, yt, yz, yx)) {c k : Nat} (hc : c < 5) (hk : k ≤ 5) (hp : post (iI (wi n O c k))) : wpY_within post (yn, yc, yo, yp, ym, ys, yl, yb, yw, yk, yt, yz, yx) (nI c) (nI k) := by
  obtain ⟨hn, h1, h2⟩ := h
  have h4 : ∀ i, i < n → ∀ c, c < 5 → yp (5 * i + c) = nI (plc (O i) c) := fun i hi => (h2 i hi).2.2
  dsimp only at h1
  subst h1
  unfold wpY_within
  dsimp only
  refine vl_sum (fun m x3 x4 => wY_within_5 post (nI c) (nI k) (nI n) yc yo yp ym ys yl yb yw yk yt yz yx m x3 x4) post n (fun i => if plc (O i) c < k then 1 else 0) ?_ ?_ hp
  · intro m x hx
    rw [wY_within_5]
    exact br_t (nI_le (Nat.le_refl n) (by omega)) hx
  · intro m i z hi hW
    rw [wY_within_5]
    have pa := (rc_all (h2 i hi).1 hc).2.2.1
    refine br_f (nI_ge hi (by omega)) ⟨by rw [vn_5b]; exact vp_in_nI (by omega) (by decide), ?_⟩
    rw [vn_5b, nI_clamp (by omega), h4 i hi c hc]
    refine pk_le _ _ (fun hle => nm_r (nI_1 i) ?_) (fun hlt => nm_r (vs_1 z) (nm_r (nI_1 i) ?_)) rfl rfl (by omega) (by omega)
    · rw [if_neg (by omega), Int.add_zero] at hW; exact hW
    · rw [if_pos hlt] at hW; exact hW
def mjb (n : Nat) (O : Nat → Nat) (k : Nat) : Prop := ∃ d, d < 5 ∧ (n : Int) < 2 * wi n O d k
/-- k is the depth: the first of 1 .. 4 with a majority, or 5 -/
def isD (n : Nat) (O : Nat → Nat) (k : Nat) : Prop := 1 ≤ k ∧ k ≤ 5 ∧ (k < 5 → mjb n O k) ∧ ∀ j, 1 ≤ j → j < k → ¬ mjb n O j
theorem isD_u {n : Nat} {O : Nat → Nat} {k k' : Nat} (h : isD n O k) (h' : isD n O k') : k = k' := by
  rcases Nat.lt_trichotomy k k' with g | g | g
  · exact absurd (h.2.2.1 (by have := h'.2.1; omega)) (h'.2.2.2 k h.1 g)
  · exact g
  · exact absurd (h'.2.2.1 (by have := h.2.1; omega)) (h.2.2.2 k' h'.1 g)
theorem x_maj {post : Int32 → Prop} {xc : Int32} {xo xr xp xm xb xs xq xn xu xl xg xk xt xw xv : Nat → Int32} {n : Nat} {O : Nat → Nat} (h : zRB n O (xc, xo, xr, xp, xm, xb, xs, xq, xn, xu, xl, xg, xk, xt, xw, xv)) {c : Nat} (hc : c < 5) (hp : ∀ k, isD n O k → post (iI (wi n O c k))) : wpX_majorityScore post (xc, xo, xr, xp, xm, xb, xs, xq, xn, xu, xl, xg, xk, xt, xw, xv) (nI c) := by
  have hn := h.1
  have h1 := h.2.1
  dsimp only at h1
  unfold wpX_majorityScore
  dsimp only
  refine pk_loop (σ := Int32 × Int32) (fun m k s => wX_majorityScore_7 post (nI c) xc xo xr xp xm xb xs xq xn xu xl xg xk xt xw xv m s.1 s.2 (nI k)) (fun k s => 1 ≤ k ∧ ((s.1 = 0 ∧ (∀ j, 1 ≤ j → j < k → ¬ mjb n O j) ∧ (1 < k → s.2 = iI (wi n O c (k - 1)))) ∨ (s.1 = 1 ∧ 1 < k ∧ s.2 = iI (wi n O c (k - 1)) ∧ mjb n O (k - 1) ∧ ∀ j, 1 ≤ j → j < k - 1 → ¬ mjb n O j))) 6 1 (0, 0) (by omega) ⟨by omega, Or.inl ⟨rfl, fun j a b => by omega, fun z => by omega⟩⟩ ?_ ?_
  · rintro m ⟨x2, x3⟩ ⟨_, hs⟩
    dsimp only at hs ⊢
    rw [wX_majorityScore_7]
    refine br_t (by decide) ?_
    rcases hs with ⟨_, a, b⟩ | ⟨_, _, b, d, a⟩
    · rw [b (by omega)]
      exact hp 5 ⟨by omega, by omega, fun z => by omega, fun j u v => a j u (by omega)⟩
    · rw [b]
      exact hp 5 ⟨by omega, by omega, fun z => by omega, fun j u v => a j u (by omega)⟩
  · rintro m k ⟨x2, x3⟩ hk ⟨hk1, hs⟩ hK
    dsimp only at hs hK ⊢
    rw [wX_majorityScore_7]
    refine br_f (nI_nlt (b := k) (a := 5) (by omega) (by omega)) ?_
    rcases hs with ⟨e, a, b⟩ | ⟨e, k1, b, d, a⟩
    · subst e
      refine br_t rfl (x_wi h hc (by omega) ?_)
      refine pk_loop (σ := Int32) (fun m' d x => wX_majorityScore_28 post (wX_majorityScore_7 post (nI c) xc xo xr xp xm xb xs xq xn xu xl xg xk xt xw xv m) (nI c) (iI (wi n O c k)) (nI k) xc xo xr xp xm xb xs xq xn xu xl xg xk xt xw xv m' x (nI d)) (fun d x => (x = 0 ∧ ∀ d', d' < d → ¬ (n : Int) < 2 * wi n O d' k) ∨ (x = 1 ∧ ∃ d', d' < d ∧ (n : Int) < 2 * wi n O d' k)) 5 0 0 (by omega) (Or.inl ⟨rfl, fun d' z => by omega⟩) ?_ ?_
      · rintro m' x hx
        rw [wX_majorityScore_28]
        refine br_t (by decide) (nm_r (nI_1 k) (hK (x, iI (wi n O c k)) ⟨by omega, ?_⟩))
        rcases hx with ⟨e, g⟩ | ⟨e, g⟩
        · refine Or.inl ⟨e, fun j u v => ?_, fun _ => rfl⟩
          by_cases ej : j = k
          · subst ej
            rintro ⟨d, hd, hm⟩
            exact g d hd hm
          · exact a j u (by omega)
        · exact Or.inr ⟨e, by omega, rfl, by obtain ⟨d, hd, hm⟩ := g; exact ⟨d, hd, hm⟩, fun j u v => a j u (by omega)⟩
      · rintro m' d x hd hx hK'
        rw [wX_majorityScore_28]
        have hw := wi_bd n O d k
        refine br_f (nI_ge (b := 5) hd (by decide)) ?_
        rcases hx with ⟨e, g⟩ | ⟨e, g⟩
        · subst e
          refine br_t rfl (x_wi h hd (by omega) ?_)
          refine vi_le (2 * wi n O d k) (n : Int) (fun hle => nm_r (nI_1 d) (hK' 0 (Or.inl ⟨rfl, fun d' z => ?_⟩))) (fun hlt => nm_r (nI_1 d) (hK' 1 (Or.inr ⟨rfl, d, by omega, hlt⟩))) (vs_mul 2 _) (by rw [h1, vs_iN])
          by_cases ed : d' = d
          · subst ed; omega
          · exact g d' (by omega)
        · subst e
          obtain ⟨d', u, v⟩ := g
          exact br_f (by decide) (nm_r (nI_1 d) (hK' 1 (Or.inr ⟨rfl, d', by omega, v⟩)))
    · subst e
      refine br_f (by decide) ?_
      rw [b]
      exact hp (k - 1) ⟨by omega, by omega, fun _ => d, a⟩
theorem y_dep {post : Int32 → Prop} {yn yc : Int32} {yo yp ym ys yl yb yw yk yt yz yx : Nat → Int32} {n : Nat} {O : Nat → Nat} (h : zRY n O (yn, yc, yo, yp, ym, ys, yl, yb, yw, yk, yt, yz, yx)) (hp : ∀ k, isD n O k → post (nI k)) : wpY_depth post (yn, yc, yo, yp, ym, ys, yl, yb, yw, yk, yt, yz, yx) := by
  have hn := h.1
  have h1 := h.2.1
  dsimp only at h1
  unfold wpY_depth
  dsimp only
  refine pk_loop (σ := Unit) (fun m k _ => wY_depth_2 post yn yc yo yp ym ys yl yb yw yk yt yz yx m (nI k)) (fun k _ => 1 ≤ k ∧ ∀ j, 1 ≤ j → j < k → ¬ mjb n O j) 5 1 () (by omega) ⟨by omega, fun j a b => by omega⟩ ?_ ?_
  · rintro m _ ⟨_, hs⟩
    rw [wY_depth_2]
    exact br_t (by decide) (hp 5 ⟨by omega, by omega, fun z => by omega, hs⟩)
  · rintro m k _ hk ⟨hk1, hs⟩ hK
    rw [wY_depth_2]
    refine br_f (nI_ge (b := 5) hk (by decide)) ?_
    refine pk_loop (σ := Unit) (fun m' d _ => wY_depth_9 post (wY_depth_2 post yn yc yo yp ym ys yl yb yw yk yt yz yx m) (nI k) yn yc yo yp ym ys yl yb yw yk yt yz yx m' (nI d)) (fun d _ => ∀ d', d' < d → ¬ (n : Int) < 2 * wi n O d' k) 5 0 () (by omega) (fun d' z => by omega) ?_ ?_
    · rintro m' _ hx
      rw [wY_depth_9]
      refine br_t (by decide) (nm_r (nI_1 k) (hK () ⟨by omega, fun j u v => ?_⟩))
      by_cases ej : j = k
      · subst ej
        rintro ⟨d, hd, hm⟩
        exact hx d hd hm
      · exact hs j u (by omega)
    · rintro m' d _ hd hx hK'
      rw [wY_depth_9]
      have hw := wi_bd n O d k
      refine br_f (nI_ge (b := 5) hd (by decide)) (y_wi h hd (by omega) ?_)
      refine vi_le (2 * wi n O d k) (n : Int) (fun hle => nm_r (nI_1 d) (hK' () (fun d' z => ?_))) (fun hlt => hp k ⟨hk1, by omega, fun _ => ⟨d, hd, hlt⟩, hs⟩) (vs_mul 2 _) (by rw [h1, vs_iN])
      by_cases ed : d' = d
      · subst ed; omega
      · exact hx d' (by omega)
/-- z is the score of c by rule r -/
def isSc (n : Nat) (O : Nat → Nat) (r c : Nat) (z : Int) : Prop := (r ≤ 2 → z = Vs r c 31 n O) ∧ (r = 3 → z = Wn n O c) ∧ (r = 4 → z = lmf n O c 9 5) ∧ (r = 5 → ∃ k, isD n O k ∧ z = wi n O c k)
theorem isSc_u {n : Nat} {O : Nat → Nat} {r c : Nat} {z z' : Int} (hr : r ≤ 5) (h : isSc n O r c z) (h' : isSc n O r c z') : z = z' := by
  by_cases h2 : r ≤ 2
  · rw [h.1 h2, h'.1 h2]
  · by_cases h3 : r = 3
    · rw [h.2.1 h3, h'.2.1 h3]
    · by_cases h4 : r = 4
      · rw [h.2.2.1 h4, h'.2.2.1 h4]
      · obtain ⟨k, a, b⟩ := h.2.2.2 (by omega)
        obtain ⟨k', a', b'⟩ := h'.2.2.2 (by omega)
        rw [b, b', isD_u a a']
theorem Wn_bd (n : Nat) (O : Nat → Nat) (c : Nat) : 0 ≤ Wn n O c ∧ Wn n O c ≤ 10 := by
  have h1 := sm_lo (n := 5) (k := 0) (f := fun d => if d = c then 0 else if 0 < Mg n O c d then 2 else if Mg n O c d = 0 then 1 else 0) (fun i _ => by split; omega; split; omega; split <;> omega)
  have h2 := sm_hi (n := 5) (k := 2) (f := fun d => if d = c then 0 else if 0 < Mg n O c d then 2 else if Mg n O c d = 0 then 1 else 0) (fun i _ => by split; omega; split; omega; split <;> omega)
  unfold Wn; omega
theorem isSc_bd {n : Nat} (hn : n ≤ 9) {O : Nat → Nat} {r c : Nat} {z : Int} (hr : r ≤ 5) (h : isSc n O r c z) : -9 ≤ z ∧ z ≤ 45 := by
  by_cases h2 : r ≤ 2
  · rw [h.1 h2]; exact Vs_bd hn r c 31 O
  · by_cases h3 : r = 3
    · rw [h.2.1 h3]; have := Wn_bd n O c; omega
    · by_cases h4 : r = 4
      · rw [h.2.2.1 h4]
        have := lmf_bd hn O c 9 (by omega) 5
        have := lmf_z n O c 9 5
        omega
      · obtain ⟨k, a, b⟩ := h.2.2.2 (by omega)
        rw [b]; have := wi_bd n O c k; omega
theorem b31_hi : ∀ j, 5 ≤ j → bt 31 j = false := by
  intro j hj; rw [vb_31, decide_eq_false (by omega)]
theorem x_so {post : Int32 → Prop} {xc : Int32} {xo xr xp xm xb xs xq xn xu xl xg xk xt xw xv : Nat → Int32} {n : Nat} {O : Nat → Nat} (h : zRX n O (xc, xo, xr, xp, xm, xb, xs, xq, xn, xu, xl, xg, xk, xt, xw, xv)) {r c : Nat} (hr : r ≤ 5) (hc : c < 5) (hp : ∀ z, isSc n O r c z → post (iI z)) : wpX_scoreOf post (xc, xo, xr, xp, xm, xb, xs, xq, xn, xu, xl, xg, xk, xt, xw, xv) (nI r) (nI c) := by
  unfold wpX_scoreOf
  dsimp only
  refine pk_lt r 3 (fun hlt => ?_) (fun hge => ?_)
  · exact x_sa h.1 (by omega) hc b31_hi (fun z hz _ _ => hp z ⟨fun _ => hz (by rw [vb_31]; simpa using hc), fun e => by omega, fun e => by omega, fun e => by omega⟩)
  · refine pk_lt 5 r (fun hlt => by omega) (fun _ => ?_)
    refine pk_eq r 3 (fun e => ?_) (fun e3 => ?_)
    · exact x_vic h hc (hp _ ⟨fun e => by omega, fun _ => rfl, fun e => by omega, fun e => by omega⟩)
    · refine pk_eq r 4 (fun e => ?_) (fun e4 => ?_)
      · exact x_smm h hc (hp _ ⟨fun e => by omega, fun e => by omega, fun _ => rfl, fun e => by omega⟩)
      · refine pk_eq r 5 (fun e => ?_) (fun e5 => by omega)
        exact x_maj h.1 hc (fun k hk => hp _ ⟨fun e => by omega, fun e => by omega, fun e => by omega, fun _ => ⟨k, hk, rfl⟩⟩)
theorem y_so {post : Int32 → Prop} {yn yc : Int32} {yo yp ym ys yl yb yw yk yt yz yx : Nat → Int32} {n : Nat} {O : Nat → Nat} (h : zRYM n O (yn, yc, yo, yp, ym, ys, yl, yb, yw, yk, yt, yz, yx)) {r c : Nat} (hr : r ≤ 5) (hc : c < 5) (hp : ∀ z, isSc n O r c z → post (iI z)) : wpY_scoreOf post (yn, yc, yo, yp, ym, ys, yl, yb, yw, yk, yt, yz, yx) (nI r) (nI c) := by
  have hn := h.1.1
  unfold wpY_scoreOf
  dsimp only
  refine pk_lt 2 r (fun hlt => ?_) (fun hge => ?_)
  · refine pk_eq r 5 (fun e => ?_) (fun e5 => ?_)
    · refine y_dep h.1 (fun k hk => ?_)
      exact y_wi h.1 hc hk.2.1 (hp _ ⟨fun e => by omega, fun e => by omega, fun e => by omega, fun _ => ⟨k, hk, rfl⟩⟩)
    · refine pk_loop (σ := Int32 × Int32) (fun m b s => wY_scoreOf_40 post (nI r) (nI c) yn yc yo yp ym ys yl yb yw yk yt yz yx m s.1 s.2 (nI b)) (fun b s => s = (iI (sm b (fun d => if d = c then 0 else if 0 < Mg n O c d then 2 else if Mg n O c d = 0 then 1 else 0)), iI (lmf n O c 100 b))) 5 0 (0, 100) (by omega) rfl ?_ ?_
      · rintro m s rfl
        rw [wY_scoreOf_40]
        refine br_t (by decide) (pk_eq r 3 (fun e => hp _ ⟨fun e => by omega, fun _ => rfl, fun e => by omega, fun e => by omega⟩) (fun e => hp _ ⟨fun e => by omega, fun e => by omega, fun _ => lmf_eq hn O hc, fun e => by omega⟩))
      · rintro m b s hb rfl hK
        rw [wY_scoreOf_40]
        have hm := h.2 c b hc hb
        dsimp only at hm hK ⊢
        have hbd := Mg_bd hn O c b
        have hl := lmf_bd hn O c 100 (by omega) b
        have hz := lmf_z n O c 100 b
        refine br_f (nI_ge (b := 5) hb (by decide)) ⟨by rw [vn_5b]; exact vp_in_nI (by omega) (by decide), nm_r (e' := iI (Mg n O c b)) (by rw [vn_5b, nI_clamp (by omega), hm]) ?_⟩
        have hK2 := hK _ rfl
        have tail : ∀ x3 : Int32, x3 = iI (sm (b + 1) (fun d => if d = c then 0 else if 0 < Mg n O c d then 2 else if Mg n O c d = 0 then 1 else 0)) → wY_scoreOf_87 post (wY_scoreOf_40 post (nI r) (nI c) yn yc yo yp ym ys yl yb yw yk yt yz yx m) (nI r) (nI c) x3 (iI (lmf n O c 100 b)) (nI b) (iI (Mg n O c b)) yn yc yo yp ym ys yl yb yw yk yt yz yx := by
          rintro x3 rfl
          unfold wY_scoreOf_87
          refine pk_eq b c (fun e => nm_r (nI_1 b) ?_) (fun e => vi_le (lmf n O c 100 b) (Mg n O c b) (fun hle => nm_r (nI_1 b) ?_) (fun hlt => nm_r (nI_1 b) ?_))
          · rw [lmf, if_neg (by omega)] at hK2; exact hK2
          · rw [lmf, if_neg (by omega)] at hK2; exact hK2
          · rw [lmf, if_pos ⟨e, hlt⟩] at hK2; exact hK2
        refine pk_eq b c (fun e => tail _ ?_) (fun e => vi_le (Mg n O c b) 0 (fun hle => vi_eq (Mg n O c b) 0 (fun e0 => ?_) (fun e0 => ?_)) (fun hlt => ?_))
        · simp only [sm]; rw [if_pos e, Int.add_zero]
        · unfold wY_scoreOf_85
          refine nm_e (tail _ ?_)
          simp only [sm]; rw [if_neg e, if_neg (by omega), if_pos e0]; exact vs_1 _
        · unfold wY_scoreOf_85
          refine nm_e (tail _ ?_)
          simp only [sm]; rw [if_neg e, if_neg (by omega), if_neg e0]; exact vs_add _ 0
        · unfold wY_scoreOf_85
          refine nm_e (tail _ ?_)
          simp only [sm]; rw [if_neg e, if_pos hlt]; exact vs_2 _
  · exact y_va h.1 (by omega) hc 31 (hp _ ⟨fun _ => rfl, fun e => by omega, fun e => by omega, fun e => by omega⟩)
theorem i_vc_score {k : Nat} {u : SX} {v : SY} (I : i_Rel k u v) (hk : k + 3 ≤ 1536) (v1 : Int32) (v2 : Int32) : wpX_score (fun r => wpY_score (fun r' v' => r' = r ∧ i_Rel (k + 3) u v') v v1 v2) u v1 v2 := by
  have I0 := I
  obtain ⟨n, O, hX, hY⟩ := I
  obtain ⟨xc, xo, xr, xp, xm, xb, xs, xq, xn, xu, xl, xg, xk, xt, xw, xv⟩ := u
  obtain ⟨yn, yc, yo, yp, ym, ys, yl, yb, yw, yk, yt, yz, yx⟩ := v
  unfold wpX_score
  dsimp only
  have bad : (∀ r, r ≤ 5 → v1 ≠ nI r) → wpY_score (fun r' v' => r' = -1000 ∧ i_Rel (k + 3) (xc, xo, xr, xp, xm, xb, xs, xq, xn, xu, xl, xg, xk, xt, xw, xv) v') (yn, yc, yo, yp, ym, ys, yl, yb, yw, yk, yt, yz, yx) v1 v2 := by
    intro hno
    unfold wpY_score
    dsimp only
    exact y_in 0 5 rfl (by decide) (fun _ => br_t rfl ⟨rfl, I0⟩) (fun j _ hj e => absurd e (hno j hj))
  by_cases hn : v1 < 0
  · refine br_t hn (bad fun r hr e => ?_)
    subst e
    exact nI_pos (by omega) hn
  · obtain ⟨r, hr, rfl⟩ := nI_of hn
    refine br_f hn (pk_lt 5 r (fun h5 => bad fun r' hr' e => ?_) (fun h5 => ?_) rfl rfl (by omega) hr)
    · rw [nI_eq hr (by omega)] at e; omega
    · refine x_cand (fun hno => br_t rfl ?_) (fun c hc e => br_f (by decide) ?_)
      · unfold wpY_score
        dsimp only
        refine y_in 0 5 rfl (by decide) (fun hh => absurd rfl (hh r (by omega) h5)) (fun _ _ _ _ => br_f (by decide) ?_)
        exact y_in 0 4 rfl (by decide) (fun _ => br_t rfl ⟨rfl, I0⟩) (fun j _ hj e => absurd e (hno j (by omega)))
      · subst e
        refine x_so hX h5 hc (fun z hz => ?_)
        unfold wpY_score
        dsimp only
        refine y_in 0 5 rfl (by decide) (fun hh => absurd rfl (hh r (by omega) h5)) (fun _ _ _ _ => br_f (by decide) ?_)
        refine y_in 0 4 rfl (by decide) (fun hh => absurd rfl (hh c (by omega) (by omega))) (fun _ _ _ _ => br_f (by decide) ?_)
        refine y_ct hY (fun m' hM => y_so hM h5 hc (fun z' hz' => ⟨?_, n, O, hX, hM.1⟩))
        rw [isSc_u h5 hz hz']
end
section
/-! ===== rules 0 to 5: the highest scores ===== -/
def WS (n : Nat) (O : Nat → Nat) (r : Nat) (i : Nat) : Prop := ∃ z, isSc n O r i z ∧ ∀ d, d < 5 → ∀ z', isSc n O r d z' → z' ≤ z
/-- where the search for the highest stands: B the best, s those with it, among the first c -/
def hiS (n : Nat) (O : Nat → Nat) (r c : Nat) (B : Int) (s : Int32) : Prop := isSet s (fun i => i < c ∧ isSc n O r i B) ∧ (∀ d, d < c → ∀ z, isSc n O r d z → z ≤ B) ∧ (0 < c → ∃ i, i < c ∧ isSc n O r i B)
theorem hi_end {n : Nat} {O : Nat → Nat} {r : Nat} {B : Int} {s : Int32} (h : hiS n O r 5 B s) : isSet s (WS n O r) := by
  obtain ⟨h1, h2, h3⟩ := h
  refine vb_congr h1 (fun i hi => ⟨fun a => ⟨B, a.2, h2⟩, ?_⟩)
  rintro ⟨z, hz, hm⟩
  obtain ⟨j, hj, hB⟩ := h3 (by omega)
  have a := hm j hj B hB
  have b := h2 i hi z hz
  have : z = B := by omega
  exact ⟨hi, this ▸ hz⟩
theorem hi_new {n : Nat} {O : Nat → Nat} {r c : Nat} {B z : Int} {s : Int32} (hr : r ≤ 5) (hc : c < 5) (h : hiS n O r c B s) (hz : isSc n O r c z) (hlt : B < z) : hiS n O r (c + 1) z (0 ||| ((1 : Int32) <<< (nI c &&& 31))) := by
  obtain ⟨h1, h2, h3⟩ := h
  refine ⟨vb_congr (vb_ins vb_empty hc) (fun i hi => ⟨?_, ?_⟩), fun d hd z' hz' => ?_, fun _ => ⟨c, by omega, hz⟩⟩
  · rintro (a | rfl)
    · exact a.elim
    · exact ⟨by omega, hz⟩
  · rintro ⟨a, b⟩
    by_cases e : i = c
    · exact Or.inr e
    · have := h2 i (by omega) z b
      omega
  · by_cases e : d = c
    · subst e
      rw [isSc_u hr hz hz']; exact Int.le_refl _
    · have := h2 d (by omega) z' hz'
      omega
theorem hi_same {n : Nat} {O : Nat → Nat} {r c : Nat} {B : Int} {s : Int32} (hr : r ≤ 5) (hc : c < 5) (h : hiS n O r c B s) (hz : isSc n O r c B) : hiS n O r (c + 1) B (s ||| ((1 : Int32) <<< (nI c &&& 31))) := by
  obtain ⟨h1, h2, h3⟩ := h
  refine ⟨vb_congr (vb_ins h1 hc) (fun i hi => ⟨?_, ?_⟩), fun d hd z' hz' => ?_, fun _ => ⟨c, by omega, hz⟩⟩
  · rintro (a | rfl)
    · exact ⟨by omega, a.2⟩
    · exact ⟨by omega, hz⟩
  · rintro ⟨a, b⟩
    by_cases e : i = c
    · exact Or.inr e
    · exact Or.inl ⟨by omega, b⟩
  · by_cases e : d = c
    · subst e
      rw [isSc_u hr hz hz']; exact Int.le_refl _
    · exact h2 d (by omega) z' hz'
theorem hi_less {n : Nat} {O : Nat → Nat} {r c : Nat} {B z : Int} {s : Int32} (hr : r ≤ 5) (h0 : 0 < c) (h : hiS n O r c B s) (hz : isSc n O r c z) (hlt : z < B) : hiS n O r (c + 1) B s := by
  obtain ⟨h1, h2, h3⟩ := h
  refine ⟨vb_congr h1 (fun i hi => ⟨fun a => ⟨by omega, a.2⟩, fun a => ⟨?_, a.2⟩⟩), fun d hd z' hz' => ?_, fun _ => ?_⟩
  · by_cases e : i = c
    · subst e
      have := isSc_u hr hz a.2
      omega
    · omega
  · by_cases e : d = c
    · subst e
      have := isSc_u hr hz hz'
      omega
    · exact h2 d (by omega) z' hz'
  · obtain ⟨i, a, b⟩ := h3 h0
    exact ⟨i, by omega, b⟩
theorem x_gs {post : Int32 → Prop} {xc : Int32} {xo xr xp xm xb xs xq xn xu xl xg xk xt xw xv : Nat → Int32} {n : Nat} {O : Nat → Nat} (h : zRX n O (xc, xo, xr, xp, xm, xb, xs, xq, xn, xu, xl, xg, xk, xt, xw, xv)) {r : Nat} (hr : r ≤ 5) (hp : ∀ s, isSet s (WS n O r) → post s) : wpX_greatestScores post (xc, xo, xr, xp, xm, xb, xs, xq, xn, xu, xl, xg, xk, xt, xw, xv) (nI r) := by
  have hn := h.1.1
  unfold wpX_greatestScores
  dsimp only
  refine x_so h hr (c := 0) (by omega) (fun z0 hz0 => ?_)
  refine pk_loop (σ := Int32 × Int32) (fun m c s => wX_greatestScores_12 post (nI r) xc xo xr xp xm xb xs xq xn xu xl xg xk xt xw xv m s.1 s.2 (nI c)) (fun c s => 0 < c ∧ ∃ B, s.1 = iI B ∧ -9 ≤ B ∧ B ≤ 45 ∧ hiS n O r c B s.2) 5 1 (iI z0, 1) (by omega) ?_ ?_ ?_
  · have hb := isSc_bd hn hr hz0
    refine ⟨by omega, z0, rfl, hb.1, hb.2, ?_, fun d hd z hz => ?_, fun _ => ⟨0, by omega, hz0⟩⟩
    · intro i
      dsimp only
      constructor
      · intro hbt
        have hi : i < 32 := by
          rcases Nat.lt_or_ge i 32 with g | g
          · exact g
          · rw [b_big g] at hbt; cases hbt
        rw [vb_1 i hi, decide_eq_true_eq] at hbt
        subst hbt
        exact ⟨by omega, by omega, hz0⟩
      · rintro ⟨a, b, c⟩
        have : i = 0 := by omega
        subst this
        exact vb_1 0 (by omega)
    · have : d = 0 := by omega
      subst this
      rw [isSc_u hr hz0 hz]; exact Int.le_refl _
  · rintro m ⟨x2, x3⟩ ⟨_, B, _, _, _, hs⟩
    dsimp only at hs ⊢
    rw [wX_greatestScores_12]
    exact br_t (by decide) (hp _ (hi_end hs))
  · rintro m c ⟨x2, x3⟩ hc ⟨h0, B, e, hb1, hb2, hs⟩ hK
    dsimp only at hs e hK ⊢
    subst e
    rw [wX_greatestScores_12]
    refine br_f (nI_ge (b := 5) hc (by decide)) (x_so h hr hc (fun z hz => ?_))
    have hb := isSc_bd hn hr hz
    refine vi_le z B (fun hle => ?_) (fun hlt => ?_)
    · unfold wX_greatestScores_38
      refine vi_eq z B (fun e => ?_) (fun e => ?_)
      · subst e
        exact nm_e (nm_r (nI_1 c) (hK (iI z, x3 ||| ((1 : Int32) <<< (nI c &&& 31))) ⟨by omega, z, rfl, hb1, hb2, hi_same hr hc hs hz⟩))
      · exact nm_r (nI_1 c) (hK (iI B, x3) ⟨by omega, B, rfl, hb1, hb2, hi_less hr h0 hs hz (by omega)⟩)
    · unfold wX_greatestScores_38
      exact br_t rfl (nm_e (nm_r (nI_1 c) (hK (iI z, 0 ||| ((1 : Int32) <<< (nI c &&& 31))) ⟨by omega, z, rfl, hb.1, hb.2, hi_new hr hc hs hz hlt⟩)))
theorem y_hi {post : Int32 → Prop} {yn yc : Int32} {yo yp ym ys yl yb yw yk yt yz yx : Nat → Int32} {n : Nat} {O : Nat → Nat} (h : zRYM n O (yn, yc, yo, yp, ym, ys, yl, yb, yw, yk, yt, yz, yx)) {r : Nat} (hr : r ≤ 5) (hp : ∀ s, isSet s (WS n O r) → post s) : wpY_highest post (yn, yc, yo, yp, ym, ys, yl, yb, yw, yk, yt, yz, yx) (nI r) := by
  have hn := h.1.1
  unfold wpY_highest
  dsimp only
  refine pk_loop (σ := Int32 × Int32) (fun m c s => wY_highest_9 post (nI r) yn yc yo yp ym ys yl yb yw yk yt yz yx m s.1 s.2 (nI c)) (fun c s => ∃ B, s.2 = iI B ∧ -1000 ≤ B ∧ B ≤ 45 ∧ (c = 0 → B = -1000) ∧ hiS n O r c B s.1) 5 0 (0, -1000) (by omega) ?_ ?_ ?_
  · exact ⟨-1000, by decide, by omega, by omega, fun _ => rfl, vb_congr vb_empty (fun i _ => by simp), fun d hd => by omega, fun z => by omega⟩
  · rintro m ⟨x2, x3⟩ ⟨B, _, _, _, _, hs⟩
    dsimp only at hs ⊢
    rw [wY_highest_9]
    exact br_t (by decide) (hp _ (hi_end hs))
  · rintro m c ⟨x2, x3⟩ hc ⟨B, e, hb1, hb2, h0, hs⟩ hK
    dsimp only at hs e hK ⊢
    subst e
    rw [wY_highest_9]
    refine br_f (nI_ge (b := 5) hc (by decide)) (y_so h hr hc (fun z hz => ?_))
    have hb := isSc_bd hn hr hz
    refine vi_le z B (fun hle => ?_) (fun hlt => ?_)
    · unfold wY_highest_32
      refine vi_le z B (fun _ => ?_) (fun hlt => by omega)
      unfold wY_highest_41
      refine vi_eq z B (fun e => ?_) (fun e => ?_)
      · subst e
        exact nm_e (nm_r (nI_1 c) (hK (x2 ||| ((1 : Int32) <<< (nI c &&& 31)), iI z) ⟨z, rfl, hb1, hb2, fun e => by omega, hi_same hr hc hs hz⟩))
      · have hc0 : 0 < c := by
          rcases Nat.eq_zero_or_pos c with g | g
          · have := h0 g; omega
          · exact g
        exact nm_r (nI_1 c) (hK (x2, iI B) ⟨B, rfl, hb1, hb2, fun e => by omega, hi_less hr hc0 hs hz (by omega)⟩)
    · unfold wY_highest_32
      refine vi_le z B (fun hle => by omega) (fun _ => ?_)
      unfold wY_highest_41
      exact br_t rfl (nm_e (nm_r (nI_1 c) (hK (0 ||| ((1 : Int32) <<< (nI c &&& 31)), iI z) ⟨z, rfl, by omega, hb.2, fun e => by omega, hi_new hr hc hs hz hlt⟩)))
end
section
/-! ===== rules 6, 7, 8: eliminations ===== -/
theorem nb1 : vp_nar .boolean 1 = 1 := by rfl
theorem nb0 : vp_nar .boolean 0 = 0 := by rfl
def rmv (s c : Nat) : Nat := if s.testBit c then s - 2 ^ c else s
def sgb (s : Nat) : Bool := s == 1 || s == 2 || s == 4 || s == 8 || s == 16
theorem rmv_I : ∀ s, s < 32 → ∀ c, c < 5 → nI s &&& (((1 : Int32) <<< (nI c &&& 31)) ^^^ (-1)) = nI (rmv s c) := by decide +kernel
theorem rmv_lt : ∀ s, s < 32 → ∀ c, c < 5 → s.testBit c = true → rmv s c < s := by decide +kernel
theorem rmv_32 : ∀ s, s < 32 → ∀ c, c < 5 → rmv s c < 32 := by decide +kernel
theorem sgb_X : ∀ s, s < 32 → (szI (nI s) = 1 ↔ sgb s = true) := by decide +kernel
theorem sgb_Y : ∀ s, s < 32 → 0 < s → ((nI s &&& (nI s - 1)) = 0 ↔ sgb s = true) := by decide +kernel
theorem sgb_p : ∀ s, s < 32 → sgb s = true → ∃ c, c < 5 ∧ s = 2 ^ c := by
  intro s _ h
  unfold sgb at h
  simp only [Bool.or_eq_true, beq_iff_eq] at h
  rcases h with (((h | h) | h) | h) | h
  · exact ⟨0, by omega, h⟩
  · exact ⟨1, by omega, h⟩
  · exact ⟨2, by omega, h⟩
  · exact ⟨3, by omega, h⟩
  · exact ⟨4, by omega, h⟩
theorem sgb_q : ∀ c, c < 5 → sgb (2 ^ c) = true ∧ 2 ^ c < 32 ∧ (1 : Int32) <<< (nI c &&& 31) = nI (2 ^ c) := by decide +kernel
theorem bit_ex : ∀ s, s < 32 → 0 < s → s.testBit 0 = true ∨ s.testBit 1 = true ∨ s.testBit 2 = true ∨ s.testBit 3 = true ∨ s.testBit 4 = true := by decide +kernel
theorem pw_inj : ∀ c, c < 5 → ∀ d, d < 5 → 2 ^ c = 2 ^ d → c = d := by decide +kernel
/-- c has the least score by rule r among the members of s -/
def lst (n : Nat) (O : Nat → Nat) (r s c : Nat) : Prop := ∀ d, d < 5 → s.testBit d = true → Vs r c (nI s) n O ≤ Vs r d (nI s) n O
/-- the sets that an elimination can come to -/
def EL (n : Nat) (O : Nat → Nat) (r t : Nat) : Prop := ∀ F : Nat → Prop, F 31 → (∀ s c, s < 32 → 0 < s → F s → sgb s = false → c < 5 → s.testBit c = true → lst n O r s c → F (rmv s c)) → F t
theorem EL_go {n : Nat} {O : Nat → Nat} {r s c : Nat} (h : EL n O r s) (hs : s < 32) (h0 : 0 < s) (hg : sgb s = false) (hc : c < 5) (hb : s.testBit c = true) (hl : lst n O r s c) : EL n O r (rmv s c) :=
  fun F h31 hF => hF s c hs h0 (h F h31 hF) hg hc hb hl
def gone (n : Nat) (O : Nat → Nat) (r s : Nat) (q q' : Nat → Int32) : Prop :=
  (∀ c, c < 5 → s.testBit c = true → lst n O r s c → q' (rmv s c) ≠ 0) ∧ (∀ t, q' t ≠ 0 → q t ≠ 0 ∨ ∃ c, c < 5 ∧ s.testBit c = true ∧ lst n O r s c ∧ t = rmv s c) ∧ (∀ t, q t ≠ 0 → q' t ≠ 0)
/-- all sets above s are dealt with -/
def elI (n : Nat) (O : Nat → Nat) (r s : Nat) (q : Nat → Int32) : Prop :=
  (∀ t, t < 32 → q t ≠ 0 → EL n O r t) ∧ q 31 ≠ 0 ∧ (∀ t, s < t → t < 32 → q t ≠ 0 → sgb t = false → ∀ c, c < 5 → t.testBit c = true → lst n O r t c → q (rmv t c) ≠ 0)
theorem el_skip {n : Nat} {O : Nat → Nat} {r s : Nat} {q : Nat → Int32} (h : elI n O r (s + 1) q) (hq : q (s + 1) = 0 ∨ sgb (s + 1) = true) : elI n O r s q := by
  obtain ⟨h1, h2, h3⟩ := h
  refine ⟨h1, h2, fun t ht ht2 hqt hsg => ?_⟩
  by_cases e : t = s + 1
  · subst e
    rcases hq with hq | hq
    · exact absurd hq hqt
    · rw [hq] at hsg; cases hsg
  · exact h3 t (by omega) ht2 hqt hsg
theorem el_go {n : Nat} {O : Nat → Nat} {r s : Nat} {q q' : Nat → Int32} (hs : s + 1 < 32) (h : elI n O r (s + 1) q) (hq : q (s + 1) ≠ 0) (hg : sgb (s + 1) = false) (hgo : gone n O r (s + 1) q q') : elI n O r s q' := by
  obtain ⟨h1, h2, h3⟩ := h
  obtain ⟨g1, g2, g3⟩ := hgo
  refine ⟨fun t ht hqt => ?_, g3 _ h2, fun t ht ht2 hqt hsg c hc hb hl => ?_⟩
  · rcases g2 t hqt with a | ⟨c, hc, hb, hl, e⟩
    · exact h1 t ht a
    · rw [e]; exact EL_go (h1 _ hs hq) hs (by omega) hg hc hb hl
  · by_cases e : t = s + 1
    · subst e; exact g1 c hc hb hl
    · rcases g2 t hqt with a | ⟨d, hd, hb2, hl2, e2⟩
      · exact g3 _ (h3 t (by omega) ht2 a hsg c hc hb hl)
      · have := rmv_lt (s + 1) hs d hd hb2
        omega
theorem el_keep {n : Nat} {O : Nat → Nat} {r s : Nat} {q q' : Nat → Int32} (hs : s < 32) (hgo : gone n O r s q q') {t : Nat} (ht : s ≤ t) : q' t ≠ 0 ↔ q t ≠ 0 := by
  obtain ⟨g1, g2, g3⟩ := hgo
  refine ⟨fun h => ?_, g3 t⟩
  rcases g2 t h with a | ⟨d, hd, hb2, hl2, e2⟩
  · exact a
  · have := rmv_lt s hs d hd hb2
    omega
theorem el_end {n : Nat} {O : Nat → Nat} {r : Nat} {q : Nat → Int32} (h : elI n O r 0 q) {t : Nat} (ht : t < 32) : q t ≠ 0 ↔ EL n O r t := by
  obtain ⟨h1, h2, h3⟩ := h
  exact ⟨h1 t ht, fun hE => hE (fun t => q t ≠ 0) h2 (fun s c hs h0 hF hg hc hb hl => h3 s h0 hs hF hg c hc hb hl)⟩
/-- the least score found among the members below c -/
def lsI (n : Nat) (O : Nat → Nat) (r s c : Nat) (L B : Int) : Prop := (∀ d, d < c → s.testBit d = true → L ≤ Vs r d (nI s) n O) ∧ ((L = B ∧ ∀ d, d < c → s.testBit d = false) ∨ ∃ d, d < c ∧ s.testBit d = true ∧ L = Vs r d (nI s) n O)
theorem ls_no {n : Nat} {O : Nat → Nat} {r s c : Nat} {L B : Int} (h : lsI n O r s c L B) (hb : s.testBit c = false) : lsI n O r s (c + 1) L B := by
  obtain ⟨h1, h2⟩ := h
  refine ⟨fun d hd hbd => ?_, ?_⟩
  · by_cases e : d = c
    · subst e; rw [hb] at hbd; cases hbd
    · exact h1 d (by omega) hbd
  · rcases h2 with ⟨a, b⟩ | ⟨d, a, b, e⟩
    · refine Or.inl ⟨a, fun d hd => ?_⟩
      by_cases e : d = c
      · subst e; exact hb
      · exact b d (by omega)
    · exact Or.inr ⟨d, by omega, b, e⟩
theorem ls_ge {n : Nat} {O : Nat → Nat} {r s c : Nat} {L B : Int} (h : lsI n O r s c L B) (hB : Vs r c (nI s) n O < B) (hle : L ≤ Vs r c (nI s) n O) : lsI n O r s (c + 1) L B := by
  obtain ⟨h1, h2⟩ := h
  refine ⟨fun d hd hbd => ?_, ?_⟩
  · by_cases e : d = c
    · subst e; exact hle
    · exact h1 d (by omega) hbd
  · rcases h2 with ⟨a, b⟩ | ⟨d, a, b, e⟩
    · omega
    · exact Or.inr ⟨d, by omega, b, e⟩
theorem ls_lt {n : Nat} {O : Nat → Nat} {r s c : Nat} {L B : Int} (h : lsI n O r s c L B) (hb : s.testBit c = true) (hlt : Vs r c (nI s) n O < L) : lsI n O r s (c + 1) (Vs r c (nI s) n O) B := by
  obtain ⟨h1, h2⟩ := h
  refine ⟨fun d hd hbd => ?_, Or.inr ⟨c, by omega, hb, rfl⟩⟩
  by_cases e : d = c
  · subst e; exact Int.le_refl _
  · have := h1 d (by omega) hbd
    omega
theorem ls_end {n : Nat} {O : Nat → Nat} {r s : Nat} {L B : Int} (h : lsI n O r s 5 L B) (hs : s < 32) (h0 : 0 < s) {c : Nat} (hc : c < 5) (hb : s.testBit c = true) : Vs r c (nI s) n O = L ↔ lst n O r s c := by
  obtain ⟨h1, h2⟩ := h
  constructor
  · intro e d hd hbd
    have := h1 d hd hbd
    omega
  · intro hl
    have h3 := h1 c hc hb
    rcases h2 with ⟨_, b⟩ | ⟨d, a, b, e⟩
    · rw [b c hc] at hb; cases hb
    · have := hl d a b
      omega
/-- the sets that have been marked for the members below c -/
def mkI (n : Nat) (O : Nat → Nat) (r s c : Nat) (q q' : Nat → Int32) : Prop :=
  (∀ d, d < c → d < 5 → s.testBit d = true → lst n O r s d → q' (rmv s d) ≠ 0) ∧ (∀ t, q' t ≠ 0 → q t ≠ 0 ∨ ∃ d, d < 5 ∧ s.testBit d = true ∧ lst n O r s d ∧ t = rmv s d) ∧ (∀ t, q t ≠ 0 → q' t ≠ 0)
theorem mk_no {n : Nat} {O : Nat → Nat} {r s c : Nat} {q q' : Nat → Int32} (h : mkI n O r s c q q') (hno : s.testBit c = true → ¬ lst n O r s c) : mkI n O r s (c + 1) q q' := by
  obtain ⟨h1, h2, h3⟩ := h
  refine ⟨fun d hd hd5 hb hl => ?_, h2, h3⟩
  by_cases e : d = c
  · subst e; exact absurd hl (hno hb)
  · exact h1 d (by omega) hd5 hb hl
theorem mk_yes {n : Nat} {O : Nat → Nat} {r s c : Nat} {q q' : Nat → Int32} (h : mkI n O r s c q q') (hc : c < 5) (hb : s.testBit c = true) (hl : lst n O r s c) : mkI n O r s (c + 1) q (upd q' (rmv s c) 1) := by
  obtain ⟨h1, h2, h3⟩ := h
  have key : ∀ t, q' t ≠ 0 → upd q' (rmv s c) 1 t ≠ 0 := by
    intro t ht
    by_cases e : t = rmv s c
    · rw [e, pk_us]; decide
    · rw [pk_un e]; exact ht
  refine ⟨fun d hd hd5 hb' hl' => ?_, fun t ht => ?_, fun t ht => key t (h3 t ht)⟩
  · by_cases e : d = c
    · subst e; rw [pk_us]; decide
    · exact key _ (h1 d (by omega) hd5 hb' hl')
  · by_cases e : t = rmv s c
    · exact Or.inr ⟨c, hc, hb, hl, e⟩
    · rw [pk_un e] at ht; exact h2 t ht
theorem mk_end {n : Nat} {O : Nat → Nat} {r s : Nat} {q q' : Nat → Int32} (h : mkI n O r s 5 q q') : gone n O r s q q' :=
  ⟨fun c hc hb hl => h.1 c hc hc hb hl, h.2.1, h.2.2⟩
theorem nI_hi {s : Nat} (hs : s < 32) : ∀ j, 5 ≤ j → bt (nI s) j = false := by
  intro j hj
  rw [vb_nIs (by omega)]
  exact Nat.testBit_lt_two_pow (Nat.lt_of_lt_of_le hs (show 2 ^ 5 ≤ 2 ^ j from Nat.pow_le_pow_right (by decide) hj))
theorem x_lg {post : SX → Prop} {xc : Int32} {xo xr xp xm xb xs xq xn xu xl xg xk xt xw xv : Nat → Int32} {n : Nat} {O : Nat → Nat} (h : zRX n O (xc, xo, xr, xp, xm, xb, xs, xq, xn, xu, xl, xg, xk, xt, xw, xv)) {r s : Nat} (hr : r ≤ 2) (hs : s < 32) (h0 : 0 < s)
    (hp : ∀ q' n' : Nat → Int32, gone n O r s xq q' → post (xc, xo, xr, xp, xm, xb, xs, q', n', xu, xl, xg, xk, xt, xw, xv)) : wpX_letOneGo post (xc, xo, xr, xp, xm, xb, xs, xq, xn, xu, xl, xg, xk, xt, xw, xv) (nI r) (nI s) := by
  have hn := h.1.1
  unfold wpX_letOneGo
  dsimp only
  have hbit : ∀ c, bt (nI s) c = s.testBit c := vb_nIs (by omega)
  refine pk_loop (σ := Int32 × (Nat → Int32)) (fun m c x => wX_letOneGo_6 post (nI r) (nI s) xc m x.1 (nI c) xo xr xp xm xb xs xq x.2 xu xl xg xk xt xw xv) (fun c x => ∃ L, x.1 = iI L ∧ -9 ≤ L ∧ L ≤ 1000000 ∧ lsI n O r s c L 1000000 ∧ ∀ d, d < c → s.testBit d = true → x.2 d = iI (Vs r d (nI s) n O)) 5 0 (1000000, xn) (by omega) ⟨1000000, (by decide : (1000000 : Int32) = iI 1000000), by omega, by omega, ⟨fun d hd => by omega, Or.inl ⟨rfl, fun d hd => by omega⟩⟩, fun d hd => by omega⟩ ?_ ?_
  · rintro m ⟨x3, x8⟩ ⟨L, e, hL1, hL2, hl, hv⟩
    dsimp only at e hv ⊢
    subst e
    rw [wX_letOneGo_6]
    refine br_t (by decide) ?_
    refine pk_loop (σ := Nat → Int32) (fun m' c q => wX_letOneGo_64 post (nI s) (iI L) xc m' (nI c) xo xr xp xm xb xs q x8 xu xl xg xk xt xw xv) (fun c q => mkI n O r s c xq q) 5 0 xq (by omega) ⟨fun d hd => by omega, fun t ht => Or.inl ht, fun t ht => ht⟩ ?_ ?_
    · intro m' q hq
      rw [wX_letOneGo_64]
      exact br_t (by decide) (hp q x8 (mk_end hq))
    · intro m' c q hc hq hK
      rw [wX_letOneGo_64]
      refine br_f (nI_ge (b := 5) hc (by decide)) (x_has (by omega) (fun hb => br_f (by decide) ⟨vp_in_nI hc (by decide), ?_⟩) (fun hb => br_t rfl (nm_r (nI_1 c) (hK q (mk_no hq (fun z => by rw [hbit, z] at hb; cases hb))))))
      rw [hbit] at hb
      have hV := Vs_bd hn r c (nI s) O
      rw [nI_clamp (by omega), hv c hc hb]
      refine vi_eq (Vs r c (nI s) n O) L (fun e => ?_) (fun e => ?_)
      · rw [rmv_I s hs c hc]
        have := rmv_32 s hs c hc
        refine ⟨vp_in_nI this (by decide), nm_r (e' := upd q (rmv s c) 1) (by rw [nI_clamp (by omega), nb1]) (nm_r (nI_1 c) (hK (upd q (rmv s c) 1) (mk_yes hq hc hb ((ls_end hl hs h0 hc hb).mp e))))⟩
      · exact nm_r (nI_1 c) (hK q (mk_no hq (fun z hz => e ((ls_end hl hs h0 hc hb).mpr hz))))
  · rintro m c ⟨x3, x8⟩ hc ⟨L, e, hL1, hL2, hl, hv⟩ hK
    dsimp only at e hv hK ⊢
    subst e
    rw [wX_letOneGo_6]
    refine br_f (nI_ge (b := 5) hc (by decide)) (x_sa (n := n) (O := O) ?_ hr hc (nI_hi hs) (fun z hz hz1 hz2 => ?_))
    · exact h.1
    refine ⟨vp_in_nI hc (by decide), nm_r (e' := upd x8 c (iI z)) (by rw [nI_clamp (by omega)]) ?_⟩
    have hv' : s.testBit c = true → ∀ d, d < c + 1 → s.testBit d = true → upd x8 c (iI z) d = iI (Vs r d (nI s) n O) := by
      intro hb d hd hbd
      by_cases e : d = c
      · subst e; rw [pk_us, hz (by rw [hbit]; exact hb)]
      · rw [pk_un e]; exact hv d (by omega) hbd
    refine x_has (by omega) (fun hb => br_f (by decide) ⟨vp_in_nI hc (by decide), ?_⟩) (fun hb => br_t rfl (nm_r (nI_1 c) (hK (iI L, upd x8 c (iI z)) ⟨L, rfl, hL1, hL2, ls_no hl (by rw [hbit] at hb; exact hb), fun d hd hbd => ?_⟩)))
    · have hb' := hb
      rw [hbit] at hb
      have ez := hz hb'
      rw [nI_clamp (by omega), pk_us]
      refine vi_le L z (fun hle => nm_r (nI_1 c) (hK (iI L, upd x8 c (iI z)) ⟨L, rfl, hL1, hL2, ls_ge hl (by omega) (by omega), hv' hb⟩)) (fun hlt => ⟨vp_in_nI hc (by decide), nm_r rfl (nm_r (nI_1 c) (hK (iI z, upd x8 c (iI z)) ⟨z, rfl, hz1, by omega, ?_, hv' hb⟩))⟩)
      rw [ez]
      exact ls_lt hl hb (by omega)
    · dsimp only
      rw [hbit] at hb
      by_cases e : d = c
      · subst e; rw [hb] at hbd; cases hbd
      · rw [pk_un e]; exact hv d (by omega) hbd
theorem y_sh {post : SY → Prop} {yn yc : Int32} {yo yp ym ys yl yb yw yk yt yz yx : Nat → Int32} {n : Nat} {O : Nat → Nat} (h : zRY n O (yn, yc, yo, yp, ym, ys, yl, yb, yw, yk, yt, yz, yx)) {r s : Nat} (hr : r ≤ 2) (hs : s < 32) (h0 : 0 < s)
    (hp : ∀ q' : Nat → Int32, gone n O r s yl q' → post (yn, yc, yo, yp, ym, ys, q', yb, yw, yk, yt, yz, yx)) : wpY_shrink post (yn, yc, yo, yp, ym, ys, yl, yb, yw, yk, yt, yz, yx) (nI s) (nI r) := by
  have hn := h.1
  unfold wpY_shrink
  dsimp only
  have hbit : ∀ c, bt (nI s) c = s.testBit c := vb_nIs (by omega)
  refine pk_loop (σ := Int32) (fun m c x => wY_shrink_7 post (nI s) (nI r) yn yc yo yp ym ys yl yb yw yk yt yz yx m x (nI c)) (fun c x => ∃ L, x = iI L ∧ -9 ≤ L ∧ L ≤ 1000 ∧ lsI n O r s c L 1000) 5 0 1000 (by omega) ⟨1000, by decide, by omega, by omega, ⟨fun d hd => by omega, Or.inl ⟨rfl, fun d hd => by omega⟩⟩⟩ ?_ ?_
  · rintro m x3 ⟨L, e, hL1, hL2, hl⟩
    subst e
    rw [wY_shrink_7]
    refine br_t (by decide) ?_
    refine pk_loop (σ := Nat → Int32) (fun m' c q => wY_shrink_51 post (nI s) (nI r) (iI L) yn yc m' (nI c) yo yp ym ys q yb yw yk yt yz yx) (fun c q => mkI n O r s c yl q) 5 0 yl (by omega) ⟨fun d hd => by omega, fun t ht => Or.inl ht, fun t ht => ht⟩ ?_ ?_
    · intro m' q hq
      rw [wY_shrink_51]
      exact br_t (by decide) (hp q (mk_end hq))
    · intro m' c q hc hq hK
      rw [wY_shrink_51]
      refine br_f (nI_ge (b := 5) hc (by decide)) ?_
      have hV := Vs_bd hn r c (nI s) O
      cases hb : s.testBit c with
      | true =>
        refine br_t ((vb_has (by omega)).mpr (by rw [hbit]; exact hb)) (y_va (n := n) (O := O) ?_ hr hc (nI s) ?_)
        · exact h
        refine vi_eq (Vs r c (nI s) n O) L (fun e => ?_) (fun e => ?_)
        · rw [rmv_I s hs c hc]
          have := rmv_32 s hs c hc
          refine ⟨vp_in_nI this (by decide), nm_r (e' := upd q (rmv s c) 1) (by rw [nI_clamp (by omega), nb1]) (nm_r (nI_1 c) (hK (upd q (rmv s c) 1) (mk_yes hq hc hb ((ls_end hl hs h0 hc hb).mp e))))⟩
        · exact nm_r (nI_1 c) (hK q (mk_no hq (fun z hz => e ((ls_end hl hs h0 hc hb).mpr hz))))
      | false =>
        exact br_f (fun hh => by rw [vb_has (by omega), hbit, hb] at hh; cases hh) (nm_r (nI_1 c) (hK q (mk_no hq (fun z => by rw [z] at hb; cases hb))))
  · rintro m c x3 hc ⟨L, e, hL1, hL2, hl⟩ hK
    subst e
    rw [wY_shrink_7]
    have hV := Vs_bd hn r c (nI s) O
    refine br_f (nI_ge (b := 5) hc (by decide)) (y_va h hr hc (nI s) ?_)
    cases hb : s.testBit c with
    | true =>
      refine br_t ((vb_has (by omega)).mpr (by rw [hbit]; exact hb)) ?_
      exact vi_le L (Vs r c (nI s) n O) (fun hle => nm_r (nI_1 c) (hK (iI L) ⟨L, rfl, hL1, hL2, ls_ge hl (by omega) (by omega)⟩)) (fun hlt => nm_r (nI_1 c) (hK _ ⟨_, rfl, hV.1, by omega, ls_lt hl hb hlt⟩))
    | false =>
      exact br_f (fun hh => by rw [vb_has (by omega), hbit, hb] at hh; cases hh) (nm_r (nI_1 c) (hK (iI L) ⟨L, rfl, hL1, hL2, ls_no hl hb⟩))
end
section
/-! ===== rules 6, 7, 8: the main loops ===== -/
theorem bt_sg : ∀ s, s < 32 → ∀ i, i < 32 → bt (nI s) i = s.testBit i := fun s _ i hi => vb_nI s i hi
theorem sg_bit : ∀ s, s < 32 → sgb s = true → ∀ i, i < 5 → (s.testBit i = true ↔ s = 2 ^ i) := by decide +kernel
theorem x_ps {post : Int32 → SX → Prop} {u : SX} {n : Nat} {O : Nat → Nat} {V : Nat → Int32} (h : zRV n O V u) {r : Nat} (hr : r ≤ 2) (hp : ∀ w u', isSet w (fun c => EL n O r (2 ^ c)) → zRV n O V u' → post w u') : wpX_possibleSurvivors post u (nI r) := by
  obtain ⟨xc, xo, xr, xp, xm, xb, xs, xq, xn, xu, xl, xg, xk, xt, xw, xv⟩ := u
  unfold wpX_possibleSurvivors
  dsimp only
  refine pk_loop (σ := Nat → Int32) (fun m t q => wX_possibleSurvivors_2 post (nI r) xc m (nI t) xo xr xp xm xb xs q xn xu xl xg xk xt xw xv) (fun t q => ∀ j, j < t → q j = 0) 32 0 xq (by omega) (fun j hj => by omega) ?_ ?_
  · intro m q hq
    rw [wX_possibleSurvivors_2]
    refine br_t (by decide) (nm_r (e' := upd q 31 1) (by rw [nb1]) ⟨32, ?_⟩)
    have key := pk_loopD (σ := Int32 × SX) (fun m s x => wX_possibleSurvivors_34 post (nI r) m x.1 (nI s) x.2.1 x.2.2.1 x.2.2.2.1 x.2.2.2.2.1 x.2.2.2.2.2.1 x.2.2.2.2.2.2.1 x.2.2.2.2.2.2.2.1 x.2.2.2.2.2.2.2.2.1 x.2.2.2.2.2.2.2.2.2.1 x.2.2.2.2.2.2.2.2.2.2.1 x.2.2.2.2.2.2.2.2.2.2.2.1 x.2.2.2.2.2.2.2.2.2.2.2.2.1 x.2.2.2.2.2.2.2.2.2.2.2.2.2.1 x.2.2.2.2.2.2.2.2.2.2.2.2.2.2.1 x.2.2.2.2.2.2.2.2.2.2.2.2.2.2.2.1 x.2.2.2.2.2.2.2.2.2.2.2.2.2.2.2.2)
      (fun s x => s < 32 ∧ zRV n O V x.2 ∧ elI n O r s (x.2.2.2.2.2.2.2.2.1) ∧ isSet x.1 (fun c => s < 2 ^ c ∧ x.2.2.2.2.2.2.2.2.1 (2 ^ c) ≠ 0))
      (by
        rintro m ⟨w, ⟨xc', xo', xr', xp', xm', xb', xs', xq', xn', xu', xl', xg', xk', xt', xw', xv'⟩⟩ ⟨_, hX, he, hw⟩
        dsimp only at he hw ⊢
        rw [wX_possibleSurvivors_34]
        refine br_t (by decide) (hp w _ (vb_congr hw (fun i hi => ?_)) hX)
        have hi2 := sgb_q i hi
        rw [← el_end he hi2.2.1]
        have : 0 < 2 ^ i := Nat.two_pow_pos i
        simp [this])
      (by
        rintro m s ⟨w, ⟨xc', xo', xr', xp', xm', xb', xs', xq', xn', xu', xl', xg', xk', xt', xw', xv'⟩⟩ ⟨hs, hX, he, hw⟩ hK
        dsimp only at he hw hK ⊢
        rw [wX_possibleSurvivors_34]
        refine br_f (nI_nle (by omega) (by omega)) ⟨vp_in_nI hs (by decide), ?_⟩
        rw [nI_clamp (by omega)]
        have skip : (xq' (s + 1) = 0 ∨ sgb (s + 1) = false) → isSet w (fun c => s < 2 ^ c ∧ xq' (2 ^ c) ≠ 0) := by
          intro hz
          refine vb_congr hw (fun i hi => ⟨fun a => ⟨by omega, a.2⟩, fun a => ⟨?_, a.2⟩⟩)
          by_cases e : 2 ^ i = s + 1
          · rcases hz with hz | hz
            · rw [← e] at hz; exact absurd hz a.2
            · have := (sgb_q i hi).1
              rw [e, hz] at this; cases this
          · omega
        refine br_c (fun hz => nm_r (pk_m1 s) (hK (w, (xc', xo', xr', xp', xm', xb', xs', xq', xn', xu', xl', xg', xk', xt', xw', xv')) ⟨by omega, hX, el_skip he (Or.inl hz), skip (Or.inl hz)⟩)) (fun hz => x_size ?_)
        have hsz := szI_bd (nI (s + 1))
        refine vi_eq (szI (nI (s + 1))) 1 (fun e => ?_) (fun e => ?_)
        · have hg := (sgb_X (s + 1) hs).mp e
          refine nm_e (nm_r (pk_m1 s) (hK (w ||| nI (s + 1), (xc', xo', xr', xp', xm', xb', xs', xq', xn', xu', xl', xg', xk', xt', xw', xv')) ⟨by omega, hX, el_skip he (Or.inr hg), ?_⟩))
          intro i
          dsimp only
          rw [b_or, Bool.or_eq_true, hw i, vb_nIs (by omega)]
          constructor
          · rintro (⟨a, b, c⟩ | a)
            · exact ⟨a, by omega, c⟩
            · have hi : i < 5 := by
                rcases Nat.lt_or_ge i 5 with g | g
                · exact g
                · rw [← vb_nIs (by omega), nI_hi hs i g] at a; cases a
              have e := (sg_bit (s + 1) hs hg i hi).mp a
              exact ⟨hi, by omega, by rw [← e]; exact hz⟩
          · rintro ⟨a, b, c⟩
            by_cases e : 2 ^ i = s + 1
            · exact Or.inr ((sg_bit (s + 1) hs hg i a).mpr e.symm)
            · exact Or.inl ⟨a, by omega, c⟩
        · have hg : sgb (s + 1) = false := by
            cases hgg : sgb (s + 1)
            · rfl
            · exact absurd ((sgb_X (s + 1) hs).mpr hgg) e
          refine x_lg hX.1 hr hs (by omega) (fun q' n' hgo => nm_r (pk_m1 s) (hK (w, (xc', xo', xr', xp', xm', xb', xs', q', n', xu', xl', xg', xk', xt', xw', xv')) ⟨by omega, rv_any hX, el_go hs he hz hg hgo, ?_⟩))
          refine vb_congr (skip (Or.inr hg)) (fun i hi => ⟨fun a => ⟨a.1, (el_keep hs hgo (by omega)).mpr a.2⟩, fun a => ⟨a.1, (el_keep hs hgo (by omega)).mp a.2⟩⟩))
    refine key 31 (0, (xc, xo, xr, xp, xm, xb, xs, (upd q 31 1), xn, xu, xl, xg, xk, xt, xw, xv)) ⟨by omega, rv_any h, ⟨fun t ht hqt => ?_, by dsimp only; rw [pk_us]; decide, fun t h1 h2 => by omega⟩, vb_congr vb_empty (fun i hi => ?_)⟩
    · by_cases e : t = 31
      · subst e; exact fun F h31 _ => h31
      · dsimp only at hqt
        rw [pk_un e] at hqt
        exact absurd (hq t ht) hqt
    · have := (sgb_q i hi).2.1
      dsimp only
      constructor
      · exact fun z => z.elim
      · intro z; omega
  · intro m t q ht hq hK
    rw [wX_possibleSurvivors_2]
    refine br_f (nI_ge (b := 32) ht (by decide)) ⟨vp_in_nI ht (by decide), nm_r (e' := upd q t 0) (by rw [nI_clamp (by omega), nb0]) (nm_r (nI_1 t) (hK (upd q t 0) (fun j hj => ?_)))⟩
    by_cases e : j = t
    · subst e; exact pk_us
    · rw [pk_un e]; exact hq j (by omega)
theorem y_el {post : Int32 → SY → Prop} {v : SY} {n : Nat} {O : Nat → Nat} (h : zRY n O v) {r : Nat} (hr : r ≤ 2) (hp : ∀ w v', isSet w (fun c => EL n O r (2 ^ c)) → zRY n O v' → post w v') : wpY_eliminate post v (nI r) := by
  obtain ⟨yn, yc, yo, yp, ym, ys, yl, yb, yw, yk, yt, yz, yx⟩ := v
  unfold wpY_eliminate
  dsimp only
  refine pk_loop (σ := Nat → Int32) (fun m t q => wY_eliminate_2 post (nI r) yn yc m (nI t) yo yp ym ys q yb yw yk yt yz yx) (fun t q => ∀ j, j < t → (q j ≠ 0 ↔ j = 31)) 32 0 yl (by omega) (fun j hj => by omega) ?_ ?_
  · intro m q hq
    rw [wY_eliminate_2]
    refine br_t (by decide) ⟨32, ?_⟩
    have key := pk_loopD (σ := SY) (fun m s x => wY_eliminate_34 post (nI r) m (nI s) x.1 x.2.1 x.2.2.1 x.2.2.2.1 x.2.2.2.2.1 x.2.2.2.2.2.1 x.2.2.2.2.2.2.1 x.2.2.2.2.2.2.2.1 x.2.2.2.2.2.2.2.2.1 x.2.2.2.2.2.2.2.2.2.1 x.2.2.2.2.2.2.2.2.2.2.1 x.2.2.2.2.2.2.2.2.2.2.2.1 x.2.2.2.2.2.2.2.2.2.2.2.2)
      (fun s x => s < 32 ∧ zRY n O x ∧ elI n O r s (x.2.2.2.2.2.2.1))
      (by
        rintro m ⟨yn', yc', yo', yp', ym', ys', yl', yb', yw', yk', yt', yz', yx'⟩ ⟨_, hY, he⟩
        dsimp only at he ⊢
        rw [wY_eliminate_34]
        refine br_t (by decide) ?_
        refine pk_loop (σ := Int32) (fun m' c w => wY_eliminate_71 post yn' yc' yo' yp' ym' ys' yl' yb' yw' yk' yt' yz' yx' m' w (nI c)) (fun c w => isSet w (fun i => i < c ∧ EL n O r (2 ^ i))) 5 0 0 (by omega) (vb_congr vb_empty (fun i _ => by simp)) ?_ ?_
        · intro m' w hw
          rw [wY_eliminate_71]
          exact br_t (by decide) (hp w _ (vb_congr hw (fun i hi => by simp [hi])) hY)
        · intro m' c w hc hw hK
          rw [wY_eliminate_71]
          have hg := sgb_q c hc
          refine br_f (nI_ge (b := 5) hc (by decide)) ⟨by rw [hg.2.2]; exact vp_in_nI hg.2.1 (by decide), ?_⟩
          have hz : (yl' ((1 : Int32) <<< (nI c &&& 31)).toNatClampNeg = 0) ↔ ¬ EL n O r (2 ^ c) := by
            rw [hg.2.2, nI_clamp (by omega), ← el_end he hg.2.1]
            simp
          refine br_c (fun e => nm_r (nI_1 c) (hK w (vb_congr hw (fun i hi => ?_)))) (fun e => nm_e (nm_r (nI_1 c) (hK _ (vb_congr (vb_ins hw hc) (fun i hi => ?_)))))
          · refine ⟨fun a => ⟨by omega, a.2⟩, fun a => ⟨?_, a.2⟩⟩
            by_cases e2 : i = c
            · subst e2; exact absurd a.2 (hz.mp e)
            · omega
          · constructor
            · rintro (a | rfl)
              · exact ⟨by omega, a.2⟩
              · refine ⟨by omega, ?_⟩
                by_cases e2 : EL n O r (2 ^ i)
                · exact e2
                · exact absurd (hz.mpr e2) e
            · rintro ⟨a, b⟩
              by_cases e2 : i = c
              · exact Or.inr e2
              · exact Or.inl ⟨by omega, b⟩)
      (by
        rintro m s ⟨yn', yc', yo', yp', ym', ys', yl', yb', yw', yk', yt', yz', yx'⟩ ⟨hs, hY, he⟩ hK
        dsimp only at he hK ⊢
        rw [wY_eliminate_34]
        refine br_f (nI_nle (by omega) (by omega)) ⟨vp_in_nI hs (by decide), ?_⟩
        rw [nI_clamp (by omega)]
        refine br_c (fun hz => nm_r (pk_m1 s) (hK (yn', yc', yo', yp', ym', ys', yl', yb', yw', yk', yt', yz', yx') ⟨by omega, hY, el_skip he (Or.inl hz)⟩)) (fun hz => ?_)
        have hsg := sgb_Y (s + 1) hs (by omega)
        refine br_c (fun e => nm_r (pk_m1 s) (hK (yn', yc', yo', yp', ym', ys', yl', yb', yw', yk', yt', yz', yx') ⟨by omega, hY, el_skip he (Or.inr (hsg.mp e))⟩)) (fun e => ?_)
        have hg : sgb (s + 1) = false := by
          cases hgg : sgb (s + 1)
          · rfl
          · exact absurd (hsg.mpr hgg) e
        exact y_sh hY hr hs (by omega) (fun q' hgo => nm_r (pk_m1 s) (hK (yn', yc', yo', yp', ym', ys', q', yb', yw', yk', yt', yz', yx') ⟨by omega, hY, el_go hs he hz hg hgo⟩)))
    refine key 31 (yn, yc, yo, yp, ym, ys, q, yb, yw, yk, yt, yz, yx) ⟨by omega, h, ⟨fun t ht hqt => ?_, (hq 31 (by omega)).mpr rfl, fun t h1 h2 => by omega⟩⟩
    have e := (hq t ht).mp hqt
    subst e
    exact fun F h31 _ => h31
  · intro m t q ht hq hK
    rw [wY_eliminate_2]
    refine br_f (nI_ge (b := 32) ht (by decide)) (pk_eq t 31 (fun e => ?_) (fun e => ?_))
    · refine ⟨vp_in_nI ht (by decide), nm_r (e' := upd q t 1) (by rw [nI_clamp (by omega), nb1]) (nm_r (nI_1 t) (hK (upd q t 1) (fun j hj => ?_)))⟩
      by_cases e2 : j = t
      · subst e2; rw [pk_us]; simp [e]
      · rw [pk_un e2]; exact hq j (by omega)
    · refine ⟨vp_in_nI ht (by decide), nm_r (e' := upd q t 0) (by rw [nI_clamp (by omega), nb0]) (nm_r (nI_1 t) (hK (upd q t 0) (fun j hj => ?_)))⟩
      by_cases e2 : j = t
      · subst e2; rw [pk_us]; simp [e]
      · rw [pk_un e2]; exact hq j (by omega)
end
section
/-! ===== strongest ways: pure ===== -/
def mp (n : Nat) (O : Nat → Nat) (a b : Nat) : Int := if 0 < Mg n O a b then Mg n O a b else 0
theorem mp_bd {n : Nat} (hn : n ≤ 9) (O : Nat → Nat) (a b : Nat) : 0 ≤ mp n O a b ∧ mp n O a b ≤ 9 := by
  have := Mg_bd hn O a b
  unfold mp; split <;> omega
theorem mp_self (n : Nat) (O : Nat → Nat) (a : Nat) : mp n O a a = 0 := by
  unfold mp; rw [Mg_self, if_neg (by omega)]
def Clo (n : Nat) (O : Nat → Nat) (T : Nat → Nat → Int) : Prop := ∀ a b, a < 5 → b < 5 → mp n O a b ≤ T a b ∧ ∀ c, c < 5 → T a c ≤ T a b ∨ T c b ≤ T a b
def isStr (n : Nat) (O : Nat → Nat) (a b : Nat) (v : Int) : Prop := (∀ T, Clo n O T → v ≤ T a b) ∧ ∃ T, Clo n O T ∧ T a b ≤ v
theorem isStr_u {n : Nat} {O : Nat → Nat} {a b : Nat} {v v' : Int} (h : isStr n O a b v) (h' : isStr n O a b v') : v = v' := by
  obtain ⟨h1, T, hT, h2⟩ := h
  obtain ⟨g1, U, hU, g2⟩ := h'
  have := h1 U hU
  have := g1 T hT
  omega
def arr (s : Nat → Int32) (S : Nat → Nat → Int) : Prop := ∀ a b, a < 5 → b < 5 → s (5 * a + b) = iI (S a b)
def up2 (S : Nat → Nat → Int) (a b : Nat) (v : Int) : Nat → Nat → Int := fun x y => if x = a ∧ y = b then v else S x y
theorem arr_up {s : Nat → Int32} {S : Nat → Nat → Int} (h : arr s S) {a b : Nat} (hb : b < 5) (v : Int) : arr (upd s (5 * a + b) (iI v)) (up2 S a b v) := by
  intro x y hx hy
  unfold up2
  by_cases e : x = a ∧ y = b
  · rw [if_pos e, e.1, e.2, pk_us]
  · rw [if_neg e, pk_un (by omega)]; exact h x y hx hy
theorem arr_congr {s : Nat → Int32} {S S' : Nat → Nat → Int} (h : arr s S) (e : ∀ a b, a < 5 → b < 5 → S a b = S' a b) : arr s S' :=
  fun a b ha hb => by rw [h a b ha hb, e a b ha hb]
/-- what both sides come to -/
def stA (n : Nat) (O : Nat → Nat) (s : Nat → Int32) : Prop := ∃ S, arr s S ∧ ∀ a b, a < 5 → b < 5 → 0 ≤ S a b ∧ S a b ≤ 9 ∧ (a ≠ b → isStr n O a b (S a b))
def fst5 (S : Nat → Nat → Int) (k a b : Nat) : Int := if S a k ≤ S k b then (if S a k ≤ S a b then S a b else S a k) else (if S k b ≤ S a b then S a b else S k b)
theorem fst_row (S : Nat → Nat → Int) (k a : Nat) : fst5 S k a k = S a k := by
  unfold fst5; split <;> split <;> omega
theorem fst_col (S : Nat → Nat → Int) (k b : Nat) : fst5 S k k b = S k b := by
  unfold fst5; by_cases h : S k k ≤ S k b <;> simp [h]
theorem fst_ge (S : Nat → Nat → Int) (k a b : Nat) : S a b ≤ fst5 S k a b ∧ (S a k ≤ fst5 S k a b ∨ S k b ≤ fst5 S k a b) ∧ (fst5 S k a b = S a b ∨ (fst5 S k a b ≤ S a k ∧ fst5 S k a b ≤ S k b)) := by
  unfold fst5; split <;> split <;> omega
def fwI (n : Nat) (O : Nat → Nat) (k : Nat) (S : Nat → Nat → Int) : Prop := ∀ a b, a < 5 → b < 5 → 0 ≤ S a b ∧ S a b ≤ 9 ∧ mp n O a b ≤ S a b ∧ (∀ T, Clo n O T → S a b ≤ T a b) ∧ ∀ c, c < k → c < 5 → S a c ≤ S a b ∨ S c b ≤ S a b
theorem fw_step {n : Nat} {O : Nat → Nat} {k : Nat} {S : Nat → Nat → Int} (hk : k < 5) (h : fwI n O k S) : fwI n O (k + 1) (fst5 S k) := by
  intro a b ha hb
  obtain ⟨h1, h2, h3, h4, h5⟩ := h a b ha hb
  have hak := h a k ha hk
  have hkb := h k b hk hb
  have g := fst_ge S k a b
  refine ⟨by omega, by omega, by omega, fun T hT => ?_, fun c hc hc5 => ?_⟩
  · have t1 := h4 T hT
    have t2 := hak.2.2.2.1 T hT
    have t3 := hkb.2.2.2.1 T hT
    have t4 := (hT a b ha hb).2 k hk
    omega
  · by_cases e : c = k
    · subst e
      rw [fst_row, fst_col]; omega
    · have gac := fst_ge S k a c
      have gcb := fst_ge S k c b
      have i1 := h5 c (by omega) hc5
      have i2 := hak.2.2.2.2 c (by omega) hc5
      have i3 := hkb.2.2.2.2 c (by omega) hc5
      omega
theorem fw_end {n : Nat} {O : Nat → Nat} {s : Nat → Int32} {S : Nat → Nat → Int} (ha : arr s S) (h : fwI n O 5 S) : stA n O s := by
  refine ⟨S, ha, fun a b ha hb => ⟨(h a b ha hb).1, (h a b ha hb).2.1, fun _ => ⟨(h a b ha hb).2.2.2.1, S, fun x y hx hy => ⟨(h x y hx hy).2.2.1, fun c hc => (h x y hx hy).2.2.2.2 c hc hc⟩, Int.le_refl _⟩⟩⟩
/-- one round of lengthening, from Z to Z' -/
def LN (Z Z' : Nat → Nat → Int) : Prop := ∀ a b, a < 5 → b < 5 → Z a b ≤ Z' a b ∧ (a ≠ b → ∀ c, c < 5 → c ≠ a → c ≠ b → Z a c ≤ Z' a b ∨ Z c b ≤ Z' a b)
def snd5 (n : Nat) (O : Nat → Nat) (Z : Nat → Nat → Int) : Prop := ∀ a b, a < 5 → b < 5 → 0 ≤ Z a b ∧ Z a b ≤ 9 ∧ ∀ T, Clo n O T → Z a b ≤ T a b
theorem sm_lt {n : Nat} {f g : Nat → Int} (h : ∀ i, i < n → f i ≤ g i) {k : Nat} (hk : k < n) (hl : f k < g k) : sm n f < sm n g := by
  induction n with
  | zero => omega
  | succ n ih =>
    simp only [sm]
    have b := h n (by omega)
    by_cases e : k = n
    · subst e
      have := sm_le (n := k) (f := f) (g := g) (fun i hi => h i (by omega))
      omega
    · have := ih (fun i hi => h i (by omega)) (by omega)
      omega
theorem ch_fix (kb : Nat → Nat → Bool) (hm : ∀ r x, r < 5 → x < 5 → kb r x = true → kb (r + 1) x = true) {a : Nat} (ha : a < 5) (h0 : kb 0 a = true) : ∃ r, r < 5 ∧ ∀ x, x < 5 → kb (r + 1) x = true → kb r x = true := by
  apply Classical.byContradiction
  intro hno
  have step : ∀ r, r < 5 → sm 5 (fun x => b01 (kb r x)) < sm 5 (fun x => b01 (kb (r + 1) x)) := by
    intro r hr
    have : ∃ x, x < 5 ∧ kb (r + 1) x = true ∧ kb r x = false := by
      apply Classical.byContradiction
      intro hn2
      refine hno ⟨r, hr, fun x hx h1 => ?_⟩
      cases h2 : kb r x
      · exact absurd ⟨x, hx, h1, h2⟩ hn2
      · rfl
    obtain ⟨x, hx, h1, h2⟩ := this
    refine sm_lt (fun i hi => ?_) hx (by rw [h1, h2]; decide)
    cases h3 : kb r i
    · exact (b01_bd _).1
    · rw [hm r i hr hi h3]; exact Int.le_refl _
  have s0 : sm 5 (fun x => b01 (kb 0 x)) < sm 5 (fun x => b01 (kb 1 x)) := step 0 (by omega)
  have s1 : sm 5 (fun x => b01 (kb 1 x)) < sm 5 (fun x => b01 (kb 2 x)) := step 1 (by omega)
  have s2 : sm 5 (fun x => b01 (kb 2 x)) < sm 5 (fun x => b01 (kb 3 x)) := step 2 (by omega)
  have s3 : sm 5 (fun x => b01 (kb 3 x)) < sm 5 (fun x => b01 (kb 4 x)) := step 3 (by omega)
  have s4 : sm 5 (fun x => b01 (kb 4 x)) < sm 5 (fun x => b01 (kb 5 x)) := step 4 (by omega)
  have e0 : 1 ≤ sm 5 (fun x => b01 (kb 0 x)) := by
    have h1 : sm 5 (fun x => if x = a then (1 : Int) else 0) = 1 := by
      rw [sm_single (f := fun x => if x = a then (1 : Int) else 0) ha (fun i _ hi => if_neg hi), if_pos rfl]
    rw [← h1]
    refine sm_le fun i hi => ?_
    by_cases e : i = a
    · subst e; rw [if_pos rfl, h0]; exact Int.le_refl _
    · rw [if_neg e]; exact (b01_bd _).1
  have e5 := sm_hi (n := 5) (k := 1) (f := fun x => b01 (kb 5 x)) (fun i _ => (b01_bd _).2)
  omega
theorem ln_end {n : Nat} (hn : n ≤ 9) {O : Nat → Nat} {Q : Nat → Nat → Nat → Int} (h0 : ∀ a b, a < 5 → b < 5 → Q 0 a b = mp n O a b) (hq : ∀ j, j < 4 → LN (Q j) (Q (j + 1))) (hs : snd5 n O (Q 4)) {s : Nat → Int32} (hA : arr s (Q 4)) : stA n O s := by
  refine ⟨Q 4, hA, fun a b ha hb => ⟨(hs a b ha hb).1, (hs a b ha hb).2.1, fun hab => ⟨(hs a b ha hb).2.2, ?_⟩⟩⟩
  have hz := hs a b ha hb
  -- those reached from a with strength t after j steps
  have kb : ∃ kb : Nat → Nat → Bool, (∀ x, kb 0 x = decide (x = a)) ∧ ∀ j x, kb (j + 1) x = (decide (x = a) || decide (Q 4 a b + 1 ≤ Q j a x)) :=
    ⟨fun j x => match j with | 0 => decide (x = a) | j + 1 => (decide (x = a) || decide (Q 4 a b + 1 ≤ Q j a x)), fun _ => rfl, fun _ _ => rfl⟩
  obtain ⟨kb, k0, k1⟩ := kb
  have kS : ∀ j x, kb (j + 1) x = true ↔ (x = a ∨ Q 4 a b + 1 ≤ Q j a x) := by
    intro j x; rw [k1]; simp
  have kZ : ∀ x, kb 0 x = true ↔ x = a := by intro x; rw [k0]; simp
  have hmono : ∀ r x, r < 5 → x < 5 → kb r x = true → kb (r + 1) x = true := by
    intro r x hr hx hk
    cases r with
    | zero => rw [kZ] at hk; rw [kS]; exact Or.inl hk
    | succ j =>
      rw [kS] at hk ⊢
      rcases hk with e | e
      · exact Or.inl e
      · have := (hq j (by omega) a x ha hx).1
        exact Or.inr (by omega)
  obtain ⟨r, hr, hfix⟩ := ch_fix kb hmono ha (by rw [kZ])
  -- up to where Q j has grown
  have hup : ∀ d j, j + d = 4 → ∀ x y, x < 5 → y < 5 → Q j x y ≤ Q 4 x y := by
    intro d
    induction d with
    | zero => intro j hj x y _ _; have : j = 4 := by omega
              subst this; exact Int.le_refl _
    | succ d ih =>
      intro j hj x y hx hy
      have h1 := (hq j (by omega) x y hx hy).1
      have h2 := ih (j + 1) (by omega) x y hx hy
      omega
  have hge : ∀ j, j ≤ 4 → ∀ x y, x < 5 → y < 5 → mp n O x y ≤ Q j x y := by
    intro j
    induction j with
    | zero => intro _ x y hx hy; rw [h0 x y hx hy]; exact Int.le_refl _
    | succ j ih =>
      intro hj x y hx hy
      have h1 := (hq j (by omega) x y hx hy).1
      have h2 := ih (by omega) x y hx hy
      omega
  have hsucc : ∀ x y, x < 5 → y < 5 → kb r x = true → Q 4 a b + 1 ≤ mp n O x y → kb (r + 1) y = true := by
    intro x y hx hy hkx hm
    rw [kS]
    by_cases ey : y = a
    · exact Or.inl ey
    · right
      have hxy : x ≠ y := by
        rintro rfl
        rw [mp_self] at hm; omega
      by_cases ex : x = a
      · subst ex
        have := hge r (by omega) x y hx hy
        omega
      · cases r with
        | zero => rw [kZ] at hkx; exact absurd hkx ex
        | succ j =>
          rw [kS] at hkx
          have h1 := hge j (by omega) x y hx hy
          have h2 := (hq j (by omega) a y ha hy).2 (fun z => ey z.symm) x hx ex hxy
          rcases hkx with e | e
          · exact absurd e ex
          · omega
  have hcl : ∀ x y, x < 5 → y < 5 → kb r x = true → kb r y = false → mp n O x y ≤ Q 4 a b := by
    intro x y hx hy h1 h2
    apply Classical.byContradiction
    intro h3
    have := hfix y hy (hsucc x y hx hy h1 (by omega))
    rw [h2] at this; cases this
  refine ⟨fun x y => if kb r x = true ∧ kb r y = false then Q 4 a b else 9, fun x y hx hy => ⟨?_, fun c hc => ?_⟩, ?_⟩
  · have := mp_bd hn O x y
    dsimp only
    split
    · rename_i hh; exact hcl x y hx hy hh.1 hh.2
    · omega
  · dsimp only
    by_cases hh : kb r x = true ∧ kb r y = false
    · rw [if_pos hh]
      cases hc2 : kb r c
      · left; rw [if_pos ⟨hh.1, rfl⟩]; exact Int.le_refl _
      · right; rw [if_pos ⟨rfl, hh.2⟩]; exact Int.le_refl _
    · rw [if_neg hh]
      left; split <;> omega
  · dsimp only
    have hka : kb r a = true := by
      cases r with
      | zero => rw [kZ]
      | succ j => rw [kS]; exact Or.inl rfl
    have hkb : kb r b = false := by
      cases hh : kb r b
      · rfl
      · cases r with
        | zero => rw [kZ] at hh; exact absurd hh.symm hab
        | succ j =>
          rw [kS] at hh
          rcases hh with e | e
          · exact absurd e.symm hab
          · have := hup (4 - j) j (by omega) a b ha hb
            omega
    rw [if_pos ⟨hka, hkb⟩]
    exact Int.le_refl _
end
section
/-! ===== strongest ways: both walks; rules 9 and 12; strength ===== -/
theorem mp_I {n : Nat} {O : Nat → Nat} {a b : Nat} : mp n O a b = if 0 < Mg n O a b then Mg n O a b else 0 := rfl
theorem x_fs {post : SX → Prop} {xc : Int32} {xo xr xp xm xb xs xq xn xu xl xg xk xt xw xv : Nat → Int32} {n : Nat} {O : Nat → Nat} (h : zRX n O (xc, xo, xr, xp, xm, xb, xs, xq, xn, xu, xl, xg, xk, xt, xw, xv)) (hp : ∀ s' : Nat → Int32, stA n O s' → post (xc, xo, xr, xp, xm, xb, s', xq, xn, xu, xl, xg, xk, xt, xw, xv)) : wpX_findStrongestWays post (xc, xo, xr, xp, xm, xb, xs, xq, xn, xu, xl, xg, xk, xt, xw, xv) := by
  have hn := h.1.1
  unfold wpX_findStrongestWays
  dsimp only
  refine pk_loop (σ := Nat → Int32) (fun m j s => wX_findStrongestWays_2 post xc m (nI j) xo xr xp xm xb s xq xn xu xl xg xk xt xw xv) (fun j s => ∀ q, q < j → s q = iI (mp n O (q / 5) (q % 5))) 25 0 xs (by omega) (fun q hq => by omega) ?_ ?_
  · intro m s0 hs0
    rw [wX_findStrongestWays_2]
    refine br_t (by decide) ?_
    refine pk_loop (σ := Nat → Int32) (fun m k s => wX_findStrongestWays_41 post xc m (nI k) xo xr xp xm xb s xq xn xu xl xg xk xt xw xv) (fun k s => ∃ S, arr s S ∧ fwI n O k S) 5 0 s0 (by omega) ?_ ?_ ?_
    · refine ⟨mp n O, fun a b ha hb => ?_, fun a b ha hb => ⟨(mp_bd hn O a b).1, (mp_bd hn O a b).2, Int.le_refl _, fun T hT => (hT a b ha hb).1, fun c hc => by omega⟩⟩
      have := hs0 (5 * a + b) (by omega)
      rw [show (5 * a + b) / 5 = a from by omega, show (5 * a + b) % 5 = b from by omega] at this
      exact this
    · rintro m s ⟨S, hA, hF⟩
      rw [wX_findStrongestWays_41]
      exact br_t (by decide) (hp s (fw_end hA hF))
    · rintro m k s hk ⟨S, hA, hF⟩ hK
      rw [wX_findStrongestWays_41]
      refine br_f (nI_ge (b := 5) hk (by decide)) ?_
      refine pk_loop (σ := Nat → Int32) (fun m' a s => wX_findStrongestWays_48 post (wX_findStrongestWays_41 post xc m) (nI k) xc m' (nI a) xo xr xp xm xb s xq xn xu xl xg xk xt xw xv) (fun a s => arr s (fun x y => if x < a then fst5 S k x y else S x y)) 5 0 s (by omega) (arr_congr hA (fun x y _ _ => (if_neg (by omega)).symm)) ?_ ?_
      · intro m' s' hs'
        rw [wX_findStrongestWays_48]
        exact br_t (by decide) (nm_r (nI_1 k) (hK s' ⟨fst5 S k, arr_congr hs' (fun x y hx _ => if_pos hx), fw_step hk hF⟩))
      · intro m' a s' ha hs' hK'
        rw [wX_findStrongestWays_48]
        refine br_f (nI_ge (b := 5) ha (by decide)) ?_
        refine pk_loop (σ := Nat → Int32) (fun m'' b s => wX_findStrongestWays_55 post (wX_findStrongestWays_41 post xc m) (wX_findStrongestWays_48 post (wX_findStrongestWays_41 post xc m) (nI k) xc m') (nI k) (nI a) xc m'' (nI b) xo xr xp xm xb s xq xn xu xl xg xk xt xw xv) (fun b s => arr s (fun x y => if x < a ∨ (x = a ∧ y < b) then fst5 S k x y else S x y)) 5 0 s' (by omega) (arr_congr hs' (fun x y _ _ => ?_)) ?_ ?_
        · by_cases e : x < a
          · rw [if_pos e, if_pos (Or.inl e)]
          · rw [if_neg e, if_neg (by omega)]
        · intro m'' s'' hs''
          rw [wX_findStrongestWays_55]
          refine br_t (by decide) (nm_r (nI_1 a) (hK' s'' (arr_congr hs'' (fun x y hx hy => ?_))))
          by_cases e : x < a + 1
          · rw [if_pos e, if_pos (by omega)]
          · rw [if_neg e, if_neg (by omega)]
        · intro m'' b s'' hb hs'' hK''
          rw [wX_findStrongestWays_55]
          have hva : s'' (5 * a + k) = iI (S a k) := by
            rw [hs'' a k ha hk]
            dsimp only
            by_cases e : a < a ∨ (a = a ∧ k < b)
            · rw [if_pos e, fst_row]
            · rw [if_neg e]
          have hvb : s'' (5 * k + b) = iI (S k b) := by
            rw [hs'' k b hk hb]
            dsimp only
            by_cases e : k < a ∨ (k = a ∧ b < b)
            · rw [if_pos e, fst_col]
            · rw [if_neg e]
          have hvc : s'' (5 * a + b) = iI (S a b) := by
            rw [hs'' a b ha hb]
            dsimp only
            rw [if_neg (by omega)]
          have bk := hF a k ha hk
          have kb := hF k b hk hb
          have ab := hF a b ha hb
          have fin : ∀ s3 : Nat → Int32, arr s3 (up2 (fun x y => if x < a ∨ (x = a ∧ y < b) then fst5 S k x y else S x y) a b (fst5 S k a b)) → arr s3 (fun x y => if x < a ∨ (x = a ∧ y < b + 1) then fst5 S k x y else S x y) := by
            intro s3 h3
            refine arr_congr h3 (fun x y hx hy => ?_)
            unfold up2
            by_cases e : x = a ∧ y = b
            · rw [if_pos e, if_pos (by omega), e.1, e.2]
            · rw [if_neg e]
              dsimp only
              by_cases e2 : x < a ∨ (x = a ∧ y < b)
              · rw [if_pos e2, if_pos (by omega)]
              · rw [if_neg e2, if_neg (by omega)]
          have keep : fst5 S k a b = S a b → arr s'' (fun x y => if x < a ∨ (x = a ∧ y < b + 1) then fst5 S k x y else S x y) := by
            intro e0
            refine arr_congr hs'' (fun x y hx hy => ?_)
            by_cases e : x = a ∧ y = b
            · rw [e.1, e.2, if_neg (by omega), if_pos (by omega), e0]
            · by_cases e2 : x < a ∨ (x = a ∧ y < b)
              · rw [if_pos e2, if_pos (by omega)]
              · rw [if_neg e2, if_neg (by omega)]
          refine br_f (nI_ge (b := 5) hb (by decide)) ⟨by rw [vn_5a]; exact vp_in_nI (by omega) (by decide), nm_r (e' := iI (S a k)) (by rw [vn_5a, nI_clamp (by omega), hva]) ⟨by rw [vn_5a]; exact vp_in_nI (by omega) (by decide), nm_r (e' := iI (S k b)) (by rw [vn_5a, nI_clamp (by omega), hvb]) (vi_le (S k b) (S a k) (fun hle => ?_) (fun hlt => ?_))⟩⟩
          · unfold wX_findStrongestWays_98
            rw [vn_5a, nI_clamp (by omega), hvc]
            refine ⟨vp_in_nI (by omega) (by decide), vi_le (S k b) (S a b) (fun hle2 => nm_r (nI_1 b) (hK'' s'' (keep ?_))) (fun hlt2 => ⟨vp_in_nI (by omega) (by decide), nm_e (nm_r (nI_1 b) (hK'' (upd s'' (5 * a + b) (iI (S k b))) (fin _ ?_)))⟩)⟩
            · have := fst_ge S k a b; omega
            · have e : fst5 S k a b = S k b := by unfold fst5; split <;> split <;> omega
              rw [e]; exact arr_up hs'' hb _
          · unfold wX_findStrongestWays_98
            rw [vn_5a, nI_clamp (by omega), hvc]
            refine ⟨vp_in_nI (by omega) (by decide), vi_le (S a k) (S a b) (fun hle2 => nm_r (nI_1 b) (hK'' s'' (keep ?_))) (fun hlt2 => ⟨vp_in_nI (by omega) (by decide), nm_e (nm_r (nI_1 b) (hK'' (upd s'' (5 * a + b) (iI (S a k))) (fin _ ?_)))⟩)⟩
            · have := fst_ge S k a b; omega
            · have e : fst5 S k a b = S a k := by unfold fst5; split <;> split <;> omega
              rw [e]; exact arr_up hs'' hb _
  · intro m j s hj hs hK
    rw [wX_findStrongestWays_2]
    have hm := h.2.1 (j / 5) (j % 5) (by omega) (by omega)
    rw [show 5 * (j / 5) + j % 5 = j from by omega] at hm
    dsimp only at hm
    have hbd := Mg_bd hn O (j / 5) (j % 5)
    refine br_f (nI_ge (b := 25) hj (by decide)) ⟨vp_in_nI hj (by decide), ?_⟩
    rw [nI_clamp (by omega), hm]
    have put : ∀ v : Int, v = mp n O (j / 5) (j % 5) → ∀ q, q < j + 1 → upd s j (iI v) q = iI (mp n O (q / 5) (q % 5)) := by
      intro v hv q hq
      by_cases e : q = j
      · subst e; rw [pk_us, hv]
      · rw [pk_un e]; exact hs q (by omega)
    refine vi_le (Mg n O (j / 5) (j % 5)) 0 (fun hle => ⟨vp_in_nI hj (by decide), nm_r (e' := upd s j (iI 0)) rfl (nm_r (nI_1 j) (hK (upd s j (iI 0)) (put 0 ?_)))⟩) (fun hlt => ⟨vp_in_nI hj (by decide), vp_in_nI hj (by decide), nm_r (e' := upd s j (iI (Mg n O (j / 5) (j % 5)))) rfl (nm_r (nI_1 j) (hK (upd s j (iI (Mg n O (j / 5) (j % 5)))) (put _ ?_)))⟩)
    · unfold mp; rw [if_neg (by omega)]
    · unfold mp; rw [if_pos hlt]
end
section
/-! ===== the reference's strengths; rules 9 and 12; strength ===== -/
theorem y_ln {post : SY → Prop} {yn yc : Int32} {yo yp ym ys yl yb yw yk yt yz yx : Nat → Int32} {n : Nat} {O : Nat → Nat} {Z : Nat → Nat → Int} (hA : arr ys Z) (hZ : snd5 n O Z) (hp : ∀ (s' : Nat → Int32) (Z' : Nat → Nat → Int), arr s' Z' → snd5 n O Z' → LN Z Z' → post (yn, yc, yo, yp, ym, s', yl, yb, yw, yk, yt, yz, yx)) : wpY_lengthen post (yn, yc, yo, yp, ym, ys, yl, yb, yw, yk, yt, yz, yx) := by
  unfold wpY_lengthen
  dsimp only
  refine pk_loop (σ := Nat → Int32) (fun m j s => wY_lengthen_2 post yn yc m (nI j) yo yp ym s yl yb yw yk yt yz yx) (fun j s => ∃ Z', arr s Z' ∧ snd5 n O Z' ∧ (∀ a b, a < 5 → b < 5 → Z a b ≤ Z' a b) ∧ ∀ a b, a < 5 → b < 5 → 5 * a + b < j → a ≠ b → ∀ c, c < 5 → c ≠ a → c ≠ b → Z a c ≤ Z' a b ∨ Z c b ≤ Z' a b) 25 0 ys (by omega) ⟨Z, hA, hZ, fun a b _ _ => Int.le_refl _, fun a b _ _ h => by omega⟩ ?_ ?_
  · rintro m s ⟨Z', h1, h2, h3, h4⟩
    rw [wY_lengthen_2]
    exact br_t (by decide) (hp s Z' h1 h2 (fun a b ha hb => ⟨h3 a b ha hb, fun hab => h4 a b ha hb (by omega) hab⟩))
  · rintro m j s hj ⟨Z', h1, h2, h3, h4⟩ hK
    rw [wY_lengthen_2]
    refine br_f (nI_ge (b := 25) hj (by decide)) ⟨by decide, nm_r (rc_div (show j < 2 ^ 31 by omega)) ⟨by decide, nm_r (rc_rem (show j < 2 ^ 31 by omega)) ?_⟩⟩
    have ha : j / 5 < 5 := by omega
    have hb : j % 5 < 5 := by omega
    have hab : 5 * (j / 5) + j % 5 = j := by omega
    revert ha hb hab
    generalize j / 5 = a
    generalize j % 5 = b
    intro ha hb hab
    subst hab
    refine pk_loop (σ := Nat → Int32) (fun m' c s => wY_lengthen_19 post (wY_lengthen_2 post yn yc m) (nI (5 * a + b)) (nI a) (nI b) yn yc m' (nI c) yo yp ym s yl yb yw yk yt yz yx) (fun c s => ∃ Z', arr s Z' ∧ snd5 n O Z' ∧ (∀ a b, a < 5 → b < 5 → Z a b ≤ Z' a b) ∧ (∀ a' b', a' < 5 → b' < 5 → 5 * a' + b' < 5 * a + b → a' ≠ b' → ∀ c, c < 5 → c ≠ a' → c ≠ b' → Z a' c ≤ Z' a' b' ∨ Z c b' ≤ Z' a' b') ∧ (a ≠ b → ∀ d, d < c → d ≠ a → d ≠ b → Z a d ≤ Z' a b ∨ Z d b ≤ Z' a b)) 5 0 s (by omega) ⟨Z', h1, h2, h3, h4, fun _ d hd => by omega⟩ ?_ ?_
    · rintro m' s' ⟨Z2, g1, g2, g3, g4, g5⟩
      rw [wY_lengthen_19]
      refine br_t (by decide) (nm_r (nI_1 _) (hK s' ⟨Z2, g1, g2, g3, fun a' b' ha' hb' hlt hne c hc hca hcb => ?_⟩))
      by_cases e : 5 * a' + b' = 5 * a + b
      · have e1 : a' = a := by omega
        have e2 : b' = b := by omega
        subst e1 e2
        exact g5 hne c hc hca hcb
      · exact g4 a' b' ha' hb' (by omega) hne c hc hca hcb
    · rintro m' c s' hc ⟨Z2, g1, g2, g3, g4, g5⟩ hK'
      rw [wY_lengthen_19]
      have bac := g2 a c ha hc
      have bcb := g2 c b hc hb
      have bab := g2 a b ha hb
      have vac := g1 a c ha hc
      have vcb := g1 c b hc hb
      have vab := g1 a b ha hb
      have tail : ∀ z : Int, (z = Z2 a c ∨ z = Z2 c b) → z ≤ Z2 a c → z ≤ Z2 c b → wY_lengthen_75 post (wY_lengthen_2 post yn yc m) (wY_lengthen_19 post (wY_lengthen_2 post yn yc m) (nI (5 * a + b)) (nI a) (nI b) yn yc m') (nI (5 * a + b)) (nI a) (nI b) (nI c) (iI z) yn yc yo yp ym s' yl yb yw yk yt yz yx := by
        intro z hz1 hz2 hz3
        unfold wY_lengthen_75
        refine pk_eq a b (fun e => nm_r (nI_1 c) (hK' s' ⟨Z2, g1, g2, g3, g4, fun hne => absurd e hne⟩)) (fun hne => ?_)
        refine pk_eq c a (fun e => nm_r (nI_1 c) (hK' s' ⟨Z2, g1, g2, g3, g4, fun _ d hd hda hdb => g5 hne d (by omega) hda hdb⟩)) (fun hca => ?_)
        refine pk_eq c b (fun e => nm_r (nI_1 c) (hK' s' ⟨Z2, g1, g2, g3, g4, fun _ d hd hda hdb => g5 hne d (by omega) hda hdb⟩)) (fun hcb => ?_)
        rw [nI_clamp (by omega), vab]
        have t1 := g3 a c ha hc
        have t2 := g3 c b hc hb
        refine ⟨vp_in_nI (by omega) (by decide), vi_le z (Z2 a b) (fun hle => nm_r (nI_1 c) (hK' s' ⟨Z2, g1, g2, g3, g4, fun _ d hd hda hdb => ?_⟩)) (fun hlt => ⟨vp_in_nI (by omega) (by decide), nm_e (nm_r (nI_1 c) (hK' (upd s' (5 * a + b) (iI z)) ⟨up2 Z2 a b z, arr_up g1 hb z, ?_, ?_, ?_, ?_⟩))⟩)⟩
        · by_cases e : d = c
          · subst e; omega
          · exact g5 hne d (by omega) hda hdb
        · intro x y hx hy
          unfold up2
          by_cases e : x = a ∧ y = b
          · rw [if_pos e]
            refine ⟨by omega, by omega, fun T hT => ?_⟩
            have t4 := (hT a b ha hb).2 c hc
            have t5 := bac.2.2 T hT
            have t6 := bcb.2.2 T hT
            rw [e.1, e.2]; omega
          · rw [if_neg e]; exact g2 x y hx hy
        · intro x y hx hy
          unfold up2
          by_cases e : x = a ∧ y = b
          · rw [if_pos e]
            have := g3 x y hx hy
            rw [e.1, e.2] at this ⊢; omega
          · rw [if_neg e]; exact g3 x y hx hy
        · intro a' b' ha' hb' hlt' hne' c' hc' h1' h2'
          unfold up2
          rw [if_neg (by omega)]
          exact g4 a' b' ha' hb' hlt' hne' c' hc' h1' h2'
        · intro _ d hd hda hdb
          unfold up2
          rw [if_pos ⟨rfl, rfl⟩]
          by_cases e : d = c
          · subst e; omega
          · have := g5 hne d (by omega) hda hdb
            omega
      refine br_f (nI_ge (b := 5) hc (by decide)) ⟨by rw [vn_5b]; exact vp_in_nI (by omega) (by decide), by rw [vn_5b]; exact vp_in_nI (by omega) (by decide), ?_⟩
      rw [vn_5b, vn_5b, nI_clamp (n := 5 * c + b) (by omega), nI_clamp (n := 5 * a + c) (by omega), vac, vcb]
      exact vi_le (Z2 c b) (Z2 a c) (fun hle => ⟨vp_in_nI (by omega) (by decide), tail _ (Or.inr rfl) hle (Int.le_refl _)⟩) (fun hlt => ⟨vp_in_nI (by omega) (by decide), tail _ (Or.inl rfl) (Int.le_refl _) (by omega)⟩)
theorem y_fs {post : SY → Prop} {v : SY} {n : Nat} {O : Nat → Nat} (h : zRYM n O v) (hp : ∀ v', zRYM n O v' → stA n O v'.2.2.2.2.2.1 → post v') : wpY_findStrengths post v := by
  obtain ⟨yn, yc, yo, yp, ym, ys, yl, yb, yw, yk, yt, yz, yx⟩ := v
  have hn := h.1.1
  unfold wpY_findStrengths
  dsimp only
  refine pk_loop (σ := Nat → Int32) (fun m j s => wY_findStrengths_2 post yn yc m (nI j) yo yp ym s yl yb yw yk yt yz yx) (fun j s => ∀ q, q < j → s q = iI (mp n O (q / 5) (q % 5))) 25 0 ys (by omega) (fun q hq => by omega) ?_ ?_
  · intro m s0 hs0
    rw [wY_findStrengths_2]
    refine br_t (by decide) ?_
    refine pk_loop (σ := SY) (fun m k s => wY_findStrengths_41 post m (nI k) s.1 s.2.1 s.2.2.1 s.2.2.2.1 s.2.2.2.2.1 s.2.2.2.2.2.1 s.2.2.2.2.2.2.1 s.2.2.2.2.2.2.2.1 s.2.2.2.2.2.2.2.2.1 s.2.2.2.2.2.2.2.2.2.1 s.2.2.2.2.2.2.2.2.2.2.1 s.2.2.2.2.2.2.2.2.2.2.2.1 s.2.2.2.2.2.2.2.2.2.2.2.2) (fun k s => zRYM n O s ∧ ∃ Q : Nat → Nat → Nat → Int, (∀ a b, a < 5 → b < 5 → Q 0 a b = mp n O a b) ∧ (∀ j, j < k → LN (Q j) (Q (j + 1))) ∧ snd5 n O (Q k) ∧ arr s.2.2.2.2.2.1 (Q k)) 4 0 (yn, yc, yo, yp, ym, s0, yl, yb, yw, yk, yt, yz, yx) (by omega) ?_ ?_ ?_
    · refine ⟨h, fun _ => mp n O, fun _ _ _ _ => rfl, fun j hj => by omega, fun a b ha hb => ⟨(mp_bd hn O a b).1, (mp_bd hn O a b).2, fun T hT => (hT a b ha hb).1⟩, fun a b ha hb => ?_⟩
      have := hs0 (5 * a + b) (by omega)
      rw [show (5 * a + b) / 5 = a from by omega, show (5 * a + b) % 5 = b from by omega] at this
      exact this
    · rintro m ⟨yn', yc', yo', yp', ym', ys', yl', yb', yw', yk', yt', yz', yx'⟩ ⟨hY, Q, q1, q2, q3, q4⟩
      dsimp only at q4 ⊢
      rw [wY_findStrengths_41]
      exact br_t (by decide) (hp _ hY (ln_end hn q1 q2 q3 q4))
    · rintro m k ⟨yn', yc', yo', yp', ym', ys', yl', yb', yw', yk', yt', yz', yx'⟩ hk ⟨hY, Q, q1, q2, q3, q4⟩ hK
      dsimp only at q4 hK ⊢
      rw [wY_findStrengths_41]
      refine br_f (nI_ge (b := 4) hk (by decide)) (y_ln q4 q3 (fun s' Z' a1 a2 a3 => nm_r (nI_1 k) (hK (yn', yc', yo', yp', ym', s', yl', yb', yw', yk', yt', yz', yx') ⟨hY, fun j => if j ≤ k then Q j else Z', ?_, ?_, ?_, ?_⟩)))
      · intro a b ha hb
        dsimp only
        rw [if_pos (by omega)]; exact q1 a b ha hb
      · intro j hj
        dsimp only
        rw [if_pos (show j ≤ k by omega)]
        by_cases e : j = k
        · subst e; rw [if_neg (by omega)]; exact a3
        · rw [if_pos (by omega)]; exact q2 j (by omega)
      · dsimp only
        rw [if_neg (by omega)]; exact a2
      · dsimp only
        rw [if_neg (by omega)]; exact a1
  · intro m j s hj hs hK
    rw [wY_findStrengths_2]
    have hm := h.2 (j / 5) (j % 5) (by omega) (by omega)
    rw [show 5 * (j / 5) + j % 5 = j from by omega] at hm
    dsimp only at hm
    have hbd := Mg_bd hn O (j / 5) (j % 5)
    refine br_f (nI_ge (b := 25) hj (by decide)) ⟨vp_in_nI hj (by decide), ?_⟩
    rw [nI_clamp (by omega), hm]
    have put : ∀ v : Int, v = mp n O (j / 5) (j % 5) → ∀ q, q < j + 1 → upd s j (iI v) q = iI (mp n O (q / 5) (q % 5)) := by
      intro v hv q hq
      by_cases e : q = j
      · subst e; rw [pk_us, hv]
      · rw [pk_un e]; exact hs q (by omega)
    refine vi_le (Mg n O (j / 5) (j % 5)) 0 (fun hle => ⟨vp_in_nI hj (by decide), nm_r (e' := upd s j (iI 0)) rfl (nm_r (nI_1 j) (hK (upd s j (iI 0)) (put 0 ?_)))⟩) (fun hlt => ⟨vp_in_nI hj (by decide), vp_in_nI hj (by decide), nm_r (e' := upd s j (iI (Mg n O (j / 5) (j % 5)))) rfl (nm_r (nI_1 j) (hK (upd s j (iI (Mg n O (j / 5) (j % 5)))) (put _ ?_)))⟩)
    · unfold mp; rw [if_neg (by omega)]
    · unfold mp; rw [if_pos hlt]
def W9 (n : Nat) (O : Nat → Nat) (a : Nat) : Prop := ∀ b, b < 5 → b ≠ a → ∀ v v', isStr n O a b v → isStr n O b a v' → v' ≤ v
def W12 (n : Nat) (O : Nat → Nat) (a : Nat) : Prop := ∀ b, b < 5 → b ≠ a → ∀ v v', isStr n O b a v → isStr n O a b v' → ¬ (0 < v ∧ v' = 0)
/-- an outer loop over a and an inner over b that strike out a -/
def dl2 (Q : Nat → Nat → Prop) (a b : Nat) (w : Int32) : Prop := isSet w (fun i => ∀ d, d < 5 → (i < a ∨ (i = a ∧ d < b)) → ¬ Q i d)
theorem dl_0 (Q : Nat → Nat → Prop) : dl2 Q 0 0 31 := vb_congr vb_all (fun i hi => ⟨fun _ d hd h => by omega, fun _ => trivial⟩)
theorem dl_row {Q : Nat → Nat → Prop} {a : Nat} {w : Int32} (h : dl2 Q a 5 w) : dl2 Q (a + 1) 0 w :=
  vb_congr h (fun i hi => ⟨fun g d hd h2 => g d hd (by omega), fun g d hd h2 => g d hd (by omega)⟩)
theorem dl_no {Q : Nat → Nat → Prop} {a b : Nat} {w : Int32} (h : dl2 Q a b w) (hq : ¬ Q a b) : dl2 Q a (b + 1) w := by
  refine vb_congr h (fun i hi => ⟨fun g d hd h2 => ?_, fun g d hd h2 => g d hd (by omega)⟩)
  by_cases e : i = a ∧ d = b
  · rw [e.1, e.2]; exact hq
  · exact g d hd (by omega)
theorem dl_yes {Q : Nat → Nat → Prop} {a b : Nat} {w : Int32} (ha : a < 5) (hb : b < 5) (h : dl2 Q a b w) (hq : Q a b) : dl2 Q a (b + 1) (w &&& (((1 : Int32) <<< (nI a &&& 31)) ^^^ (-1))) := by
  refine vb_congr (vb_del h ha) (fun i hi => ⟨fun g d hd h2 => ?_, fun g => ⟨fun d hd h2 => g d hd (by omega), ?_⟩⟩)
  · exact g.1 d hd (by have := g.2; omega)
  · rintro rfl
    exact g b hb (by omega) hq
theorem dl_end {Q : Nat → Nat → Prop} {w : Int32} (h : dl2 Q 5 0 w) : isSet w (fun i => ∀ d, d < 5 → ¬ Q i d) :=
  vb_congr h (fun i hi => ⟨fun g d hd => g d hd (Or.inl hi), fun g d hd _ => g d hd⟩)
theorem w9_iff {n : Nat} {O : Nat → Nat} {S : Nat → Nat → Int} (hS : ∀ a b, a < 5 → b < 5 → 0 ≤ S a b ∧ S a b ≤ 9 ∧ (a ≠ b → isStr n O a b (S a b))) {a : Nat} (ha : a < 5) : (∀ b, b < 5 → ¬ S a b < S b a) ↔ W9 n O a := by
  constructor
  · intro h b hb hne v v' hv hv'
    have e1 := isStr_u ((hS a b ha hb).2.2 (fun z => hne z.symm)) hv
    have e2 := isStr_u ((hS b a hb ha).2.2 hne) hv'
    have := h b hb
    omega
  · intro h b hb hlt
    by_cases e : b = a
    · subst e; omega
    · have := h b hb e _ _ ((hS a b ha hb).2.2 (fun z => e z.symm)) ((hS b a hb ha).2.2 e)
      omega
theorem w12_iff {n : Nat} {O : Nat → Nat} {S : Nat → Nat → Int} (hS : ∀ a b, a < 5 → b < 5 → 0 ≤ S a b ∧ S a b ≤ 9 ∧ (a ≠ b → isStr n O a b (S a b))) {a : Nat} (ha : a < 5) : (∀ b, b < 5 → ¬ (0 < S b a ∧ S a b = 0)) ↔ W12 n O a := by
  constructor
  · intro h b hb hne v v' hv hv'
    have e1 := isStr_u ((hS a b ha hb).2.2 (fun z => hne z.symm)) hv'
    have e2 := isStr_u ((hS b a hb ha).2.2 hne) hv
    have := h b hb
    omega
  · intro h b hb hlt
    by_cases e : b = a
    · subst e; omega
    · exact h b hb e _ _ ((hS b a hb ha).2.2 e) ((hS a b ha hb).2.2 (fun z => e z.symm)) hlt
end
section
/-! ===== rules 9 and 12, strength ===== -/
theorem x_w9 {post : Int32 → SX → Prop} {u : SX} {n : Nat} {O : Nat → Nat} {V : Nat → Int32} (h : zRV n O V u) (hp : ∀ w u', isSet w (W9 n O) → zRV n O V u' → post w u') : wpX_strongestOnes post u := by
  obtain ⟨xc, xo, xr, xp, xm, xb, xs, xq, xn, xu, xl, xg, xk, xt, xw, xv⟩ := u
  unfold wpX_strongestOnes
  dsimp only
  refine x_fs h.1 (fun s' hs => ?_)
  have hr : zRV n O V (xc, xo, xr, xp, xm, xb, s', xq, xn, xu, xl, xg, xk, xt, xw, xv) := rv_any h
  obtain ⟨S, hA, hS⟩ := hs
  refine pk_loop (σ := Int32) (fun m a w => wX_strongestOnes_9 post xc xo xr xp xm xb s' xq xn xu xl xg xk xt xw xv m w (nI a)) (fun a w => dl2 (fun x y => S x y < S y x) a 0 w) 5 0 31 (by omega) (dl_0 _) ?_ ?_
  · intro m w hw
    rw [wX_strongestOnes_9]
    exact br_t (by decide) (hp w _ (vb_congr (dl_end hw) (fun i hi => w9_iff hS hi)) hr)
  · intro m a w ha hw hK
    rw [wX_strongestOnes_9]
    refine br_f (nI_ge (b := 5) ha (by decide)) ?_
    refine pk_loop (σ := Int32) (fun m' b w => wX_strongestOnes_16 post (wX_strongestOnes_9 post xc xo xr xp xm xb s' xq xn xu xl xg xk xt xw xv m) (nI a) xc xo xr xp xm xb s' xq xn xu xl xg xk xt xw xv m' w (nI b)) (fun b w => dl2 (fun x y => S x y < S y x) a b w) 5 0 w (by omega) hw ?_ ?_
    · intro m' w' hw'
      rw [wX_strongestOnes_16]
      exact br_t (by decide) (nm_r (nI_1 a) (hK w' (dl_row hw')))
    · intro m' b w' hb hw' hK'
      rw [wX_strongestOnes_16]
      have vab := hA a b ha hb
      have vba := hA b a hb ha
      have bab := hS a b ha hb
      have bba := hS b a hb ha
      refine br_f (nI_ge (b := 5) hb (by decide)) ⟨by rw [vn_5a]; exact vp_in_nI (by omega) (by decide), by rw [vn_5a]; exact vp_in_nI (by omega) (by decide), ?_⟩
      rw [vn_5a, vn_5a, nI_clamp (n := 5 * a + b) (by omega), nI_clamp (n := 5 * b + a) (by omega), vab, vba]
      exact vi_le (S b a) (S a b) (fun hle => nm_r (nI_1 b) (hK' w' (dl_no hw' (by omega)))) (fun hlt => nm_e (nm_r (nI_1 b) (hK' _ (dl_yes ha hb hw' hlt))))
theorem x_w12 {post : Int32 → SX → Prop} {u : SX} {n : Nat} {O : Nat → Nat} {V : Nat → Int32} (h : zRV n O V u) (hp : ∀ w u', isSet w (W12 n O) → zRV n O V u' → post w u') : wpX_onesWithAnsweredWays post u := by
  obtain ⟨xc, xo, xr, xp, xm, xb, xs, xq, xn, xu, xl, xg, xk, xt, xw, xv⟩ := u
  unfold wpX_onesWithAnsweredWays
  dsimp only
  refine x_fs h.1 (fun s' hs => ?_)
  have hr : zRV n O V (xc, xo, xr, xp, xm, xb, s', xq, xn, xu, xl, xg, xk, xt, xw, xv) := rv_any h
  obtain ⟨S, hA, hS⟩ := hs
  refine pk_loop (σ := Int32) (fun m a w => wX_onesWithAnsweredWays_9 post xc xo xr xp xm xb s' xq xn xu xl xg xk xt xw xv m w (nI a)) (fun a w => dl2 (fun x y => 0 < S y x ∧ S x y = 0) a 0 w) 5 0 31 (by omega) (dl_0 _) ?_ ?_
  · intro m w hw
    rw [wX_onesWithAnsweredWays_9]
    exact br_t (by decide) (hp w _ (vb_congr (dl_end hw) (fun i hi => w12_iff hS hi)) hr)
  · intro m a w ha hw hK
    rw [wX_onesWithAnsweredWays_9]
    refine br_f (nI_ge (b := 5) ha (by decide)) ?_
    refine pk_loop (σ := Int32) (fun m' b w => wX_onesWithAnsweredWays_16 post (wX_onesWithAnsweredWays_9 post xc xo xr xp xm xb s' xq xn xu xl xg xk xt xw xv m) (nI a) xc xo xr xp xm xb s' xq xn xu xl xg xk xt xw xv m' w (nI b)) (fun b w => dl2 (fun x y => 0 < S y x ∧ S x y = 0) a b w) 5 0 w (by omega) hw ?_ ?_
    · intro m' w' hw'
      rw [wX_onesWithAnsweredWays_16]
      exact br_t (by decide) (nm_r (nI_1 a) (hK w' (dl_row hw')))
    · intro m' b w' hb hw' hK'
      rw [wX_onesWithAnsweredWays_16]
      have vab := hA a b ha hb
      have vba := hA b a hb ha
      have bab := hS a b ha hb
      have bba := hS b a hb ha
      refine br_f (nI_ge (b := 5) hb (by decide)) ⟨by rw [vn_5a]; exact vp_in_nI (by omega) (by decide), ?_⟩
      rw [vn_5a, vn_5a, nI_clamp (n := 5 * a + b) (by omega), nI_clamp (n := 5 * b + a) (by omega), vab, vba]
      refine vi_le (S b a) 0 (fun hle => nm_r (nI_1 b) (hK' w' (dl_no hw' (by omega)))) (fun hlt => ⟨vp_in_nI (by omega) (by decide), ?_⟩)
      exact vi_eq (S a b) 0 (fun e => nm_e (nm_r (nI_1 b) (hK' _ (dl_yes ha hb hw' ⟨hlt, e⟩)))) (fun e => nm_r (nI_1 b) (hK' w' (dl_no hw' (fun z => e z.2))))
theorem y_w9 {post : Int32 → SY → Prop} {u : SY} {n : Nat} {O : Nat → Nat} (h : zRYM n O u) (hp : ∀ w u', isSet w (W9 n O) → zRY n O u' → post w u') : wpY_strongest post u := by
  obtain ⟨yn, yc, yo, yp, ym, ys, yl, yb, yw, yk, yt, yz, yx⟩ := u
  unfold wpY_strongest
  dsimp only
  refine y_fs h (fun v' hM hs => ?_)
  have hr := hM.1
  obtain ⟨yn', yc', yo', yp', ym', ys', yl', yb', yw', yk', yt', yz', yx'⟩ := v'
  dsimp only at hs ⊢
  obtain ⟨S, hA, hS⟩ := hs
  refine pk_loop (σ := Int32) (fun m a w => wY_strongest_9 post yn' yc' yo' yp' ym' ys' yl' yb' yw' yk' yt' yz' yx' m w (nI a)) (fun a w => dl2 (fun x y => S x y < S y x) a 0 w) 5 0 31 (by omega) (dl_0 _) ?_ ?_
  · intro m w hw
    rw [wY_strongest_9]
    exact br_t (by decide) (hp w _ (vb_congr (dl_end hw) (fun i hi => w9_iff hS hi)) hr)
  · intro m a w ha hw hK
    rw [wY_strongest_9]
    refine br_f (nI_ge (b := 5) ha (by decide)) ?_
    refine pk_loop (σ := Int32) (fun m' b w => wY_strongest_16 post (wY_strongest_9 post yn' yc' yo' yp' ym' ys' yl' yb' yw' yk' yt' yz' yx' m) (nI a) yn' yc' yo' yp' ym' ys' yl' yb' yw' yk' yt' yz' yx' m' w (nI b)) (fun b w => dl2 (fun x y => S x y < S y x) a b w) 5 0 w (by omega) hw ?_ ?_
    · intro m' w' hw'
      rw [wY_strongest_16]
      exact br_t (by decide) (nm_r (nI_1 a) (hK w' (dl_row hw')))
    · intro m' b w' hb hw' hK'
      rw [wY_strongest_16]
      have vab := hA a b ha hb
      have vba := hA b a hb ha
      have bab := hS a b ha hb
      have bba := hS b a hb ha
      refine br_f (nI_ge (b := 5) hb (by decide)) ⟨by rw [vn_5b]; exact vp_in_nI (by omega) (by decide), by rw [vn_5b]; exact vp_in_nI (by omega) (by decide), ?_⟩
      rw [vn_5b, vn_5b, nI_clamp (n := 5 * a + b) (by omega), nI_clamp (n := 5 * b + a) (by omega), vab, vba]
      exact vi_le (S b a) (S a b) (fun hle => nm_r (nI_1 b) (hK' w' (dl_no hw' (by omega)))) (fun hlt => nm_e (nm_r (nI_1 b) (hK' _ (dl_yes ha hb hw' hlt))))
theorem y_w12 {post : Int32 → SY → Prop} {u : SY} {n : Nat} {O : Nat → Nat} (h : zRYM n O u) (hp : ∀ w u', isSet w (W12 n O) → zRY n O u' → post w u') : wpY_answering post u := by
  obtain ⟨yn, yc, yo, yp, ym, ys, yl, yb, yw, yk, yt, yz, yx⟩ := u
  unfold wpY_answering
  dsimp only
  refine y_fs h (fun v' hM hs => ?_)
  have hr := hM.1
  obtain ⟨yn', yc', yo', yp', ym', ys', yl', yb', yw', yk', yt', yz', yx'⟩ := v'
  dsimp only at hs ⊢
  obtain ⟨S, hA, hS⟩ := hs
  refine pk_loop (σ := Int32) (fun m a w => wY_answering_9 post yn' yc' yo' yp' ym' ys' yl' yb' yw' yk' yt' yz' yx' m w (nI a)) (fun a w => dl2 (fun x y => 0 < S y x ∧ S x y = 0) a 0 w) 5 0 31 (by omega) (dl_0 _) ?_ ?_
  · intro m w hw
    rw [wY_answering_9]
    exact br_t (by decide) (hp w _ (vb_congr (dl_end hw) (fun i hi => w12_iff hS hi)) hr)
  · intro m a w ha hw hK
    rw [wY_answering_9]
    refine br_f (nI_ge (b := 5) ha (by decide)) ?_
    refine pk_loop (σ := Int32) (fun m' b w => wY_answering_16 post (wY_answering_9 post yn' yc' yo' yp' ym' ys' yl' yb' yw' yk' yt' yz' yx' m) (nI a) yn' yc' yo' yp' ym' ys' yl' yb' yw' yk' yt' yz' yx' m' w (nI b)) (fun b w => dl2 (fun x y => 0 < S y x ∧ S x y = 0) a b w) 5 0 w (by omega) hw ?_ ?_
    · intro m' w' hw'
      rw [wY_answering_16]
      exact br_t (by decide) (nm_r (nI_1 a) (hK w' (dl_row hw')))
    · intro m' b w' hb hw' hK'
      rw [wY_answering_16]
      have vab := hA a b ha hb
      have vba := hA b a hb ha
      have bab := hS a b ha hb
      have bba := hS b a hb ha
      refine br_f (nI_ge (b := 5) hb (by decide)) ⟨by rw [vn_5b]; exact vp_in_nI (by omega) (by decide), ?_⟩
      rw [vn_5b, vn_5b, nI_clamp (n := 5 * a + b) (by omega), nI_clamp (n := 5 * b + a) (by omega), vab, vba]
      refine vi_le (S b a) 0 (fun hle => nm_r (nI_1 b) (hK' w' (dl_no hw' (by omega)))) (fun hlt => ⟨vp_in_nI (by omega) (by decide), ?_⟩)
      exact vi_eq (S a b) 0 (fun e => nm_e (nm_r (nI_1 b) (hK' _ (dl_yes ha hb hw' ⟨hlt, e⟩)))) (fun e => nm_r (nI_1 b) (hK' w' (dl_no hw' (fun z => e z.2))))
theorem i_vc_strength {k : Nat} {u : SX} {v : SY} (I : i_Rel k u v) (hk : k + 3 ≤ 1536) (v1 : Int32) (v2 : Int32) : wpX_strength (fun r u' => wpY_strength (fun r' v' => r' = r ∧ i_Rel (k + 3) u' v') v v1 v2) u v1 v2 := by
  have I0 := I
  obtain ⟨n, O, hX, hY⟩ := I
  obtain ⟨xc, xo, xr, xp, xm, xb, xs, xq, xn, xu, xl, xg, xk, xt, xw, xv⟩ := u
  obtain ⟨yn, yc, yo, yp, ym, ys, yl, yb, yw, yk, yt, yz, yx⟩ := v
  unfold wpX_strength
  dsimp only
  refine x_cand (fun hno => br_t rfl ?_) (fun a ha e => br_f (by decide) ?_)
  · unfold wpY_strength
    dsimp only
    exact y_in 0 4 rfl (by decide) (fun _ => br_t rfl ⟨rfl, I0⟩) (fun j _ hj e => absurd e (hno j (by omega)))
  · subst e
    refine x_cand (fun hno => br_t rfl ?_) (fun b hb e => br_f (by decide) ?_)
    · unfold wpY_strength
      dsimp only
      refine y_in 0 4 rfl (by decide) (fun hh => absurd rfl (hh a (by omega) (by omega))) (fun _ _ _ _ => br_f (by decide) ?_)
      exact y_in 0 4 rfl (by decide) (fun _ => br_t rfl ⟨rfl, I0⟩) (fun j _ hj e => absurd e (hno j (by omega)))
    · subst e
      refine pk_eq a b (fun e => ?_) (fun hne => ?_)
      · unfold wpY_strength
        dsimp only
        refine y_in 0 4 rfl (by decide) (fun hh => absurd rfl (hh a (by omega) (by omega))) (fun _ _ _ _ => br_f (by decide) ?_)
        refine y_in 0 4 rfl (by decide) (fun hh => absurd rfl (hh b (by omega) (by omega))) (fun _ _ _ _ => br_f (by decide) ?_)
        exact br_t (by rw [e]) ⟨rfl, I0⟩
      · refine x_fs hX (fun s' hs => ?_)
        have hr : zRX n O (xc, xo, xr, xp, xm, xb, s', xq, xn, xu, xl, xg, xk, xt, xw, xv) := hX
        obtain ⟨S, hA, hS⟩ := hs
        dsimp only
        rw [vn_5a, nI_clamp (by omega), hA a b ha hb]
        refine ⟨vp_in_nI (by omega) (by decide), ?_⟩
        unfold wpY_strength
        dsimp only
        refine y_in 0 4 rfl (by decide) (fun hh => absurd rfl (hh a (by omega) (by omega))) (fun _ _ _ _ => br_f (by decide) ?_)
        refine y_in 0 4 rfl (by decide) (fun hh => absurd rfl (hh b (by omega) (by omega))) (fun _ _ _ _ => br_f (by decide) ?_)
        refine br_f (fun z => hne ((nI_eq (by omega) (by omega)).mp z)) (y_ct hY (fun m' hM => y_fs hM (fun v' hM' hs' => ?_)))
        obtain ⟨yn', yc', yo', yp', ym', ys', yl', yb', yw', yk', yt', yz', yx'⟩ := v'
        obtain ⟨S', hA', hS'⟩ := hs'
        dsimp only at hA' ⊢
        rw [vn_5b, nI_clamp (by omega), hA' a b ha hb]
        refine ⟨vp_in_nI (by omega) (by decide), ?_, n, O, hr, hM'.1⟩
        rw [isStr_u ((hS a b ha hb).2.2 hne) ((hS' a b ha hb).2.2 hne)]
end
section
/-! ===== rules 11, 13, 14: pure ===== -/
def bts (n : Nat) (O : Nat → Nat) (a b : Nat) : Prop := 0 < Mg n O a b
theorem bts_as {n : Nat} {O : Nat → Nat} {a b : Nat} (h : bts n O a b) (h' : bts n O b a) : False := by
  unfold bts at h h'
  have := Mg_anti n O a b
  omega
theorem bts_ir {n : Nat} {O : Nat → Nat} {a : Nat} (h : bts n O a a) : False := bts_as h h
/-- t lies in s -/
def sub5 (t s : Nat) : Prop := ∀ c, c < 5 → t.testBit c = true → s.testBit c = true
def pcn (s : Nat) : Nat := s % 2 + s / 2 % 2 + s / 4 % 2 + s / 8 % 2 + s / 16 % 2
def sb5 (t s : Nat) : Bool := (!t.testBit 0 || s.testBit 0) && (!t.testBit 1 || s.testBit 1) && (!t.testBit 2 || s.testBit 2) && (!t.testBit 3 || s.testBit 3) && (!t.testBit 4 || s.testBit 4)
theorem sb5_of {t s : Nat} (h : sub5 t s) : sb5 t s = true := by
  have h0 := h 0 (by omega)
  have h1 := h 1 (by omega)
  have h2 := h 2 (by omega)
  have h3 := h 3 (by omega)
  have h4 := h 4 (by omega)
  unfold sb5
  simp only [Bool.and_eq_true, Bool.or_eq_true, Bool.not_eq_true']
  have q : ∀ x y : Bool, (x = true → y = true) → (x = false ∨ y = true) := by decide
  exact ⟨⟨⟨⟨q _ _ h0, q _ _ h1⟩, q _ _ h2⟩, q _ _ h3⟩, q _ _ h4⟩
theorem sb5_le0 : (List.range 32).all (fun s => (List.range 32).all (fun t => !sb5 t s || (decide (t ≤ s) && (t == s || decide (pcn t < pcn s))))) = true := by decide +kernel
theorem sb5_le {t s : Nat} (ht : t < 32) (hs : s < 32) (h : sub5 t s) : t ≤ s ∧ (t = s ∨ pcn t < pcn s) := by
  have h0 := sb5_le0
  rw [List.all_eq_true] at h0
  have h1 := h0 s (by rw [List.mem_range]; exact hs)
  rw [List.all_eq_true] at h1
  have h2 := h1 t (by rw [List.mem_range]; exact ht)
  rw [sb5_of h] at h2
  simpa using h2
theorem s5_ext {t s : Nat} (ht : t < 32) (hs : s < 32) (h : ∀ c, c < 5 → (t.testBit c = true ↔ s.testBit c = true)) : t = s := by
  have a := (sb5_le ht hs (fun c hc => (h c hc).mp)).1
  have b := (sb5_le hs ht (fun c hc => (h c hc).mpr)).1
  omega
theorem pcn_rm : ∀ s, s < 32 → ∀ c, c < 5 → s.testBit c = true → pcn (rmv s c) + 1 = pcn s := by decide +kernel
theorem pcn_0 : ∀ s, s < 32 → pcn s = 0 → s = 0 := by decide +kernel
theorem pcn_5 : ∀ s, s < 32 → pcn s ≤ 5 := by decide +kernel
theorem rmv_bit : ∀ s, s < 32 → ∀ c, c < 5 → ∀ d, d < 5 → ((rmv s c).testBit d = true ↔ (s.testBit d = true ∧ d ≠ c)) := by decide +kernel
theorem bit_ex' {s : Nat} (hs : s < 32) (h0 : 0 < s) : ∃ c, c < 5 ∧ s.testBit c = true := by
  rcases bit_ex s hs h0 with h | h | h | h | h
  · exact ⟨0, by omega, h⟩
  · exact ⟨1, by omega, h⟩
  · exact ⟨2, by omega, h⟩
  · exact ⟨3, by omega, h⟩
  · exact ⟨4, by omega, h⟩
theorem bit_31 : ∀ c, c < 5 → (31 : Nat).testBit c = true := by decide
def dom5 (n : Nat) (O : Nat → Nat) (s : Nat) : Prop := ∀ a, a < 5 → s.testBit a = true → ∀ b, b < 5 → s.testBit b = true ∨ bts n O a b
theorem dom_31 (n : Nat) (O : Nat → Nat) : dom5 n O 31 := fun _ _ _ b hb => Or.inl (bit_31 b hb)
/-- of two that dominate one lies in the other -/
theorem dom_nest {n : Nat} {O : Nat → Nat} {s t : Nat} (hs : dom5 n O s) (ht : dom5 n O t) : sub5 s t ∨ sub5 t s := by
  by_cases h : sub5 s t
  · exact Or.inl h
  · right
    intro b hb hbt
    apply Classical.byContradiction
    intro hbs
    apply h
    intro a ha has
    apply Classical.byContradiction
    intro hat
    rcases hs a ha has b hb with g | g
    · exact hbs g
    · rcases ht b hb hbt a ha with g2 | g2
      · exact hat g2
      · exact bts_as g g2
def isDom (n : Nat) (O : Nat → Nat) (w : Nat) : Prop := 0 < w ∧ w < 32 ∧ dom5 n O w ∧ ∀ s, 0 < s → s < 32 → dom5 n O s → sub5 w s
theorem isDom_u {n : Nat} {O : Nat → Nat} {w w' : Nat} (h : isDom n O w) (h' : isDom n O w') : w = w' := by
  have a := (sb5_le h.2.1 h'.2.1 (h.2.2.2 w' h'.1 h'.2.1 h'.2.2.1)).1
  have b := (sb5_le h'.2.1 h.2.1 (h'.2.2.2 w h.1 h.2.1 h.2.2.1)).1
  omega
theorem dom_first {n : Nat} {O : Nat → Nat} {w : Nat} (h0 : 0 < w) (h1 : w < 32) (hd : dom5 n O w) (hm : ∀ s, 0 < s → s < w → ¬ dom5 n O s) : isDom n O w := by
  refine ⟨h0, h1, hd, fun s hs0 hs hds => ?_⟩
  rcases dom_nest hd hds with h | h
  · exact h
  · have := (sb5_le hs h1 h).1
    have e : s = w := by
      rcases Nat.lt_or_ge s w with g | g
      · exact absurd hds (hm s hs0 g)
      · omega
    subst e
    exact h
theorem dom_small {n : Nat} {O : Nat → Nat} {w : Nat} (h0 : 0 < w) (h1 : w < 32) (hd : dom5 n O w) (hm : ∀ s, 0 < s → s < 32 → dom5 n O s → pcn w ≤ pcn s) : isDom n O w := by
  refine ⟨h0, h1, hd, fun s hs0 hs hds => ?_⟩
  rcases dom_nest hd hds with h | h
  · exact h
  · have a := (sb5_le hs h1 h).2
    have b := hm s hs0 hs hds
    have e : s = w := by omega
    subst e
    exact h
/-- a is in s and beats all the others there -/
def top5 (n : Nat) (O : Nat → Nat) (s a : Nat) : Prop := s.testBit a = true ∧ ∀ b, b < 5 → s.testBit b = true → b ≠ a → bts n O a b
theorem top_u {n : Nat} {O : Nat → Nat} {s a b : Nat} (ha : a < 5) (hb : b < 5) (h : top5 n O s a) (h' : top5 n O s b) : a = b := by
  apply Classical.byContradiction
  intro hne
  exact bts_as (h.2 b hb h'.1 (fun z => hne z.symm)) (h'.2 a ha h.1 hne)
/-- the members of s form a chain: each part of s has a top -/
def Chn (n : Nat) (O : Nat → Nat) (s : Nat) : Prop := ∀ t, 0 < t → t < 32 → sub5 t s → ∃ a, a < 5 ∧ top5 n O t a
theorem chn_sub {n : Nat} {O : Nat → Nat} {s t : Nat} (h : Chn n O s) (hts : sub5 t s) : Chn n O t :=
  fun r h0 h1 hr => h r h0 h1 (fun c hc hb => hts c hc (hr c hc hb))
theorem chn_top {n : Nat} {O : Nat → Nat} {s a : Nat} (hs : s < 32) (ha : a < 5) (ht : top5 n O s a) (h : Chn n O (rmv s a)) : Chn n O s := by
  intro t h0 h1 hts
  by_cases hta : t.testBit a = true
  · exact ⟨a, ha, hta, fun b hb hbt hne => ht.2 b hb (hts b hb hbt) hne⟩
  · refine h t h0 h1 (fun c hc hb => (rmv_bit s hs a ha c hc).mpr ⟨hts c hc hb, ?_⟩)
    rintro rfl
    exact hta hb
def sgI (n : Nat) (O : Nat → Nat) (s a : Nat) : Int := sm 5 (fun b => b01 (s.testBit b && decide (0 < Mg n O a b)))
def szN (s : Nat) : Int := sm 5 (fun b => b01 (s.testBit b))
theorem sgI_bd (n : Nat) (O : Nat → Nat) (s a : Nat) : 0 ≤ sgI n O s a ∧ sgI n O s a ≤ 5 := by
  have h1 := sm_lo (n := 5) (k := 0) (f := fun b => b01 (s.testBit b && decide (0 < Mg n O a b))) (fun i _ => (b01_bd _).1)
  have h2 := sm_hi (n := 5) (k := 1) (f := fun b => b01 (s.testBit b && decide (0 < Mg n O a b))) (fun i _ => (b01_bd _).2)
  unfold sgI; omega
/-- no two members of s beat equally many -/
def inj5 (n : Nat) (O : Nat → Nat) (s : Nat) : Prop := ∀ a b, a < 5 → b < 5 → s.testBit a = true → s.testBit b = true → a ≠ b → sgI n O s a ≠ sgI n O s b
theorem bit_3 {a b c : Nat} (ha : a < 5) (hb : b < 5) (hc : c < 5) : 0 < 2 ^ a ||| 2 ^ b ||| 2 ^ c ∧ 2 ^ a ||| 2 ^ b ||| 2 ^ c < 32 ∧ ∀ d, (2 ^ a ||| 2 ^ b ||| 2 ^ c).testBit d = true ↔ (d = a ∨ d = b ∨ d = c) := by
  have hbit : ∀ d, (2 ^ a ||| 2 ^ b ||| 2 ^ c).testBit d = true ↔ (d = a ∨ d = b ∨ d = c) := by
    intro d
    simp only [Nat.testBit_or, Nat.testBit_two_pow, Bool.or_eq_true, decide_eq_true_eq]
    omega
  refine ⟨?_, ?_, hbit⟩
  · apply Nat.pos_of_ne_zero
    intro e
    have := (hbit a).mpr (Or.inl rfl)
    rw [e] at this
    simp at this
  · refine Nat.or_lt_two_pow (n := 5) (Nat.or_lt_two_pow ?_ ?_) ?_
    · exact Nat.pow_lt_pow_right (by decide) ha
    · exact Nat.pow_lt_pow_right (by decide) hb
    · exact Nat.pow_lt_pow_right (by decide) hc
theorem chn_lt {n : Nat} {O : Nat → Nat} {s a b : Nat} (h : Chn n O s) (ha : a < 5) (hb : b < 5) (hsa : s.testBit a = true) (hsb : s.testBit b = true) (hab : bts n O a b) : sgI n O s b < sgI n O s a := by
  refine sm_lt (fun x hx => ?_) hb ?_
  · cases hsx : s.testBit x
    · simp [b01]
    · by_cases hbx : 0 < Mg n O b x
      · obtain ⟨t0, t1, tb⟩ := bit_3 ha hb hx
        obtain ⟨y, hy, hty, hall⟩ := h _ t0 t1 (fun c hc hbc => by
          rcases (tb c).mp hbc with rfl | rfl | rfl
          · exact hsa
          · exact hsb
          · exact hsx)
        have e : y = a := by
          rcases (tb y).mp hty with e | e | e
          · exact e
          · by_cases hya : a = y
            · exact hya.symm
            · have := hall a ha ((tb a).mpr (Or.inl rfl)) hya
              rw [e] at this
              exact (bts_as hab this).elim
          · by_cases hyb : b = y
            · rw [hyb] at hbx; rw [e] at hbx; exact (bts_ir hbx).elim
            · have := hall b hb ((tb b).mpr (Or.inr (Or.inl rfl))) hyb
              rw [e] at this
              exact (bts_as hbx this).elim
        have hax : 0 < Mg n O a x := by
          by_cases exa : x = a
          · rw [exa] at hbx; exact (bts_as hab hbx).elim
          · have := hall x hx ((tb x).mpr (Or.inr (Or.inr rfl))) (by rw [e]; exact exa)
            rw [e] at this
            exact this
        simp [hbx, hax]
      · simp only [hbx, decide_false, Bool.and_false]
        exact (b01_bd _).1
  · have h1 : ¬ 0 < Mg n O b b := fun z => bts_ir z
    have h2 : 0 < Mg n O a b := hab
    simp [hsb, h1, h2, b01]
theorem chn_inj {n : Nat} {O : Nat → Nat} {s : Nat} (h : Chn n O s) : inj5 n O s := by
  intro a b ha hb hsa hsb hne
  obtain ⟨t0, t1, tb⟩ := bit_3 ha hb hb
  obtain ⟨y, hy, hty, hall⟩ := h _ t0 t1 (fun c hc hbc => by
    rcases (tb c).mp hbc with rfl | rfl | rfl
    · exact hsa
    · exact hsb
    · exact hsb)
  rcases (tb y).mp hty with e | e
  · subst e
    have := chn_lt h hy hb hsa hsb (hall b hb ((tb b).mpr (by omega)) (fun z => hne z.symm))
    omega
  · have e : y = b := by omega
    subst e
    have := chn_lt h hy ha hsb hsa (hall a ha ((tb a).mpr (by omega)) hne)
    omega
theorem sm_one {n : Nat} {f : Nat → Int} (h0 : ∀ i, i < n → f i = 0 ∨ f i = 1) (h1 : ∀ i j, i < n → j < n → f i = 1 → f j = 1 → i = j) : sm n f ≤ 1 := by
  by_cases h : ∃ k, k < n ∧ f k = 1
  · obtain ⟨k, hk, e⟩ := h
    rw [sm_single hk (fun i hi hne => ?_), e]
    · exact Int.le_refl _
    · rcases h0 i hi with g | g
      · exact g
      · exact absurd (h1 i k hi hk g e) hne
  · rw [sm_zero (fun i hi => ?_)]
    · decide
    · rcases h0 i hi with g | g
      · exact g
      · exact absurd ⟨i, hi, g⟩ h
theorem b01_1 (b : Bool) : (b01 b = 0 ∨ b01 b = 1) ∧ (b01 b = 1 ↔ b = true) := by cases b <;> decide
/-- k different numbers below k: one is k - 1 -/
theorem ph5 {n : Nat} {O : Nat → Nat} {s : Nat} {k : Nat} (hk : szN s = (k : Int) + 1) (hi : inj5 n O s) (hb : ∀ a, a < 5 → s.testBit a = true → sgI n O s a ≤ k) : ∃ a, a < 5 ∧ s.testBit a = true ∧ sgI n O s a = k := by
  apply Classical.byContradiction
  intro hno
  have e1 : szN s = sm 5 (fun a => sm k (fun v => b01 (s.testBit a && decide (sgI n O s a = (v : Int))))) := by
    refine sm_congr fun a ha => ?_
    cases hs : s.testBit a
    · rw [sm_zero (fun v _ => by simp [b01])]; rfl
    · have h0 := sgI_bd n O s a
      have h1 := hb a ha hs
      have h2 : sgI n O s a ≠ k := fun z => hno ⟨a, ha, hs, z⟩
      rw [sm_single (k := (sgI n O s a).toNat) (by omega) (fun v hv hne => ?_)]
      · have : sgI n O s a = ((sgI n O s a).toNat : Int) := by omega
        rw [decide_eq_true this]; rfl
      · rw [decide_eq_false (by omega)]; rfl
  rw [sm_comm] at e1
  have e2 : sm k (fun v => sm 5 (fun a => b01 (s.testBit a && decide (sgI n O s a = (v : Int))))) ≤ 1 * (k : Int) := by
    refine sm_hi fun v hv => sm_one (fun a _ => (b01_1 _).1) (fun a b ha hb' h1 h2 => ?_)
    rw [(b01_1 _).2, Bool.and_eq_true, decide_eq_true_eq] at h1 h2
    apply Classical.byContradiction
    intro hne
    exact hi a b ha hb' h1.1 h2.1 hne (by rw [h1.2, h2.2])
  omega
theorem szN_p : ∀ s, s < 32 → szN s = pcn s := by decide +kernel
theorem inj_chn {n : Nat} {O : Nat → Nat} : ∀ s, s < 32 → inj5 n O s → Chn n O s := by
  intro s
  induction s using Nat.strongRecOn with
  | _ s ih =>
    intro hs hi
    by_cases h0 : s = 0
    · subst h0
      intro t ht0 ht hts
      obtain ⟨c, hc, hb⟩ := bit_ex' ht ht0
      have := hts c hc hb
      simp at this
    · have hp : 0 < pcn s := by
        rcases Nat.eq_zero_or_pos (pcn s) with g | g
        · exact absurd (pcn_0 s hs g) h0
        · exact g
      have hsz := szN_p s hs
      -- a member beats at most the others
      have hle : ∀ a, a < 5 → s.testBit a = true → sgI n O s a ≤ ((pcn s - 1 : Nat) : Int) := by
        intro a ha hsa
        have : sgI n O s a < szN s := by
          refine sm_lt (fun b hb => ?_) ha ?_
          · cases s.testBit b
            · exact Int.le_refl _
            · exact (b01_bd _).2
          · have : ¬ 0 < Mg n O a a := fun z => bts_ir z
            simp [hsa, this, b01]
        omega
      obtain ⟨a, ha, hsa, he⟩ := ph5 (k := pcn s - 1) (by omega) hi hle
      have htop : top5 n O s a := by
        refine ⟨hsa, fun b hb hsb hne => ?_⟩
        apply Classical.byContradiction
        intro hnb
        -- then two members are not beaten: a itself and b
        have h2 : sgI n O s a + (1 + 1) ≤ szN s := by
          have e1 : sgI n O s a + (sm 5 (fun x => if x = a then (1 : Int) else 0) + sm 5 (fun x => if x = b then (1 : Int) else 0)) ≤ szN s := by
            unfold sgI szN
            rw [← sm_add, ← sm_add]
            refine sm_le fun x hx => ?_
            by_cases exa : x = a
            · subst exa
              have : ¬ 0 < Mg n O x x := fun z => bts_ir z
              have hxb : x ≠ b := fun z => hne z.symm
              simp [hsa, this, b01, hxb]
            · by_cases exb : x = b
              · subst exb
                have : ¬ 0 < Mg n O a x := hnb
                simp [hsb, this, b01, exa]
              · simp only [if_neg exa, if_neg exb, Int.add_zero]
                cases s.testBit x
                · exact Int.le_refl _
                · exact (b01_bd _).2
          rw [sm_single (f := fun x => if x = a then (1 : Int) else 0) ha (fun i _ hi => if_neg hi), sm_single (f := fun x => if x = b then (1 : Int) else 0) hb (fun i _ hi => if_neg hi), if_pos rfl, if_pos rfl] at e1
          exact e1
        omega
      refine chn_top hs ha htop (ih (rmv s a) (rmv_lt s hs a ha hsa) (rmv_32 s hs a ha) ?_)
      have same : ∀ b, b < 5 → (rmv s a).testBit b = true → sgI n O (rmv s a) b = sgI n O s b := by
        intro b hb hrb
        have hb2 := (rmv_bit s hs a ha b hb).mp hrb
        refine sm_congr fun x hx => ?_
        by_cases exa : x = a
        · subst exa
          have : ¬ 0 < Mg n O b x := fun z => bts_as (htop.2 b hb hb2.1 hb2.2) z
          simp [this]
        · have := rmv_bit s hs a ha x hx
          have e : (rmv s a).testBit x = s.testBit x := by
            cases h1 : (rmv s a).testBit x <;> cases h2 : s.testBit x <;> simp_all
          rw [e]
      intro b c hb hc hrb hrc hne
      rw [same b hb hrb, same c hc hrc]
      exact hi b c hb hc ((rmv_bit s hs a ha b hb).mp hrb).1 ((rmv_bit s hs a ha c hc).mp hrc).1 hne
end
section
/-! ===== rules 11, 13, 14: the walks ===== -/
theorem and_n0 {x y : Int32} : (x &&& (y ^^^ (-1))) = 0 ↔ ∀ i, bt x i = true → bt y i = true := by
  constructor
  · intro h i hi
    have h2 := congrArg (fun z => bt z i) h
    rcases Nat.lt_or_ge i 32 with g | g
    · rw [b_and, vb_not _ g, b_0, hi] at h2
      cases hy : bt y i
      · rw [hy] at h2; cases h2
      · rfl
    · rw [b_big g] at hi; cases hi
  · intro h
    apply b_ext
    intro i hi
    rw [b_and, vb_not _ hi, b_0]
    cases hx : bt x i
    · rfl
    · rw [h i hx]; rfl
theorem and_eq {x y : Int32} : (x &&& y) = y ↔ ∀ i, bt y i = true → bt x i = true := by
  constructor
  · intro h i hi
    have h2 := congrArg (fun z => bt z i) h
    rw [b_and, hi] at h2
    simpa using h2
  · intro h
    apply b_ext
    intro i hi
    rw [b_and]
    cases hy : bt y i
    · simp
    · rw [h i hy]; rfl
theorem or_31 {x y : Int32} (hx : ∀ i, 5 ≤ i → bt x i = false) (hy : ∀ i, 5 ≤ i → bt y i = false) : (x ||| y) = 31 ↔ ∀ i, i < 5 → bt x i = true ∨ bt y i = true := by
  constructor
  · intro h i hi
    have h2 := congrArg (fun z => bt z i) h
    rw [b_or, vb_31, decide_eq_true hi, Bool.or_eq_true] at h2
    exact h2
  · intro h
    apply b_ext
    intro i hi
    rw [b_or, vb_31]
    rcases Nat.lt_or_ge i 5 with g | g
    · rw [decide_eq_true g, Bool.or_eq_true]; exact h i g
    · rw [hx i g, hy i g, decide_eq_false (by omega)]; rfl
theorem set_hi {r : Int32} {W : Nat → Prop} (h : isSet r W) : ∀ i, 5 ≤ i → bt r i = false := by
  intro i hi
  cases hb : bt r i
  · rfl
  · have := ((h i).mp hb).1; omega
def W13 (n : Nat) (O : Nat → Nat) (a : Nat) : Prop := ∀ b, b < 5 → ¬ (bts n O b a ∧ ∀ d, d < 5 → bts n O a d → bts n O b d)
theorem cov_iff {n : Nat} {O : Nat → Nat} {a b : Nat} {ra rb : Int32} (ha : isSet ra (fun d => 0 < Mg n O a d)) (hb : isSet rb (fun d => 0 < Mg n O b d)) : (ra &&& (rb ^^^ (-1))) = 0 ↔ ∀ d, d < 5 → bts n O a d → bts n O b d := by
  rw [and_n0]
  constructor
  · intro h d hd hbd
    exact ((hb d).mp (h d ((ha d).mpr ⟨hd, hbd⟩))).2
  · intro h i hi
    have := (ha i).mp hi
    exact (hb i).mpr ⟨this.1, h i this.1 this.2⟩
theorem x_w13 {post : Int32 → Prop} {xc : Int32} {xo xr xp xm xb xs xq xn xu xl xg xk xt xw xv : Nat → Int32} {n : Nat} {O : Nat → Nat} (h : zRX n O (xc, xo, xr, xp, xm, xb, xs, xq, xn, xu, xl, xg, xk, xt, xw, xv)) (hp : ∀ w, isSet w (W13 n O) → post w) : wpX_uncoveredOnes post (xc, xo, xr, xp, xm, xb, xs, xq, xn, xu, xl, xg, xk, xt, xw, xv) := by
  have hbe : ∀ a, a < 5 → isSet (xb a) (fun b => 0 < Mg n O a b) := h.2.2
  unfold wpX_uncoveredOnes
  dsimp only
  refine pk_loop (σ := Int32) (fun m a w => wX_uncoveredOnes_5 post xc xo xr xp xm xb xs xq xn xu xl xg xk xt xw xv m w (nI a)) (fun a w => dl2 (fun a b => bts n O b a ∧ ∀ d, d < 5 → bts n O a d → bts n O b d) a 0 w) 5 0 31 (by omega) (dl_0 _) ?_ ?_
  · intro m w hw
    rw [wX_uncoveredOnes_5]
    exact br_t (by decide) (hp w (dl_end hw))
  · intro m a w ha hw hK
    rw [wX_uncoveredOnes_5]
    refine br_f (nI_ge (b := 5) ha (by decide)) ?_
    refine pk_loop (σ := Int32) (fun m' b w => wX_uncoveredOnes_12 post (wX_uncoveredOnes_5 post xc xo xr xp xm xb xs xq xn xu xl xg xk xt xw xv m) (nI a) xc xo xr xp xm xb xs xq xn xu xl xg xk xt xw xv m' w (nI b)) (fun b w => dl2 (fun a b => bts n O b a ∧ ∀ d, d < 5 → bts n O a d → bts n O b d) a b w) 5 0 w (by omega) hw ?_ ?_
    · intro m' w' hw'
      rw [wX_uncoveredOnes_12]
      exact br_t (by decide) (nm_r (nI_1 a) (hK w' (dl_row hw')))
    · intro m' b w' hb hw' hK'
      rw [wX_uncoveredOnes_12]
      refine br_f (nI_ge (b := 5) hb (by decide)) ⟨vp_in_nI hb (by decide), ?_⟩
      rw [nI_clamp (n := a) (by omega), nI_clamp (n := b) (by omega)]
      have hc := cov_iff (hbe a ha) (hbe b hb)
      refine x_has (by omega) (fun e => br_f (by decide) ⟨vp_in_nI ha (by decide), vp_in_nI hb (by decide), br_c (fun z => nm_e (nm_r (nI_1 b) (hK' _ (dl_yes ha hb hw' ⟨((hbe b hb a).mp e).2, hc.mp z⟩)))) (fun z => nm_r (nI_1 b) (hK' w' (dl_no hw' (fun q => z (hc.mpr q.2)))))⟩) (fun e => br_t rfl (nm_r (nI_1 b) (hK' w' (dl_no hw' (fun q => ?_)))))
      rw [(hbe b hb a).mpr ⟨ha, q.1⟩] at e; cases e
theorem y_w13 {post : Int32 → Prop} {yn yc : Int32} {yo yp ym ys yl yb yw yk yt yz yx : Nat → Int32} {n : Nat} {O : Nat → Nat} (h : zRYM n O (yn, yc, yo, yp, ym, ys, yl, yb, yw, yk, yt, yz, yx)) (hp : ∀ w, isSet w (W13 n O) → post w) : wpY_uncovered post (yn, yc, yo, yp, ym, ys, yl, yb, yw, yk, yt, yz, yx) := by
  unfold wpY_uncovered
  dsimp only
  refine pk_loop (σ := Int32) (fun m a w => wY_uncovered_5 post yn yc yo yp ym ys yl yb yw yk yt yz yx m w (nI a)) (fun a w => dl2 (fun a b => bts n O b a ∧ ∀ d, d < 5 → bts n O a d → bts n O b d) a 0 w) 5 0 31 (by omega) (dl_0 _) ?_ ?_
  · intro m w hw
    rw [wY_uncovered_5]
    exact br_t (by decide) (hp w (dl_end hw))
  · intro m a w ha hw hK
    rw [wY_uncovered_5]
    refine br_f (nI_ge (b := 5) ha (by decide)) ?_
    refine pk_loop (σ := Int32) (fun m' b w => wY_uncovered_12 post (wY_uncovered_5 post yn yc yo yp ym ys yl yb yw yk yt yz yx m) (nI a) yn yc yo yp ym ys yl yb yw yk yt yz yx m' w (nI b)) (fun b w => dl2 (fun a b => bts n O b a ∧ ∀ d, d < 5 → bts n O a d → bts n O b d) a b w) 5 0 w (by omega) hw ?_ ?_
    · intro m' w' hw'
      rw [wY_uncovered_12]
      exact br_t (by decide) (nm_r (nI_1 a) (hK w' (dl_row hw')))
    · intro m' b w' hb hw' hK'
      rw [wY_uncovered_12]
      refine br_f (nI_ge (b := 5) hb (by decide)) (y_be h hb ha (fun e => br_f (by decide) (y_bb h ha (fun ra hra => y_bb h hb (fun rb hrb => ?_)))) (fun e => br_t rfl (nm_r (nI_1 b) (hK' w' (dl_no hw' (fun q => ?_))))))
      · have hc := cov_iff hra hrb
        exact br_c (fun z => nm_e (nm_r (nI_1 b) (hK' _ (dl_yes ha hb hw' ⟨e, hc.mp z⟩)))) (fun z => nm_r (nI_1 b) (hK' w' (dl_no hw' (fun q => z (hc.mpr q.2)))))
      · have : 0 < Mg n O b a := q.1
        omega
theorem dom_iff {n : Nat} {O : Nat → Nat} {s a : Nat} (hs : s < 32) {r : Int32} (h : isSet r (fun b => 0 < Mg n O a b)) : (nI s ||| r) = 31 ↔ ∀ b, b < 5 → s.testBit b = true ∨ bts n O a b := by
  rw [or_31 (nI_hi hs) (set_hi h)]
  constructor
  · intro g b hb
    rcases g b hb with z | z
    · exact Or.inl (by rw [vb_nIs (by omega)] at z; exact z)
    · exact Or.inr ((h b).mp z).2
  · intro g b hb
    rcases g b hb with z | z
    · exact Or.inl (by rw [vb_nIs (by omega)]; exact z)
    · exact Or.inr ((h b).mpr ⟨hb, z⟩)
theorem x_dom {post : Int32 → Prop} {xc : Int32} {xo xr xp xm xb xs xq xn xu xl xg xk xt xw xv : Nat → Int32} {n : Nat} {O : Nat → Nat} (h : zRX n O (xc, xo, xr, xp, xm, xb, xs, xq, xn, xu, xl, xg, xk, xt, xw, xv)) {s : Nat} (hs : s < 32) (h1 : dom5 n O s → post 1) (h0 : ¬ dom5 n O s → post 0) : wpX_dominates post (xc, xo, xr, xp, xm, xb, xs, xq, xn, xu, xl, xg, xk, xt, xw, xv) (nI s) := by
  have hbe : ∀ a, a < 5 → isSet (xb a) (fun b => 0 < Mg n O a b) := h.2.2
  unfold wpX_dominates
  dsimp only
  refine pk_loop (σ := Unit) (fun m a _ => wX_dominates_2 post (nI s) xc xo xr xp xm xb xs xq xn xu xl xg xk xt xw xv m (nI a)) (fun a _ => ∀ a', a' < a → s.testBit a' = true → ∀ b, b < 5 → s.testBit b = true ∨ bts n O a' b) 5 0 () (by omega) (fun a' ha' => by omega) ?_ ?_
  · intro m _ hw
    rw [wX_dominates_2]
    exact br_t (by decide) (h1 hw)
  · intro m a _ ha hw hK
    rw [wX_dominates_2]
    have hd := dom_iff (n := n) (O := O) hs (hbe a ha)
    have ext : (s.testBit a = true → ∀ b, b < 5 → s.testBit b = true ∨ bts n O a b) → ∀ a', a' < a + 1 → s.testBit a' = true → ∀ b, b < 5 → s.testBit b = true ∨ bts n O a' b := by
      intro g a' ha' hb
      by_cases e : a' = a
      · subst e; exact g hb
      · exact hw a' (by omega) hb
    refine br_f (nI_ge (b := 5) ha (by decide)) (x_has (by omega) (fun e => br_f (by decide) ⟨vp_in_nI ha (by decide), ?_⟩) (fun e => br_t rfl (nm_r (nI_1 a) (hK () (ext fun z => ?_)))))
    · rw [nI_clamp (by omega)]
      rw [vb_nIs (by omega)] at e
      exact br_c (fun z => nm_r (nI_1 a) (hK () (ext fun _ => hd.mp z))) (fun z => h0 (fun g => z (hd.mpr (g a ha e))))
    · rw [vb_nIs (by omega), z] at e; cases e
theorem x_w11 {post : Int32 → Prop} {xc : Int32} {xo xr xp xm xb xs xq xn xu xl xg xk xt xw xv : Nat → Int32} {n : Nat} {O : Nat → Nat} (h : zRX n O (xc, xo, xr, xp, xm, xb, xs, xq, xn, xu, xl, xg, xk, xt, xw, xv)) (hp : ∀ w, isDom n O w → post (nI w)) : wpX_smallestDominatingSet post (xc, xo, xr, xp, xm, xb, xs, xq, xn, xu, xl, xg, xk, xt, xw, xv) := by
  unfold wpX_smallestDominatingSet
  dsimp only
  refine pk_loop (σ := Unit) (fun m s _ => wX_smallestDominatingSet_2 post xc xo xr xp xm xb xs xq xn xu xl xg xk xt xw xv m (nI s)) (fun s _ => 0 < s ∧ ∀ t, 0 < t → t < s → ¬ dom5 n O t) 31 1 () (by omega) ⟨by omega, fun t a b => by omega⟩ ?_ ?_
  · rintro m _ ⟨_, hw⟩
    rw [wX_smallestDominatingSet_2]
    exact br_t (by decide) (hp 31 (dom_first (by omega) (by omega) (dom_31 n O) hw))
  · rintro m s _ hs ⟨h0, hw⟩ hK
    rw [wX_smallestDominatingSet_2]
    refine br_f (nI_ge (b := 31) hs (by decide)) (x_dom h (by omega) (fun e => br_f (by decide) (hp s (dom_first h0 (by omega) e hw))) (fun e => br_t rfl (nm_r (nI_1 s) (hK () ⟨by omega, fun t a b => ?_⟩))))
    by_cases et : t = s
    · subst et; exact e
    · exact hw t a (by omega)
theorem pcn_s : ∀ s, s < 32 → pcn s = (if s.testBit 0 then 1 else 0) + (if s.testBit 1 then 1 else 0) + (if s.testBit 2 then 1 else 0) + (if s.testBit 3 then 1 else 0) + (if s.testBit 4 then 1 else 0) := by decide +kernel
/-- how many of the first a candidates are in s -/
def pca (s : Nat) : Nat → Nat
  | 0 => 0
  | a + 1 => pca s a + (if s.testBit a then 1 else 0)
theorem pca_5 {s : Nat} (hs : s < 32) : pca s 5 = pcn s := by
  rw [pcn_s s hs]; simp [pca]
theorem pca_le (s : Nat) : ∀ a, pca s a ≤ a := by
  intro a
  induction a with
  | zero => exact Nat.le_refl _
  | succ a ih => unfold pca; split <;> omega
theorem y_w11 {post : Int32 → Prop} {yn yc : Int32} {yo yp ym ys yl yb yw yk yt yz yx : Nat → Int32} {n : Nat} {O : Nat → Nat} (h : zRYM n O (yn, yc, yo, yp, ym, ys, yl, yb, yw, yk, yt, yz, yx)) (hp : ∀ w, isDom n O w → post (nI w)) : wpY_smallest post (yn, yc, yo, yp, ym, ys, yl, yb, yw, yk, yt, yz, yx) := by
  unfold wpY_smallest
  dsimp only
  refine pk_loop (σ := Int32 × Int32) (fun m s x => wY_smallest_7 post yn yc yo yp ym ys yl yb yw yk yt yz yx m x.1 x.2 (nI s)) (fun s x => 0 < s ∧ ∃ w, x.1 = nI w ∧ x.2 = nI (pcn w) ∧ 0 < w ∧ w < 32 ∧ dom5 n O w ∧ ∀ t, 0 < t → t < s → dom5 n O t → pcn w ≤ pcn t) 32 1 (31, 5) (by omega) ⟨by omega, 31, rfl, rfl, by omega, by omega, dom_31 n O, fun t a b => by omega⟩ ?_ ?_
  · rintro m ⟨x1, x2⟩ ⟨_, w, e1, e2, w0, w1, wd, hw⟩
    dsimp only at e1 e2 ⊢
    subst e1
    rw [wY_smallest_7]
    exact br_t (by decide) (hp w (dom_small w0 w1 wd (fun t a b => hw t a b)))
  · rintro m s ⟨x1, x2⟩ hs ⟨s0, w, e1, e2, w0, w1, wd, hw⟩ hK
    dsimp only at e1 e2 hK ⊢
    subst e1 e2
    rw [wY_smallest_7]
    refine br_f (nI_ge (b := 32) hs (by decide)) ?_
    refine pk_loop (σ := Int32 × Int32) (fun m' a x => wY_smallest_22 post (wY_smallest_7 post yn yc yo yp ym ys yl yb yw yk yt yz yx m) (nI w) (nI (pcn w)) (nI s) yn yc yo yp ym ys yl yb yw yk yt yz yx m' x.1 x.2 (nI a)) (fun a x => x.1 = nI (pca s a) ∧ ((x.2 = 1 ∧ ∀ a', a' < a → s.testBit a' = true → ∀ b, b < 5 → s.testBit b = true ∨ bts n O a' b) ∨ (x.2 = 0 ∧ ¬ dom5 n O s))) 5 0 (0, 1) (by omega) ⟨rfl, Or.inl ⟨rfl, fun a' ha' => by omega⟩⟩ ?_ ?_
    · rintro m' ⟨x4, x5⟩ ⟨e4, h5⟩
      dsimp only at e4 h5 ⊢
      subst e4
      rw [wY_smallest_22]
      refine br_t (by decide) ?_
      have ext : (dom5 n O s → pcn w ≤ pcn s) → ∀ t, 0 < t → t < s + 1 → dom5 n O t → pcn w ≤ pcn t := by
        intro g t t0 t1 td
        by_cases e : t = s
        · subst e; exact g td
        · exact hw t t0 (by omega) td
      have p5 := pcn_5 w w1
      rw [pca_5 hs]
      have p6 := pcn_5 s hs
      rcases h5 with ⟨e5, hd⟩ | ⟨e5, hd⟩
      · subst e5
        refine br_f (by decide) (pk_le (pcn w) (pcn s) (fun hle => nm_r (nI_1 s) (hK (nI w, nI (pcn w)) ⟨by omega, w, rfl, rfl, w0, w1, wd, ext fun _ => hle⟩)) (fun hlt => nm_r (nI_1 s) (hK (nI s, nI (pcn s)) ⟨by omega, s, rfl, rfl, s0, hs, hd, fun t t0 t1 td => ?_⟩)))
        by_cases e : t = s
        · subst e; exact Nat.le_refl _
        · have := hw t t0 (by omega) td
          omega
      · subst e5
        exact br_t rfl (nm_r (nI_1 s) (hK (nI w, nI (pcn w)) ⟨by omega, w, rfl, rfl, w0, w1, wd, ext fun z => absurd z hd⟩))
    · rintro m' a ⟨x4, x5⟩ ha ⟨e4, h5⟩ hK'
      dsimp only at e4 h5 hK' ⊢
      subst e4
      rw [wY_smallest_22]
      refine br_f (nI_ge (b := 5) ha (by decide)) ?_
      cases hb : s.testBit a with
      | true =>
        have epc : nI (pca s a) + 1 = nI (pca s (a + 1)) := by rw [nI_1, pca, if_pos hb]
        refine br_t ((vb_has (by omega)).mpr (by rw [vb_nIs (by omega)]; exact hb)) (nm_r epc (y_bb h ha (fun r hr => ?_)))
        have hd := dom_iff (n := n) (O := O) hs hr
        rw [show (r ||| nI s) = (nI s ||| r) from by apply b_ext; intro i _; rw [b_or, b_or, Bool.or_comm]]
        refine br_c (fun z => nm_r (nI_1 a) (hK' (nI (pca s (a + 1)), x5) ⟨rfl, ?_⟩)) (fun z => nm_r (nI_1 a) (hK' (nI (pca s (a + 1)), 0) ⟨rfl, Or.inr ⟨rfl, fun g => z (hd.mpr (g a ha hb))⟩⟩))
        rcases h5 with ⟨e5, hd5⟩ | h5
        · refine Or.inl ⟨e5, fun a' ha' hb' => ?_⟩
          by_cases e : a' = a
          · subst e; exact hd.mp z
          · exact hd5 a' (by omega) hb'
        · exact Or.inr h5
      | false =>
        have epc : nI (pca s a) = nI (pca s (a + 1)) := by rw [pca, hb]; rfl
        refine br_f (fun hh => by rw [vb_has (by omega), vb_nIs (by omega), hb] at hh; cases hh) (nm_r (nI_1 a) (hK' (nI (pca s a), x5) ⟨epc, ?_⟩))
        rcases h5 with ⟨e5, hd5⟩ | h5
        · refine Or.inl ⟨e5, fun a' ha' hb' => ?_⟩
          by_cases e : a' = a
          · subst e; rw [hb] at hb'; cases hb'
          · exact hd5 a' (by omega) hb'
        · exact Or.inr h5
end
section
/-! ===== rule 14: the walks ===== -/
def W14 (n : Nat) (O : Nat → Nat) (N a : Nat) : Prop := ∃ s, 0 < s ∧ s < N ∧ Chn n O s ∧ (∀ d, d < 5 → ¬ ∀ x, x < 5 → s.testBit x = true → bts n O d x) ∧ top5 n O s a
theorem szI_ins (x : Int32) {v : Nat} (hv : v < 10) : szI (x ||| ((1 : Int32) <<< (nI v &&& 31))) = szI x + b01 (!bt x v) := by
  have e : szI (x ||| ((1 : Int32) <<< (nI v &&& 31))) = sm 10 (fun j => b01 (bt x j) + (if j = v then b01 (!bt x v) else 0)) := by
    refine sm_congr fun j hj => ?_
    rw [b_or, vb_pow (by omega)]
    by_cases e : j = v
    · subst e; rw [if_pos rfl, decide_eq_true rfl]; cases bt x j <;> rfl
    · rw [if_neg e, decide_eq_false e, Bool.or_false, Int.add_zero]
  rw [e, sm_add, sm_single (f := fun j => if j = v then b01 (!bt x v) else 0) hv (fun i _ hi => if_neg hi), if_pos rfl]
  rfl
theorem szI_5 {x : Int32} (hx : ∀ i, 5 ≤ i → bt x i = false) : szI x = sm 5 (fun j => b01 (bt x j)) := by
  unfold szI
  simp only [sm, hx 5 (by omega), hx 6 (by omega), hx 7 (by omega), hx 8 (by omega), hx 9 (by omega), b01]
  simp
theorem sg_and {n : Nat} {O : Nat → Nat} {s a : Nat} (hs : s < 32) {r : Int32} (h : isSet r (fun b => 0 < Mg n O a b)) : szI (r &&& nI s) = sgI n O s a := by
  rw [szI_5 (fun i hi => by rw [b_and, set_hi h i hi]; rfl)]
  refine sm_congr fun j hj => congrArg b01 ?_
  rw [b_and, vb_nIs (by omega), Bool.and_comm]
  congr 1
  have := h j
  cases hb : bt r j
  · rw [decide_eq_false]
    intro z
    rw [this.mpr ⟨hj, z⟩] at hb; cases hb
  · rw [decide_eq_true (this.mp hb).2]
theorem sgI_N (n : Nat) (O : Nat → Nat) (s a : Nat) : ∃ v : Nat, v ≤ 5 ∧ sgI n O s a = v := by
  have := sgI_bd n O s a
  exact ⟨(sgI n O s a).toNat, by omega, by omega⟩
def csz (s : Nat) (a : Nat) : Int := sm a (fun d => b01 (s.testBit d))
def injA (n : Nat) (O : Nat → Nat) (s A : Nat) : Prop := ∀ a b, a < A → b < A → s.testBit a = true → s.testBit b = true → a ≠ b → sgI n O s a ≠ sgI n O s b
theorem x_chn {post : Int32 → Prop} {xc : Int32} {xo xr xp xm xb xs xq xn xu xl xg xk xt xw xv : Nat → Int32} {n : Nat} {O : Nat → Nat} (h : zRX n O (xc, xo, xr, xp, xm, xb, xs, xq, xn, xu, xl, xg, xk, xt, xw, xv)) {s : Nat} (hs : s < 32) (h1 : Chn n O s → post 1) (h0 : ¬ Chn n O s → post 0) : wpX_isChain post (xc, xo, xr, xp, xm, xb, xs, xq, xn, xu, xl, xg, xk, xt, xw, xv) (nI s) := by
  have hbe : ∀ a, a < 5 → isSet (xb a) (fun b => 0 < Mg n O a b) := h.2.2
  unfold wpX_isChain
  dsimp only
  refine pk_loop (σ := Int32) (fun m a x => wX_isChain_4 post (nI s) xc xo xr xp xm xb xs xq xn xu xl xg xk xt xw xv m x (nI a)) (fun a x => (∀ v, bt x v = true ↔ ∃ d, d < a ∧ s.testBit d = true ∧ sgI n O s d = (v : Int)) ∧ ((szI x = csz s a ∧ injA n O s a) ∨ (szI x < csz s a ∧ ¬ injA n O s a))) 5 0 0 (by omega) ⟨fun v => by rw [b_0]; simp, Or.inl ⟨(by decide : szI 0 = 0), fun a b ha => by omega⟩⟩ ?_ ?_
  · rintro m x ⟨_, hx⟩
    rw [wX_isChain_4]
    refine br_t (by decide) (x_size (x_size ?_))
    have b1 := szI_bd x
    have b2 := szI_bd (nI s)
    have e : szI (nI s) = csz s 5 := by
      rw [szI_5 (nI_hi hs)]
      exact sm_congr fun j hj => by rw [vb_nIs (by omega)]
    refine vi_eq (szI x) (szI (nI s)) (fun e2 => h1 ?_) (fun e2 => h0 fun hc => ?_)
    · rcases hx with ⟨_, hi⟩ | ⟨hlt, _⟩
      · exact inj_chn s hs hi
      · omega
    · rcases hx with ⟨he, _⟩ | ⟨_, hni⟩
      · omega
      · exact hni (chn_inj hc)
  · rintro m a x ha ⟨hbx, hx⟩ hK
    rw [wX_isChain_4]
    refine br_f (nI_ge (b := 5) ha (by decide)) (x_has (by omega) (fun e => br_f (by decide) ⟨vp_in_nI ha (by decide), x_size ?_⟩) (fun e => br_t rfl (nm_r (nI_1 a) (hK x ⟨fun v => ?_, ?_⟩))))
    · rw [vb_nIs (by omega)] at e
      rw [nI_clamp (by omega), sg_and hs (hbe a ha)]
      obtain ⟨v, hv, ev⟩ := sgI_N n O s a
      rw [ev, vs_iN]
      refine nm_e (nm_r (nI_1 a) (hK (x ||| ((1 : Int32) <<< (nI v &&& 31))) ⟨fun j => ?_, ?_⟩))
      · rw [b_or, vb_pow (by omega), Bool.or_eq_true, decide_eq_true_eq, hbx j]
        constructor
        · rintro (⟨d, d1, d2, d3⟩ | rfl)
          · exact ⟨d, by omega, d2, d3⟩
          · exact ⟨a, by omega, e, ev⟩
        · rintro ⟨d, d1, d2, d3⟩
          by_cases ed : d = a
          · subst ed; right; omega
          · exact Or.inl ⟨d, by omega, d2, d3⟩
      · rw [szI_ins x (by omega)]
        have ec : csz s (a + 1) = csz s a + 1 := by
          unfold csz; simp only [sm]; rw [e]; rfl
        cases hbv : bt x v
        · -- a new number
          have hnew : ∀ d, d < a → s.testBit d = true → sgI n O s d ≠ v := by
            intro d hd hsd z
            rw [(hbx v).mpr ⟨d, hd, hsd, z⟩] at hbv; cases hbv
          have hext : injA n O s a → injA n O s (a + 1) := by
            intro hi b c hb hc hsb hsc hne
            by_cases e1 : b = a
            · subst e1
              rw [ev]
              exact fun z => hnew c (by omega) hsc z.symm
            · by_cases e2 : c = a
              · subst e2
                rw [ev]
                exact hnew b (by omega) hsb
              · exact hi b c (by omega) (by omega) hsb hsc hne
          rcases hx with ⟨h2, h3⟩ | ⟨h2, h3⟩
          · exact Or.inl ⟨by rw [h2, ec]; rfl, hext h3⟩
          · refine Or.inr ⟨?_, fun z => h3 (fun b c hb hc => z b c (by omega) (by omega))⟩
            rw [ec]
            have : b01 (!false) = 1 := rfl
            omega
        · obtain ⟨d, d1, d2, d3⟩ := (hbx v).mp hbv
          have hno : ¬ injA n O s (a + 1) := fun z => z d a (by omega) (by omega) d2 e (by omega) (by rw [d3, ev])
          refine Or.inr ⟨?_, hno⟩
          have : b01 (!true) = 0 := rfl
          rcases hx with ⟨h2, h3⟩ | ⟨h2, h3⟩ <;> omega
    · rw [vb_nIs (by omega)] at e
      rw [hbx v]
      constructor
      · rintro ⟨d, d1, d2, d3⟩
        exact ⟨d, by omega, d2, d3⟩
      · rintro ⟨d, d1, d2, d3⟩
        by_cases ed : d = a
        · subst ed; rw [e] at d2; cases d2
        · exact ⟨d, by omega, d2, d3⟩
    · rw [vb_nIs (by omega)] at e
      have ec : csz s (a + 1) = csz s a := by
        unfold csz; simp only [sm]; rw [e, show b01 false = 0 from rfl, Int.add_zero]
      rw [ec]
      have hii : injA n O s (a + 1) ↔ injA n O s a := by
        constructor
        · exact fun z b c hb hc => z b c (by omega) (by omega)
        · intro z b c hb hc hsb hsc
          have h1 : b ≠ a := by rintro rfl; rw [e] at hsb; cases hsb
          have h2 : c ≠ a := by rintro rfl; rw [e] at hsc; cases hsc
          exact z b c (by omega) (by omega) hsb hsc
      rw [hii]; exact hx
theorem x_sba {post : Int32 → Prop} {xc : Int32} {xo xr xp xm xb xs xq xn xu xl xg xk xt xw xv : Nat → Int32} {n : Nat} {O : Nat → Nat} (h : zRX n O (xc, xo, xr, xp, xm, xb, xs, xq, xn, xu, xl, xg, xk, xt, xw, xv)) {s : Nat} (hs : s < 32) (h1 : (∃ d, d < 5 ∧ ∀ x, x < 5 → s.testBit x = true → bts n O d x) → post 1) (h0 : (∀ d, d < 5 → ¬ ∀ x, x < 5 → s.testBit x = true → bts n O d x) → post 0) : wpX_someoneBeatsAllOf post (xc, xo, xr, xp, xm, xb, xs, xq, xn, xu, xl, xg, xk, xt, xw, xv) (nI s) := by
  have hbe : ∀ a, a < 5 → isSet (xb a) (fun b => 0 < Mg n O a b) := h.2.2
  unfold wpX_someoneBeatsAllOf
  dsimp only
  refine pk_loop (σ := Unit) (fun m a _ => wX_someoneBeatsAllOf_2 post (nI s) xc xo xr xp xm xb xs xq xn xu xl xg xk xt xw xv m (nI a)) (fun a _ => ∀ d, d < a → ¬ ∀ x, x < 5 → s.testBit x = true → bts n O d x) 5 0 () (by omega) (fun d hd => by omega) ?_ ?_
  · intro m _ hw
    rw [wX_someoneBeatsAllOf_2]
    exact br_t (by decide) (h0 hw)
  · intro m a _ ha hw hK
    rw [wX_someoneBeatsAllOf_2]
    refine br_f (nI_ge (b := 5) ha (by decide)) ⟨vp_in_nI ha (by decide), ?_⟩
    rw [nI_clamp (by omega)]
    have hc : (xb a &&& nI s) = nI s ↔ ∀ x, x < 5 → s.testBit x = true → bts n O a x := by
      rw [and_eq]
      constructor
      · intro g x hx hb
        exact ((hbe a ha x).mp (g x (by rw [vb_nIs (by omega)]; exact hb))).2
      · intro g x hb
        have hx : x < 5 := by
          rcases Nat.lt_or_ge x 5 with q | q
          · exact q
          · rw [nI_hi hs x q] at hb; cases hb
        rw [vb_nIs (by omega)] at hb
        exact (hbe a ha x).mpr ⟨hx, g x hx hb⟩
    refine br_c (fun z => h1 ⟨a, ha, hc.mp z⟩) (fun z => nm_r (nI_1 a) (hK () (fun d hd => ?_)))
    by_cases e : d = a
    · subst e; exact fun q => z (hc.mpr q)
    · exact hw d (by omega)
theorem x_fo {post : Int32 → Prop} {xc : Int32} {xo xr xp xm xb xs xq xn xu xl xg xk xt xw xv : Nat → Int32} {n : Nat} {O : Nat → Nat} (h : zRX n O (xc, xo, xr, xp, xm, xb, xs, xq, xn, xu, xl, xg, xk, xt, xw, xv)) {s : Nat} (hs : s < 32) {f : Nat} (hf : f < 5) (ht : top5 n O s f) (hp : post ((1 : Int32) <<< (nI f &&& 31))) : wpX_frontOf post (xc, xo, xr, xp, xm, xb, xs, xq, xn, xu, xl, xg, xk, xt, xw, xv) (nI s) := by
  have hbe : ∀ a, a < 5 → isSet (xb a) (fun b => 0 < Mg n O a b) := h.2.2
  unfold wpX_frontOf
  dsimp only
  refine pk_loop (σ := Unit) (fun m a _ => wX_frontOf_2 post (nI s) xc xo xr xp xm xb xs xq xn xu xl xg xk xt xw xv m (nI a)) (fun a _ => a ≤ f) 5 0 () (by omega) (by omega) ?_ ?_
  · intro m _ hw
    omega
  · intro m a _ ha hw hK
    rw [wX_frontOf_2]
    have hins := vb_ins (hbe a ha) ha
    have hc : ((xb a ||| ((1 : Int32) <<< (nI a &&& 31))) &&& nI s) = nI s ↔ ∀ x, x < 5 → s.testBit x = true → x ≠ a → bts n O a x := by
      rw [and_eq]
      constructor
      · intro g x hx hb hne
        rcases ((hins x).mp (g x (by rw [vb_nIs (by omega)]; exact hb))).2 with q | q
        · exact q
        · exact absurd q hne
      · intro g x hb
        have hx : x < 5 := by
          rcases Nat.lt_or_ge x 5 with q | q
          · exact q
          · rw [nI_hi hs x q] at hb; cases hb
        rw [vb_nIs (by omega)] at hb
        refine (hins x).mpr ⟨hx, ?_⟩
        by_cases e : x = a
        · exact Or.inr e
        · exact Or.inl (g x hx hb e)
    refine br_f (nI_ge (b := 5) ha (by decide)) (x_has (by omega) (fun e => br_f (by decide) ⟨vp_in_nI ha (by decide), ?_⟩) (fun e => br_t rfl (nm_r (nI_1 a) (hK () ?_))))
    · rw [vb_nIs (by omega)] at e
      rw [nI_clamp (by omega)]
      refine br_c (fun z => ?_) (fun z => nm_r (nI_1 a) (hK () ?_))
      · have := top_u ha hf ⟨e, hc.mp z⟩ ht
        rw [this]; exact hp
      · by_cases ea : a = f
        · subst ea; exact absurd (hc.mpr ht.2) z
        · omega
    · rw [vb_nIs (by omega)] at e
      by_cases ea : a = f
      · subst ea; rw [ht.1] at e; cases e
      · omega
theorem w14_s {n : Nat} {O : Nat → Nat} {s : Nat} {w : Int32} (h : isSet w (W14 n O s)) (hno : Chn n O s → (∀ d, d < 5 → ¬ ∀ x, x < 5 → s.testBit x = true → bts n O d x) → False) : isSet w (W14 n O (s + 1)) := by
  refine vb_congr h (fun i hi => ⟨?_, ?_⟩)
  · rintro ⟨t, a, b, c⟩
    exact ⟨t, a, by omega, c⟩
  · rintro ⟨t, a, b, c, d, e⟩
    by_cases et : t = s
    · subst et; exact (hno c d).elim
    · exact ⟨t, a, by omega, c, d, e⟩
theorem w14_y {n : Nat} {O : Nat → Nat} {s f : Nat} {w : Int32} (h : isSet w (W14 n O s)) (s0 : 0 < s) (hf : f < 5) (hc : Chn n O s) (hn : ∀ d, d < 5 → ¬ ∀ x, x < 5 → s.testBit x = true → bts n O d x) (ht : top5 n O s f) : isSet (w ||| ((1 : Int32) <<< (nI f &&& 31))) (W14 n O (s + 1)) := by
  refine vb_congr (vb_ins h hf) (fun i hi => ⟨?_, ?_⟩)
  · rintro (⟨t, a, b, c⟩ | rfl)
    · exact ⟨t, a, by omega, c⟩
    · exact ⟨s, s0, by omega, hc, hn, ht⟩
  · rintro ⟨t, a, b, c, d, e⟩
    by_cases et : t = s
    · subst et; exact Or.inr (top_u hi hf e ht)
    · exact Or.inl ⟨t, a, by omega, c, d, e⟩
theorem sub_rf (s : Nat) : sub5 s s := fun _ _ h => h
theorem x_w14 {post : Int32 → Prop} {xc : Int32} {xo xr xp xm xb xs xq xn xu xl xg xk xt xw xv : Nat → Int32} {n : Nat} {O : Nat → Nat} (h : zRX n O (xc, xo, xr, xp, xm, xb, xs, xq, xn, xu, xl, xg, xk, xt, xw, xv)) (hp : ∀ w, isSet w (W14 n O 32) → post w) : wpX_frontsOfChains post (xc, xo, xr, xp, xm, xb, xs, xq, xn, xu, xl, xg, xk, xt, xw, xv) := by
  unfold wpX_frontsOfChains
  dsimp only
  refine pk_loop (σ := Int32) (fun m s w => wX_frontsOfChains_4 post xc xo xr xp xm xb xs xq xn xu xl xg xk xt xw xv m w (nI s)) (fun s w => 0 < s ∧ isSet w (W14 n O s)) 32 1 0 (by omega) ⟨by omega, vb_congr vb_empty (fun i _ => ⟨fun z => z.elim, fun ⟨t, a, b, _⟩ => by omega⟩)⟩ ?_ ?_
  · rintro m w ⟨_, hw⟩
    rw [wX_frontsOfChains_4]
    exact br_t (by decide) (hp w hw)
  · rintro m s w hs ⟨s0, hw⟩ hK
    rw [wX_frontsOfChains_4]
    refine br_f (nI_ge (b := 32) hs (by decide)) (x_chn h hs (fun hc => br_f (by decide) (x_sba h hs (fun hd => br_f (by decide) (nm_r (nI_1 s) (hK w ⟨by omega, w14_s hw (fun _ g => ?_)⟩))) (fun hd => br_t rfl ?_))) (fun hc => br_t rfl (nm_r (nI_1 s) (hK w ⟨by omega, w14_s hw (fun g _ => hc g)⟩))))
    · obtain ⟨d, d1, d2⟩ := hd
      exact g d d1 d2
    · obtain ⟨f, hf, ht⟩ := hc s s0 hs (sub_rf s)
      exact x_fo h hs hf ht (nm_e (nm_r (nI_1 s) (hK _ ⟨by omega, w14_y hw s0 hf hc hd ht⟩)))
theorem y_fr {post : Int32 → Prop} {yn yc : Int32} {yo yp ym ys yl yb yw yk yt yz yx : Nat → Int32} {n : Nat} {O : Nat → Nat} (h : zRYM n O (yn, yc, yo, yp, ym, ys, yl, yb, yw, yk, yt, yz, yx)) {s : Nat} (hs : s < 32) (s0 : 0 < s) (h1 : ∀ f, f < 5 → Chn n O s → top5 n O s f → post (nI f)) (h0 : ¬ Chn n O s → post (-1)) : wpY_front post (yn, yc, yo, yp, ym, ys, yl, yb, yw, yk, yt, yz, yx) (nI s) := by
  unfold wpY_front
  dsimp only
  refine pk_loop (σ := Int32 × Int32) (fun m j x => wY_front_7 post yn yc yo yp ym ys yl yb yw yk yt yz yx m x.1 x.2 (nI j)) (fun j x => ∃ r, x.1 = nI r ∧ r < 32 ∧ sub5 r s ∧ pcn r ≤ 5 - j ∧ (Chn n O r → Chn n O s) ∧ ((x.2 = -1 ∧ r = s) ∨ ∃ f, f < 5 ∧ x.2 = nI f ∧ top5 n O s f)) 5 0 (nI s, -1) (by omega) ⟨s, rfl, hs, sub_rf s, pcn_5 s hs, fun z => z, Or.inl ⟨rfl, rfl⟩⟩ ?_ ?_
  · rintro m ⟨x2, x3⟩ ⟨r, e, hr, hsub, hp, hch, hx⟩
    dsimp only at e hx ⊢
    rw [wY_front_7]
    refine br_t (by decide) ?_
    have r0 : r = 0 := pcn_0 r hr (by omega)
    subst r0
    have hc : Chn n O s := hch (fun t t0 t1 ts => by
      obtain ⟨c, hc, hb⟩ := bit_ex' t1 t0
      have := ts c hc hb
      simp at this)
    rcases hx with ⟨_, e2⟩ | ⟨f, hf, e2, ht⟩
    · omega
    · rw [e2]; exact h1 f hf hc ht
  · rintro m j ⟨x2, x3⟩ hj ⟨r, e, hr, hsub, hpc, hch, hx⟩ hK
    dsimp only at e hx hK ⊢
    subst e
    rw [wY_front_7]
    refine br_f (nI_ge (b := 5) hj (by decide)) ?_
    refine pk_loop (σ := Int32) (fun m' a x => wY_front_19 post (wY_front_7 post yn yc yo yp ym ys yl yb yw yk yt yz yx m) (nI r) x3 (nI j) yn yc yo yp ym ys yl yb yw yk yt yz yx m' x (nI a)) (fun a x => (x = -1 ∧ ∀ a', a' < a → ¬ top5 n O r a') ∨ ∃ f, f < a ∧ x = nI f ∧ top5 n O r f) 5 0 (-1) (by omega) (Or.inl ⟨rfl, fun a' ha' => by omega⟩) ?_ ?_
    · rintro m' x5 h5
      rw [wY_front_19]
      refine br_t (by decide) (pk_eq r 0 (fun e0 => ?_) (fun e0 => ?_))
      · subst e0
        unfold wY_front_76
        refine br_t rfl ?_
        unfold wY_front_87
        exact br_t rfl (nm_r (nI_1 j) (hK (nI 0, x3) ⟨0, rfl, by omega, hsub, by simp [pcn], hch, hx⟩))
      · rcases h5 with ⟨e5, hno⟩ | ⟨f, hf, e5, ht⟩
        · subst e5
          refine br_f (by decide) (h0 fun hc => ?_)
          obtain ⟨a, ha, hta⟩ := hc r (by omega) hr hsub
          exact hno a ha hta
        · subst e5
          refine br_t (nI_pos' (by omega)) ?_
          have hnext : ∀ y : Int32, (∃ g, g < 5 ∧ y = nI g ∧ top5 n O s g) → wY_front_87 post (wY_front_7 post yn yc yo yp ym ys yl yb yw yk yt yz yx m) (nI r) y (nI j) (nI f) yn yc yo yp ym ys yl yb yw yk yt yz yx := by
            intro y hy
            unfold wY_front_87
            refine br_f (fun z => e0 ((nI_eq (b := 0) (by omega) (by omega)).mp z)) (nm_r (rmv_I r hr f (by omega)) (nm_r (nI_1 j) (hK (nI (rmv r f), y) ⟨rmv r f, rfl, rmv_32 r hr f (by omega), fun c hc hb => hsub c hc ((rmv_bit r hr f (by omega) c hc).mp hb).1, ?_, fun z => hch (chn_top hr (by omega) ht z), Or.inr hy⟩)))
            have := pcn_rm r hr f (by omega) ht.1
            omega
          unfold wY_front_76
          refine br_f (fun z => e0 ((nI_eq (b := 0) (by omega) (by omega)).mp z)) ?_
          rcases hx with ⟨e3, er⟩ | ⟨g, hg, e3, hgt⟩
          · subst e3
            refine br_f (by decide) (hnext (nI f) ⟨f, by omega, rfl, ?_⟩)
            rw [← er]; exact ht
          · subst e3
            exact br_t (nI_pos' (by omega)) (hnext (nI g) ⟨g, hg, rfl, hgt⟩)
    · rintro m' a x5 ha h5 hK'
      rw [wY_front_19]
      refine br_f (nI_ge (b := 5) ha (by decide)) ?_
      have keep : ¬ top5 n O r a → ((x5 = -1 ∧ ∀ a', a' < a + 1 → ¬ top5 n O r a') ∨ ∃ f, f < a + 1 ∧ x5 = nI f ∧ top5 n O r f) := by
        intro hno
        rcases h5 with ⟨e5, g⟩ | ⟨f, f1, f2, f3⟩
        · refine Or.inl ⟨e5, fun a' ha' => ?_⟩
          by_cases e : a' = a
          · subst e; exact hno
          · exact g a' (by omega)
        · exact Or.inr ⟨f, by omega, f2, f3⟩
      cases hb : r.testBit a with
      | true =>
        refine br_t ((vb_has (by omega)).mpr (by rw [vb_nIs (by omega)]; exact hb)) (y_bb h ha (fun q hq => ?_))
        have hc : (nI r &&& (((1 : Int32) <<< (nI a &&& 31)) ^^^ (-1)) &&& (q ^^^ (-1))) = 0 ↔ top5 n O r a := by
          rw [rmv_I r hr a ha, and_n0]
          constructor
          · intro g
            refine ⟨hb, fun b hb5 hbr hne => ?_⟩
            exact ((hq b).mp (g b (by rw [vb_nIs (by have := rmv_32 r hr a ha; omega)]; exact (rmv_bit r hr a ha b hb5).mpr ⟨hbr, hne⟩))).2
          · intro g x hx'
            have hx5 : x < 5 := by
              rcases Nat.lt_or_ge x 5 with z | z
              · exact z
              · rw [nI_hi (rmv_32 r hr a ha) x z] at hx'; cases hx'
            rw [vb_nIs (by have := rmv_32 r hr a ha; omega)] at hx'
            have := (rmv_bit r hr a ha x hx5).mp hx'
            exact (hq x).mpr ⟨hx5, g.2 x hx5 this.1 this.2⟩
        exact br_c (fun z => nm_r (nI_1 a) (hK' (nI a) (Or.inr ⟨a, by omega, rfl, hc.mp z⟩))) (fun z => nm_r (nI_1 a) (hK' x5 (keep fun g => z (hc.mpr g))))
      | false =>
        exact br_f (fun hh => by rw [vb_has (by omega), vb_nIs (by omega), hb] at hh; cases hh) (nm_r (nI_1 a) (hK' x5 (keep fun g => by rw [g.1] at hb; cases hb)))
theorem y_w14 {post : Int32 → Prop} {yn yc : Int32} {yo yp ym ys yl yb yw yk yt yz yx : Nat → Int32} {n : Nat} {O : Nat → Nat} (h : zRYM n O (yn, yc, yo, yp, ym, ys, yl, yb, yw, yk, yt, yz, yx)) (hp : ∀ w, isSet w (W14 n O 32) → post w) : wpY_chains post (yn, yc, yo, yp, ym, ys, yl, yb, yw, yk, yt, yz, yx) := by
  unfold wpY_chains
  dsimp only
  refine pk_loop (σ := Int32) (fun m s w => wY_chains_4 post yn yc yo yp ym ys yl yb yw yk yt yz yx m w (nI s)) (fun s w => 0 < s ∧ isSet w (W14 n O s)) 32 1 0 (by omega) ⟨by omega, vb_congr vb_empty (fun i _ => ⟨fun z => z.elim, fun ⟨t, a, b, _⟩ => by omega⟩)⟩ ?_ ?_
  · rintro m w ⟨_, hw⟩
    rw [wY_chains_4]
    exact br_t (by decide) (hp w hw)
  · rintro m s w hs ⟨s0, hw⟩ hK
    rw [wY_chains_4]
    have lng : ∀ x3 : Int32, ((x3 < 0 ∧ ¬ Chn n O s) ∨ ∃ f, f < 5 ∧ x3 = nI f ∧ Chn n O s ∧ top5 n O s f) → ∃ n22, wY_chains_22 post (wY_chains_4 post yn yc yo yp ym ys yl yb yw yk yt yz yx m) w (nI s) x3 yn yc yo yp ym ys yl yb yw yk yt yz yx n22 0 0 := by
      intro x3 hx3
      refine pk_loop (σ := Int32) (fun m' a x => wY_chains_22 post (wY_chains_4 post yn yc yo yp ym ys yl yb yw yk yt yz yx m) w (nI s) x3 yn yc yo yp ym ys yl yb yw yk yt yz yx m' x (nI a)) (fun a x => (x = 0 ∧ ∀ d, d < a → ¬ ∀ x, x < 5 → s.testBit x = true → bts n O d x) ∨ (x = 1 ∧ ∃ d, d < 5 ∧ ∀ x, x < 5 → s.testBit x = true → bts n O d x)) 5 0 0 (by omega) (Or.inl ⟨rfl, fun d hd => by omega⟩) ?_ ?_
      · rintro m' x4 h4
        rw [wY_chains_22]
        refine br_t (by decide) ?_
        rcases hx3 with ⟨e3, hc⟩ | ⟨f, hf, e3, hc, ht⟩
        · exact br_t e3 (nm_r (nI_1 s) (hK w ⟨by omega, w14_s hw (fun g _ => hc g)⟩))
        · subst e3
          refine br_f (nI_pos (by omega)) ?_
          rcases h4 with ⟨e4, hno⟩ | ⟨e4, d, d1, d2⟩
          · subst e4
            exact br_t rfl (nm_e (nm_r (nI_1 s) (hK _ ⟨by omega, w14_y hw s0 hf hc hno ht⟩)))
          · subst e4
            exact br_f (by decide) (nm_r (nI_1 s) (hK w ⟨by omega, w14_s hw (fun _ g => g d d1 d2)⟩))
      · rintro m' a x4 ha h4 hK'
        rw [wY_chains_22]
        refine br_f (nI_ge (b := 5) ha (by decide)) ?_
        have keep : (¬ ∀ x, x < 5 → s.testBit x = true → bts n O a x) → ((x4 = 0 ∧ ∀ d, d < a + 1 → ¬ ∀ x, x < 5 → s.testBit x = true → bts n O d x) ∨ (x4 = 1 ∧ ∃ d, d < 5 ∧ ∀ x, x < 5 → s.testBit x = true → bts n O d x)) := by
          intro hno
          rcases h4 with ⟨e4, g⟩ | g
          · refine Or.inl ⟨e4, fun d hd => ?_⟩
            by_cases e : d = a
            · subst e; exact hno
            · exact g d (by omega)
          · exact Or.inr g
        cases hb : s.testBit a with
        | false =>
          refine br_t ((vb_has0 (by omega)).mpr (by rw [vb_nIs (by omega)]; exact hb)) (y_bb h ha (fun q hq => ?_))
          have hc : (nI s &&& (q ^^^ (-1))) = 0 ↔ ∀ x, x < 5 → s.testBit x = true → bts n O a x := by
            rw [and_n0]
            constructor
            · intro g x hx hbx
              exact ((hq x).mp (g x (by rw [vb_nIs (by omega)]; exact hbx))).2
            · intro g x hx'
              have hx5 : x < 5 := by
                rcases Nat.lt_or_ge x 5 with z | z
                · exact z
                · rw [nI_hi hs x z] at hx'; cases hx'
              rw [vb_nIs (by omega)] at hx'
              exact (hq x).mpr ⟨hx5, g x hx5 hx'⟩
          exact br_c (fun z => nm_r (nI_1 a) (hK' 1 (Or.inr ⟨rfl, a, ha, hc.mp z⟩))) (fun z => nm_r (nI_1 a) (hK' x4 (keep fun g => z (hc.mpr g))))
        | true =>
          exact br_f (fun hh => by rw [vb_has0 (by omega), vb_nIs (by omega), hb] at hh; cases hh) (nm_r (nI_1 a) (hK' x4 (keep fun g => bts_ir (g a ha hb))))
    exact br_f (nI_ge (b := 32) hs (by decide)) (y_fr h hs s0 (fun f hf hc ht => lng (nI f) (Or.inr ⟨f, hf, rfl, hc, ht⟩)) (fun hc => lng (-1) (Or.inl ⟨by decide, hc⟩)))
end
section
/-! ===== removals ===== -/
def ldk (n : Nat) (O : Nat → Nat) (c k : Nat) : Prop := ∀ d, d < 5 → d ≠ c → 0 < Mw (fun i => k.testBit i) n O c d
def gnk (n k : Nat) : Int := n - sm n (fun i => b01 (k.testBit i))
/-- z is the least number of ballots to remove, or -1002 -/
def isRem (n : Nat) (O : Nat → Nat) (c : Nat) (z : Int) : Prop := (z = -1002 ∧ ∀ k, 0 < k → k < 2 ^ n → ¬ ldk n O c k) ∨ (0 ≤ z ∧ z ≤ 9 ∧ (∃ k, 0 < k ∧ k < 2 ^ n ∧ ldk n O c k ∧ z = gnk n k) ∧ ∀ k, 0 < k → k < 2 ^ n → ldk n O c k → z ≤ gnk n k)
theorem isRem_u {n : Nat} {O : Nat → Nat} {c : Nat} {z z' : Int} (h : isRem n O c z) (h' : isRem n O c z') : z = z' := by
  rcases h with ⟨e, h⟩ | ⟨_, _, ⟨k, k0, k1, kl, ke⟩, hm⟩
  · rcases h' with ⟨e', _⟩ | ⟨_, _, ⟨k', k0', k1', kl', _⟩, _⟩
    · rw [e, e']
    · exact absurd kl' (h k' k0' k1')
  · rcases h' with ⟨e', h'⟩ | ⟨_, _, ⟨k', k0', k1', kl', ke'⟩, hm'⟩
    · exact absurd kl (h' k k0 k1)
    · have := hm k' k0' k1' kl'
      have := hm' k k0 k1 kl
      omega
theorem gn_bd (n k : Nat) : 0 ≤ gnk n k ∧ gnk n k ≤ n := by
  have h1 := sm_lo (n := n) (k := 0) (f := fun i => b01 (k.testBit i)) (fun i _ => (b01_bd _).1)
  have h2 := sm_hi (n := n) (k := 1) (f := fun i => b01 (k.testBit i)) (fun i _ => (b01_bd _).2)
  unfold gnk; omega
theorem cpl_bit {n t i : Nat} (ht : t < 2 ^ n) (hi : i < n) : (2 ^ n - 1 - t).testBit i = !t.testBit i := by
  rw [show 2 ^ n - 1 - t = 2 ^ n - (t + 1) from by omega, Nat.testBit_two_pow_sub_succ ht]
  simp [hi]
theorem cpl_ld {n t : Nat} {O : Nat → Nat} {c : Nat} (hn : n ≤ 9) (ht : t < 2 ^ n) : (∀ d, d < 5 → d ≠ c → 0 < Mw (fun i => !bt (nI t) i) n O c d) ↔ ldk n O c (2 ^ n - 1 - t) := by
  have e : ∀ d, Mw (fun i => !bt (nI t) i) n O c d = Mw (fun i => (2 ^ n - 1 - t).testBit i) n O c d := by
    intro d
    refine Mw_congr (fun i hi => ?_) (fun _ _ => rfl)
    rw [vb_nI t i (by omega), cpl_bit ht hi]
  constructor
  · intro h d hd hne; rw [← e]; exact h d hd hne
  · intro h d hd hne; rw [e]; exact h d hd hne
theorem sm_tail {n m : Nat} {f : Nat → Int} (h : n ≤ m) (hf : ∀ i, n ≤ i → f i = 0) : sm m f = sm n f := by
  induction m with
  | zero => have : n = 0 := by omega
            subst this; rfl
  | succ m ih =>
    by_cases e : n = m + 1
    · subst e; rfl
    · simp only [sm]
      rw [ih (by omega), hf m (by omega)]; omega
theorem cpl_sz {n t : Nat} (hn : n ≤ 9) (ht : t < 2 ^ n) : szI (nI t) = gnk n (2 ^ n - 1 - t) := by
  have e1 : szI (nI t) = sm n (fun j => b01 (t.testBit j)) := by
    have e2 : szI (nI t) = sm 10 (fun j => b01 (t.testBit j)) := sm_congr fun j hj => by rw [vb_nI t j (by omega)]
    rw [e2]
    refine sm_tail (by omega) (fun i hi => ?_)
    rw [Nat.testBit_lt_two_pow (Nat.lt_of_lt_of_le ht (Nat.pow_le_pow_right (by decide) hi))]
    rfl
  have e3 : sm n (fun j => b01 (t.testBit j)) + sm n (fun j => b01 ((2 ^ n - 1 - t).testBit j)) = n := by
    rw [← sm_add]
    have : sm n (fun i => b01 (t.testBit i) + b01 ((2 ^ n - 1 - t).testBit i)) = sm n (fun _ => 1) := by
      refine sm_congr fun i hi => ?_
      rw [cpl_bit ht hi]
      cases t.testBit i <;> rfl
    rw [this]
    have h1 := sm_lo (n := n) (k := 1) (f := fun _ => 1) (fun i _ => Int.le_refl _)
    have h2 := sm_hi (n := n) (k := 1) (f := fun _ => 1) (fun i _ => Int.le_refl _)
    omega
  unfold gnk
  omega
theorem pw9 : ∀ n, n ≤ 9 → (1 : Int32) <<< (nI n &&& 31) = nI (2 ^ n) ∧ 2 ^ n ≤ 512 := by decide +kernel
theorem x_lw {post : Int32 → Prop} {xc : Int32} {xo xr xp xm xb xs xq xn xu xl xg xk xt xw xv : Nat → Int32} {n : Nat} {O : Nat → Nat} (h : zRB n O (xc, xo, xr, xp, xm, xb, xs, xq, xn, xu, xl, xg, xk, xt, xw, xv)) {c : Nat} (hc : c < 5) (S : Int32) (h1 : (∀ d, d < 5 → d ≠ c → 0 < Mw (fun i => !bt S i) n O c d) → post 1) (h0 : ¬ (∀ d, d < 5 → d ≠ c → 0 < Mw (fun i => !bt S i) n O c d) → post 0) : wpX_leadsWithout post (xc, xo, xr, xp, xm, xb, xs, xq, xn, xu, xl, xg, xk, xt, xw, xv) (nI c) S := by
  have hn := h.1
  unfold wpX_leadsWithout
  dsimp only
  refine pk_loop (σ := Unit) (fun m d _ => wX_leadsWithout_2 post (nI c) S xc xo xr xp xm xb xs xq xn xu xl xg xk xt xw xv m (nI d)) (fun d _ => ∀ d', d' < d → d' ≠ c → 0 < Mw (fun i => !bt S i) n O c d') 5 0 () (by omega) (fun d' hd => by omega) ?_ ?_
  · intro m _ hw
    rw [wX_leadsWithout_2]
    exact br_t (by decide) (h1 hw)
  · intro m d _ hd hw hK
    rw [wX_leadsWithout_2]
    have ext : (d ≠ c → 0 < Mw (fun i => !bt S i) n O c d) → ∀ d', d' < d + 1 → d' ≠ c → 0 < Mw (fun i => !bt S i) n O c d' := by
      intro g d' hd' hne
      by_cases e : d' = d
      · subst e; exact g hne
      · exact hw d' (by omega) hne
    have hbd := Mw_bd (fun i => !bt S i) n O c d
    refine br_f (nI_ge (b := 5) hd (by decide)) (pk_eq d c (fun e => nm_r (nI_1 d) (hK () (ext fun z => absurd e z))) (fun e => x_mw h hc hd S ?_))
    exact vi_lt 0 _ (fun hlt => nm_r (nI_1 d) (hK () (ext fun _ => hlt))) (fun hle => h0 (fun g => by have := g d hd e; omega))
theorem x_rem {post : Int32 → Prop} {xc : Int32} {xo xr xp xm xb xs xq xn xu xl xg xk xt xw xv : Nat → Int32} {n : Nat} {O : Nat → Nat} (h : zRB n O (xc, xo, xr, xp, xm, xb, xs, xq, xn, xu, xl, xg, xk, xt, xw, xv)) {c : Nat} (hc : c < 5) (hp : ∀ z, isRem n O c z → post (iI z)) : wpX_fewestRemovals post (xc, xo, xr, xp, xm, xb, xs, xq, xn, xu, xl, xg, xk, xt, xw, xv) (nI c) := by
  have hn := h.1
  have h1 := h.2.1
  dsimp only at h1
  subst h1
  have hpw := pw9 n hn
  have h2p : 0 < 2 ^ n := Nat.two_pow_pos n
  unfold wpX_fewestRemovals
  dsimp only
  refine nm_r (e' := nI (2 ^ n - 1)) (by rw [hpw.1]; exact pk_sub (b := 1) h2p) ?_
  refine pk_loop (σ := Int32) (fun m t x => wX_fewestRemovals_16 post (nI c) (nI (2 ^ n - 1)) (nI n) xo xr xp xm xb xs xq xn xu xl xg xk xt xw xv m x (nI t)) (fun t x => ∃ z, x = iI z ∧ ((z = -1002 ∧ ∀ t', t' < t → ¬ ldk n O c (2 ^ n - 1 - t')) ∨ (0 ≤ z ∧ z ≤ 9 ∧ (∃ t', t' < t ∧ ldk n O c (2 ^ n - 1 - t') ∧ z = gnk n (2 ^ n - 1 - t')) ∧ ∀ t', t' < t → ldk n O c (2 ^ n - 1 - t') → z ≤ gnk n (2 ^ n - 1 - t')))) (2 ^ n - 1) 0 (-1002) (by omega) ⟨-1002, by decide, Or.inl ⟨rfl, fun t' ht => by omega⟩⟩ ?_ ?_
  · rintro m x ⟨z, rfl, hz⟩
    rw [wX_fewestRemovals_16]
    refine br_t (nI_le (Nat.le_refl _) (by omega)) (hp z ?_)
    rcases hz with ⟨e, hno⟩ | ⟨z0, z1, ⟨t, t1, t2, t3⟩, hm⟩
    · refine Or.inl ⟨e, fun k k0 k1 hl => hno (2 ^ n - 1 - k) (by omega) ?_⟩
      rw [show 2 ^ n - 1 - (2 ^ n - 1 - k) = k from by omega]; exact hl
    · refine Or.inr ⟨z0, z1, ⟨2 ^ n - 1 - t, by omega, by omega, t2, t3⟩, fun k k0 k1 hl => ?_⟩
      have := hm (2 ^ n - 1 - k) (by omega)
      rw [show 2 ^ n - 1 - (2 ^ n - 1 - k) = k from by omega] at this
      exact this hl
  · rintro m t x ht ⟨z, rfl, hz⟩ hK
    rw [wX_fewestRemovals_16]
    refine br_f (nI_ge ht (by omega)) (x_size ?_)
    have hsz := cpl_sz hn (show t < 2 ^ n by omega)
    have hgb := gn_bd n (2 ^ n - 1 - t)
    rw [hsz]
    have ask : (z = -1002 ∨ gnk n (2 ^ n - 1 - t) < z) → wX_fewestRemovals_42 post (wX_fewestRemovals_16 post (nI c) (nI (2 ^ n - 1)) (nI n) xo xr xp xm xb xs xq xn xu xl xg xk xt xw xv m) (nI c) (iI z) (nI (2 ^ n - 1)) (nI t) (iI (gnk n (2 ^ n - 1 - t))) (nI n) xo xr xp xm xb xs xq xn xu xl xg xk xt xw xv := by
      intro hq
      unfold wX_fewestRemovals_42
      refine x_lw h hc (nI t) (fun g => br_f (by decide) (nm_r (nI_1 t) (hK _ ⟨gnk n (2 ^ n - 1 - t), rfl, Or.inr ⟨by omega, by omega, ⟨t, by omega, (cpl_ld hn (by omega)).mp g, rfl⟩, fun t' ht' hl => ?_⟩⟩))) (fun g => br_t rfl (nm_r (nI_1 t) (hK _ ⟨z, rfl, ?_⟩)))
      · by_cases e : t' = t
        · subst e; exact Int.le_refl _
        · rcases hz with ⟨e1, hno⟩ | ⟨z0, z1, _, hm⟩
          · exact absurd hl (hno t' (by omega))
          · have := hm t' (by omega) hl
            rcases hq with q | q <;> omega
      · have hnl : ¬ ldk n O c (2 ^ n - 1 - t) := fun q => g ((cpl_ld hn (by omega)).mpr q)
        rcases hz with ⟨e, hno⟩ | ⟨z0, z1, ⟨t', t1, t2, t3⟩, hm⟩
        · refine Or.inl ⟨e, fun t' ht' => ?_⟩
          by_cases e2 : t' = t
          · subst e2; exact hnl
          · exact hno t' (by omega)
        · refine Or.inr ⟨z0, z1, ⟨t', by omega, t2, t3⟩, fun t' ht' hl => ?_⟩
          by_cases e2 : t' = t
          · subst e2; exact absurd hl hnl
          · exact hm t' (by omega) hl
    have hzb : -1002 ≤ z ∧ z ≤ 9 := by rcases hz with ⟨e, _⟩ | ⟨a, b, _⟩ <;> omega
    refine vi_eq z (-1002) (fun e => ask (Or.inl e)) (fun e => vi_le z _ (fun hle => nm_r (nI_1 t) (hK _ ⟨z, rfl, ?_⟩)) (fun hlt => ask (Or.inr hlt))) rfl (by decide)
    rcases hz with ⟨e2, _⟩ | ⟨z0, z1, ⟨t', t1, t2, t3⟩, hm⟩
    · exact absurd e2 e
    · refine Or.inr ⟨z0, z1, ⟨t', by omega, t2, t3⟩, fun t' ht' hl => ?_⟩
      by_cases e2 : t' = t
      · subst e2; exact hle
      · exact hm t' (by omega) hl
theorem y_rem {post : Int32 → Prop} {yn yc : Int32} {yo yp ym ys yl yb yw yk yt yz yx : Nat → Int32} {n : Nat} {O : Nat → Nat} (h : zRY n O (yn, yc, yo, yp, ym, ys, yl, yb, yw, yk, yt, yz, yx)) {c : Nat} (hc : c < 5) (hp : ∀ z, isRem n O c z → post (iI z)) : wpY_removals post (yn, yc, yo, yp, ym, ys, yl, yb, yw, yk, yt, yz, yx) (nI c) := by
  have hn := h.1
  have h1 := h.2.1
  dsimp only at h1
  subst h1
  have hpw := pw9 n hn
  have h2p : 0 < 2 ^ n := Nat.two_pow_pos n
  unfold wpY_removals
  dsimp only
  refine y_in 0 4 rfl (by decide) (fun hh => absurd rfl (hh c (by omega) (by omega))) (fun _ _ _ _ => br_f (by decide) ?_)
  refine pk_loop (σ := Int32) (fun m k x => wY_removals_19 post (nI c) (nI n) yc yo yp ym ys yl yb yw yk yt yz yx m x (nI k)) (fun k x => 0 < k ∧ ∃ z, x = iI z ∧ ((z = 100 ∧ ∀ k', 0 < k' → k' < k → ¬ ldk n O c k') ∨ (0 ≤ z ∧ z ≤ 9 ∧ (∃ k', 0 < k' ∧ k' < k ∧ ldk n O c k' ∧ z = gnk n k') ∧ ∀ k', 0 < k' → k' < k → ldk n O c k' → z ≤ gnk n k'))) (2 ^ n) 1 100 (by omega) ⟨by omega, 100, by decide, Or.inl ⟨rfl, fun t' _ ht => by omega⟩⟩ ?_ ?_
  · rintro m x ⟨_, z, rfl, hz⟩
    rw [wY_removals_19]
    refine br_t (by rw [hpw.1]; exact nI_le (Nat.le_refl _) (by omega)) ?_
    rcases hz with ⟨e, hno⟩ | ⟨z0, z1, ⟨k, k0, k1, k2, k3⟩, hm⟩
    · subst e
      exact br_t (by decide) (hp (-1002) (Or.inl ⟨rfl, hno⟩))
    · exact vi_eq z 100 (fun e => by omega) (fun _ => hp z (Or.inr ⟨z0, z1, ⟨k, k0, k1, k2, k3⟩, hm⟩))
  · rintro m k x hk ⟨k0, z, rfl, hz⟩ hK
    rw [wY_removals_19]
    refine br_f (by rw [hpw.1]; exact nI_ge hk (by omega)) ?_
    have hgb := gn_bd n k
    have hzb : 0 ≤ z ∧ z ≤ 100 := by rcases hz with ⟨e, _⟩ | ⟨a, b, _⟩ <;> omega
    have keep : (ldk n O c k → z ≤ gnk n k) → ((z = 100 ∧ ∀ k', 0 < k' → k' < k + 1 → ¬ ldk n O c k') ∨ (0 ≤ z ∧ z ≤ 9 ∧ (∃ k', 0 < k' ∧ k' < k + 1 ∧ ldk n O c k' ∧ z = gnk n k') ∧ ∀ k', 0 < k' → k' < k + 1 → ldk n O c k' → z ≤ gnk n k')) := by
      intro g
      rcases hz with ⟨e, hno⟩ | ⟨z0, z1, ⟨k', a0, a1, a2, a3⟩, hm⟩
      · refine Or.inl ⟨e, fun k' a b hl => ?_⟩
        by_cases e2 : k' = k
        · subst e2
          have := g hl
          omega
        · exact hno k' a (by omega) hl
      · refine Or.inr ⟨z0, z1, ⟨k', a0, by omega, a2, a3⟩, fun k' a b hl => ?_⟩
        by_cases e2 : k' = k
        · subst e2; exact g hl
        · exact hm k' a (by omega) hl
    have new : ldk n O c k → gnk n k < z → ((gnk n k = 100 ∧ ∀ k', 0 < k' → k' < k + 1 → ¬ ldk n O c k') ∨ (0 ≤ gnk n k ∧ gnk n k ≤ 9 ∧ (∃ k', 0 < k' ∧ k' < k + 1 ∧ ldk n O c k' ∧ gnk n k = gnk n k') ∧ ∀ k', 0 < k' → k' < k + 1 → ldk n O c k' → gnk n k ≤ gnk n k')) := by
      intro hl hlt
      refine Or.inr ⟨by omega, by omega, ⟨k, k0, by omega, hl, rfl⟩, fun k' a b hl' => ?_⟩
      by_cases e2 : k' = k
      · subst e2; exact Int.le_refl _
      · rcases hz with ⟨e, hno⟩ | ⟨z0, z1, _, hm⟩
        · exact absurd hl' (hno k' a (by omega))
        · have := hm k' a (by omega) hl'
          omega
    refine pk_loop (σ := Int32) (fun m' i x => wY_removals_38 post (wY_removals_19 post (nI c) (nI n) yc yo yp ym ys yl yb yw yk yt yz yx m) (nI c) (iI z) (nI k) (nI n) yc yo yp ym ys yl yb yw yk yt yz yx m' x (nI i)) (fun i x => x = iI ((n : Int) - sm i (fun j => b01 (k.testBit j)))) n 0 (nI n) (by omega) (by simp only [sm]; rw [Int.sub_zero, vs_iN]) ?_ ?_
    · rintro m' x rfl
      rw [wY_removals_38]
      refine br_t (nI_le (Nat.le_refl _) (by omega)) ?_
      have inner : ∀ x0 : Int32, ((x0 = 0 ∧ z ≤ gnk n k) ∨ (x0 = 1 ∧ gnk n k < z)) → ∃ n80, wY_removals_80 post (wY_removals_19 post (nI c) (nI n) yc yo yp ym ys yl yb yw yk yt yz yx m) (nI c) (iI z) (nI k) (iI (gnk n k)) (nI n) yc yo yp ym ys yl yb yw yk yt yz yx n80 x0 0 := by
        intro x0 hx0
        refine pk_loop (σ := Int32) (fun m' b x => wY_removals_80 post (wY_removals_19 post (nI c) (nI n) yc yo yp ym ys yl yb yw yk yt yz yx m) (nI c) (iI z) (nI k) (iI (gnk n k)) (nI n) yc yo yp ym ys yl yb yw yk yt yz yx m' x (nI b)) (fun b x => (x = 0 ∧ (ldk n O c k → z ≤ gnk n k)) ∨ (x = 1 ∧ gnk n k < z ∧ ∀ d, d < b → d ≠ c → 0 < Mw (fun i => k.testBit i) n O c d)) 5 0 x0 (by omega) ?_ ?_ ?_
        · rcases hx0 with ⟨a, b⟩ | ⟨a, b⟩
          · exact Or.inl ⟨a, fun _ => b⟩
          · exact Or.inr ⟨a, b, fun d hd => by omega⟩
        · rintro m'' x hx
          rw [wY_removals_80]
          refine br_t (by decide) ?_
          rcases hx with ⟨e, g⟩ | ⟨e, g1, g2⟩
          · subst e
            exact br_t rfl (nm_r (nI_1 k) (hK (iI z) ⟨by omega, z, rfl, keep g⟩))
          · subst e
            exact br_f (by decide) (nm_r (nI_1 k) (hK (iI (gnk n k)) ⟨by omega, _, rfl, new g2 g1⟩))
        · rintro m'' b x hb hx hK'
          rw [wY_removals_80]
          refine br_f (nI_ge (b := 5) hb (by decide)) ?_
          rcases hx with ⟨e, g⟩ | ⟨e, g1, g2⟩
          · subst e
            exact br_t rfl (nm_r (nI_1 b) (hK' 0 (Or.inl ⟨rfl, g⟩)))
          · subst e
            have ext : (b ≠ c → 0 < Mw (fun i => k.testBit i) n O c b) → ∀ d, d < b + 1 → d ≠ c → 0 < Mw (fun i => k.testBit i) n O c d := by
              intro g d hd hne
              by_cases e : d = b
              · subst e; exact g hne
              · exact g2 d (by omega) hne
            refine br_f (by decide) (pk_eq b c (fun e => nm_r (nI_1 b) (hK' 1 (Or.inr ⟨rfl, g1, ext fun q => absurd e q⟩))) (fun e => y_mo h hc hb (nI k) ?_))
            have em : Mw (fun i => bt (nI k) i) n O c b = Mw (fun i => k.testBit i) n O c b := Mw_congr (fun i hi => vb_nI k i (by omega)) (fun _ _ => rfl)
            rw [em]
            have hbd := Mw_bd (fun i => k.testBit i) n O c b
            exact vi_lt 0 _ (fun hlt => nm_r (nI_1 b) (hK' 1 (Or.inr ⟨rfl, g1, ext fun _ => hlt⟩))) (fun hle => nm_r (nI_1 b) (hK' 0 (Or.inl ⟨rfl, fun q => by have := q b hb e; omega⟩)))
      exact vi_le z (gnk n k) (fun hle => inner 0 (Or.inl ⟨rfl, hle⟩)) (fun hlt => inner 1 (Or.inr ⟨rfl, hlt⟩))
    · rintro m' i x hi rfl hK'
      rw [wY_removals_38]
      refine br_f (nI_ge hi (by omega)) (nm_r (e' := iI ((n : Int) - sm (i + 1) (fun j => b01 (k.testBit j)))) ?_ (nm_r (nI_1 i) (hK' _ rfl)))
      rw [vb_b01 _ (by omega), vb_nI k i (by omega), vs_sub]
      simp only [sm]
      exact congrArg iI (by omega)
theorem i_vc_removals {k : Nat} {u : SX} {v : SY} (I : i_Rel k u v) (hk : k + 3 ≤ 1536) (v1 : Int32) : wpX_removals (fun r => wpY_removals (fun r' => r' = r ∧ i_Rel (k + 3) u v) v v1) u v1 := by
  have I0 := I
  obtain ⟨n, O, hX, hY⟩ := I
  obtain ⟨xc, xo, xr, xp, xm, xb, xs, xq, xn, xu, xl, xg, xk, xt, xw, xv⟩ := u
  obtain ⟨yn, yc, yo, yp, ym, ys, yl, yb, yw, yk, yt, yz, yx⟩ := v
  unfold wpX_removals
  dsimp only
  refine x_cand (fun hno => br_t rfl ?_) (fun c hc e => br_f (by decide) ?_)
  · unfold wpY_removals
    dsimp only
    exact y_in 0 4 rfl (by decide) (fun _ => br_t rfl ⟨rfl, I0⟩) (fun j _ hj e => absurd e (hno j (by omega)))
  · subst e
    exact x_rem hX.1 hc (fun z hz => y_rem hY hc (fun z' hz' => ⟨by rw [isRem_u hz hz'], I0⟩))
end
section
/-! ===== swaps: pure ===== -/
def oth (c j : Nat) : Nat := if j < c then j else j + 1
def pst (c d : Nat) : Nat := if d < c then d else d - 1
theorem oth_f {c j : Nat} (hc : c < 5) (hj : j < 4) : oth c j < 5 ∧ oth c j ≠ c ∧ pst c (oth c j) = j := by
  unfold oth pst
  split
  · omega
  · rw [if_neg (by omega)]; omega
theorem pst_f {c d : Nat} (hc : c < 5) (hd : d < 5) (hne : d ≠ c) : pst c d < 4 ∧ oth c (pst c d) = d := by
  unfold oth pst
  split
  · omega
  · rw [if_neg (by omega)]; omega
theorem plc_4 (o c : Nat) : plc o c ≤ 4 := by
  unfold plc
  split; omega
  split; omega
  split; omega
  split <;> omega
/-- c goes up by up places: what is still wanting -/
def mv (o c up : Nat) (w : Nat → Nat) (j : Nat) : Nat := if plc o (oth c j) < plc o c ∧ plc o c ≤ plc o (oth c j) + up then w j - 1 else w j
theorem mv_le (o c up : Nat) (w : Nat → Nat) (j : Nat) : mv o c up w j ≤ w j := by
  unfold mv; split <;> omega
theorem mv_0 (o c : Nat) (w : Nat → Nat) (j : Nat) : mv o c 0 w j = w j := by
  unfold mv; rw [if_neg (by omega)]
def RC (O : Nat → Nat) (c : Nat) (st : Nat → Nat) : Nat → (Nat → Nat) → Nat → Prop
  | 0, w, k => (∀ j, j < 4 → w j = st j) ∧ k = 0
  | i + 1, w, k => ∃ (w' : Nat → Nat) (k' up : Nat), RC O c st i w' k' ∧ up ≤ plc (O i) c ∧ k = k' + up ∧ ∀ j, j < 4 → w j = mv (O i) c up w' j
theorem RC_congr {O : Nat → Nat} {c : Nat} {st : Nat → Nat} {i : Nat} {w w2 : Nat → Nat} {k : Nat} (h : RC O c st i w k) (e : ∀ j, j < 4 → w j = w2 j) : RC O c st i w2 k := by
  cases i with
  | zero => exact ⟨fun j hj => by rw [← e j hj]; exact h.1 j hj, h.2⟩
  | succ i =>
    obtain ⟨w', k', up, a, b, d, f⟩ := h
    exact ⟨w', k', up, a, b, d, fun j hj => by rw [← e j hj]; exact f j hj⟩
theorem RC_bd {O : Nat → Nat} {c : Nat} {st : Nat → Nat} : ∀ {i : Nat} {w : Nat → Nat} {k : Nat}, RC O c st i w k → (∀ j, j < 4 → w j ≤ st j) ∧ k ≤ 4 * i := by
  intro i
  induction i with
  | zero => intro w k h; exact ⟨fun j hj => Nat.le_of_eq (h.1 j hj), by rw [h.2]; omega⟩
  | succ i ih =>
    intro w k h
    obtain ⟨w', k', up, a, b, d, f⟩ := h
    obtain ⟨g1, g2⟩ := ih a
    have := plc_4 (O i) c
    refine ⟨fun j hj => ?_, by omega⟩
    rw [f j hj]
    have h1 := mv_le (O i) c up w' j
    have h2 := g1 j hj
    omega
def dig (w : Nat → Nat) : Prop := ∀ j, j < 4 → w j ≤ 5
def e8 (w : Nat → Nat) : Nat := w 0 + 8 * w 1 + 64 * w 2 + 512 * w 3
def e6 (w : Nat → Nat) : Nat := w 0 + 6 * w 1 + 36 * w 2 + 216 * w 3
theorem j4 {P : Nat → Prop} (h0 : P 0) (h1 : P 1) (h2 : P 2) (h3 : P 3) : ∀ j, j < 4 → P j := by
  intro j hj
  match j, hj with
  | 0, _ => exact h0
  | 1, _ => exact h1
  | 2, _ => exact h2
  | 3, _ => exact h3
  | n + 4, h => omega
theorem e8_lt {w : Nat → Nat} (h : dig w) : e8 w < 4096 := by
  have h0 := h 0 (by omega)
  have h1 := h 1 (by omega)
  have h2 := h 2 (by omega)
  have h3 := h 3 (by omega)
  unfold e8; omega
theorem e6_lt {w : Nat → Nat} (h : dig w) : e6 w < 1296 := by
  have h0 := h 0 (by omega)
  have h1 := h 1 (by omega)
  have h2 := h 2 (by omega)
  have h3 := h 3 (by omega)
  unfold e6; omega
theorem e8_inj {w w' : Nat → Nat} (h : dig w) (h' : dig w') (e : e8 w = e8 w') : ∀ j, j < 4 → w j = w' j := by
  have h0 := h 0 (by omega)
  have h1 := h 1 (by omega)
  have h2 := h 2 (by omega)
  have h3 := h 3 (by omega)
  have g0 := h' 0 (by omega)
  have g1 := h' 1 (by omega)
  have g2 := h' 2 (by omega)
  have g3 := h' 3 (by omega)
  unfold e8 at e
  exact j4 (by omega) (by omega) (by omega) (by omega)
theorem e6_inj {w w' : Nat → Nat} (h : dig w) (h' : dig w') (e : e6 w = e6 w') : ∀ j, j < 4 → w j = w' j := by
  have h0 := h 0 (by omega)
  have h1 := h 1 (by omega)
  have h2 := h 2 (by omega)
  have h3 := h 3 (by omega)
  have g0 := h' 0 (by omega)
  have g1 := h' 1 (by omega)
  have g2 := h' 2 (by omega)
  have g3 := h' 3 (by omega)
  unfold e6 at e
  exact j4 (by omega) (by omega) (by omega) (by omega)
theorem e8_congr {w w' : Nat → Nat} (h : ∀ j, j < 4 → w j = w' j) : e8 w = e8 w' := by
  unfold e8; rw [h 0 (by omega), h 1 (by omega), h 2 (by omega), h 3 (by omega)]
theorem e6_congr {w w' : Nat → Nat} (h : ∀ j, j < 4 → w j = w' j) : e6 w = e6 w' := by
  unfold e6; rw [h 0 (by omega), h 1 (by omega), h 2 (by omega), h 3 (by omega)]
theorem e8_le {w w' : Nat → Nat} (h : ∀ j, j < 4 → w j ≤ w' j) : e8 w ≤ e8 w' := by
  have h0 := h 0 (by omega)
  have h1 := h 1 (by omega)
  have h2 := h 2 (by omega)
  have h3 := h 3 (by omega)
  unfold e8; omega
def dec1 (w : Nat → Nat) (j : Nat) : Nat → Nat := fun i => if i = j then w i - 1 else w i
theorem e8_dig {w : Nat → Nat} (h : dig w) : ∀ j, j < 4 → e8 w / 2 ^ (3 * j) % 8 = w j := by
  have h0 := h 0 (by omega)
  have h1 := h 1 (by omega)
  have h2 := h 2 (by omega)
  have h3 := h 3 (by omega)
  unfold e8
  refine j4 ?_ ?_ ?_ ?_ <;> simp <;> omega
theorem e6_dig {w : Nat → Nat} (h : dig w) : ∀ j, j < 4 → e6 w / 6 ^ j % 6 = w j := by
  have h0 := h 0 (by omega)
  have h1 := h 1 (by omega)
  have h2 := h 2 (by omega)
  have h3 := h 3 (by omega)
  unfold e6
  refine j4 ?_ ?_ ?_ ?_ <;> simp <;> omega
theorem e8_dec {w : Nat → Nat} : ∀ j, j < 4 → 0 < w j → 2 ^ (3 * j) ≤ e8 w ∧ e8 w - 2 ^ (3 * j) = e8 (dec1 w j) := by
  unfold e8 dec1
  refine j4 ?_ ?_ ?_ ?_ <;> intro h <;> simp <;> omega
theorem e6_dec {w : Nat → Nat} : ∀ j, j < 4 → 0 < w j → 6 ^ j ≤ e6 w ∧ e6 w - 6 ^ j = e6 (dec1 w j) := by
  unfold e6 dec1
  refine j4 ?_ ?_ ?_ ?_ <;> intro h <;> simp <;> omega
theorem dec_0 {w : Nat → Nat} {j : Nat} (h : w j = 0) : ∀ i, dec1 w j i = w i := by
  intro i
  unfold dec1
  split
  · rename_i e; subst e; omega
  · rfl
/-- x is the least number of Q, or F if there is none -/
def MN (x : Int32) (Q : Nat → Prop) (F : Nat) : Prop := (∃ z, z < 1000 ∧ x = nI z ∧ Q z ∧ ∀ z', Q z' → z ≤ z') ∨ (x = nI F ∧ ∀ z', ¬ Q z')
theorem MN_conv {x : Int32} {Q Q' : Nat → Prop} {F : Nat} (h : MN x Q F) (h1 : ∀ k, Q k → Q' k) (h2 : ∀ k', Q' k' → ∃ k, k ≤ k' ∧ Q k) : MN x Q' F := by
  rcases h with ⟨z, a, b, c, d⟩ | ⟨a, b⟩
  · refine Or.inl ⟨z, a, b, h1 z c, fun z' hz' => ?_⟩
    obtain ⟨k, hk, hq⟩ := h2 z' hz'
    have := d k hq
    omega
  · refine Or.inr ⟨a, fun z' hz' => ?_⟩
    obtain ⟨k, hk, hq⟩ := h2 z' hz'
    exact b k hq
theorem MN_le {x : Int32} {Q : Nat → Prop} {F c : Nat} (hF : 1000 ≤ F) (hF2 : F < 2 ^ 31) (hc : c < 1000) (h : MN x Q F) (hle : x ≤ nI c) : MN x (fun k => Q k ∨ k = c) F := by
  rcases h with ⟨z, a, b, d, e⟩ | ⟨a, b⟩
  · refine Or.inl ⟨z, a, b, Or.inl d, fun z' hz' => ?_⟩
    rcases hz' with g | g
    · exact e z' g
    · subst g
      rw [b, nI_leI (by omega) (by omega)] at hle
      exact hle
  · rw [a, nI_leI hF2 (by omega)] at hle
    omega
theorem MN_gt {x : Int32} {Q : Nat → Prop} {F c : Nat} (hc : c < 1000) (h : MN x Q F) (hle : ¬ x ≤ nI c) : MN (nI c) (fun k => Q k ∨ k = c) F := by
  refine Or.inl ⟨c, hc, rfl, Or.inr rfl, fun z' hz' => ?_⟩
  rcases hz' with g | g
  · rcases h with ⟨z, a, b, d, e⟩ | ⟨a, b⟩
    · have := e z' g
      rw [b, nI_leI (by omega) (by omega)] at hle
      omega
    · exact absurd g (b z')
  · omega
def okA (E : (Nat → Nat) → Nat) (F N : Nat) (A : Nat → Int32) (Q : (Nat → Nat) → Nat → Prop) : Prop := (∀ w, dig w → MN (A (E w)) (Q w) F) ∧ ∀ t, t < N → (∀ w, dig w → E w ≠ t) → A t = nI F
theorem ok_conv {E : (Nat → Nat) → Nat} {F N : Nat} {A : Nat → Int32} {Q Q' : (Nat → Nat) → Nat → Prop} (h : okA E F N A Q) (h1 : ∀ w, dig w → ∀ k, Q w k → Q' w k) (h2 : ∀ w, dig w → ∀ k', Q' w k' → ∃ k, k ≤ k' ∧ Q w k) : okA E F N A Q' :=
  ⟨fun w hw => MN_conv (h.1 w hw) (h1 w hw) (h2 w hw), h.2⟩
theorem ok_ins {E : (Nat → Nat) → Nat} {F N : Nat} {A : Nat → Int32} {Q : (Nat → Nat) → Nat → Prop} (hinj : ∀ w w', dig w → dig w' → E w = E w' → ∀ j, j < 4 → w j = w' j) (hcon : ∀ w w', (∀ j, j < 4 → w j = w' j) → E w = E w') (hF : 1000 ≤ F) (hF2 : F < 2 ^ 31) (h : okA E F N A Q) {v : Nat → Nat} (hv : dig v) {c : Nat} (hc : c < 1000) :
    (A (E v) ≤ nI c → okA E F N A (fun w k => Q w k ∨ (k = c ∧ ∀ j, j < 4 → w j = v j))) ∧ (¬ A (E v) ≤ nI c → okA E F N (upd A (E v) (nI c)) (fun w k => Q w k ∨ (k = c ∧ ∀ j, j < 4 → w j = v j))) := by
  constructor
  · intro hle
    refine ⟨fun w hw => ?_, h.2⟩
    by_cases e : E w = E v
    · have hj := hinj w v hw hv e
      rw [e]
      have := h.1 w hw
      rw [e] at this
      exact MN_conv (MN_le hF hF2 hc this hle) (fun k hk => hk.elim Or.inl (fun z => Or.inr ⟨z, hj⟩)) (fun k hk => ⟨k, Nat.le_refl _, hk.elim Or.inl (fun z => Or.inr z.1)⟩)
    · exact MN_conv (h.1 w hw) (fun k hk => Or.inl hk) (fun k hk => ⟨k, Nat.le_refl _, hk.elim id (fun z => absurd (hcon w v z.2) e)⟩)
  · intro hle
    refine ⟨fun w hw => ?_, fun t ht hno => ?_⟩
    · by_cases e : E w = E v
      · have hj := hinj w v hw hv e
        rw [e, pk_us]
        have := h.1 w hw
        rw [e] at this
        exact MN_conv (MN_gt hc this hle) (fun k hk => hk.elim Or.inl (fun z => Or.inr ⟨z, hj⟩)) (fun k hk => ⟨k, Nat.le_refl _, hk.elim Or.inl (fun z => Or.inr z.1)⟩)
      · rw [pk_un e]
        exact MN_conv (h.1 w hw) (fun k hk => Or.inl hk) (fun k hk => ⟨k, Nat.le_refl _, hk.elim id (fun z => absurd (hcon w v z.2) e)⟩)
    · rw [pk_un (fun z => hno v hv z.symm)]
      exact h.2 t ht hno
/-- how many ballots c lacks against the candidate at position j -/
def stn (n : Nat) (O : Nat → Nat) (c j : Nat) : Nat := if Mg n O c (oth c j) ≤ 0 then (- Mg n O c (oth c j)).toNat / 2 + 1 else 0
theorem stn_5 {n : Nat} (hn : n ≤ 9) (O : Nat → Nat) (c : Nat) : dig (stn n O c) := by
  intro j _
  have := Mg_bd hn O c (oth c j)
  unfold stn; split <;> omega
/-- the number of ballots with a before b -/
def bfr (n : Nat) (O : Nat → Nat) (a b : Nat) : Int := sm n (fun i => if plc (O i) a < plc (O i) b then 1 else 0)
theorem bfr_bd (n : Nat) (O : Nat → Nat) (a b : Nat) : 0 ≤ bfr n O a b ∧ bfr n O a b ≤ n := by
  have h1 := sm_lo (n := n) (k := 0) (f := fun i => if plc (O i) a < plc (O i) b then (1 : Int) else 0) (fun i _ => by split <;> omega)
  have h2 := sm_hi (n := n) (k := 1) (f := fun i => if plc (O i) a < plc (O i) b then (1 : Int) else 0) (fun i _ => by split <;> omega)
  unfold bfr; omega
theorem Mg_bfr {n : Nat} {O : Nat → Nat} (hO : ∀ i, i < n → isr (O i) = true) {a b : Nat} (ha : a < 5) (hb : b < 5) (hne : a ≠ b) : Mg n O a b = 2 * bfr n O a b - n ∧ Mg n O a b = n - 2 * bfr n O b a := by
  have key : ∀ m, m ≤ n → sm m (fun i => if (fun _ => true) i = true then prf (O i) a b else 0) = 2 * sm m (fun i => if plc (O i) a < plc (O i) b then (1 : Int) else 0) - m ∧ sm m (fun i => if (fun _ => true) i = true then prf (O i) a b else 0) = m - 2 * sm m (fun i => if plc (O i) b < plc (O i) a then (1 : Int) else 0) := by
    intro m
    induction m with
    | zero => intro _; exact ⟨rfl, rfl⟩
    | succ m ih =>
      intro hm
      obtain ⟨i1, i2⟩ := ih (by omega)
      have hne2 : plc (O m) a ≠ plc (O m) b := fun z => hne (rc_inj (hO m (by omega)) ha hb z)
      simp only [sm, if_true] at i1 i2 ⊢
      unfold prf at i1 i2 ⊢
      rcases Nat.lt_or_gt_of_ne hne2 with h | h
      · rw [if_pos h, if_pos h, if_neg (Nat.not_lt.mpr (Nat.le_of_lt h))]
        constructor <;> omega
      · rw [if_neg (Nat.not_lt.mpr (Nat.le_of_lt h)), if_neg (Nat.not_lt.mpr (Nat.le_of_lt h)), if_pos h, if_pos h]
        constructor <;> omega
  exact key n (Nat.le_refl n)
/-- all the way up on each ballot: nothing is wanting at the end -/
theorem RC_full {n : Nat} {O : Nat → Nat} {c : Nat} {st : Nat → Nat} : ∀ i, ∃ (w : Nat → Nat) (k : Nat), RC O c st i w k ∧ ∀ j, j < 4 → (w j : Int) ≤ st j - bfr i O (oth c j) c ∨ w j = 0 := by
  intro i
  induction i with
  | zero => exact ⟨st, 0, ⟨fun _ _ => rfl, rfl⟩, fun j _ => Or.inl (by simp [bfr, sm])⟩
  | succ i ih =>
    obtain ⟨w, k, h, g⟩ := ih
    refine ⟨mv (O i) c (plc (O i) c) w, k + plc (O i) c, ⟨w, k, plc (O i) c, h, Nat.le_refl _, rfl, fun _ _ => rfl⟩, fun j hj => ?_⟩
    have := g j hj
    unfold bfr at this ⊢
    simp only [sm]
    unfold mv
    by_cases e : plc (O i) (oth c j) < plc (O i) c
    · rw [if_pos ⟨e, by omega⟩, if_pos e]
      omega
    · rw [if_neg (fun z => e z.1), if_neg e]
      omega
theorem RC_zero {n : Nat} (h0 : 0 < n) {O : Nat → Nat} (hO : ∀ i, i < n → isr (O i) = true) {c : Nat} (hc : c < 5) : ∃ k, RC O c (stn n O c) n (fun _ => 0) k := by
  obtain ⟨w, k, h, g⟩ := RC_full (n := n) (O := O) (c := c) (st := stn n O c) n
  refine ⟨k, RC_congr h (fun j hj => ?_)⟩
  have hf := oth_f hc hj
  have hM := (Mg_bfr hO hc hf.1 (fun z => hf.2.1 z.symm)).2
  have hb := bfr_bd n O (oth c j) c
  have := g j hj
  unfold stn at this
  split at this
  · omega
  · omega
def isSw (n : Nat) (O : Nat → Nat) (c : Nat) (z : Int) : Prop := (n = 0 ∧ z = -1002) ∨ (0 < n ∧ ∃ k : Nat, z = k ∧ k < 1000 ∧ RC O c (stn n O c) n (fun _ => 0) k ∧ ∀ k', RC O c (stn n O c) n (fun _ => 0) k' → k ≤ k')
theorem isSw_u {n : Nat} {O : Nat → Nat} {c : Nat} {z z' : Int} (h : isSw n O c z) (h' : isSw n O c z') : z = z' := by
  rcases h with ⟨a, b⟩ | ⟨a, k, b, _, d, e⟩
  · rcases h' with ⟨a', b'⟩ | ⟨a', _⟩
    · rw [b, b']
    · omega
  · rcases h' with ⟨a', b'⟩ | ⟨_, k', b', _, d', e'⟩
    · omega
    · have := e k' d'
      have := e' k d
      omega
theorem sw_fin {n : Nat} (h0 : 0 < n) {O : Nat → Nat} (hO : ∀ i, i < n → isr (O i) = true) {c : Nat} (hc : c < 5) {E : (Nat → Nat) → Nat} {F N : Nat} {A : Nat → Int32} (hE : E (fun _ => 0) = 0) (h : okA E F N A (RC O c (stn n O c) n)) : ∃ z : Int, A 0 = iI z ∧ isSw n O c z := by
  have h1 := h.1 (fun _ => 0) (fun _ _ => Nat.zero_le 5)
  rw [hE] at h1
  rcases h1 with ⟨z, a, b, d, e⟩ | ⟨_, b⟩
  · exact ⟨z, by rw [b, vs_iN], Or.inr ⟨h0, z, rfl, a, d, e⟩⟩
  · obtain ⟨k, hk⟩ := RC_zero h0 hO hc
    exact absurd hk (b k)
end
section
/-! ===== swaps: the component's walk ===== -/
theorem x_ns {post : Int32 → Prop} {c d : Nat} (hc : c < 5) (hd : d < 5) (hne : d ≠ c) (hp : post (nI (3 * pst c d))) : wpX_needShift post (nI c) (nI d) := by
  unfold wpX_needShift
  refine pk_le c d (fun hle => ?_) (fun hlt => ?_)
  · have e : (3 : Int32) * (nI d - 1) = nI (3 * pst c d) := by
      obtain ⟨m, rfl⟩ : ∃ m, d = m + 1 := ⟨d - 1, by omega⟩
      rw [nI_pred, show (3 : Int32) = nI 3 from rfl, pk_mul]
      unfold pst
      rw [if_neg (by omega)]; rfl
    rw [e]; exact hp
  · have e : (3 : Int32) * nI d = nI (3 * pst c d) := by
      rw [show (3 : Int32) = nI 3 from rfl, pk_mul]
      unfold pst
      rw [if_pos (by omega)]
    rw [e]; exact hp
theorem x_shN {k j : Nat} (hk : k * 2 ^ (3 * j) < 2 ^ 31) (hj : j < 4) : nI k <<< (nI (3 * j) &&& 31) = nI (k * 2 ^ (3 * j)) :=
  pk_shlN _ (3 * j) (s_l (3 * j) (by omega)) (by omega)
theorem x_sh1 {j : Nat} (hj : j < 4) : (1 : Int32) <<< (nI (3 * j) &&& 31) = nI (2 ^ (3 * j)) := by
  have : 2 ^ (3 * j) ≤ 2 ^ 9 := Nat.pow_le_pow_right (by decide) (by omega)
  have h := x_shN (k := 1) (j := j) (by omega) hj
  rw [Nat.one_mul] at h
  exact h
theorem x_dg {t j : Nat} (ht : t < 4096) (hj : j < 4) : (nI t >>> (nI (3 * j) &&& 31)) &&& 7 = nI (t / 2 ^ (3 * j) % 8) := by
  rw [pk_shrN (by omega) _ (3 * j) (s_l (3 * j) (by omega))]
  have : t / 2 ^ (3 * j) ≤ t := Nat.div_le_self _ _
  apply Int32.toBitVec_inj.mp
  apply BitVec.eq_of_toNat_eq
  rw [Int32.toBitVec_and, BitVec.toNat_and, pk_tn (by omega), show (7 : Int32).toBitVec.toNat = 2 ^ 3 - 1 from rfl, Nat.and_two_pow_sub_one_eq_mod, pk_tn (by omega)]
/-- the needs as far as the candidates below d go -/
def ndA (n : Nat) (O : Nat → Nat) (c d : Nat) : Nat → Nat := fun j => if oth c j < d then stn n O c j else 0
theorem x_nd {post : Int32 → Prop} {xc : Int32} {xo xr xp xm xb xs xq xn xu xl xg xk xt xw xv : Nat → Int32} {n : Nat} {O : Nat → Nat} (h : zRX n O (xc, xo, xr, xp, xm, xb, xs, xq, xn, xu, xl, xg, xk, xt, xw, xv)) {c : Nat} (hc : c < 5) (hp : post (nI (e8 (stn n O c)))) : wpX_needsOf post (xc, xo, xr, xp, xm, xb, xs, xq, xn, xu, xl, xg, xk, xt, xw, xv) (nI c) := by
  have hn := h.1.1
  have h5 := stn_5 hn O c
  unfold wpX_needsOf
  dsimp only
  refine pk_loop (σ := Int32) (fun m d x => wX_needsOf_4 post (nI c) xc xo xr xp xm xb xs xq xn xu xl xg xk xt xw xv m x (nI d)) (fun d x => x = nI (e8 (ndA n O c d))) 5 0 0 (by omega) ?_ ?_ ?_
  · rw [show e8 (ndA n O c 0) = 0 from by simp [e8, ndA]]; rfl
  · rintro m x rfl
    rw [wX_needsOf_4]
    refine br_t (by decide) ?_
    rw [e8_congr (w := ndA n O c 5) (w' := stn n O c) (fun j hj => if_pos (oth_f hc hj).1)]
    exact hp
  · rintro m d x hd rfl hK
    rw [wX_needsOf_4]
    have hm := h.2.1 c d hc hd
    dsimp only at hm
    have hb := Mg_bd hn O c d
    refine br_f (nI_ge (b := 5) hd (by decide)) ⟨by rw [vn_5a]; exact vp_in_nI (by omega) (by decide), nm_r (e' := iI (Mg n O c d)) (by rw [vn_5a, nI_clamp (by omega), hm]) (pk_eq d c (fun e => nm_r (nI_1 d) (hK _ ?_)) (fun hne => ?_))⟩
    · refine congrArg nI (e8_congr fun j hj => ?_)
      have := (oth_f hc hj).2.1
      unfold ndA
      by_cases e2 : oth c j < d
      · rw [if_pos e2, if_pos (by omega)]
      · rw [if_neg e2, if_neg (by omega)]
    · have hp4 := pst_f hc hd hne
      have hsame : ∀ j, j < 4 → j ≠ pst c d → ndA n O c (d + 1) j = ndA n O c d j := by
        intro j hj hjn
        have hoj : oth c j ≠ d := fun z => hjn (by rw [← (oth_f hc hj).2.2, z])
        unfold ndA
        by_cases e2 : oth c j < d
        · rw [if_pos e2, if_pos (by omega)]
        · rw [if_neg e2, if_neg (by omega)]
      have hnew : ndA n O c (d + 1) (pst c d) = stn n O c (pst c d) := if_pos (by rw [hp4.2]; omega)
      have hold : ndA n O c d (pst c d) = 0 := if_neg (by rw [hp4.2]; omega)
      refine vi_lt 0 (Mg n O c d) (fun hlt => nm_r (nI_1 d) (hK _ ?_)) (fun hle => ⟨by decide, x_ns hc hd hne ?_⟩)
      · refine congrArg nI (e8_congr fun j hj => ?_)
        by_cases ej : j = pst c d
        · subst ej
          rw [hnew, hold]
          unfold stn
          rw [hp4.2, if_neg (by omega)]
        · exact (hsame j hj ej).symm
      · have hv : (-(iI (Mg n O c d))) / 2 + 1 = nI (stn n O c (pst c d)) := by
          have e1 : - iI (Mg n O c d) = nI (- Mg n O c d).toNat := by
            rw [vs_neg, ← vs_iN]; exact congrArg iI (by omega)
          rw [e1, show (2 : Int32) = nI 2 from rfl, pk_div (by omega) (by decide) (by decide), nI_1]
          unfold stn
          rw [hp4.2, if_pos hle]
        have hs5 := h5 (pst c d) hp4.1
        -- what is there lies below the new place
        have hlo : e8 (ndA n O c d) < 2 ^ (3 * pst c d) ∧ e8 (ndA n O c (d + 1)) = stn n O c (pst c d) * 2 ^ (3 * pst c d) + e8 (ndA n O c d) := by
          have hz : ∀ j, j < 4 → pst c d < j → ndA n O c d j = 0 ∧ ndA n O c (d + 1) j = 0 := by
            intro j hj hlt
            have : d < oth c j := by
              have := oth_f hc hj
              unfold pst oth at *
              split at hlt <;> split <;> omega
            exact ⟨if_neg (by omega), if_neg (by omega)⟩
          have hd5 : ∀ j, j < 4 → ndA n O c d j ≤ 5 := by
            intro j hj
            unfold ndA
            split
            · exact h5 j hj
            · omega
          have q0 := hd5 0 (by omega)
          have q1 := hd5 1 (by omega)
          have q2 := hd5 2 (by omega)
          revert hz hsame hnew hold hs5
          generalize stn n O c (pst c d) = S
          have hp5 := hp4.1
          revert hp5
          generalize pst c d = p
          intro hp5 hsame hnew hold hs5 hz
          unfold e8
          match p, hp5 with
          | 0, _ =>
            have a1 := hz 1 (by omega) (by omega)
            have a2 := hz 2 (by omega) (by omega)
            have a3 := hz 3 (by omega) (by omega)
            simp [a1, a2, a3, hold, hnew]
          | 1, _ =>
            have a0 := hsame 0 (by omega) (by omega)
            have a2 := hz 2 (by omega) (by omega)
            have a3 := hz 3 (by omega) (by omega)
            simp [a0, a2, a3, hold, hnew]; omega
          | 2, _ =>
            have a0 := hsame 0 (by omega) (by omega)
            have a1 := hsame 1 (by omega) (by omega)
            have a3 := hz 3 (by omega) (by omega)
            simp [a0, a1, a3, hold, hnew]; omega
          | 3, _ =>
            have a0 := hsame 0 (by omega) (by omega)
            have a1 := hsame 1 (by omega) (by omega)
            have a2 := hsame 2 (by omega) (by omega)
            simp [a0, a1, a2, hold, hnew]; omega
          | q + 4, h => omega
        refine nm_r (e' := nI (e8 (ndA n O c (d + 1)))) ?_ (nm_r (nI_1 d) (hK _ rfl))
        have hpw : 2 ^ (3 * pst c d) ≤ 2 ^ 9 := Nat.pow_le_pow_right (by decide) (by have := hp4.1; omega)
        have hmul : stn n O c (pst c d) * 2 ^ (3 * pst c d) ≤ 5 * 2 ^ 9 := Nat.mul_le_mul hs5 hpw
        rw [hv, x_shN (by omega) hp4.1, hlo.2]
        have hor : ∀ a b : Nat, nI a ||| nI b = nI (a ||| b) := by
          intro a b
          apply b_ext
          intro i hi
          rw [b_or, vb_nI a i hi, vb_nI b i hi, vb_nI _ i hi, Nat.testBit_or]
        rw [hor, Nat.mul_comm, Nat.two_pow_add_eq_or_of_lt hlo.1, Nat.or_comm]
theorem mv_step {o c e : Nat} (ho : isr o = true) (hc : c < 5) (he : e < plc o c) (w : Nat → Nat) : ∀ j, j < 4 → mv o c (plc o c - e) w j = dec1 (mv o c (plc o c - (e + 1)) w) (pst c (rkc o e)) j := by
  intro j hj
  have hp4 := plc_4 o c
  have hr := rc_all ho (show e < 5 by omega)
  have hrc : rkc o e ≠ c := by
    intro z
    have := hr.2.1
    rw [z] at this
    omega
  have hps := pst_f hc hr.1 hrc
  have hoj := oth_f hc hj
  unfold dec1
  by_cases ej : j = pst c (rkc o e)
  · rw [if_pos ej]
    have hpl : plc o (oth c j) = e := by rw [ej, hps.2]; exact hr.2.1
    unfold mv
    rw [hpl, if_pos ⟨he, by omega⟩, if_neg (by omega)]
  · rw [if_neg ej]
    have hpl : plc o (oth c j) ≠ e := by
      intro z
      apply ej
      have h2 : oth c j = rkc o e := by
        rw [← (rc_all ho hoj.1).2.2.2, z]
      rw [← hoj.2.2, h2]
    unfold mv
    by_cases e1 : plc o (oth c j) < plc o c ∧ plc o c ≤ plc o (oth c j) + (plc o c - (e + 1))
    · rw [if_pos e1, if_pos ⟨e1.1, by omega⟩]
    · rw [if_neg e1, if_neg (by omega)]
theorem mv_dig {o c up : Nat} {w : Nat → Nat} (h : dig w) : dig (mv o c up w) := fun j hj => Nat.le_trans (mv_le o c up w j) (h j hj)
def okX (A : Nat → Int32) (Q : (Nat → Nat) → Nat → Prop) : Prop := okA e8 1000000 4096 A Q
theorem okX_ins {A : Nat → Int32} {Q : (Nat → Nat) → Nat → Prop} (h : okX A Q) {v : Nat → Nat} (hv : dig v) {c : Nat} (hc : c < 1000) :
    (A (e8 v) ≤ nI c → okX A (fun w k => Q w k ∨ (k = c ∧ ∀ j, j < 4 → w j = v j))) ∧ (¬ A (e8 v) ≤ nI c → okX (upd A (e8 v) (nI c)) (fun w k => Q w k ∨ (k = c ∧ ∀ j, j < 4 → w j = v j))) :=
  ok_ins (fun _ _ a b e => e8_inj a b e) (fun _ _ e => e8_congr e) (by omega) (by omega) h hv hc
theorem x_mf {post : SX → Prop} {xc : Int32} {xo xr xp xm xb xs xq xn xu xl xg xk xt xw xv : Nat → Int32} {n : Nat} {O : Nat → Nat} (h : zRX n O (xc, xo, xr, xp, xm, xb, xs, xq, xn, xu, xl, xg, xk, xt, xw, xv)) {i c : Nat} (hi : i < n) (hc : c < 5) {w0 : Nat → Nat} (hw : dig w0) {z : Nat} (hz : z < 900) (hA0 : xw (e8 w0) = nI z) {Q : (Nat → Nat) → Nat → Prop} (hA : okX xw Q)
    (hp : ∀ A', okX A' (fun w k => Q w k ∨ ∃ u, 1 ≤ u ∧ u ≤ plc (O i) c ∧ k = z + u ∧ ∀ j, j < 4 → w j = mv (O i) c u w0 j) → post (xc, xo, xr, xp, xm, xb, xs, xq, xn, xu, xl, xg, xk, xt, A', xv)) : wpX_moveForward post (xc, xo, xr, xp, xm, xb, xs, xq, xn, xu, xl, xg, xk, xt, xw, xv) (nI i) (nI c) (nI (e8 w0)) := by
  have hn := h.1.1
  have hB := h.1.2.2 i hi
  have ho := hB.1
  have hrk : ∀ p, p < 5 → xr (5 * i + p) = nI (rkc (O i) p) := hB.2.2.1
  have hpl : ∀ c, c < 5 → xp (5 * i + c) = nI (plc (O i) c) := hB.2.2.2
  have hP := plc_4 (O i) c
  unfold wpX_moveForward
  dsimp only
  refine ⟨by rw [vn_5a]; exact vp_in_nI (by omega) (by decide), nm_r (e' := nI (plc (O i) c)) (by rw [vn_5a, nI_clamp (by omega), hpl c hc]) ⟨vp_in_nI (e8_lt hw) (by decide), nm_r (e' := nI z) (by rw [nI_clamp (by have := e8_lt hw; omega), hA0]) (nm_r (e' := iI ((plc (O i) c : Int) - 1)) (by rw [← vs_iN]; exact vs_sub _ 1) ⟨plc (O i) c + 1, ?_⟩)⟩⟩
  have key := pk_loopD (σ := Int32 × Int32 × (Nat → Int32)) (fun m e s => wX_moveForward_29 post (nI i) (nI c) xc m s.1 s.2.1 (iI ((e : Int) - 1)) xo xr xp xm xb xs xq xn xu xl xg xk xt s.2.2 xv)
    (fun e s => e ≤ plc (O i) c ∧ s.1 = nI (z + (plc (O i) c - e)) ∧ s.2.1 = nI (e8 (mv (O i) c (plc (O i) c - e) w0)) ∧ okX s.2.2 (fun w k => Q w k ∨ ∃ u, 1 ≤ u ∧ u ≤ plc (O i) c - e ∧ k = z + u ∧ ∀ j, j < 4 → w j = mv (O i) c u w0 j))
    (by
      rintro m ⟨x5, x6, A⟩ ⟨_, _, _, hok⟩
      dsimp only at hok ⊢
      rw [wX_moveForward_29]
      exact br_t (by decide) (hp A hok))
    (by
      rintro m e ⟨x5, x6, A⟩ ⟨he, e5, e6, hok⟩ hK
      dsimp only at e5 e6 hok hK ⊢
      subst e5 e6
      rw [ve_p, wX_moveForward_29]
      have hr := rc_all ho (show e < 5 by omega)
      have hrc : rkc (O i) e ≠ c := by
        intro q
        have := hr.2.1
        rw [q] at this
        omega
      have hps := pst_f hc hr.1 hrc
      have hst := mv_step ho hc (show e < plc (O i) c by omega) w0
      have hd1 : dig (mv (O i) c (plc (O i) c - (e + 1)) w0) := mv_dig hw
      have hd2 : dig (mv (O i) c (plc (O i) c - e) w0) := mv_dig hw
      have hl1 := e8_lt hd1
      have hl2 := e8_lt hd2
      have ec : z + (plc (O i) c - (e + 1)) + 1 = z + (plc (O i) c - e) := by omega
      -- behind the step down
      have tail : wX_moveForward_71 post (wX_moveForward_29 post (nI i) (nI c) xc m) (nI i) (nI c) (nI (z + (plc (O i) c - (e + 1)))) (nI (e8 (mv (O i) c (plc (O i) c - e) w0))) (nI e) xc xo xr xp xm xb xs xq xn xu xl xg xk xt A xv := by
        unfold wX_moveForward_71
        have hin := okX_ins hok hd2 (show z + (plc (O i) c - e) < 1000 by omega)
        have conv : ∀ A', okX A' (fun w k => (Q w k ∨ ∃ u, 1 ≤ u ∧ u ≤ plc (O i) c - (e + 1) ∧ k = z + u ∧ ∀ j, j < 4 → w j = mv (O i) c u w0 j) ∨ (k = z + (plc (O i) c - e) ∧ ∀ j, j < 4 → w j = mv (O i) c (plc (O i) c - e) w0 j)) → okX A' (fun w k => Q w k ∨ ∃ u, 1 ≤ u ∧ u ≤ plc (O i) c - e ∧ k = z + u ∧ ∀ j, j < 4 → w j = mv (O i) c u w0 j) := by
          intro A' hA'
          refine ok_conv hA' (fun w _ k hk => ?_) (fun w _ k hk => ⟨k, Nat.le_refl _, ?_⟩)
          · rcases hk with (hk | ⟨u, a, b, d, f⟩) | ⟨a, b⟩
            · exact Or.inl hk
            · exact Or.inr ⟨u, a, by omega, d, f⟩
            · exact Or.inr ⟨plc (O i) c - e, by omega, Nat.le_refl _, a, b⟩
          · rcases hk with hk | ⟨u, a, b, d, f⟩
            · exact Or.inl (Or.inl hk)
            · by_cases eu : u = plc (O i) c - e
              · subst eu; exact Or.inr ⟨d, f⟩
              · exact Or.inl (Or.inr ⟨u, a, by omega, d, f⟩)
        refine nm_r (e' := nI (z + (plc (O i) c - e))) (by rw [nI_1, ec]) ⟨vp_in_nI hl2 (by decide), ?_⟩
        rw [nI_clamp (by omega)]
        exact br_c (fun hle => nm_r (ve_m e) (hK (_, _, A) ⟨by omega, rfl, rfl, conv A (hin.1 hle)⟩)) (fun hgt => ⟨vp_in_nI hl2 (by decide), nm_e (nm_r (ve_m e) (hK (_, _, upd A (e8 (mv (O i) c (plc (O i) c - e) w0)) (nI (z + (plc (O i) c - e)))) ⟨by omega, rfl, rfl, conv _ (hin.2 hgt)⟩))⟩)
      refine br_f (nI_pos (by omega)) ⟨by rw [vn_5a]; exact vp_in_nI (by omega) (by decide), ?_⟩
      rw [vn_5a, nI_clamp (by omega), hrk e (by omega)]
      refine x_ns hc hr.1 hrc ?_
      rw [x_dg hl1 hps.1, e8_dig hd1 _ hps.1]
      have h5 := hd1 _ hps.1
      refine pk_le (mv (O i) c (plc (O i) c - (e + 1)) w0 (pst c (rkc (O i) e))) 0 (fun h0 => ?_) (fun h0 => ?_)
      · have : e8 (mv (O i) c (plc (O i) c - (e + 1)) w0) = e8 (mv (O i) c (plc (O i) c - e) w0) := e8_congr fun j hj => by
          rw [hst j hj, dec_0 (by omega)]
        rw [this]; exact tail
      · have hd := e8_dec _ hps.1 h0
        refine nm_r (e' := nI (e8 (mv (O i) c (plc (O i) c - e) w0))) ?_ tail
        rw [x_sh1 hps.1, pk_sub hd.1, hd.2]
        exact congrArg nI (e8_congr fun j hj => (hst j hj).symm))
  refine key (plc (O i) c) (nI z, nI (e8 w0), xw) ⟨Nat.le_refl _, by simp, ?_, ok_conv hA (fun w _ k hk => Or.inl hk) (fun w _ k hk => ⟨k, Nat.le_refl _, hk.elim id (fun ⟨u, a, b, _⟩ => by omega)⟩)⟩
  dsimp only
  rw [Nat.sub_self]
  exact congrArg nI (e8_congr fun j hj => (mv_0 _ _ _ j).symm)
end
section
/-! ===== swaps: the component's main loops ===== -/
def Qt (O : Nat → Nat) (c : Nat) (st : Nat → Nat) (i t : Nat) (w : Nat → Nat) (k : Nat) : Prop := RC O c st i w k ∨ ∃ (w' : Nat → Nat) (k' up : Nat), e8 w' < t ∧ RC O c st i w' k' ∧ 1 ≤ up ∧ up ≤ plc (O i) c ∧ k = k' + up ∧ ∀ j, j < 4 → w j = mv (O i) c up w' j
theorem mv_congr {o c up : Nat} {w w' : Nat → Nat} {j : Nat} (h : w j = w' j) : mv o c up w j = mv o c up w' j := by
  unfold mv; rw [h]
theorem Qt_end {O : Nat → Nat} {c : Nat} {st : Nat → Nat} {i : Nat} {A : Nat → Int32} (h : okX A (Qt O c st i (e8 st + 1))) : okX A (RC O c st (i + 1)) := by
  refine ok_conv h (fun w _ k hk => ?_) (fun w _ k hk => ⟨k, Nat.le_refl _, ?_⟩)
  · rcases hk with hk | ⟨w', k', up, a, b, d, e, f, g⟩
    · exact ⟨w, k, 0, hk, Nat.zero_le _, rfl, fun j _ => (mv_0 _ _ _ j).symm⟩
    · exact ⟨w', k', up, b, e, f, g⟩
  · obtain ⟨w', k', up, a, b, d, e⟩ := hk
    by_cases h0 : up = 0
    · subst h0
      refine Or.inl ?_
      rw [d]
      exact RC_congr a (fun j hj => by rw [e j hj, mv_0])
    · refine Or.inr ⟨w', k', up, ?_, a, by omega, b, d, e⟩
      have := e8_le (RC_bd a).1
      omega
theorem Qt_0 {O : Nat → Nat} {c : Nat} {st : Nat → Nat} {i : Nat} {A : Nat → Int32} (h : okX A (RC O c st i)) : okX A (Qt O c st i 0) :=
  ok_conv h (fun w _ k hk => Or.inl hk) (fun w _ k hk => ⟨k, Nat.le_refl _, hk.elim id (fun ⟨w', k', up, a, _⟩ => by omega)⟩)
theorem Qt_self {O : Nat → Nat} {c : Nat} {st : Nat → Nat} {i : Nat} {w : Nat → Nat} {k : Nat} (h : Qt O c st i (e8 w) w k) : RC O c st i w k := by
  rcases h with h | ⟨w', k', up, a, b, d, e, f, g⟩
  · exact h
  · have : e8 w ≤ e8 w' := e8_le fun j hj => by rw [g j hj]; exact mv_le _ _ _ _ _
    omega
/-- a state that nothing comes to is passed over -/
theorem Qt_skip {O : Nat → Nat} {c : Nat} {st : Nat → Nat} {i t : Nat} {A : Nat → Int32} (h : okX A (Qt O c st i t)) (hno : ∀ w k, e8 w = t → ¬ RC O c st i w k) : okX A (Qt O c st i (t + 1)) := by
  refine ok_conv h (fun w _ k hk => ?_) (fun w _ k hk => ⟨k, Nat.le_refl _, ?_⟩)
  · rcases hk with hk | ⟨w', k', up, a, b⟩
    · exact Or.inl hk
    · exact Or.inr ⟨w', k', up, by omega, b⟩
  · rcases hk with hk | ⟨w', k', up, a, b, d⟩
    · exact Or.inl hk
    · by_cases e : e8 w' = t
      · exact absurd b (hno w' k' e)
      · exact Or.inr ⟨w', k', up, by omega, b, d⟩
theorem Qt_go {O : Nat → Nat} {c : Nat} {st : Nat → Nat} (hst : dig st) {i : Nat} {w0 : Nat → Nat} (hw0 : dig w0) {z : Nat} {A : Nat → Int32} (hz : RC O c st i w0 z) (hm : ∀ z', RC O c st i w0 z' → z ≤ z')
    (h : okX A (fun w k => Qt O c st i (e8 w0) w k ∨ ∃ u, 1 ≤ u ∧ u ≤ plc (O i) c ∧ k = z + u ∧ ∀ j, j < 4 → w j = mv (O i) c u w0 j)) : okX A (Qt O c st i (e8 w0 + 1)) := by
  refine ok_conv h (fun w _ k hk => ?_) (fun w _ k hk => ?_)
  · rcases hk with (hk | ⟨w', k', up, a, b⟩) | ⟨u, a, b, d, e⟩
    · exact Or.inl hk
    · exact Or.inr ⟨w', k', up, by omega, b⟩
    · exact Or.inr ⟨w0, z, u, by omega, hz, a, b, d, e⟩
  · rcases hk with hk | ⟨w', k', up, a, b, d, e, f, g⟩
    · exact ⟨k, Nat.le_refl _, Or.inl (Or.inl hk)⟩
    · by_cases e2 : e8 w' = e8 w0
      · have hd : dig w' := fun j hj => Nat.le_trans ((RC_bd b).1 j hj) (hst j hj)
        have hj := e8_inj hd hw0 e2
        have := hm k' (RC_congr b hj)
        exact ⟨z + up, by omega, Or.inr ⟨up, d, e, rfl, fun j hj4 => by rw [g j hj4]; exact mv_congr (hj j hj4)⟩⟩
      · exact ⟨k, Nat.le_refl _, Or.inl (Or.inr ⟨w', k', up, by omega, b, d, e, f, g⟩)⟩
theorem i_1M : nI 1000000 = 1000000 := by decide
theorem x_f60 {post : Int32 → SX → Prop} {J : Int32 → Int32 → (Nat → Int32) → (Nat → Int32) → (Nat → Int32) → (Nat → Int32) → (Nat → Int32) → (Nat → Int32) → (Nat → Int32) → (Nat → Int32) → (Nat → Int32) → (Nat → Int32) → (Nat → Int32) → (Nat → Int32) → (Nat → Int32) → (Nat → Int32) → (Nat → Int32) → Prop} {u : SX} {n : Nat} {O : Nat → Nat} {V : Nat → Int32} (h : zRV n O V u) {c i : Nat} (hc : c < 5) (hi : i < n) {st : Nat → Nat} (hst : dig st) (hok : okX u.2.2.2.2.2.2.2.2.2.2.2.2.2.2.1 (RC O c st i))
    (hp : ∀ u', zRV n O V u' → okX u'.2.2.2.2.2.2.2.2.2.2.2.2.2.2.1 (RC O c st (i + 1)) → J (nI (i + 1)) u'.1 u'.2.1 u'.2.2.1 u'.2.2.2.1 u'.2.2.2.2.1 u'.2.2.2.2.2.1 u'.2.2.2.2.2.2.1 u'.2.2.2.2.2.2.2.1 u'.2.2.2.2.2.2.2.2.1 u'.2.2.2.2.2.2.2.2.2.1 u'.2.2.2.2.2.2.2.2.2.2.1 u'.2.2.2.2.2.2.2.2.2.2.2.1 u'.2.2.2.2.2.2.2.2.2.2.2.2.1 u'.2.2.2.2.2.2.2.2.2.2.2.2.2.1 u'.2.2.2.2.2.2.2.2.2.2.2.2.2.2.1 u'.2.2.2.2.2.2.2.2.2.2.2.2.2.2.2) : ∃ m, wX_fewestSwaps_60 post J (nI c) (nI (e8 st)) (nI i) m 0 u.1 u.2.1 u.2.2.1 u.2.2.2.1 u.2.2.2.2.1 u.2.2.2.2.2.1 u.2.2.2.2.2.2.1 u.2.2.2.2.2.2.2.1 u.2.2.2.2.2.2.2.2.1 u.2.2.2.2.2.2.2.2.2.1 u.2.2.2.2.2.2.2.2.2.2.1 u.2.2.2.2.2.2.2.2.2.2.2.1 u.2.2.2.2.2.2.2.2.2.2.2.2.1 u.2.2.2.2.2.2.2.2.2.2.2.2.2.1 u.2.2.2.2.2.2.2.2.2.2.2.2.2.2.1 u.2.2.2.2.2.2.2.2.2.2.2.2.2.2.2 := by
  have hn := h.1.1.1
  have hl := e8_lt hst
  refine pk_loop (σ := SX) (fun m' t s => wX_fewestSwaps_60 post J (nI c) (nI (e8 st)) (nI i) m' (nI t) s.1 s.2.1 s.2.2.1 s.2.2.2.1 s.2.2.2.2.1 s.2.2.2.2.2.1 s.2.2.2.2.2.2.1 s.2.2.2.2.2.2.2.1 s.2.2.2.2.2.2.2.2.1 s.2.2.2.2.2.2.2.2.2.1 s.2.2.2.2.2.2.2.2.2.2.1 s.2.2.2.2.2.2.2.2.2.2.2.1 s.2.2.2.2.2.2.2.2.2.2.2.2.1 s.2.2.2.2.2.2.2.2.2.2.2.2.2.1 s.2.2.2.2.2.2.2.2.2.2.2.2.2.2.1 s.2.2.2.2.2.2.2.2.2.2.2.2.2.2.2) (fun t s => zRV n O V s ∧ okX s.2.2.2.2.2.2.2.2.2.2.2.2.2.2.1 (Qt O c st i t)) (e8 st + 1) 0 u (by omega) ⟨h, Qt_0 hok⟩ ?_ ?_
  · rintro m' ⟨xc'', xo'', xr'', xp'', xm'', xb'', xs'', xq'', xn'', xu'', xl'', xg'', xk'', xt'', xw'', xv''⟩ ⟨hX2, hok2⟩
    dsimp only at hok2 ⊢
    rw [wX_fewestSwaps_60]
    exact br_t (nI_lt (by omega) (by omega)) (nm_r (nI_1 i) (hp (xc'', xo'', xr'', xp'', xm'', xb'', xs'', xq'', xn'', xu'', xl'', xg'', xk'', xt'', xw'', xv'') hX2 (Qt_end hok2)))
  · rintro m' t ⟨xc'', xo'', xr'', xp'', xm'', xb'', xs'', xq'', xn'', xu'', xl'', xg'', xk'', xt'', xw'', xv''⟩ ht ⟨hX2, hok2⟩ hK'
    dsimp only at hok2 hK' ⊢
    rw [wX_fewestSwaps_60]
    refine br_f (nI_nlt (by omega) (by omega)) ⟨vp_in_nI (by omega) (by decide), ?_⟩
    rw [nI_clamp (by omega), ← i_1M]
    by_cases hv : ∃ w0, dig w0 ∧ e8 w0 = t
    · obtain ⟨w0, hw0, e0⟩ := hv
      subst e0
      rcases hok2.1 w0 hw0 with ⟨z, a, b, d, f⟩ | ⟨a, b⟩
      · have hz := Qt_self d
        have hz2 := (RC_bd hz).2
        refine br_f (by rw [b]; exact nI_ge (by omega) (by decide)) ?_
        refine x_mf hX2.1 hi hc hw0 (z := z) (by omega) b hok2 (fun A' hA' => nm_r (nI_1 _) (hK' (xc'', xo'', xr'', xp'', xm'', xb'', xs'', xq'', xn'', xu'', xl'', xg'', xk'', xt'', A', xv'') ⟨rv_any hX2, Qt_go hst hw0 hz (fun z' hz' => f z' (Or.inl hz')) hA'⟩))
      · exact br_t (by rw [a]; exact nI_le (Nat.le_refl _) (by decide)) (nm_r (nI_1 _) (hK' (xc'', xo'', xr'', xp'', xm'', xb'', xs'', xq'', xn'', xu'', xl'', xg'', xk'', xt'', xw'', xv'') ⟨hX2, Qt_skip hok2 (fun w k ew hr => b k (Or.inl (RC_congr hr (e8_inj (fun j hj => Nat.le_trans ((RC_bd hr).1 j hj) (hst j hj)) hw0 ew))))⟩))
    · exact br_t (by rw [hok2.2 t (by omega) (fun w hw ew => hv ⟨w, hw, ew⟩)]; exact nI_le (Nat.le_refl _) (by decide)) (nm_r (nI_1 _) (hK' (xc'', xo'', xr'', xp'', xm'', xb'', xs'', xq'', xn'', xu'', xl'', xg'', xk'', xt'', xw'', xv'') ⟨hX2, Qt_skip hok2 (fun w k ew hr => hv ⟨w, fun j hj => Nat.le_trans ((RC_bd hr).1 j hj) (hst j hj), ew⟩)⟩))
theorem x_f49 {post : Int32 → SX → Prop} {u : SX} {n : Nat} {O : Nat → Nat} {V : Nat → Int32} (h : zRV n O V u) {c : Nat} (hc : c < 5) (h0 : 0 < n) (hok : okX u.2.2.2.2.2.2.2.2.2.2.2.2.2.2.1 (RC O c (stn n O c) 0)) (hp : ∀ z u', isSw n O c z → zRV n O V u' → post (iI z) u') : ∃ m, wX_fewestSwaps_49 post (nI c) (nI (e8 (stn n O c))) m 0 u.1 u.2.1 u.2.2.1 u.2.2.2.1 u.2.2.2.2.1 u.2.2.2.2.2.1 u.2.2.2.2.2.2.1 u.2.2.2.2.2.2.2.1 u.2.2.2.2.2.2.2.2.1 u.2.2.2.2.2.2.2.2.2.1 u.2.2.2.2.2.2.2.2.2.2.1 u.2.2.2.2.2.2.2.2.2.2.2.1 u.2.2.2.2.2.2.2.2.2.2.2.2.1 u.2.2.2.2.2.2.2.2.2.2.2.2.2.1 u.2.2.2.2.2.2.2.2.2.2.2.2.2.2.1 u.2.2.2.2.2.2.2.2.2.2.2.2.2.2.2 := by
  have hn := h.1.1.1
  have hst := stn_5 hn O c
  have hO : ∀ i, i < n → isr (O i) = true := fun i hi => (h.1.1.2.2 i hi).1
  refine pk_loop (σ := SX) (fun m i s => wX_fewestSwaps_49 post (nI c) (nI (e8 (stn n O c))) m (nI i) s.1 s.2.1 s.2.2.1 s.2.2.2.1 s.2.2.2.2.1 s.2.2.2.2.2.1 s.2.2.2.2.2.2.1 s.2.2.2.2.2.2.2.1 s.2.2.2.2.2.2.2.2.1 s.2.2.2.2.2.2.2.2.2.1 s.2.2.2.2.2.2.2.2.2.2.1 s.2.2.2.2.2.2.2.2.2.2.2.1 s.2.2.2.2.2.2.2.2.2.2.2.2.1 s.2.2.2.2.2.2.2.2.2.2.2.2.2.1 s.2.2.2.2.2.2.2.2.2.2.2.2.2.2.1 s.2.2.2.2.2.2.2.2.2.2.2.2.2.2.2) (fun i s => zRV n O V s ∧ okX s.2.2.2.2.2.2.2.2.2.2.2.2.2.2.1 (RC O c (stn n O c) i)) n 0 u (by omega) ⟨h, hok⟩ ?_ ?_
  · rintro m ⟨xc', xo', xr', xp', xm', xb', xs', xq', xn', xu', xl', xg', xk', xt', xw', xv'⟩ ⟨hX, hok⟩
    dsimp only at hok ⊢
    have hc' := hX.1.1.2.1
    dsimp only at hc'
    subst hc'
    rw [wX_fewestSwaps_49]
    refine br_t (nI_le (Nat.le_refl _) (by omega)) ?_
    obtain ⟨z, ez, hz⟩ := sw_fin h0 hO hc (E := e8) rfl hok
    rw [ez]
    exact hp z _ hz hX
  · rintro m i ⟨xc', xo', xr', xp', xm', xb', xs', xq', xn', xu', xl', xg', xk', xt', xw', xv'⟩ hi ⟨hX, hok⟩ hK
    dsimp only at hok hK ⊢
    have hc' := hX.1.1.2.1
    dsimp only at hc'
    subst hc'
    rw [wX_fewestSwaps_49]
    exact br_f (nI_ge hi (by omega)) (x_f60 (u := ((nI n), xo', xr', xp', xm', xb', xs', xq', xn', xu', xl', xg', xk', xt', xw', xv')) hX hc hi hst hok (fun u' hX' hok' => hK u' ⟨hX', hok'⟩))
theorem x_fsw {post : Int32 → SX → Prop} {u : SX} {n : Nat} {O : Nat → Nat} {V : Nat → Int32} (h : zRV n O V u) {c : Nat} (hc : c < 5) (hp : ∀ z u', isSw n O c z → zRV n O V u' → post (iI z) u') : wpX_fewestSwaps post u (nI c) := by
  obtain ⟨xc, xo, xr, xp, xm, xb, xs, xq, xn, xu, xl, xg, xk, xt, xw, xv⟩ := u
  have hn := h.1.1.1
  have h1 := h.1.1.2.1
  dsimp only at h1
  have hst := stn_5 hn O c
  have hl := e8_lt hst
  unfold wpX_fewestSwaps
  dsimp only
  refine pk_eq n 0 (fun e => ?_) (fun e => ?_) h1
  · have := hp (-1002) _ (Or.inl ⟨e, rfl⟩) h
    rw [show iI (-1002) = -1002 from by decide] at this
    exact this
  · refine pk_loop (σ := Nat → Int32) (fun m t A => wX_fewestSwaps_13 post (nI c) xc m (nI t) xo xr xp xm xb xs xq xn xu xl xg xk xt A xv) (fun t A => ∀ j, j < t → A j = nI 1000000) 4096 0 xw (by omega) (fun j hj => by omega) ?_ ?_
    · intro m A hA
      rw [wX_fewestSwaps_13]
      refine br_t (nI_le (a := 4096) (Nat.le_refl _) (by decide)) (x_nd (n := n) (O := O) ?_ hc ?_)
      · exact rx_any h.1
      refine ⟨vp_in_nI hl (by decide), nm_r (e' := upd A (e8 (stn n O c)) (nI 0)) (by rw [nI_clamp (by omega), nI_0]) ?_⟩
      refine x_f49 (u := (xc, xo, xr, xp, xm, xb, xs, xq, xn, xu, xl, xg, xk, xt, (upd A (e8 (stn n O c)) (nI 0)), xv)) (rv_any h) hc (by omega) ?_ hp
      refine ⟨fun w hw => ?_, fun t ht hno => ?_⟩
      · dsimp only
        by_cases ew : e8 w = e8 (stn n O c)
        · rw [ew, pk_us]
          exact Or.inl ⟨0, by omega, rfl, ⟨e8_inj hw hst ew, rfl⟩, fun z' _ => Nat.zero_le _⟩
        · rw [pk_un ew, hA _ (e8_lt hw)]
          exact Or.inr ⟨rfl, fun z' hz' => ew (e8_congr hz'.1)⟩
      · dsimp only
        rw [pk_un (fun z => hno _ hst z.symm), hA t ht]
    · intro m t A ht hA hK
      rw [wX_fewestSwaps_13]
      refine br_f (nI_ge (b := 4096) ht (by decide)) ⟨vp_in_nI ht (by decide), nm_r (e' := upd A t (nI 1000000)) (by rw [nI_clamp (by omega), i_1M]) (nm_r (nI_1 t) (hK (upd A t (nI 1000000)) (fun j hj => ?_)))⟩
      by_cases ej : j = t
      · subst ej; exact pk_us
      · rw [pk_un ej]; exact hA j (by omega)
end
section
/-! ===== swaps: the reference's walk ===== -/
def wtx (c x : Nat) : Nat := if x ≤ c then x else x - 1
theorem wtx_p {c x : Nat} (h : x ≠ c) : wtx c x = pst c x := by
  unfold wtx pst
  by_cases e : x < c
  · rw [if_pos e, if_pos (by omega)]
  · rw [if_neg e, if_neg (by omega)]
theorem pw6 : ∀ j, j < 5 → 0 < 6 ^ j ∧ 6 ^ j ≤ 1296 := by decide
theorem y_wt {post : Int32 → Prop} {yn yc : Int32} {yo yp ym ys yl yb yw yk yt yz yx : Nat → Int32} {c x : Nat} (hc : c < 5) (hx : x < 5) (hp : post (nI (6 ^ wtx c x))) : wpY_weight post (yn, yc, yo, yp, ym, ys, yl, yb, yw, yk, yt, yz, yx) (nI x) (nI c) := by
  unfold wpY_weight
  dsimp only
  refine pk_loop (σ := Int32) (fun m k a => wY_weight_5 post (nI x) (nI c) yn yc yo yp ym ys yl yb yw yk yt yz yx m a (nI k)) (fun k a => a = nI (6 ^ wtx c k)) x 0 1 (by omega) rfl ?_ ?_
  · rintro m a rfl
    rw [wY_weight_5]
    exact br_t (nI_le (Nat.le_refl _) (by omega)) hp
  · rintro m k a hk rfl hK
    rw [wY_weight_5]
    refine br_f (nI_ge hk (by omega)) (pk_eq k c (fun e => nm_r (nI_1 k) (hK _ ?_)) (fun e => nm_r (e' := nI (6 ^ wtx c (k + 1))) ?_ (nm_r (nI_1 k) (hK _ rfl))))
    · unfold wtx
      rw [if_pos (by omega), if_neg (by omega)]; rfl
    · rw [show (6 : Int32) = nI 6 from rfl, pk_mul, ← Nat.pow_succ]
      refine congrArg (fun q => nI (6 ^ q)) ?_
      unfold wtx
      by_cases e2 : k < c
      · rw [if_pos (by omega), if_pos (by omega)]
      · rw [if_neg (by omega), if_neg (by omega)]; omega
def okY (A : Nat → Int32) (Q : (Nat → Nat) → Nat → Prop) : Prop := okA e6 1000 1296 A Q
theorem okY_ins {A : Nat → Int32} {Q : (Nat → Nat) → Nat → Prop} (h : okY A Q) {v : Nat → Nat} (hv : dig v) {c : Nat} (hc : c < 1000) :
    (A (e6 v) ≤ nI c → okY A (fun w k => Q w k ∨ (k = c ∧ ∀ j, j < 4 → w j = v j))) ∧ (¬ A (e6 v) ≤ nI c → okY (upd A (e6 v) (nI c)) (fun w k => Q w k ∨ (k = c ∧ ∀ j, j < 4 → w j = v j))) :=
  ok_ins (fun _ _ a b e => e6_inj a b e) (fun _ _ e => e6_congr e) (by omega) (by omega) h hv hc
/-- each state of the reference has its digits -/
theorem e6_of {t : Nat} (ht : t < 1296) : ∃ w, dig w ∧ e6 w = t := by
  refine ⟨fun j => t / 6 ^ j % 6, fun j _ => ?_, ?_⟩
  · have : t / 6 ^ j % 6 < 6 := Nat.mod_lt _ (by decide)
    dsimp only; omega
  · unfold e6
    simp; omega
def mvA (o c up x : Nat) (w : Nat → Nat) : Nat → Nat := fun j => if oth c j < x then mv o c up w j else w j
theorem mvA_dig {o c up x : Nat} {w : Nat → Nat} (h : dig w) : dig (mvA o c up x w) := by
  intro j hj
  unfold mvA
  split
  · exact Nat.le_trans (mv_le o c up w j) (h j hj)
  · exact h j hj
theorem y_gu {post : SY → Prop} {yn yc : Int32} {yo yp ym ys yl yb yw yk yt yz yx : Nat → Int32} {n : Nat} {O : Nat → Nat} (h : zRY n O (yn, yc, yo, yp, ym, ys, yl, yb, yw, yk, yt, yz, yx)) {i c up : Nat} (hi : i < n) (hc : c < 5) (hup : up ≤ plc (O i) c) {st : Nat → Nat} (hst : dig st) {Q : (Nat → Nat) → Nat → Prop} (hz : okY yz (RC O c st i)) (hx : okY yx Q)
    (hp : ∀ A', okY A' (fun w k => Q w k ∨ ∃ (w' : Nat → Nat) (k' : Nat), RC O c st i w' k' ∧ k = k' + up ∧ ∀ j, j < 4 → w j = mv (O i) c up w' j) → post (yn, yc, yo, yp, ym, ys, yl, yb, yw, yk, yt, yz, A')) : wpY_goUp post (yn, yc, yo, yp, ym, ys, yl, yb, yw, yk, yt, yz, yx) (nI i) (nI c) (nI up) := by
  have hn := h.1
  have hB := h.2.2 i hi
  have ho := hB.1
  have hpl : ∀ c, c < 5 → yp (5 * i + c) = nI (plc (O i) c) := hB.2.2
  have hP := plc_4 (O i) c
  unfold wpY_goUp
  dsimp only
  refine pk_loop (σ := Nat → Int32) (fun m t A => wY_goUp_3 post (nI i) (nI c) (nI up) yn yc m (nI t) yo yp ym ys yl yb yw yk yt yz A) (fun t A => okY A (fun w k => Q w k ∨ ∃ (w' : Nat → Nat) (k' : Nat), e6 w' < t ∧ RC O c st i w' k' ∧ k = k' + up ∧ ∀ j, j < 4 → w j = mv (O i) c up w' j)) 1296 0 yx (by omega) ?_ ?_ ?_
  · exact ok_conv hx (fun w _ k hk => Or.inl hk) (fun w _ k hk => ⟨k, Nat.le_refl _, hk.elim id (fun ⟨w', k', a, _⟩ => by omega)⟩)
  · intro m A hA
    rw [wY_goUp_3]
    refine br_t (by decide) (hp A (ok_conv hA (fun w _ k hk => ?_) (fun w _ k hk => ⟨k, Nat.le_refl _, ?_⟩)))
    · rcases hk with hk | ⟨w', k', a, b⟩
      · exact Or.inl hk
      · exact Or.inr ⟨w', k', b⟩
    · rcases hk with hk | ⟨w', k', b, d⟩
      · exact Or.inl hk
      · exact Or.inr ⟨w', k', e6_lt (fun j hj => Nat.le_trans ((RC_bd b).1 j hj) (hst j hj)), b, d⟩
  · intro m t A ht hA hK
    rw [wY_goUp_3]
    obtain ⟨w0, hw0, e0⟩ := e6_of ht
    subst e0
    refine br_f (nI_ge (b := 1296) ht (by decide)) ⟨vp_in_nI ht (by decide), ?_⟩
    rw [nI_clamp (by omega)]
    rcases hz.1 w0 hw0 with ⟨z, z1, ez, hq, hmin⟩ | ⟨ez, hno⟩
    · have hzb := (RC_bd hq).2
      refine br_f (by rw [ez]; exact nI_ge (b := 1000) z1 (by decide)) ?_
      refine pk_loop (σ := Int32) (fun m' x to => wY_goUp_31 post (wY_goUp_3 post (nI i) (nI c) (nI up) yn yc m) (nI i) (nI c) (nI up) (nI (e6 w0)) yn yc yo yp ym ys yl yb yw yk yt yz A m' to (nI x)) (fun x to => to = nI (e6 (mvA (O i) c up x w0))) 5 0 (nI (e6 w0)) (by omega) (congrArg nI (e6_congr fun j _ => (if_neg (by omega)).symm)) ?_ ?_
      · rintro m' to rfl
        rw [wY_goUp_31]
        have em : e6 (mvA (O i) c up 5 w0) = e6 (mv (O i) c up w0) := e6_congr fun j hj => if_pos (oth_f hc hj).1
        have hdm : dig (mv (O i) c up w0) := mv_dig hw0
        have hlm := e6_lt hdm
        rw [em]
        have hin := okY_ins hA hdm (show z + up < 1000 by omega)
        have conv : ∀ A', okY A' (fun w k => (Q w k ∨ ∃ (w' : Nat → Nat) (k' : Nat), e6 w' < e6 w0 ∧ RC O c st i w' k' ∧ k = k' + up ∧ ∀ j, j < 4 → w j = mv (O i) c up w' j) ∨ (k = z + up ∧ ∀ j, j < 4 → w j = mv (O i) c up w0 j)) → okY A' (fun w k => Q w k ∨ ∃ (w' : Nat → Nat) (k' : Nat), e6 w' < e6 w0 + 1 ∧ RC O c st i w' k' ∧ k = k' + up ∧ ∀ j, j < 4 → w j = mv (O i) c up w' j) := by
          intro A' hA'
          refine ok_conv hA' (fun w _ k hk => ?_) (fun w _ k hk => ?_)
          · rcases hk with (hk | ⟨w', k', a, b⟩) | ⟨a, b⟩
            · exact Or.inl hk
            · exact Or.inr ⟨w', k', by omega, b⟩
            · exact Or.inr ⟨w0, z, by omega, hq, a, b⟩
          · rcases hk with hk | ⟨w', k', a, b, d, f⟩
            · exact ⟨k, Nat.le_refl _, Or.inl (Or.inl hk)⟩
            · by_cases e2 : e6 w' = e6 w0
              · have hd : dig w' := fun j hj => Nat.le_trans ((RC_bd b).1 j hj) (hst j hj)
                have hj := e6_inj hd hw0 e2
                have := hmin k' (RC_congr b hj)
                exact ⟨z + up, by omega, Or.inr ⟨rfl, fun j hj4 => by rw [f j hj4]; exact mv_congr (hj j hj4)⟩⟩
              · exact ⟨k, Nat.le_refl _, Or.inl (Or.inr ⟨w', k', by omega, b, d, f⟩)⟩
        refine br_t (by decide) ⟨vp_in_nI ht (by decide), vp_in_nI hlm (by decide), ?_⟩
        rw [nI_clamp (n := e6 w0) (by omega), nI_clamp (n := e6 (mv (O i) c up w0)) (by omega), ez, nI_add]
        exact br_c (fun hle => nm_r (nI_1 _) (hK A (conv A (hin.1 hle)))) (fun hgt => ⟨vp_in_nI ht (by decide), vp_in_nI hlm (by decide), nm_e (nm_r (nI_1 _) (hK (upd A (e6 (mv (O i) c up w0)) (nI (z + up))) (conv _ (hin.2 hgt))))⟩)
      · rintro m' x to hx5 rfl hK'
        rw [wY_goUp_31]
        have px := (rc_all ho hx5).2.2.1
        have pc := (rc_all ho hc).2.2.1
        have hdA : dig (mvA (O i) c up x w0) := mvA_dig hw0
        have hlA := e6_lt hdA
        have hw6 := pw6 (wtx c x) (by unfold wtx; split <;> omega)
        refine br_f (nI_ge (b := 5) hx5 (by decide)) ⟨by rw [vn_5b]; exact vp_in_nI (by omega) (by decide), by rw [vn_5b]; exact vp_in_nI (by omega) (by decide), nm_r (e' := iI ((plc (O i) c : Int) - plc (O i) x)) (by rw [vn_5b, vn_5b, nI_clamp (by omega), nI_clamp (by omega), hpl c hc, hpl x hx5, ← vs_iN, ← vs_iN, vs_sub]) (y_wt hc hx5 ?_)⟩
        have same : (∀ j, j < 4 → oth c j = x → mv (O i) c up w0 j = w0 j) → nI (e6 (mvA (O i) c up x w0)) = nI (e6 (mvA (O i) c up (x + 1) w0)) := by
          intro hs
          refine congrArg nI (e6_congr fun j hj => ?_)
          unfold mvA
          by_cases e1 : oth c j < x
          · rw [if_pos e1, if_pos (by omega)]
          · by_cases e2 : oth c j = x
            · rw [if_neg e1, if_pos (by omega), hs j hj e2]
            · rw [if_neg e1, if_neg (by omega)]
        refine pk_eq x c (fun e => nm_r (nI_1 x) (hK' _ (same fun j hj e2 => absurd (e2.trans e) (oth_f hc hj).2.1))) (fun hne => ?_)
        have hps := pst_f hc hx5 hne
        have hj : ∀ j, j < 4 → oth c j = x → j = pst c x := fun j hj e2 => by rw [← (oth_f hc hj).2.2, e2]
        refine vi_le _ 0 (fun hle => nm_r (nI_1 x) (hK' _ (same fun j hj4 e2 => ?_))) (fun hgt => ?_)
        · unfold mv; rw [e2, if_neg (by omega)]
        · refine vi_lt (up : Int) _ (fun hlt => nm_r (nI_1 x) (hK' _ (same fun j hj4 e2 => ?_))) (fun hge => ?_) (vs_iN up).symm
          · unfold mv; rw [e2, if_neg (by omega)]
          · have hval : mvA (O i) c up x w0 (pst c x) = w0 (pst c x) := if_neg (by rw [hps.2]; omega)
            have hmv : mv (O i) c up w0 (pst c x) = w0 (pst c x) - 1 := by
              unfold mv; rw [hps.2, if_pos (by omega)]
            have hstep : ∀ j, j < 4 → mvA (O i) c up (x + 1) w0 j = dec1 (mvA (O i) c up x w0) (pst c x) j := by
              intro j hj4
              unfold dec1
              by_cases e1 : j = pst c x
              · rw [if_pos e1, e1, hval]
                unfold mvA
                rw [if_pos (by rw [hps.2]; omega), hmv]
              · rw [if_neg e1]
                have : oth c j ≠ x := fun e2 => e1 (hj j hj4 e2)
                unfold mvA
                by_cases e3 : oth c j < x
                · rw [if_pos e3, if_pos (by omega)]
                · rw [if_neg e3, if_neg (by omega)]
            rw [wtx_p hne] at hw6 ⊢
            refine br_t (nI_le (a := 1) hw6.1 (by omega)) ?_
            unfold wY_goUp_101
            have hdg : nI (e6 (mvA (O i) c up x w0)) / nI (6 ^ pst c x) = nI (e6 (mvA (O i) c up x w0) / 6 ^ pst c x) := pk_div (by omega) hw6.1 (by omega)
            have hdl : e6 (mvA (O i) c up x w0) / 6 ^ pst c x ≤ e6 (mvA (O i) c up x w0) := Nat.div_le_self _ _
            have hdg2 : nI (e6 (mvA (O i) c up x w0) / 6 ^ pst c x) - nI (e6 (mvA (O i) c up x w0) / 6 ^ pst c x) / 6 * 6 = nI (w0 (pst c x)) := by
              have := pk_rem (a := e6 (mvA (O i) c up x w0) / 6 ^ pst c x) (d := 6) (by omega) (by decide) (by decide)
              rw [e6_dig hdA _ hps.1, hval] at this
              exact this
            rw [hdg, hdg2]
            have h5 := hw0 (pst c x) hps.1
            refine ⟨fun z => nI_ne0 hw6.1 (by omega) z, by decide, pk_le (w0 (pst c x)) 0 (fun h0 => nm_r (nI_1 x) (hK' _ ?_)) (fun h0 => nm_r (e' := nI (e6 (mvA (O i) c up (x + 1) w0))) ?_ (nm_r (nI_1 x) (hK' _ rfl)))⟩
            · refine congrArg nI (e6_congr fun j hj4 => ?_)
              rw [hstep j hj4, dec_0 (by rw [hval]; omega)]
            · have hd := e6_dec (w := mvA (O i) c up x w0) _ hps.1 (by rw [hval]; exact h0)
              rw [pk_sub hd.1, hd.2]
              exact congrArg nI (e6_congr fun j hj4 => (hstep j hj4).symm)
    · refine br_t (by rw [ez]; decide) (nm_r (nI_1 _) (hK A (ok_conv hA (fun w _ k hk => ?_) (fun w _ k hk => ⟨k, Nat.le_refl _, ?_⟩))))
      · rcases hk with hk | ⟨w', k', a, b⟩
        · exact Or.inl hk
        · exact Or.inr ⟨w', k', by omega, b⟩
      · rcases hk with hk | ⟨w', k', a, b, d⟩
        · exact Or.inl hk
        · by_cases e2 : e6 w' = e6 w0
          · have hd : dig w' := fun j hj => Nat.le_trans ((RC_bd b).1 j hj) (hst j hj)
            exact absurd (RC_congr b (e6_inj hd hw0 e2)) (hno k')
          · exact Or.inr ⟨w', k', by omega, b, d⟩
end
section
/-! ===== swaps: the reference's main loops, and the claim ===== -/
theorem ok_cp {E : (Nat → Nat) → Nat} {F N : Nat} {A B : Nat → Int32} {Q : (Nat → Nat) → Nat → Prop} (hE : ∀ w, dig w → E w < N) (h : okA E F N A Q) (e : ∀ j, j < N → B j = A j) : okA E F N B Q :=
  ⟨fun w hw => by rw [e _ (hE w hw)]; exact h.1 w hw, fun t ht hno => by rw [e t ht]; exact h.2 t ht hno⟩
theorem y_s198 {post : Int32 → SY → Prop} {J : Int32 → Int32 → Int32 → (Nat → Int32) → (Nat → Int32) → (Nat → Int32) → (Nat → Int32) → (Nat → Int32) → (Nat → Int32) → (Nat → Int32) → (Nat → Int32) → (Nat → Int32) → (Nat → Int32) → (Nat → Int32) → Prop} {yn yc : Int32} {yo yp ym ys yl yb yw yk yt yz yx : Nat → Int32} {c i : Nat} (hp : ∀ A, (∀ j, j < 1296 → A j = yx j) → J (nI (i + 1)) yn yc yo yp ym ys yl yb yw yk yt A yx) : ∃ m, wY_swaps_198 post J (nI c) (nI i) yn yc m 0 yo yp ym ys yl yb yw yk yt yz yx := by
  refine pk_loop (σ := Nat → Int32) (fun m t A => wY_swaps_198 post J (nI c) (nI i) yn yc m (nI t) yo yp ym ys yl yb yw yk yt A yx) (fun t A => ∀ j, j < t → A j = yx j) 1296 0 yz (by omega) (fun j hj => by omega) ?_ ?_
  · intro m A hA
    rw [wY_swaps_198]
    exact br_t (by decide) (nm_r (nI_1 i) (hp A hA))
  · intro m t A ht hA hK
    rw [wY_swaps_198]
    refine br_f (nI_ge (b := 1296) ht (by decide)) ⟨vp_in_nI ht (by decide), vp_in_nI ht (by decide), nm_r (e' := upd A t (yx t)) (by rw [nI_clamp (by omega)]) (nm_r (nI_1 t) (hK (upd A t (yx t)) (fun j hj => ?_)))⟩
    by_cases ej : j = t
    · subst ej; exact pk_us
    · rw [pk_un ej]; exact hA j (by omega)
theorem y_s166 {post : Int32 → SY → Prop} {J : Int32 → Int32 → Int32 → (Nat → Int32) → (Nat → Int32) → (Nat → Int32) → (Nat → Int32) → (Nat → Int32) → (Nat → Int32) → (Nat → Int32) → (Nat → Int32) → (Nat → Int32) → (Nat → Int32) → (Nat → Int32) → Prop} {v : SY} {n : Nat} {O : Nat → Nat} (h : zRY n O v) {c i : Nat} (hc : c < 5) (hi : i < n) {st : Nat → Nat} (hst : dig st) (hok : okY v.2.2.2.2.2.2.2.2.2.2.2.1 (RC O c st i)) (hnx : ∀ t, t < 1296 → v.2.2.2.2.2.2.2.2.2.2.2.2 t = nI 1000)
    (hp : ∀ v', zRY n O v' → okY v'.2.2.2.2.2.2.2.2.2.2.2.1 (RC O c st (i + 1)) → J (nI (i + 1)) v'.1 v'.2.1 v'.2.2.1 v'.2.2.2.1 v'.2.2.2.2.1 v'.2.2.2.2.2.1 v'.2.2.2.2.2.2.1 v'.2.2.2.2.2.2.2.1 v'.2.2.2.2.2.2.2.2.1 v'.2.2.2.2.2.2.2.2.2.1 v'.2.2.2.2.2.2.2.2.2.2.1 v'.2.2.2.2.2.2.2.2.2.2.2.1 v'.2.2.2.2.2.2.2.2.2.2.2.2) : ∃ m, wY_swaps_166 post J (nI c) (nI i) m 0 v.1 v.2.1 v.2.2.1 v.2.2.2.1 v.2.2.2.2.1 v.2.2.2.2.2.1 v.2.2.2.2.2.2.1 v.2.2.2.2.2.2.2.1 v.2.2.2.2.2.2.2.2.1 v.2.2.2.2.2.2.2.2.2.1 v.2.2.2.2.2.2.2.2.2.2.1 v.2.2.2.2.2.2.2.2.2.2.2.1 v.2.2.2.2.2.2.2.2.2.2.2.2 := by
  have hn := h.1
  have hP := plc_4 (O i) c
  refine pk_loop (σ := SY) (fun m up s => wY_swaps_166 post J (nI c) (nI i) m (nI up) s.1 s.2.1 s.2.2.1 s.2.2.2.1 s.2.2.2.2.1 s.2.2.2.2.2.1 s.2.2.2.2.2.2.1 s.2.2.2.2.2.2.2.1 s.2.2.2.2.2.2.2.2.1 s.2.2.2.2.2.2.2.2.2.1 s.2.2.2.2.2.2.2.2.2.2.1 s.2.2.2.2.2.2.2.2.2.2.2.1 s.2.2.2.2.2.2.2.2.2.2.2.2) (fun up s => zRY n O s ∧ okY s.2.2.2.2.2.2.2.2.2.2.2.1 (RC O c st i) ∧ okY s.2.2.2.2.2.2.2.2.2.2.2.2 (fun w k => ∃ (w' : Nat → Nat) (k' u : Nat), u < up ∧ RC O c st i w' k' ∧ k = k' + u ∧ ∀ j, j < 4 → w j = mv (O i) c u w' j)) (plc (O i) c + 1) 0 v (by omega) ⟨h, hok, fun w hw => Or.inr ⟨hnx _ (e6_lt hw), fun z' ⟨w', k', u, a, _⟩ => by omega⟩, fun t ht _ => hnx t ht⟩ ?_ ?_
  · rintro m ⟨yn', yc', yo', yp', ym', ys', yl', yb', yw', yk', yt', yz', yx'⟩ ⟨hY, hz, hx⟩
    dsimp only at hz hx ⊢
    have hpl : yp' (5 * i + c) = nI (plc (O i) c) := (hY.2.2 i hi).2.2 c hc
    rw [wY_swaps_166]
    refine ⟨by rw [vn_5b]; exact vp_in_nI (by omega) (by decide), ?_⟩
    rw [vn_5b, nI_clamp (by omega), hpl]
    refine br_t (nI_lt (by omega) (by omega)) (y_s198 (fun A hA => hp (yn', yc', yo', yp', ym', ys', yl', yb', yw', yk', yt', A, yx') (ry_any hY) ?_))
    refine ok_cp (fun w hw => e6_lt hw) (ok_conv hx (fun w _ k hk => ?_) (fun w _ k hk => ⟨k, Nat.le_refl _, ?_⟩)) hA
    · obtain ⟨w', k', u, a, b, d, e⟩ := hk
      exact ⟨w', k', u, b, by omega, d, e⟩
    · obtain ⟨w', k', u, b, a, d, e⟩ := hk
      exact ⟨w', k', u, by omega, b, d, e⟩
  · rintro m up ⟨yn', yc', yo', yp', ym', ys', yl', yb', yw', yk', yt', yz', yx'⟩ hup ⟨hY, hz, hx⟩ hK
    dsimp only at hz hx hK ⊢
    have hpl : yp' (5 * i + c) = nI (plc (O i) c) := (hY.2.2 i hi).2.2 c hc
    rw [wY_swaps_166]
    refine ⟨by rw [vn_5b]; exact vp_in_nI (by omega) (by decide), ?_⟩
    rw [vn_5b, nI_clamp (by omega), hpl]
    refine br_f (nI_nlt (by omega) (by omega)) (y_gu hY hi hc (by omega) hst hz hx (fun A' hA' => nm_r (nI_1 up) (hK (yn', yc', yo', yp', ym', ys', yl', yb', yw', yk', yt', yz', A') ⟨ry_any hY, hz, ok_conv hA' (fun w _ k hk => ?_) (fun w _ k hk => ⟨k, Nat.le_refl _, ?_⟩)⟩)))
    · rcases hk with ⟨w', k', u, a, b⟩ | ⟨w', k', a, b, d⟩
      · exact ⟨w', k', u, by omega, b⟩
      · exact ⟨w', k', up, by omega, a, b, d⟩
    · obtain ⟨w', k', u, a, b, d, e⟩ := hk
      by_cases eu : u = up
      · subst eu; exact Or.inr ⟨w', k', b, d, e⟩
      · exact Or.inl ⟨w', k', u, by omega, b, d, e⟩
theorem y_s139 {post : Int32 → SY → Prop} {J : Int32 → Int32 → Int32 → (Nat → Int32) → (Nat → Int32) → (Nat → Int32) → (Nat → Int32) → (Nat → Int32) → (Nat → Int32) → (Nat → Int32) → (Nat → Int32) → (Nat → Int32) → (Nat → Int32) → (Nat → Int32) → Prop} {yn yc : Int32} {yo yp ym ys yl yb yw yk yt yz yx : Nat → Int32} {n : Nat} {O : Nat → Nat} (h : zRY n O (yn, yc, yo, yp, ym, ys, yl, yb, yw, yk, yt, yz, yx)) {c i : Nat} (hc : c < 5) (hi : i < n) {st : Nat → Nat} (hst : dig st) (hok : okY yz (RC O c st i))
    (hp : ∀ v', zRY n O v' → okY v'.2.2.2.2.2.2.2.2.2.2.2.1 (RC O c st (i + 1)) → J (nI (i + 1)) v'.1 v'.2.1 v'.2.2.1 v'.2.2.2.1 v'.2.2.2.2.1 v'.2.2.2.2.2.1 v'.2.2.2.2.2.2.1 v'.2.2.2.2.2.2.2.1 v'.2.2.2.2.2.2.2.2.1 v'.2.2.2.2.2.2.2.2.2.1 v'.2.2.2.2.2.2.2.2.2.2.1 v'.2.2.2.2.2.2.2.2.2.2.2.1 v'.2.2.2.2.2.2.2.2.2.2.2.2) : ∃ m, wY_swaps_139 post J (nI c) (nI i) yn yc m 0 yo yp ym ys yl yb yw yk yt yz yx := by
  refine pk_loop (σ := Nat → Int32) (fun m t A => wY_swaps_139 post J (nI c) (nI i) yn yc m (nI t) yo yp ym ys yl yb yw yk yt yz A) (fun t A => ∀ j, j < t → A j = nI 1000) 1296 0 yx (by omega) (fun j hj => by omega) ?_ ?_
  · intro m A hA
    rw [wY_swaps_139]
    exact br_t (by decide) (y_s166 (v := (yn, yc, yo, yp, ym, ys, yl, yb, yw, yk, yt, yz, A)) (ry_any h) hc hi hst hok hA hp)
  · intro m t A ht hA hK
    rw [wY_swaps_139]
    refine br_f (nI_ge (b := 1296) ht (by decide)) ⟨vp_in_nI ht (by decide), nm_r (e' := upd A t (nI 1000)) (by rw [nI_clamp (by omega), show nI 1000 = 1000 from by decide]) (nm_r (nI_1 t) (hK (upd A t (nI 1000)) (fun j hj => ?_)))⟩
    by_cases ej : j = t
    · subst ej; exact pk_us
    · rw [pk_un ej]; exact hA j (by omega)
theorem y_s128 {post : Int32 → SY → Prop} {v : SY} {n : Nat} {O : Nat → Nat} (h : zRY n O v) {c : Nat} (hc : c < 5) (h0 : 0 < n) (hok : okY v.2.2.2.2.2.2.2.2.2.2.2.1 (RC O c (stn n O c) 0)) (hp : ∀ z v', isSw n O c z → zRY n O v' → post (iI z) v') : ∃ m, wY_swaps_128 post (nI c) m 0 v.1 v.2.1 v.2.2.1 v.2.2.2.1 v.2.2.2.2.1 v.2.2.2.2.2.1 v.2.2.2.2.2.2.1 v.2.2.2.2.2.2.2.1 v.2.2.2.2.2.2.2.2.1 v.2.2.2.2.2.2.2.2.2.1 v.2.2.2.2.2.2.2.2.2.2.1 v.2.2.2.2.2.2.2.2.2.2.2.1 v.2.2.2.2.2.2.2.2.2.2.2.2 := by
  have hn := h.1
  have hst := stn_5 hn O c
  have hO : ∀ i, i < n → isr (O i) = true := fun i hi => (h.2.2 i hi).1
  refine pk_loop (σ := SY) (fun m i s => wY_swaps_128 post (nI c) m (nI i) s.1 s.2.1 s.2.2.1 s.2.2.2.1 s.2.2.2.2.1 s.2.2.2.2.2.1 s.2.2.2.2.2.2.1 s.2.2.2.2.2.2.2.1 s.2.2.2.2.2.2.2.2.1 s.2.2.2.2.2.2.2.2.2.1 s.2.2.2.2.2.2.2.2.2.2.1 s.2.2.2.2.2.2.2.2.2.2.2.1 s.2.2.2.2.2.2.2.2.2.2.2.2) (fun i s => zRY n O s ∧ okY s.2.2.2.2.2.2.2.2.2.2.2.1 (RC O c (stn n O c) i)) n 0 v (by omega) ⟨h, hok⟩ ?_ ?_
  · rintro m ⟨yn', yc', yo', yp', ym', ys', yl', yb', yw', yk', yt', yz', yx'⟩ ⟨hY, hok⟩
    dsimp only at hok ⊢
    have hc' := hY.2.1
    dsimp only at hc'
    subst hc'
    rw [wY_swaps_128]
    refine br_t (nI_le (Nat.le_refl _) (by omega)) ?_
    obtain ⟨z, ez, hz⟩ := sw_fin h0 hO hc (E := e6) rfl hok
    rw [ez]
    exact hp z _ hz hY
  · rintro m i ⟨yn', yc', yo', yp', ym', ys', yl', yb', yw', yk', yt', yz', yx'⟩ hi ⟨hY, hok⟩ hK
    dsimp only at hok hK ⊢
    have hc' := hY.2.1
    dsimp only at hc'
    subst hc'
    rw [wY_swaps_128]
    exact br_f (nI_ge hi (by omega)) (y_s139 hY hc hi hst hok (fun v' hY' hok' => hK v' ⟨hY', hok'⟩))
theorem y_s95 {post : Int32 → SY → Prop} {yn yc : Int32} {yo yp ym ys yl yb yw yk yt yz yx : Nat → Int32} {n : Nat} {O : Nat → Nat} (h : zRY n O (yn, yc, yo, yp, ym, ys, yl, yb, yw, yk, yt, yz, yx)) {c : Nat} (hc : c < 5) (h0 : 0 < n) (hp : ∀ z v', isSw n O c z → zRY n O v' → post (iI z) v') : ∃ m, wY_swaps_95 post (nI c) (nI (e6 (stn n O c))) yn yc m 0 yo yp ym ys yl yb yw yk yt yz yx := by
  have hn := h.1
  have hst := stn_5 hn O c
  have hl := e6_lt hst
  refine pk_loop (σ := Nat → Int32) (fun m t A => wY_swaps_95 post (nI c) (nI (e6 (stn n O c))) yn yc m (nI t) yo yp ym ys yl yb yw yk yt A yx) (fun t A => ∀ j, j < t → A j = if j = e6 (stn n O c) then nI 0 else nI 1000) 1296 0 yz (by omega) (fun j hj => by omega) ?_ ?_
  · intro m A hA
    rw [wY_swaps_95]
    refine br_t (by decide) (y_s128 (v := (yn, yc, yo, yp, ym, ys, yl, yb, yw, yk, yt, A, yx)) (ry_any h) hc h0 ⟨fun w hw => ?_, fun t ht hno => ?_⟩ hp)
    · dsimp only
      rw [hA _ (e6_lt hw)]
      by_cases ew : e6 w = e6 (stn n O c)
      · rw [if_pos ew]
        exact Or.inl ⟨0, by omega, rfl, ⟨e6_inj hw hst ew, rfl⟩, fun z' _ => Nat.zero_le _⟩
      · rw [if_neg ew]
        exact Or.inr ⟨rfl, fun z' hz' => ew (e6_congr hz'.1)⟩
    · dsimp only
      rw [hA t ht, if_neg (fun z => hno _ hst z.symm)]
  · intro m t A ht hA hK
    rw [wY_swaps_95]
    refine br_f (nI_ge (b := 1296) ht (by decide)) (pk_eq t (e6 (stn n O c)) (fun e => ?_) (fun e => ?_))
    · refine ⟨vp_in_nI ht (by decide), nm_r (e' := upd A t (nI 0)) (by rw [nI_clamp (by omega), nI_0]) (nm_r (nI_1 t) (hK (upd A t (nI 0)) (fun j hj => ?_)))⟩
      by_cases ej : j = t
      · subst ej; rw [pk_us, if_pos e]
      · rw [pk_un ej]; exact hA j (by omega)
    · refine ⟨vp_in_nI ht (by decide), nm_r (e' := upd A t (nI 1000)) (by rw [nI_clamp (by omega), show nI 1000 = 1000 from by decide]) (nm_r (nI_1 t) (hK (upd A t (nI 1000)) (fun j hj => ?_)))⟩
      by_cases ej : j = t
      · subst ej; rw [pk_us, if_neg e]
      · rw [pk_un ej]; exact hA j (by omega)
theorem y_sw {post : Int32 → SY → Prop} {v : SY} {n : Nat} {O : Nat → Nat} (h : zRY n O v) {c : Nat} (hc : c < 5) (hp : ∀ z v', isSw n O c z → zRY n O v' → post (iI z) v') : wpY_swaps post v (nI c) := by
  obtain ⟨yn, yc, yo, yp, ym, ys, yl, yb, yw, yk, yt, yz, yx⟩ := v
  have hn := h.1
  have h1 := h.2.1
  dsimp only at h1
  subst h1
  have hst := stn_5 hn O c
  have hO : ∀ i, i < n → isr (O i) = true := fun i hi => (h.2.2 i hi).1
  unfold wpY_swaps
  dsimp only
  refine y_in 0 4 rfl (by decide) (fun hh => absurd rfl (hh c (by omega) (by omega))) (fun _ _ _ _ => br_f (by decide) ?_)
  refine pk_eq n 0 (fun e => ?_) (fun e => ?_)
  · have := hp (-1002) _ (Or.inl ⟨e, rfl⟩) h
    rw [show iI (-1002) = -1002 from by decide] at this
    exact this
  · refine pk_loop (σ := Int32) (fun m x s => wY_swaps_29 post (nI c) (nI n) yc yo yp ym ys yl yb yw yk yt yz yx m s (nI x)) (fun x s => s = nI (e6 (ndA n O c x))) 5 0 0 (by omega) ?_ ?_ ?_
    · rw [show e6 (ndA n O c 0) = 0 from by simp [e6, ndA]]; rfl
    · rintro m s rfl
      rw [wY_swaps_29]
      refine br_t (by decide) ?_
      rw [e6_congr (w := ndA n O c 5) (w' := stn n O c) (fun j hj => if_pos (oth_f hc hj).1)]
      exact y_s95 h hc (by omega) hp
    · rintro m x s hx rfl hK
      rw [wY_swaps_29]
      have hb := Mg_bd hn O c x
      have hMn := Mw_bd (fun _ => true) n O c x
      refine br_f (nI_ge (b := 5) hx (by decide)) (y_mo h hc hx 511 ?_)
      rw [Mw_511 hn]
      have hhave : (iI (Mg n O c x) + nI n) / 2 = nI ((Mg n O c x + n).toNat / 2) := by
        have e1 : iI (Mg n O c x) + nI n = nI (Mg n O c x + n).toNat := by
          rw [← vs_iN, vs_add, ← vs_iN]; exact congrArg iI (by unfold Mg; omega)
        rw [e1, show (2 : Int32) = nI 2 from rfl, pk_div (by omega) (by decide) (by decide)]
      have hlack : nI n / 2 + 1 - nI ((Mg n O c x + n).toNat / 2) = iI (((n / 2 : Nat) : Int) + 1 - (((Mg n O c x + n).toNat / 2 : Nat) : Int)) := by
        rw [show (2 : Int32) = nI 2 from rfl, pk_div (by omega) (by decide) (by decide), nI_1, ← vs_iN, ← vs_iN, vs_sub]
        exact congrArg iI (by omega)
      refine ⟨by decide, nm_r hhave ⟨by decide, nm_r hlack (pk_eq x c (fun e2 => nm_r (nI_1 x) (hK _ ?_)) (fun hne => ?_))⟩⟩
      · refine congrArg nI (e6_congr fun j hj => ?_)
        have := (oth_f hc hj).2.1
        unfold ndA
        by_cases e3 : oth c j < x
        · rw [if_pos e3, if_pos (by omega)]
        · rw [if_neg e3, if_neg (by omega)]
      · have hp4 := pst_f hc hx hne
        have hM := (Mg_bfr hO hc hx (fun z => hne z.symm)).1
        have hbf := bfr_bd n O c x
        have hsame : ∀ j, j < 4 → j ≠ pst c x → ndA n O c (x + 1) j = ndA n O c x j := by
          intro j hj hjn
          have hoj : oth c j ≠ x := fun z => hjn (by rw [← (oth_f hc hj).2.2, z])
          unfold ndA
          by_cases e2 : oth c j < x
          · rw [if_pos e2, if_pos (by omega)]
          · rw [if_neg e2, if_neg (by omega)]
        have hnew : ndA n O c (x + 1) (pst c x) = stn n O c (pst c x) := if_pos (by rw [hp4.2]; omega)
        have hold : ndA n O c x (pst c x) = 0 := if_neg (by rw [hp4.2]; omega)
        refine vi_le _ 0 (fun hle => nm_r (nI_1 x) (hK _ ?_)) (fun hgt => ?_)
        · refine congrArg nI (e6_congr fun j hj => ?_)
          by_cases ej : j = pst c x
          · subst ej
            rw [hnew, hold]
            unfold stn
            rw [hp4.2, if_neg (by omega)]
          · exact (hsame j hj ej).symm
        · refine y_wt hc hx (nm_r (e' := nI (e6 (ndA n O c (x + 1)))) ?_ (nm_r (nI_1 x) (hK _ rfl)))
          have hsv : (((n / 2 : Nat) : Int) + 1 - (((Mg n O c x + n).toNat / 2 : Nat) : Int)) = (stn n O c (pst c x) : Nat) := by
            unfold stn
            rw [hp4.2, if_pos (by omega)]
            omega
          have hsum : e6 (ndA n O c (x + 1)) = e6 (ndA n O c x) + stn n O c (pst c x) * 6 ^ pst c x := by
            revert hsame hnew hold
            generalize stn n O c (pst c x) = S
            have hp5 := hp4.1
            revert hp5
            generalize pst c x = p
            intro hp5 hsame hnew hold
            unfold e6
            match p, hp5 with
            | 0, _ =>
              have a1 := hsame 1 (by omega) (by omega)
              have a2 := hsame 2 (by omega) (by omega)
              have a3 := hsame 3 (by omega) (by omega)
              simp [a1, a2, a3, hold, hnew]; omega
            | 1, _ =>
              have a0 := hsame 0 (by omega) (by omega)
              have a2 := hsame 2 (by omega) (by omega)
              have a3 := hsame 3 (by omega) (by omega)
              simp [a0, a2, a3, hold, hnew]; omega
            | 2, _ =>
              have a0 := hsame 0 (by omega) (by omega)
              have a1 := hsame 1 (by omega) (by omega)
              have a3 := hsame 3 (by omega) (by omega)
              simp [a0, a1, a3, hold, hnew]; omega
            | 3, _ =>
              have a0 := hsame 0 (by omega) (by omega)
              have a1 := hsame 1 (by omega) (by omega)
              have a2 := hsame 2 (by omega) (by omega)
              simp [a0, a1, a2, hold, hnew]; omega
            | q + 4, h => omega
          rw [hsv, vs_iN, wtx_p hne, pk_mul, nI_add, hsum]
theorem i_vc_swaps {k : Nat} {u : SX} {v : SY} (I : i_Rel k u v) (hk : k + 3 ≤ 1536) (v1 : Int32) : wpX_swaps (fun r u' => wpY_swaps (fun r' v' => r' = r ∧ i_Rel (k + 3) u' v') v v1) u v1 := by
  have I0 := I
  obtain ⟨n, O, hX, hY⟩ := I
  obtain ⟨xc, xo, xr, xp, xm, xb, xs, xq, xn, xu, xl, xg, xk, xt, xw, xv⟩ := u
  obtain ⟨yn, yc, yo, yp, ym, ys, yl, yb, yw, yk, yt, yz, yx⟩ := v
  unfold wpX_swaps
  dsimp only
  refine x_cand (fun hno => br_t rfl ?_) (fun c hc e => br_f (by decide) ?_)
  · unfold wpY_swaps
    dsimp only
    exact y_in 0 4 rfl (by decide) (fun _ => br_t rfl ⟨rfl, I0⟩) (fun j _ hj e => absurd e (hno j (by omega)))
  · subst e
    refine x_fsw ⟨hX, rfl⟩ hc (fun z u' hz hX' => ?_)
    exact y_sw hY hc (fun z' v' hz' hY' => ⟨by rw [isSw_u hz hz'], n, O, hX'.1, hY'⟩)
end
section
/-! ===== rules 15 and 16 ===== -/
def eff (n : Nat) (O : Nat → Nat) (r c : Nat) (z : Int) : Prop := (r = 15 → isSw n O c z) ∧ (r = 16 → isRem n O c z)
theorem eff_u {n : Nat} {O : Nat → Nat} {r c : Nat} {z z' : Int} (hr : r = 15 ∨ r = 16) (h : eff n O r c z) (h' : eff n O r c z') : z = z' := by
  rcases hr with e | e
  · exact isSw_u (h.1 e) (h'.1 e)
  · exact isRem_u (h.2 e) (h'.2 e)
theorem eff_bd {n : Nat} {O : Nat → Nat} {r c : Nat} {z : Int} (hr : r = 15 ∨ r = 16) (h : eff n O r c z) : z = -1002 ∨ (0 ≤ z ∧ z < 1000) := by
  rcases hr with e | e
  · rcases h.1 e with ⟨_, a⟩ | ⟨_, k, a, b, _⟩
    · exact Or.inl a
    · exact Or.inr (by omega)
  · rcases h.2 e with ⟨a, _⟩ | ⟨a, b, _⟩
    · exact Or.inl a
    · exact Or.inr (by omega)
def WE (n : Nat) (O : Nat → Nat) (r c : Nat) : Prop := (∀ d, d < 5 → eff n O r d (-1002)) ∨ ∃ z, eff n O r c z ∧ z ≠ -1002 ∧ ∀ d, d < 5 → ∀ z', eff n O r d z' → z' ≠ -1002 → z ≤ z'
def efN (n : Nat) (O : Nat → Nat) (r c : Nat) : Prop := ∀ d, d < c → eff n O r d (-1002)
def efI (n : Nat) (O : Nat → Nat) (r c : Nat) (B : Int) (s : Int32) : Prop := (∃ i, i < c ∧ eff n O r i B) ∧ 0 ≤ B ∧ B < 1000 ∧ (∀ d, d < c → ∀ z, eff n O r d z → z ≠ -1002 → B ≤ z) ∧ isSet s (fun i => i < c ∧ eff n O r i B)
theorem ef_endN {n : Nat} {O : Nat → Nat} {r : Nat} (h : efN n O r 5) : isSet 31 (WE n O r) :=
  vb_congr vb_all (fun i _ => ⟨fun _ => Or.inl h, fun _ => trivial⟩)
theorem ef_end {n : Nat} {O : Nat → Nat} {r : Nat} {B : Int} {s : Int32} (hr : r = 15 ∨ r = 16) (h : efI n O r 5 B s) : isSet s (WE n O r) ∧ s ≠ 0 := by
  obtain ⟨⟨i0, a, b⟩, h1, h2, h3, h4⟩ := h
  constructor
  · refine vb_congr h4 (fun i hi => ⟨fun g => Or.inr ⟨B, g.2, by omega, h3⟩, ?_⟩)
    rintro (g | ⟨z, g1, g2, g3⟩)
    · have := eff_u hr b (g i0 a); omega
    · have e1 := g3 i0 a B b (by omega)
      have e2 := h3 i hi z g1 g2
      have : z = B := by omega
      exact ⟨hi, this ▸ g1⟩
  · intro e
    have := (h4 i0).mpr ⟨a, a, b⟩
    rw [e, b_0] at this; cases this
theorem ef_new {n : Nat} {O : Nat → Nat} {r c : Nat} {z : Int} (hr : r = 15 ∨ r = 16) (hc : c < 5) (hz : eff n O r c z) (h0 : 0 ≤ z) (h1 : z < 1000) (hlt : ∀ d, d < c → ∀ z', eff n O r d z' → z' ≠ -1002 → z < z') : efI n O r (c + 1) z (0 ||| ((1 : Int32) <<< (nI c &&& 31))) := by
  refine ⟨⟨c, by omega, hz⟩, h0, h1, fun d hd z' hz' hne => ?_, vb_congr (vb_ins vb_empty hc) (fun i hi => ⟨?_, ?_⟩)⟩
  · by_cases e : d = c
    · subst e; rw [eff_u hr hz hz']; exact Int.le_refl _
    · have := hlt d (by omega) z' hz' hne; omega
  · rintro (g | rfl)
    · exact g.elim
    · exact ⟨by omega, hz⟩
  · rintro ⟨g1, g2⟩
    by_cases e : i = c
    · exact Or.inr e
    · have := hlt i (by omega) z g2 (by omega); omega
theorem ef_same {n : Nat} {O : Nat → Nat} {r c : Nat} {B : Int} {s : Int32} (hr : r = 15 ∨ r = 16) (hc : c < 5) (h : efI n O r c B s) (hz : eff n O r c B) : efI n O r (c + 1) B (s ||| ((1 : Int32) <<< (nI c &&& 31))) := by
  obtain ⟨_, h1, h2, h3, h4⟩ := h
  refine ⟨⟨c, by omega, hz⟩, h1, h2, fun d hd z' hz' hne => ?_, vb_congr (vb_ins h4 hc) (fun i hi => ⟨?_, ?_⟩)⟩
  · by_cases e : d = c
    · subst e; rw [eff_u hr hz hz']; exact Int.le_refl _
    · exact h3 d (by omega) z' hz' hne
  · rintro (g | rfl)
    · exact ⟨by omega, g.2⟩
    · exact ⟨by omega, hz⟩
  · rintro ⟨g1, g2⟩
    by_cases e : i = c
    · exact Or.inr e
    · exact Or.inl ⟨by omega, g2⟩
theorem ef_more {n : Nat} {O : Nat → Nat} {r c : Nat} {B z : Int} {s : Int32} (hr : r = 15 ∨ r = 16) (h : efI n O r c B s) (hz : eff n O r c z) (hq : z = -1002 ∨ B < z) : efI n O r (c + 1) B s := by
  obtain ⟨⟨i0, a, b⟩, h1, h2, h3, h4⟩ := h
  refine ⟨⟨i0, by omega, b⟩, h1, h2, fun d hd z' hz' hne => ?_, vb_congr h4 (fun i hi => ⟨fun g => ⟨by omega, g.2⟩, fun g => ⟨?_, g.2⟩⟩)⟩
  · by_cases e : d = c
    · subst e
      have := eff_u hr hz hz'
      rcases hq with q | q <;> omega
    · exact h3 d (by omega) z' hz' hne
  · by_cases e : i = c
    · subst e
      have := eff_u hr hz g.2
      rcases hq with q | q <;> omega
    · omega
theorem ef_none {n : Nat} {O : Nat → Nat} {r c : Nat} (h : efN n O r c) (hz : eff n O r c (-1002)) : efN n O r (c + 1) := by
  intro d hd
  by_cases e : d = c
  · subst e; exact hz
  · exact h d (by omega)
theorem i_1002 : iI (-1002) = -1002 := by decide
theorem x_le {post : Int32 → SX → Prop} {u : SX} {n : Nat} {O : Nat → Nat} {V : Nat → Int32} (h : zRV n O V u) {r : Nat} (hr : r = 15 ∨ r = 16) (hp : ∀ w u', isSet w (WE n O r) → zRV n O V u' → post w u') : wpX_leastEffort post u (nI r) := by
  obtain ⟨xc, xo, xr, xp, xm, xb, xs, xq, xn, xu, xl, xg, xk, xt, xw, xv⟩ := u
  unfold wpX_leastEffort
  dsimp only
  refine pk_loop (σ := Int32 × Int32 × SX) (fun m c s => wX_leastEffort_10 post (nI r) m s.1 s.2.1 (nI c) s.2.2.1 s.2.2.2.1 s.2.2.2.2.1 s.2.2.2.2.2.1 s.2.2.2.2.2.2.1 s.2.2.2.2.2.2.2.1 s.2.2.2.2.2.2.2.2.1 s.2.2.2.2.2.2.2.2.2.1 s.2.2.2.2.2.2.2.2.2.2.1 s.2.2.2.2.2.2.2.2.2.2.2.1 s.2.2.2.2.2.2.2.2.2.2.2.2.1 s.2.2.2.2.2.2.2.2.2.2.2.2.2.1 s.2.2.2.2.2.2.2.2.2.2.2.2.2.2.1 s.2.2.2.2.2.2.2.2.2.2.2.2.2.2.2.1 s.2.2.2.2.2.2.2.2.2.2.2.2.2.2.2.2.1 s.2.2.2.2.2.2.2.2.2.2.2.2.2.2.2.2.2) (fun c s => zRV n O V s.2.2 ∧ ((s.1 = -1002 ∧ s.2.1 = 31 ∧ efN n O r c) ∨ ∃ B, s.1 = iI B ∧ efI n O r c B s.2.1)) 5 0 (-1002, 31, (xc, xo, xr, xp, xm, xb, xs, xq, xn, xu, xl, xg, xk, xt, xw, xv)) (by omega) ⟨h, Or.inl ⟨rfl, rfl, fun d hd => by omega⟩⟩ ?_ ?_
  · rintro m ⟨x2, x3, ⟨xc', xo', xr', xp', xm', xb', xs', xq', xn', xu', xl', xg', xk', xt', xw', xv'⟩⟩ ⟨hX, hs⟩
    dsimp only at hs ⊢
    rw [wX_leastEffort_10]
    refine br_t (by decide) ?_
    rcases hs with ⟨_, e, g⟩ | ⟨B, _, g⟩
    · subst e; exact hp _ _ (ef_endN g) hX
    · exact hp _ _ (ef_end hr g).1 hX
  · rintro m c ⟨x2, x3, ⟨xc', xo', xr', xp', xm', xb', xs', xq', xn', xu', xl', xg', xk', xt', xw', xv'⟩⟩ hc ⟨hX, hs⟩ hK
    dsimp only at hs hK ⊢
    rw [wX_leastEffort_10]
    have go : ∀ (z : Int) (u2 : SX), eff n O r c z → zRV n O V u2 → wX_leastEffort_37 post (wX_leastEffort_10 post (nI r) m) (nI r) x2 x3 (nI c) (iI z) u2.1 u2.2.1 u2.2.2.1 u2.2.2.2.1 u2.2.2.2.2.1 u2.2.2.2.2.2.1 u2.2.2.2.2.2.2.1 u2.2.2.2.2.2.2.2.1 u2.2.2.2.2.2.2.2.2.1 u2.2.2.2.2.2.2.2.2.2.1 u2.2.2.2.2.2.2.2.2.2.2.1 u2.2.2.2.2.2.2.2.2.2.2.2.1 u2.2.2.2.2.2.2.2.2.2.2.2.2.1 u2.2.2.2.2.2.2.2.2.2.2.2.2.2.1 u2.2.2.2.2.2.2.2.2.2.2.2.2.2.2.1 u2.2.2.2.2.2.2.2.2.2.2.2.2.2.2.2 := by
      rintro z ⟨xc'', xo'', xr'', xp'', xm'', xb'', xs'', xq'', xn'', xu'', xl'', xg'', xk'', xt'', xw'', xv''⟩ hz hX2
      have hzb := eff_bd hr hz
      unfold wX_leastEffort_37
      have new : (∀ d, d < c → ∀ z', eff n O r d z' → z' ≠ -1002 → z < z') → z ≠ -1002 → wX_leastEffort_60 post (wX_leastEffort_10 post (nI r) m) (nI r) (nI c) (iI z) xc'' xo'' xr'' xp'' xm'' xb'' xs'' xq'' xn'' xu'' xl'' xg'' xk'' xt'' xw'' xv'' := by
        intro hlt hne
        unfold wX_leastEffort_60 wX_leastEffort_65
        refine vi_eq z (-1002) (fun e => absurd e hne) (fun _ => br_t rfl (nm_e (nm_r (nI_1 c) (hK (iI z, 0 ||| ((1 : Int32) <<< (nI c &&& 31)), (xc'', xo'', xr'', xp'', xm'', xb'', xs'', xq'', xn'', xu'', xl'', xg'', xk'', xt'', xw'', xv'')) ⟨hX2, Or.inr ⟨z, rfl, ef_new hr hc hz (by omega) (by omega) hlt⟩⟩)))) rfl i_1002.symm
      refine vi_eq z (-1002) (fun e => ?_) (fun hne => ?_) rfl i_1002.symm
      · unfold wX_leastEffort_65
        refine br_t (by rw [e]; exact i_1002) (nm_r (nI_1 c) (hK (x2, x3, (xc'', xo'', xr'', xp'', xm'', xb'', xs'', xq'', xn'', xu'', xl'', xg'', xk'', xt'', xw'', xv'')) ⟨hX2, ?_⟩))
        rcases hs with ⟨e1, e2, g⟩ | ⟨B, e1, g⟩
        · exact Or.inl ⟨e1, e2, ef_none g (e ▸ hz)⟩
        · exact Or.inr ⟨B, e1, ef_more hr g hz (Or.inl e)⟩
      · rcases hs with ⟨e1, e2, g⟩ | ⟨B, e1, g⟩
        · subst e1
          exact br_t rfl (new (fun d hd z' hz' hne' => absurd (eff_u hr hz' (g d hd)) hne') hne)
        · subst e1
          obtain ⟨_, B0, B1, B2, _⟩ := id g
          refine vi_eq B (-1002) (fun e => by omega) (fun _ => vi_le B z (fun hle => ?_) (fun hlt => new (fun d hd z' hz' hne' => by have := B2 d hd z' hz' hne'; omega) hne)) rfl i_1002.symm
          unfold wX_leastEffort_65
          refine vi_eq z (-1002) (fun e => absurd e hne) (fun _ => vi_eq z B (fun e => ?_) (fun e => ?_)) rfl i_1002.symm
          · subst e
            exact nm_e (nm_r (nI_1 c) (hK (iI z, x3 ||| ((1 : Int32) <<< (nI c &&& 31)), (xc'', xo'', xr'', xp'', xm'', xb'', xs'', xq'', xn'', xu'', xl'', xg'', xk'', xt'', xw'', xv'')) ⟨hX2, Or.inr ⟨z, rfl, ef_same hr hc g hz⟩⟩))
          · exact nm_r (nI_1 c) (hK (iI B, x3, (xc'', xo'', xr'', xp'', xm'', xb'', xs'', xq'', xn'', xu'', xl'', xg'', xk'', xt'', xw'', xv'')) ⟨hX2, Or.inr ⟨B, rfl, ef_more hr g hz (Or.inr (by omega))⟩⟩)
    refine br_f (nI_ge (b := 5) hc (by decide)) (pk_eq r 15 (fun e => ?_) (fun e => ?_))
    · exact x_fsw hX hc (fun z u2 hz hX2 => go z u2 ⟨fun _ => hz, fun q => by omega⟩ hX2)
    · exact x_rem hX.1.1 hc (fun z hz => go z (xc', xo', xr', xp', xm', xb', xs', xq', xn', xu', xl', xg', xk', xt', xw', xv') ⟨fun q => absurd q e, fun _ => hz⟩ hX)
theorem y_le {post : Int32 → SY → Prop} {v : SY} {n : Nat} {O : Nat → Nat} (h : zRY n O v) {r : Nat} {x1 : Int32} (hr : r = 15 ∨ r = 16) (hx : x1 = if r = 15 then 1 else 0) (hp : ∀ w v', isSet w (WE n O r) → zRY n O v' → post w v') : wpY_fewest post v x1 := by
  obtain ⟨yn, yc, yo, yp, ym, ys, yl, yb, yw, yk, yt, yz, yx⟩ := v
  unfold wpY_fewest
  dsimp only
  refine pk_loop (σ := Int32 × Int32 × SY) (fun m c s => wY_fewest_9 post x1 m s.1 s.2.1 (nI c) s.2.2.1 s.2.2.2.1 s.2.2.2.2.1 s.2.2.2.2.2.1 s.2.2.2.2.2.2.1 s.2.2.2.2.2.2.2.1 s.2.2.2.2.2.2.2.2.1 s.2.2.2.2.2.2.2.2.2.1 s.2.2.2.2.2.2.2.2.2.2.1 s.2.2.2.2.2.2.2.2.2.2.2.1 s.2.2.2.2.2.2.2.2.2.2.2.2.1 s.2.2.2.2.2.2.2.2.2.2.2.2.2.1 s.2.2.2.2.2.2.2.2.2.2.2.2.2.2) (fun c s => zRY n O s.2.2 ∧ ((s.1 = 0 ∧ s.2.1 = iI 1000 ∧ efN n O r c) ∨ ∃ B, s.2.1 = iI B ∧ efI n O r c B s.1)) 5 0 (0, 1000, (yn, yc, yo, yp, ym, ys, yl, yb, yw, yk, yt, yz, yx)) (by omega) ⟨h, Or.inl ⟨rfl, (by decide : (1000 : Int32) = iI 1000), fun d hd => by omega⟩⟩ ?_ ?_
  · rintro m ⟨x2, x3, ⟨yn', yc', yo', yp', ym', ys', yl', yb', yw', yk', yt', yz', yx'⟩⟩ ⟨hY, hs⟩
    dsimp only at hs ⊢
    rw [wY_fewest_9]
    refine br_t (by decide) ?_
    rcases hs with ⟨e, _, g⟩ | ⟨B, _, g⟩
    · subst e; exact br_t rfl (hp _ _ (ef_endN g) hY)
    · exact br_f (ef_end hr g).2 (hp _ _ (ef_end hr g).1 hY)
  · rintro m c ⟨x2, x3, ⟨yn', yc', yo', yp', ym', ys', yl', yb', yw', yk', yt', yz', yx'⟩⟩ hc ⟨hY, hs⟩ hK
    dsimp only at hs hK ⊢
    rw [wY_fewest_9]
    have go : ∀ (z : Int) (u2 : SY), eff n O r c z → zRY n O u2 → wY_fewest_34 post (wY_fewest_9 post x1 m) x1 x2 x3 (nI c) (iI z) u2.1 u2.2.1 u2.2.2.1 u2.2.2.2.1 u2.2.2.2.2.1 u2.2.2.2.2.2.1 u2.2.2.2.2.2.2.1 u2.2.2.2.2.2.2.2.1 u2.2.2.2.2.2.2.2.2.1 u2.2.2.2.2.2.2.2.2.2.1 u2.2.2.2.2.2.2.2.2.2.2.1 u2.2.2.2.2.2.2.2.2.2.2.2.1 u2.2.2.2.2.2.2.2.2.2.2.2.2 := by
      rintro z ⟨yn'', yc'', yo'', yp'', ym'', ys'', yl'', yb'', yw'', yk'', yt'', yz'', yx''⟩ hz hY2
      have hzb := eff_bd hr hz
      obtain ⟨L, eL, L0, L1⟩ : ∃ L : Int, x3 = iI L ∧ 0 ≤ L ∧ L ≤ 1000 := by
        rcases hs with ⟨_, e2, _⟩ | ⟨B, e2, g⟩
        · exact ⟨1000, e2, by omega, by omega⟩
        · obtain ⟨_, B0, B1, _⟩ := g
          exact ⟨B, e2, B0, by omega⟩
      subst eL
      have hlow : ∀ z', z' = z → z < L → ∀ d, d < c → ∀ z'', eff n O r d z'' → z'' ≠ -1002 → z < z'' := by
        intro _ _ hlt d hd z'' hz'' hne
        rcases hs with ⟨_, _, g⟩ | ⟨B, e2, g⟩
        · exact absurd (eff_u hr hz'' (g d hd)) hne
        · obtain ⟨_, B0, B1, B2, _⟩ := g
          have eB : L = B := (vs_eq (by omega)).mp e2
          have := B2 d hd z'' hz'' hne
          omega
      unfold wY_fewest_34
      refine vi_lt z 0 (fun hneg => ?_) (fun hpos => vi_le L z (fun hle => ?_) (fun hlt => ?_))
      · have e : z = -1002 := by omega
        unfold wY_fewest_49
        refine vi_lt z 0 (fun _ => ?_) (fun q => by omega)
        unfold wY_fewest_63
        refine vi_lt z 0 (fun _ => nm_r (nI_1 c) (hK (x2, iI L, (yn'', yc'', yo'', yp'', ym'', ys'', yl'', yb'', yw'', yk'', yt'', yz'', yx'')) ⟨hY2, ?_⟩)) (fun q => by omega)
        rcases hs with ⟨e1, e2, g⟩ | ⟨B, e1, g⟩
        · exact Or.inl ⟨e1, e2, ef_none g (e ▸ hz)⟩
        · exact Or.inr ⟨B, e1, ef_more hr g hz (Or.inl e)⟩
      · unfold wY_fewest_49
        refine vi_lt z 0 (fun q => by omega) (fun _ => vi_le L z (fun _ => ?_) (fun q => by omega))
        unfold wY_fewest_63
        rcases hs with ⟨e1, e2, g⟩ | ⟨B, e1, g⟩
        · have : L = 1000 := (vs_eq (by omega)).mp e2
          omega
        · obtain ⟨_, B0, B1, B2, _⟩ := id g
          have eB : L = B := (vs_eq (by omega)).mp e1
          subst eB
          refine vi_lt z 0 (fun q => by omega) (fun _ => vi_eq z L (fun e => ?_) (fun e => ?_))
          · subst e
            exact nm_e (nm_r (nI_1 c) (hK (x2 ||| ((1 : Int32) <<< (nI c &&& 31)), iI z, (yn'', yc'', yo'', yp'', ym'', ys'', yl'', yb'', yw'', yk'', yt'', yz'', yx'')) ⟨hY2, Or.inr ⟨z, rfl, ef_same hr hc g hz⟩⟩))
          · exact nm_r (nI_1 c) (hK (x2, iI L, (yn'', yc'', yo'', yp'', ym'', ys'', yl'', yb'', yw'', yk'', yt'', yz'', yx'')) ⟨hY2, Or.inr ⟨L, rfl, ef_more hr g hz (Or.inr (by omega))⟩⟩)
      · unfold wY_fewest_49
        refine vi_lt z 0 (fun q => by omega) (fun _ => vi_le L z (fun q => by omega) (fun _ => ?_))
        unfold wY_fewest_63
        exact vi_lt z 0 (fun q => by omega) (fun _ => br_t rfl (nm_e (nm_r (nI_1 c) (hK (0 ||| ((1 : Int32) <<< (nI c &&& 31)), iI z, (yn'', yc'', yo'', yp'', ym'', ys'', yl'', yb'', yw'', yk'', yt'', yz'', yx'')) ⟨hY2, Or.inr ⟨z, rfl, ef_new hr hc hz hpos (by omega) (hlow z rfl hlt)⟩⟩))))
    refine br_f (nI_ge (b := 5) hc (by decide)) ?_
    by_cases e : r = 15
    · rw [if_pos e] at hx
      refine br_f (by rw [hx]; decide) ?_
      exact y_sw hY hc (fun z u2 hz hY2 => go z u2 ⟨fun _ => hz, fun q => by omega⟩ hY2)
    · rw [if_neg e] at hx
      refine br_t hx ?_
      exact y_rem hY hc (fun z hz => go z (yn', yc', yo', yp', ym', ys', yl', yb', yw', yk', yt', yz', yx') ⟨fun q => absurd q e, fun _ => hz⟩ hY)
end
section
/-! ===== rule 10: pure ===== -/
/-- no set in which each has one to go to -/
def Acy (K : Nat → Nat → Prop) : Prop := ∀ S : Nat → Prop, (∀ a, a < 5 → S a → ∃ b, b < 5 ∧ S b ∧ K a b) → ∀ a, a < 5 → ¬ S a
def Rch (K : Nat → Nat → Prop) (a b : Nat) : Prop := ∀ R : Nat → Nat → Prop, (∀ x y, x < 5 → y < 5 → K x y → R x y) → (∀ x y z, x < 5 → y < 5 → z < 5 → R x y → R y z → R x z) → R a b
def adE (K : Nat → Nat → Prop) (u l : Nat) : Nat → Nat → Prop := fun a b => K a b ∨ (a = u ∧ b = l)
theorem acy_mono {K K' : Nat → Nat → Prop} (h : Acy K') (hs : ∀ a b, a < 5 → b < 5 → K a b → K' a b) : Acy K := by
  intro S hS
  refine h S (fun a ha hSa => ?_)
  obtain ⟨b, hb, hSb, hK⟩ := hS a ha hSa
  exact ⟨b, hb, hSb, hs a b ha hb hK⟩
theorem rch_1 {K : Nat → Nat → Prop} {a b : Nat} (ha : a < 5) (hb : b < 5) (h : K a b) : Rch K a b := fun _ h1 _ => h1 a b ha hb h
theorem rch_t {K : Nat → Nat → Prop} {a b c : Nat} (ha : a < 5) (hb : b < 5) (hc : c < 5) (h : Rch K a b) (h' : Rch K b c) : Rch K a c := fun R h1 h2 => h2 a b c ha hb hc (h R h1 h2) (h' R h1 h2)
theorem rch_left {K : Nat → Nat → Prop} {a b : Nat} (h : Rch K a b) (ha : a < 5) (hb : b < 5) : ∃ y, y < 5 ∧ K a y ∧ (y = b ∨ Rch K y b) := by
  have := h (fun x z => x < 5 ∧ z < 5 ∧ ∃ y, y < 5 ∧ K x y ∧ (y = z ∨ Rch K y z)) (fun x y hx hy hK => ⟨hx, hy, y, hy, hK, Or.inl rfl⟩) (by
    rintro x y z hx hy hz ⟨_, _, y1, h1, h2, h3⟩ ⟨_, _, y2, g1, g2, g3⟩
    have hyz : Rch K y z := by
      rcases g3 with e | g3
      · subst e; exact rch_1 hy g1 g2
      · exact rch_t hy g1 hz (rch_1 hy g1 g2) g3
    refine ⟨hx, hz, y1, h1, h2, Or.inr ?_⟩
    rcases h3 with e | h3
    · subst e; exact hyz
    · exact rch_t h1 hy hz h3 hyz)
  exact this.2.2
theorem acy_no {K : Nat → Nat → Prop} {u l : Nat} (hu : u < 5) (hl : l < 5) (h : Rch K l u) : ¬ Acy (adE K u l) := by
  intro hA
  refine hA (fun x => (x = l ∨ Rch K l x) ∧ (x = u ∨ Rch K x u)) (fun x hx hS => ?_) l hl ⟨Or.inl rfl, Or.inr h⟩
  obtain ⟨h1, h2⟩ := hS
  by_cases e : x = u
  · exact ⟨l, hl, ⟨Or.inl rfl, Or.inr h⟩, Or.inr ⟨e, rfl⟩⟩
  · rcases h2 with h2 | h2
    · exact absurd h2 e
    · obtain ⟨y, hy, hK, hr⟩ := rch_left h2 hx hu
      refine ⟨y, hy, ⟨Or.inr ?_, hr⟩, Or.inl hK⟩
      rcases h1 with e1 | h1
      · subst e1; exact rch_1 hx hy hK
      · exact rch_t hl hx hy h1 (rch_1 hx hy hK)
theorem acy_yes {K : Nat → Nat → Prop} {u l : Nat} (hl : l < 5) (hne : u ≠ l) (hA : Acy K) (h : ¬ Rch K l u) : Acy (adE K u l) := by
  intro S hS
  have h1 : ∀ x, x < 5 → ¬ (S x ∧ (x = l ∨ Rch K l x)) := by
    refine hA (fun x => S x ∧ (x = l ∨ Rch K l x)) (fun x hx hSx => ?_)
    obtain ⟨y, hy, hSy, hK⟩ := hS x hx hSx.1
    rcases hK with hK | ⟨e1, e2⟩
    · refine ⟨y, hy, ⟨hSy, Or.inr ?_⟩, hK⟩
      rcases hSx.2 with e | g
      · subst e; exact rch_1 hx hy hK
      · exact rch_t hl hx hy g (rch_1 hx hy hK)
    · exfalso
      rcases hSx.2 with e | g
      · exact hne (e1.symm.trans e)
      · rw [e1] at g; exact h g
  have hlS : ¬ S l := fun z => h1 l hl ⟨z, Or.inl rfl⟩
  refine hA S (fun x hx hSx => ?_)
  obtain ⟨y, hy, hSy, hK⟩ := hS x hx hSx
  rcases hK with hK | ⟨e1, e2⟩
  · exact ⟨y, hy, hSy, hK⟩
  · rw [e2] at hSy; exact absurd hSy hlS
/-- the couples of K with a margin of at least w -/
def gE (n : Nat) (O : Nat → Nat) (w : Int) (K : Nat → Nat → Prop) : Nat → Nat → Prop := fun a b => K a b ∧ w ≤ Mg n O a b
/-- K is what is kept at the end of some order -/
def FIN (n : Nat) (O : Nat → Nat) (K : Nat → Nat → Prop) : Prop := (∀ a b, a < 5 → b < 5 → K a b → 0 < Mg n O a b) ∧ Acy K ∧ ∀ a b, a < 5 → b < 5 → 0 < Mg n O a b → ¬ K a b → ¬ Acy (adE (gE n O (Mg n O a b) K) a b)
def W10 (n : Nat) (O : Nat → Nat) (c : Nat) : Prop := ∃ K, FIN n O K ∧ ∀ a, a < 5 → ¬ K a c
/-- couples by numbers -/
def IDX (n : Nat) (O : Nat → Nat) (N : Nat) (U L : Nat → Nat) : Prop := (∀ p, p < N → U p < 5 ∧ L p < 5 ∧ 0 ≤ Mg n O (U p) (L p)) ∧ (∀ a b, a < 5 → b < 5 → 0 < Mg n O a b → ∃ p, p < N ∧ U p = a ∧ L p = b) ∧ (∀ p q, p < N → q < N → U p = U q → L p = L q → p = q)
def Kof (N : Nat) (U L : Nat → Nat) (k : Nat) : Nat → Nat → Prop := fun a b => ∃ p, p < N ∧ k.testBit p = true ∧ U p = a ∧ L p = b
theorem kof_at {n : Nat} {O : Nat → Nat} {N : Nat} {U L : Nat → Nat} (hI : IDX n O N U L) {k p : Nat} (hp : p < N) : Kof N U L k (U p) (L p) ↔ k.testBit p = true := by
  constructor
  · rintro ⟨q, hq, hb, e1, e2⟩
    rw [← hI.2.2 q p hq hp e1 e2]; exact hb
  · intro h; exact ⟨p, hp, h, rfl, rfl⟩
theorem mk_ex (P : Nat → Prop) : ∀ N, ∃ k, k < 2 ^ N ∧ ∀ q, q < N → (k.testBit q = true ↔ P q) := by
  intro N
  induction N with
  | zero => exact ⟨0, by decide, fun q hq => by omega⟩
  | succ N ih =>
    obtain ⟨k, hk, hb⟩ := ih
    have h2 : 2 ^ (N + 1) = 2 ^ N + 2 ^ N := by rw [Nat.pow_succ]; omega
    by_cases hP : P N
    · refine ⟨k ||| 2 ^ N, ?_, fun q hq => ?_⟩
      · exact Nat.or_lt_two_pow (by omega) (Nat.pow_lt_pow_right (by decide) (by omega))
      · rw [Nat.testBit_or, Nat.testBit_two_pow, Bool.or_eq_true, decide_eq_true_eq]
        by_cases e : q = N
        · subst e; exact ⟨fun _ => hP, fun _ => Or.inr rfl⟩
        · rw [hb q (by omega)]
          exact ⟨fun z => z.elim id (fun w => absurd w.symm e), Or.inl⟩
    · refine ⟨k, by omega, fun q hq => ?_⟩
      by_cases e : q = N
      · subst e
        rw [Nat.testBit_lt_two_pow hk]
        exact ⟨fun z => Bool.noConfusion z, fun z => absurd z hP⟩
      · exact hb q (by omega)
theorem bit_ext {N k k' : Nat} (hk : k < 2 ^ N) (hk' : k' < 2 ^ N) (h : ∀ q, q < N → (k.testBit q = true ↔ k'.testBit q = true)) : k = k' := by
  apply Nat.eq_of_testBit_eq
  intro q
  rcases Nat.lt_or_ge q N with g | g
  · have := h q g
    cases h1 : k.testBit q <;> cases h2 : k'.testBit q <;> simp_all
  · rw [Nat.testBit_lt_two_pow (Nat.lt_of_lt_of_le hk (Nat.pow_le_pow_right (by decide) g)), Nat.testBit_lt_two_pow (Nat.lt_of_lt_of_le hk' (Nat.pow_le_pow_right (by decide) g))]
theorem or_bit (k p q : Nat) : (k ||| 2 ^ p).testBit q = true ↔ (k.testBit q = true ∨ q = p) := by
  rw [Nat.testBit_or, Nat.testBit_two_pow, Bool.or_eq_true, decide_eq_true_eq]
  exact ⟨fun z => z.elim Or.inl (fun e => Or.inr e.symm), fun z => z.elim Or.inl (fun e => Or.inr e.symm)⟩
theorem kof_or {N : Nat} {U L : Nat → Nat} {k p : Nat} (hp : p < N) (a b : Nat) : Kof N U L (k ||| 2 ^ p) a b ↔ adE (Kof N U L k) (U p) (L p) a b := by
  constructor
  · rintro ⟨q, hq, hb, e1, e2⟩
    rcases (or_bit k p q).mp hb with g | g
    · exact Or.inl ⟨q, hq, g, e1, e2⟩
    · subst g; exact Or.inr ⟨e1.symm, e2.symm⟩
  · rintro (⟨q, hq, hb, e1, e2⟩ | ⟨e1, e2⟩)
    · exact ⟨q, hq, (or_bit k p q).mpr (Or.inl hb), e1, e2⟩
    · exact ⟨p, hp, (or_bit k p p).mpr (Or.inr rfl), e1.symm, e2.symm⟩
/-- the mask of what is kept at the end -/
theorem fin_mask {n : Nat} {O : Nat → Nat} {N : Nat} {U L : Nat → Nat} (hI : IDX n O N U L) {K : Nat → Nat → Prop} (hF : FIN n O K) : ∃ k, k < 2 ^ N ∧ (∀ p, p < N → (k.testBit p = true ↔ K (U p) (L p))) ∧ ∀ a b, a < 5 → b < 5 → (Kof N U L k a b ↔ K a b) := by
  obtain ⟨k, hk, hb⟩ := mk_ex (fun p => K (U p) (L p)) N
  refine ⟨k, hk, hb, fun a b ha hb' => ⟨?_, fun h => ?_⟩⟩
  · rintro ⟨p, hp, h1, e1, e2⟩
    have := (hb p hp).mp h1
    rw [e1, e2] at this; exact this
  · obtain ⟨p, hp, e1, e2⟩ := hI.2.1 a b ha hb' (hF.1 a b ha hb' h)
    exact ⟨p, hp, (hb p hp).mpr (by rw [e1, e2]; exact h), e1, e2⟩
theorem fin_congr {n : Nat} {O : Nat → Nat} {K K' : Nat → Nat → Prop} (h : FIN n O K) (e : ∀ a b, a < 5 → b < 5 → (K a b ↔ K' a b)) : FIN n O K' := by
  refine ⟨fun a b ha hb hK => h.1 a b ha hb ((e a b ha hb).mpr hK), acy_mono h.2.1 (fun a b ha hb hK => (e a b ha hb).mpr hK), fun a b ha hb hM hK hA => ?_⟩
  refine h.2.2 a b ha hb hM (fun z => hK ((e a b ha hb).mp z)) (acy_mono hA (fun x y hx hy hh => ?_))
  rcases hh with hh | hh
  · exact Or.inl ⟨(e x y hx hy).mp hh.1, hh.2⟩
  · exact Or.inr hh
/-! the component's search -/
def opn (n : Nat) (O : Nat → Nat) (U L : Nat → Nat) (k p : Nat) : Prop := 0 < Mg n O (U p) (L p) ∧ k.testBit p = false ∧ ¬ Rch (Kof 10 U L k) (L p) (U p)
/-- what holds of each set that the search comes to -/
def xIv (n : Nat) (O : Nat → Nat) (U L : Nat → Nat) (k : Nat) : Prop := k < 1024 ∧ (∀ p, p < 10 → k.testBit p = true → 0 < Mg n O (U p) (L p)) ∧ Acy (Kof 10 U L k) ∧ ∀ p, p < 10 → 0 < Mg n O (U p) (L p) → k.testBit p = false → (∃ q, q < 10 ∧ k.testBit q = true ∧ Mg n O (U q) (L q) < Mg n O (U p) (L p)) → ¬ Acy (adE (gE n O (Mg n O (U p) (L p)) (Kof 10 U L k)) (U p) (L p))
theorem ne_of_pos {n : Nat} {O : Nat → Nat} {a b : Nat} (h : 0 < Mg n O a b) : a ≠ b := by
  rintro rfl; rw [Mg_self] at h; omega
theorem xIv_0 {n : Nat} {O : Nat → Nat} {U L : Nat → Nat} : xIv n O U L 0 := by
  refine ⟨by omega, fun p _ hb => by simp at hb, fun S hS a ha hSa => ?_, fun p _ _ _ ⟨q, _, hb, _⟩ => by simp at hb⟩
  obtain ⟨b, _, _, q, _, hb, _⟩ := hS a ha hSa
  simp at hb
/-- neither in nor to be had: it would close a circle -/
theorem nopn {n : Nat} {O : Nat → Nat} {U L : Nat → Nat} (hI : IDX n O 10 U L) {k p : Nat} (hp : p < 10) (hM : 0 < Mg n O (U p) (L p)) (hb : k.testBit p = false) (h : ¬ opn n O U L k p) : ¬ Acy (adE (Kof 10 U L k) (U p) (L p)) := by
  have hr : Rch (Kof 10 U L k) (L p) (U p) := by
    apply Classical.byContradiction
    intro z; exact h ⟨hM, hb, z⟩
  exact acy_no (hI.1 p hp).1 (hI.1 p hp).2.1 hr
theorem ge_all {n : Nat} {O : Nat → Nat} {U L : Nat → Nat} {k : Nat} {w : Int} (h : ∀ q, q < 10 → k.testBit q = true → w ≤ Mg n O (U q) (L q)) : ∀ a b, Kof 10 U L k a b → gE n O w (Kof 10 U L k) a b := by
  rintro a b ⟨q, hq, hb, e1, e2⟩
  refine ⟨⟨q, hq, hb, e1, e2⟩, ?_⟩
  rw [← e1, ← e2]; exact h q hq hb
theorem xIv_step {n : Nat} {O : Nat → Nat} {U L : Nat → Nat} (hI : IDX n O 10 U L) {k f : Nat} (h : xIv n O U L k) (hf : f < 10) (ho : opn n O U L k f) (hm : ∀ p, p < 10 → opn n O U L k p → Mg n O (U p) (L p) ≤ Mg n O (U f) (L f)) : xIv n O U L (k ||| 2 ^ f) := by
  obtain ⟨h1, h2, h3, h4⟩ := h
  have hadd : ∀ a b, Kof 10 U L (k ||| 2 ^ f) a b ↔ adE (Kof 10 U L k) (U f) (L f) a b := kof_or hf
  refine ⟨Nat.or_lt_two_pow (n := 10) h1 (Nat.pow_lt_pow_right (by decide) hf), fun p hp hb => ?_, ?_, fun p hp hM hb hex hA => ?_⟩
  · rcases (or_bit k f p).mp hb with g | g
    · exact h2 p hp g
    · subst g; exact ho.1
  · exact acy_mono (acy_yes (hI.1 f hf).2.1 (ne_of_pos ho.1) h3 ho.2.2) (fun a b _ _ hK => (hadd a b).mp hK)
  · have hbk : k.testBit p = false := by
      cases hk : k.testBit p
      · rfl
      · rw [(or_bit k f p).mpr (Or.inl hk)] at hb; cases hb
    by_cases hex2 : ∃ q, q < 10 ∧ k.testBit q = true ∧ Mg n O (U q) (L q) < Mg n O (U p) (L p)
    · refine h4 p hp hM hbk hex2 (acy_mono hA (fun a b _ _ hh => ?_))
      rcases hh with hh | hh
      · exact Or.inl ⟨(hadd a b).mpr (Or.inl hh.1), hh.2⟩
      · exact Or.inr hh
    · obtain ⟨q, hq, hbq, hlt⟩ := hex
      have eq : q = f := by
        rcases (or_bit k f q).mp hbq with g | g
        · exact absurd ⟨q, hq, g, hlt⟩ hex2
        · exact g
      subst eq
      have hno : ¬ opn n O U L k p := fun z => by have := hm p hp z; omega
      refine nopn hI hp hM hbk hno (acy_mono hA (fun a b _ _ hh => ?_))
      rcases hh with hh | hh
      · have := ge_all (n := n) (O := O) (w := Mg n O (U p) (L p)) (fun r hr hbr => by
          apply Classical.byContradiction
          intro z; exact hex2 ⟨r, hr, hbr, by omega⟩) a b hh
        exact Or.inl ⟨(hadd a b).mpr (Or.inl hh), this.2⟩
      · exact Or.inr hh
theorem xIv_end {n : Nat} {O : Nat → Nat} {U L : Nat → Nat} (hI : IDX n O 10 U L) {k : Nat} (h : xIv n O U L k) (hno : ∀ p, p < 10 → ¬ opn n O U L k p) : FIN n O (Kof 10 U L k) := by
  obtain ⟨h1, h2, h3, h4⟩ := h
  refine ⟨fun a b _ _ ⟨p, hp, hb, e1, e2⟩ => by rw [← e1, ← e2]; exact h2 p hp hb, h3, fun a b ha hb hM hK hA => ?_⟩
  obtain ⟨p, hp, e1, e2⟩ := hI.2.1 a b ha hb hM
  subst e1 e2
  have hbp : k.testBit p = false := by
    cases hk : k.testBit p
    · rfl
    · exact absurd ((kof_at hI hp).mpr hk) hK
  by_cases hex : ∃ q, q < 10 ∧ k.testBit q = true ∧ Mg n O (U q) (L q) < Mg n O (U p) (L p)
  · exact h4 p hp hM hbp hex hA
  · refine nopn hI hp hM hbp (hno p hp) (acy_mono hA (fun a b _ _ hh => ?_))
    rcases hh with hh | hh
    · exact Or.inl (ge_all (n := n) (O := O) (w := Mg n O (U p) (L p)) (fun r hr hbr => by
        apply Classical.byContradiction
        intro z; exact hex ⟨r, hr, hbr, by omega⟩) a b hh)
    · exact Or.inr hh
end
section
/-! ===== rule 10: pure, the search is complete; the reference's levels ===== -/
theorem mx_ex (P : Nat → Prop) (f : Nat → Int) : ∀ N, (∃ p, p < N ∧ P p) → ∃ p, p < N ∧ P p ∧ ∀ q, q < N → P q → f q ≤ f p := by
  intro N
  induction N with
  | zero => rintro ⟨p, hp, _⟩; omega
  | succ N ih =>
    rintro ⟨p, hp, hP⟩
    by_cases hex : ∃ p, p < N ∧ P p
    · obtain ⟨r, hr, hPr, hm⟩ := ih hex
      by_cases hN : P N ∧ f r < f N
      · refine ⟨N, by omega, hN.1, fun q hq hPq => ?_⟩
        by_cases e : q = N
        · subst e; exact Int.le_refl _
        · have := hm q (by omega) hPq
          omega
      · refine ⟨r, by omega, hPr, fun q hq hPq => ?_⟩
        by_cases e : q = N
        · subst e
          apply Classical.byContradiction
          intro z; exact hN ⟨hPq, by omega⟩
        · exact hm q (by omega) hPq
    · have e : p = N := by
        apply Classical.byContradiction
        intro z; exact hex ⟨p, by omega, hP⟩
      subst e
      refine ⟨p, by omega, hP, fun q hq hPq => ?_⟩
      by_cases e : q = p
      · subst e; exact Int.le_refl _
      · exact absurd ⟨q, by omega, hPq⟩ hex
theorem or_gt {k p : Nat} (h : k.testBit p = false) : k < k ||| 2 ^ p := by
  have h1 : k ≤ k ||| 2 ^ p := Nat.left_le_or
  rcases Nat.lt_or_eq_of_le h1 with g | g
  · exact g
  · have := (or_bit k p p).mpr (Or.inr rfl)
    rw [← g, h] at this; cases this
theorem x_cover {n : Nat} {O : Nat → Nat} {U L : Nat → Nat} (hI : IDX n O 10 U L) {F : Nat → Prop} (h0 : F 0) (hF : ∀ k f, k < 1024 → F k → f < 10 → opn n O U L k f → (∀ p, p < 10 → opn n O U L k p → Mg n O (U p) (L p) ≤ Mg n O (U f) (L f)) → F (k ||| 2 ^ f))
    {K : Nat → Nat → Prop} (hK : FIN n O K) : ∃ k, k < 1024 ∧ F k ∧ (∀ p, p < 10 → ¬ opn n O U L k p) ∧ ∀ a b, a < 5 → b < 5 → (Kof 10 U L k a b ↔ K a b) := by
  obtain ⟨kK, hk, hbit, hkof⟩ := fin_mask hI hK
  have hk : kK < 1024 := hk
  have hpos : ∀ p, p < 10 → kK.testBit p = true → 0 < Mg n O (U p) (L p) := fun p hp hb => hK.1 _ _ (hI.1 p hp).1 (hI.1 p hp).2.1 ((hbit p hp).mp hb)
  have hAk : Acy (Kof 10 U L kK) := acy_mono hK.2.1 (fun a b ha hb h => (hkof a b ha hb).mp h)
  -- what is outside closes a circle with those at least as strong
  have hout : ∀ p, p < 10 → 0 < Mg n O (U p) (L p) → kK.testBit p = false → ¬ Acy (adE (gE n O (Mg n O (U p) (L p)) (Kof 10 U L kK)) (U p) (L p)) := by
    intro p hp hM hb hA
    refine hK.2.2 _ _ (hI.1 p hp).1 (hI.1 p hp).2.1 hM (fun z => ?_) (acy_mono hA (fun x y hx hy hh => ?_))
    · rw [(hbit p hp).mpr z] at hb; cases hb
    · rcases hh with hh | hh
      · exact Or.inl ⟨(hkof x y hx hy).mpr hh.1, hh.2⟩
      · exact Or.inr hh
  have main : ∀ d l, 1024 - l ≤ d → l < 1024 → F l → (∀ p, p < 10 → l.testBit p = true → kK.testBit p = true) → (∀ p q, p < 10 → q < 10 → l.testBit p = true → kK.testBit q = true → l.testBit q = false → Mg n O (U q) (L q) ≤ Mg n O (U p) (L p)) → F kK := by
    intro d
    induction d with
    | zero => intro l h1 h2; omega
    | succ d ih =>
      intro l h1 hl hFl hsub hup
      by_cases hmiss : ∃ q, q < 10 ∧ (kK.testBit q = true ∧ l.testBit q = false)
      · obtain ⟨f, hf, ⟨hfk, hfl⟩, hmax⟩ := mx_ex (fun q => kK.testBit q = true ∧ l.testBit q = false) (fun q => Mg n O (U q) (L q)) 10 hmiss
        have hgt := or_gt hfl
        have hlt : l ||| 2 ^ f < 1024 := Nat.or_lt_two_pow (n := 10) hl (Nat.pow_lt_pow_right (by decide) hf)
        have hsub2 : ∀ p, p < 10 → (l ||| 2 ^ f).testBit p = true → kK.testBit p = true := by
          intro p hp hb
          rcases (or_bit l f p).mp hb with g | g
          · exact hsub p hp g
          · subst g; exact hfk
        have hopen : opn n O U L l f := by
          refine ⟨hpos f hf hfk, hfl, fun hr => acy_no (hI.1 f hf).1 (hI.1 f hf).2.1 hr (acy_mono hAk (fun a b ha hb hh => ?_))⟩
          have := (kof_or (U := U) (L := L) (k := l) hf a b).mpr hh
          obtain ⟨q, hq, hbq, e1, e2⟩ := this
          exact ⟨q, hq, hsub2 q hq hbq, e1, e2⟩
        refine ih (l ||| 2 ^ f) (by omega) hlt (hF l f hl hFl hf hopen (fun p hp hop => ?_)) hsub2 (fun p q hp hq hb hbk hbl => ?_)
        · apply Classical.byContradiction
          intro hlt2
          cases hkp : kK.testBit p with
          | true => exact hlt2 (hmax p hp ⟨hkp, hop.2.1⟩)
          | false =>
            refine hout p hp hop.1 hkp (acy_mono (acy_yes (K := Kof 10 U L l) (hI.1 p hp).2.1 (ne_of_pos hop.1) (acy_mono hAk (fun a b _ _ ⟨q, hq, hb, e1, e2⟩ => ⟨q, hq, hsub q hq hb, e1, e2⟩)) hop.2.2) (fun a b _ _ hh => ?_))
            rcases hh with ⟨⟨q, hq, hb, e1, e2⟩, hw⟩ | hh
            · rw [← e1, ← e2] at hw
              cases hlq : l.testBit q with
              | true => exact Or.inl ⟨q, hq, hlq, e1, e2⟩
              | false => have := hmax q hq ⟨hb, hlq⟩; omega
            · exact Or.inr hh
        · have hbl2 : l.testBit q = false := by
            cases h2 : l.testBit q
            · rfl
            · rw [(or_bit l f q).mpr (Or.inl h2)] at hbl; cases hbl
          rcases (or_bit l f p).mp hb with g | g
          · exact hup p q hp hq g hbk hbl2
          · subst g; exact hmax q hq ⟨hbk, hbl2⟩
      · have e : l = kK := bit_ext (N := 10) hl hk (fun q hq => ⟨hsub q hq, fun h => by
          cases h2 : l.testBit q
          · exact absurd ⟨q, hq, h, h2⟩ hmiss
          · rfl⟩)
        rw [← e]; exact hFl
  refine ⟨kK, hk, main 1024 0 (by omega) (by omega) h0 (fun p _ hb => by simp at hb) (fun p q _ _ hb => by simp at hb), fun p hp hop => ?_, hkof⟩
  refine hout p hp hop.1 hop.2.1 (acy_mono (acy_yes (hI.1 p hp).2.1 (ne_of_pos hop.1) hAk hop.2.2) (fun a b _ _ hh => ?_))
  rcases hh with hh | hh
  · exact Or.inl hh.1
  · exact Or.inr hh
/-! the reference -/
def LV (n : Nat) (O : Nat → Nat) (C : Nat) (B W : Nat → Nat) (m : Int) (k : Nat) : Prop := k < 2 ^ C ∧ (∀ q, q < C → k.testBit q = true → m < Mg n O (B q) (W q)) ∧ Acy (Kof C B W k) ∧ ∀ q, q < C → m < Mg n O (B q) (W q) → k.testBit q = false → ¬ Acy (adE (gE n O (Mg n O (B q) (W q)) (Kof C B W k)) (B q) (W q))
def grw (C : Nat) (B W : Nat → Nat) (k g : Nat) : Prop := ∃ q, q < C ∧ g.testBit q = true ∧ k.testBit q = false ∧ Acy (adE (Kof C B W k) (B q) (W q))
theorem LV_9 {n : Nat} (hn : n ≤ 9) {O : Nat → Nat} {C : Nat} {B W : Nat → Nat} {k : Nat} (hk : k < 2 ^ C) : LV n O C B W 9 k ↔ k = 0 := by
  constructor
  · rintro ⟨_, h2, _⟩
    refine bit_ext (N := C) hk (Nat.two_pow_pos C) (fun q hq => ⟨fun hb => ?_, fun hb => by simp at hb⟩)
    have := h2 q hq hb
    have := Mg_bd hn O (B q) (W q)
    omega
  · rintro rfl
    refine ⟨Nat.two_pow_pos C, fun q _ hb => by simp at hb, fun S hS a ha hSa => ?_, fun q _ hM => ?_⟩
    · obtain ⟨b, _, _, q, _, hb, _⟩ := hS a ha hSa
      simp at hb
    · have := Mg_bd hn O (B q) (W q)
      omega
theorem LV_skip {n : Nat} {O : Nat → Nat} {C : Nat} {B W : Nat → Nat} {m : Int} {k : Nat} (hno : ∀ q, q < C → Mg n O (B q) (W q) ≠ m) : LV n O C B W (m - 1) k ↔ LV n O C B W m k := by
  constructor
  · rintro ⟨h1, h2, h3, h4⟩
    exact ⟨h1, fun q hq hb => by have := h2 q hq hb; have := hno q hq; omega, h3, fun q hq hM hb => h4 q hq (by omega) hb⟩
  · rintro ⟨h1, h2, h3, h4⟩
    exact ⟨h1, fun q hq hb => by have := h2 q hq hb; omega, h3, fun q hq hM hb => h4 q hq (by have := hno q hq; omega) hb⟩
theorem LV_grp {n : Nat} {O : Nat → Nat} {C : Nat} {B W : Nat → Nat} {m : Int} {g : Nat} (hg : ∀ q, q < C → (g.testBit q = true ↔ Mg n O (B q) (W q) = m)) {k : Nat} : LV n O C B W (m - 1) k ↔ ∃ k1 r, LV n O C B W m k1 ∧ r < 2 ^ C ∧ (∀ q, q < C → r.testBit q = true → g.testBit q = true) ∧ k = k1 ||| r ∧ Acy (Kof C B W k) ∧ ¬ grw C B W k g := by
  constructor
  · rintro ⟨h1, h2, h3, h4⟩
    obtain ⟨k1, hk1, hb1⟩ := mk_ex (fun q => k.testBit q = true ∧ m < Mg n O (B q) (W q)) C
    obtain ⟨r, hr, hbr⟩ := mk_ex (fun q => k.testBit q = true ∧ Mg n O (B q) (W q) = m) C
    have hge : ∀ a b, Kof C B W k a b → gE n O m (Kof C B W k) a b := by
      rintro a b ⟨q, hq, hb, e1, e2⟩
      refine ⟨⟨q, hq, hb, e1, e2⟩, ?_⟩
      have := h2 q hq hb
      rw [← e1, ← e2]; omega
    refine ⟨k1, r, ⟨hk1, fun q hq hb => ((hb1 q hq).mp hb).2, acy_mono h3 (fun a b _ _ ⟨q, hq, hb, e1, e2⟩ => ⟨q, hq, ((hb1 q hq).mp hb).1, e1, e2⟩), fun q hq hM hb hA => ?_⟩, hr, fun q hq hb => (hg q hq).mpr ((hbr q hq).mp hb).2, ?_, h3, ?_⟩
    · have hbk : k.testBit q = false := by
        cases h5 : k.testBit q
        · rfl
        · rw [(hb1 q hq).mpr ⟨h5, hM⟩] at hb; cases hb
      refine h4 q hq (by omega) hbk (acy_mono hA (fun a b _ _ hh => ?_))
      rcases hh with ⟨⟨p, hp, hbp, e1, e2⟩, hw⟩ | hh
      · refine Or.inl ⟨⟨p, hp, (hb1 p hp).mpr ⟨hbp, ?_⟩, e1, e2⟩, hw⟩
        rw [← e1, ← e2] at hw; omega
      · exact Or.inr hh
    · refine bit_ext h1 (Nat.or_lt_two_pow hk1 hr) (fun q hq => ?_)
      rw [Nat.testBit_or, Bool.or_eq_true, hb1 q hq, hbr q hq]
      constructor
      · intro hb
        have := h2 q hq hb
        by_cases e : Mg n O (B q) (W q) = m
        · exact Or.inr ⟨hb, e⟩
        · exact Or.inl ⟨hb, by omega⟩
      · rintro (z | z)
        · exact z.1
        · exact z.1
    · rintro ⟨q, hq, hgq, hb, hA⟩
      have em := (hg q hq).mp hgq
      refine h4 q hq (by omega) hb (acy_mono hA (fun a b _ _ hh => ?_))
      rcases hh with hh | hh
      · exact Or.inl hh.1
      · exact Or.inr hh
  · rintro ⟨k1, r, ⟨h1, h2, h3, h4⟩, hr, hrg, e, hA, hng⟩
    subst e
    have hbit : ∀ q, (k1 ||| r).testBit q = true ↔ (k1.testBit q = true ∨ r.testBit q = true) := by
      intro q; rw [Nat.testBit_or, Bool.or_eq_true]
    have hlow : ∀ q, q < C → (k1 ||| r).testBit q = true → m ≤ Mg n O (B q) (W q) := by
      intro q hq hb
      rcases (hbit q).mp hb with z | z
      · have := h2 q hq z; omega
      · have := (hg q hq).mp (hrg q hq z); omega
    refine ⟨Nat.or_lt_two_pow h1 hr, fun q hq hb => by have := hlow q hq hb; omega, hA, fun q hq hM hb hA2 => ?_⟩
    have hb1 : k1.testBit q = false := by
      cases h5 : k1.testBit q
      · rfl
      · rw [(hbit q).mpr (Or.inl h5)] at hb; cases hb
    by_cases em : Mg n O (B q) (W q) = m
    · refine hng ⟨q, hq, (hg q hq).mpr em, hb, acy_mono hA2 (fun a b _ _ hh => ?_)⟩
      rcases hh with ⟨p, hp, hbp, e1, e2⟩ | hh
      · refine Or.inl ⟨⟨p, hp, hbp, e1, e2⟩, ?_⟩
        have := hlow p hp hbp
        rw [← e1, ← e2]; omega
      · exact Or.inr hh
    · refine h4 q hq (by omega) hb1 (acy_mono hA2 (fun a b _ _ hh => ?_))
      rcases hh with ⟨⟨p, hp, hbp, e1, e2⟩, hw⟩ | hh
      · exact Or.inl ⟨⟨p, hp, (hbit p).mpr (Or.inl hbp), e1, e2⟩, hw⟩
      · exact Or.inr hh
theorem LV_fin {n : Nat} {O : Nat → Nat} {C : Nat} {B W : Nat → Nat} (hI : IDX n O C B W) {k : Nat} (h : LV n O C B W 0 k) : FIN n O (Kof C B W k) := by
  obtain ⟨h1, h2, h3, h4⟩ := h
  refine ⟨fun a b _ _ ⟨p, hp, hb, e1, e2⟩ => by rw [← e1, ← e2]; exact h2 p hp hb, h3, fun a b ha hb hM hK hA => ?_⟩
  obtain ⟨p, hp, e1, e2⟩ := hI.2.1 a b ha hb hM
  subst e1 e2
  have hbp : k.testBit p = false := by
    cases hk : k.testBit p
    · rfl
    · exact absurd ((kof_at hI hp).mpr hk) hK
  exact h4 p hp hM hbp hA
theorem fin_LV {n : Nat} {O : Nat → Nat} {C : Nat} {B W : Nat → Nat} (hI : IDX n O C B W) {K : Nat → Nat → Prop} (hK : FIN n O K) : ∃ k, LV n O C B W 0 k ∧ ∀ a b, a < 5 → b < 5 → (Kof C B W k a b ↔ K a b) := by
  obtain ⟨k, hk, hbit, hkof⟩ := fin_mask hI hK
  refine ⟨k, ⟨hk, fun q hq hb => hK.1 _ _ (hI.1 q hq).1 (hI.1 q hq).2.1 ((hbit q hq).mp hb), acy_mono hK.2.1 (fun a b ha hb h => (hkof a b ha hb).mp h), fun q hq hM hb hA => ?_⟩, hkof⟩
  refine hK.2.2 _ _ (hI.1 q hq).1 (hI.1 q hq).2.1 hM (fun z => ?_) (acy_mono hA (fun x y hx hy hh => ?_))
  · rw [(hbit q hq).mpr z] at hb; cases hb
  · rcases hh with hh | hh
    · exact Or.inl ⟨(hkof x y hx hy).mpr hh.1, hh.2⟩
    · exact Or.inr hh
end
section
/-! ===== rule 10: the component's walk ===== -/
theorem nI_or (a b : Nat) : nI a ||| nI b = nI (a ||| b) := by
  apply b_ext
  intro i hi
  rw [b_or, vb_nI a i hi, vb_nI b i hi, vb_nI _ i hi, Nat.testBit_or]
theorem pw10 : ∀ p, p < 11 → (1 : Int32) <<< (nI p &&& 31) = nI (2 ^ p) := by decide +kernel
def pa5 (p : Nat) : Nat := if p < 4 then 0 else if p < 7 then 1 else if p < 9 then 2 else 3
def pb5 (p : Nat) : Nat := if p < 4 then p + 1 else if p < 7 then p - 2 else if p < 9 then p - 4 else 4
def ix5 (a b : Nat) : Nat := a * (9 - a) / 2 + (b - a - 1)
theorem pr_t1 : ∀ a, a < 5 → ∀ b, b < 5 → a < b → pa5 (ix5 a b) = a ∧ pb5 (ix5 a b) = b ∧ ix5 a b < 10 := by decide
theorem pr_t2 : ∀ p, p < 10 → pa5 p < pb5 p ∧ pb5 p < 5 := by decide
theorem pr_t3 : ∀ p, p < 10 → ∀ q, q < 10 → pa5 p = pa5 q → pb5 p = pb5 q → p = q := by decide
theorem pr_t4 : ∀ a, a < 5 → ix5 a 5 = ix5 (a + 1) (a + 2) ∧ ix5 a 5 ≤ 10 := by decide
def prU (n : Nat) (O : Nat → Nat) (p : Nat) : Nat := if 0 < Mg n O (pa5 p) (pb5 p) then pa5 p else pb5 p
def prL (n : Nat) (O : Nat → Nat) (p : Nat) : Nat := if 0 < Mg n O (pa5 p) (pb5 p) then pb5 p else pa5 p
theorem pr_idx (n : Nat) (O : Nat → Nat) : IDX n O 10 (prU n O) (prL n O) := by
  refine ⟨fun p hp => ?_, fun a b ha hb hM => ?_, fun p q hp hq h1 h2 => ?_⟩
  · have := pr_t2 p hp
    have ha := Mg_anti n O (pa5 p) (pb5 p)
    unfold prU prL
    split
    · exact ⟨by omega, by omega, by omega⟩
    · exact ⟨by omega, by omega, by omega⟩
  · have hne := ne_of_pos hM
    rcases Nat.lt_or_gt_of_ne hne with g | g
    · obtain ⟨t1, t2, t3⟩ := pr_t1 a ha b hb g
      refine ⟨ix5 a b, t3, ?_, ?_⟩
      · unfold prU; rw [t1, t2, if_pos hM]
      · unfold prL; rw [t1, t2, if_pos hM]
    · obtain ⟨t1, t2, t3⟩ := pr_t1 b hb a ha g
      have hno : ¬ 0 < Mg n O b a := by have := Mg_anti n O a b; omega
      refine ⟨ix5 b a, t3, ?_, ?_⟩
      · unfold prU; rw [t1, t2, if_neg hno]
      · unfold prL; rw [t1, t2, if_neg hno]
  · have hp2 := pr_t2 p hp
    have hq2 := pr_t2 q hq
    unfold prU at h1
    unfold prL at h2
    by_cases c1 : 0 < Mg n O (pa5 p) (pb5 p)
    · by_cases c2 : 0 < Mg n O (pa5 q) (pb5 q)
      · rw [if_pos c1, if_pos c2] at h1 h2
        exact pr_t3 p hp q hq h1 h2
      · rw [if_pos c1, if_neg c2] at h1 h2
        omega
    · by_cases c2 : 0 < Mg n O (pa5 q) (pb5 q)
      · rw [if_neg c1, if_pos c2] at h1 h2
        omega
      · rw [if_neg c1, if_neg c2] at h1 h2
        exact pr_t3 p hp q hq h2 h1
def prs (n : Nat) (O : Nat → Nat) (N : Nat) (xu xl xg : Nat → Int32) : Prop := ∀ p, p < N → xu p = nI (prU n O p) ∧ xl p = nI (prL n O p) ∧ xg p = iI (Mg n O (prU n O p) (prL n O p))
theorem prs_up {n : Nat} {O : Nat → Nat} {N : Nat} {xu xl xg : Nat → Int32} (h : prs n O N xu xl xg) : prs n O (N + 1) (upd xu N (nI (prU n O N))) (upd xl N (nI (prL n O N))) (upd xg N (iI (Mg n O (prU n O N) (prL n O N)))) := by
  intro p hp
  by_cases e : p = N
  · subst e; exact ⟨pk_us, pk_us, pk_us⟩
  · rw [pk_un e, pk_un e, pk_un e]; exact h p (by omega)
theorem x_lp {post : SX → Prop} {xc : Int32} {xo xr xp xm xb xs xq xn xu xl xg xk xt xw xv : Nat → Int32} {n : Nat} {O : Nat → Nat} (h : zRX n O (xc, xo, xr, xp, xm, xb, xs, xq, xn, xu, xl, xg, xk, xt, xw, xv)) (hp : ∀ u' l' g' : Nat → Int32, prs n O 10 u' l' g' → post (xc, xo, xr, xp, xm, xb, xs, xq, xn, u', l', g', xk, xt, xw, xv)) : wpX_listPairs post (xc, xo, xr, xp, xm, xb, xs, xq, xn, xu, xl, xg, xk, xt, xw, xv) := by
  have hn := h.1.1
  have hm : ∀ a b, a < 5 → b < 5 → xm (5 * a + b) = iI (Mg n O a b) := h.2.1
  unfold wpX_listPairs
  dsimp only
  refine pk_loop (σ := Int32 × (Nat → Int32) × (Nat → Int32) × (Nat → Int32)) (fun m a s => wX_listPairs_4 post xc m s.1 (nI a) xo xr xp xm xb xs xq xn s.2.1 s.2.2.1 s.2.2.2 xk xt xw xv) (fun a s => s.1 = nI (ix5 a (a + 1)) ∧ prs n O (ix5 a (a + 1)) s.2.1 s.2.2.1 s.2.2.2) 5 0 (0, xu, xl, xg) (by omega) ⟨rfl, fun p hp => by simp [ix5] at hp⟩ ?_ ?_
  · rintro m ⟨x1, u', l', g'⟩ ⟨_, hs⟩
    dsimp only at hs ⊢
    rw [wX_listPairs_4]
    exact br_t (by decide) (hp u' l' g' hs)
  · rintro m a ⟨x1, u', l', g'⟩ ha ⟨e1, hs⟩ hK
    dsimp only at e1 hs hK ⊢
    subst e1
    rw [wX_listPairs_4]
    refine br_f (nI_ge (b := 5) ha (by decide)) (nm_r (nI_1 a) ?_)
    refine pk_loop (σ := Int32 × (Nat → Int32) × (Nat → Int32) × (Nat → Int32)) (fun m' b s => wX_listPairs_13 post (wX_listPairs_4 post xc m) (nI a) xc m' s.1 (nI b) xo xr xp xm xb xs xq xn s.2.1 s.2.2.1 s.2.2.2 xk xt xw xv) (fun b s => a < b ∧ s.1 = nI (ix5 a b) ∧ prs n O (ix5 a b) s.2.1 s.2.2.1 s.2.2.2) 5 (a + 1) (nI (ix5 a (a + 1)), u', l', g') (by omega) ⟨by omega, rfl, hs⟩ ?_ ?_
    · rintro m' ⟨x1, u2, l2, g2⟩ ⟨_, e1, h2⟩
      dsimp only at e1 h2 ⊢
      subst e1
      rw [wX_listPairs_13]
      have ht := pr_t4 a ha
      refine br_t (by decide) (nm_r (nI_1 a) (hK (nI (ix5 a 5), u2, l2, g2) ⟨?_, ?_⟩))
      · dsimp only; rw [ht.1]
      · dsimp only; rw [← ht.1]; exact h2
    · rintro m' b ⟨x1, u2, l2, g2⟩ hb ⟨hab, e1, h2⟩ hK'
      dsimp only at e1 h2 hK' ⊢
      subst e1
      rw [wX_listPairs_13]
      obtain ⟨t1, t2, t3⟩ := pr_t1 a ha b hb hab
      have hbd := Mg_bd hn O a b
      have hanti := Mg_anti n O a b
      have ei : ix5 a b + 1 = ix5 a (b + 1) := by unfold ix5; omega
      have nxt := hK' (nI (ix5 a (b + 1)), upd u2 (ix5 a b) (nI (prU n O (ix5 a b))), upd l2 (ix5 a b) (nI (prL n O (ix5 a b))), upd g2 (ix5 a b) (iI (Mg n O (prU n O (ix5 a b)) (prL n O (ix5 a b))))) ⟨by omega, rfl, by dsimp only; rw [← ei]; exact prs_up h2⟩
      dsimp only at nxt
      refine br_f (nI_ge (b := 5) hb (by decide)) ⟨by rw [vn_5a]; exact vp_in_nI (by omega) (by decide), nm_r (e' := iI (Mg n O a b)) (by rw [vn_5a, nI_clamp (by omega), hm a b ha hb]) (vi_le (Mg n O a b) 0 (fun hle => ?_) (fun hlt => ?_))⟩
      · have eU : prU n O (ix5 a b) = b := by unfold prU; rw [t1, t2, if_neg (by omega)]
        have eL : prL n O (ix5 a b) = a := by unfold prL; rw [t1, t2, if_neg (by omega)]
        rw [eU, eL] at nxt
        unfold wX_listPairs_45
        refine ⟨vp_in_nI t3 (by decide), nm_r (e' := upd u2 (ix5 a b) (nI b)) (by rw [nI_clamp (by omega)]) (vi_le (Mg n O a b) 0 (fun _ => ?_) (fun q => by omega))⟩
        unfold wX_listPairs_61
        refine ⟨vp_in_nI t3 (by decide), nm_r (e' := upd l2 (ix5 a b) (nI a)) (by rw [nI_clamp (by omega)]) (vi_le (Mg n O a b) 0 (fun _ => ⟨vp_in_nI t3 (by decide), nm_r (e' := upd g2 (ix5 a b) (iI (Mg n O b a))) (by rw [nI_clamp (by omega), vs_neg, hanti, Int.neg_neg]) (nm_r (e' := nI (ix5 a (b + 1))) (by rw [nI_1, ei]) (nm_r (nI_1 b) nxt))⟩) (fun q => by omega))⟩
      · have eU : prU n O (ix5 a b) = a := by unfold prU; rw [t1, t2, if_pos hlt]
        have eL : prL n O (ix5 a b) = b := by unfold prL; rw [t1, t2, if_pos hlt]
        rw [eU, eL] at nxt
        unfold wX_listPairs_45
        refine ⟨vp_in_nI t3 (by decide), nm_r (e' := upd u2 (ix5 a b) (nI a)) (by rw [nI_clamp (by omega)]) (vi_le (Mg n O a b) 0 (fun q => by omega) (fun _ => ?_))⟩
        unfold wX_listPairs_61
        refine ⟨vp_in_nI t3 (by decide), nm_r (e' := upd l2 (ix5 a b) (nI b)) (by rw [nI_clamp (by omega)]) (vi_le (Mg n O a b) 0 (fun q => by omega) (fun _ => ⟨vp_in_nI t3 (by decide), nm_r (e' := upd g2 (ix5 a b) (iI (Mg n O a b))) (by rw [nI_clamp (by omega)]) (nm_r (e' := nI (ix5 a (b + 1))) (by rw [nI_1, ei]) (nm_r (nI_1 b) nxt))⟩))⟩
theorem vb_or {x y : Int32} {W W' : Nat → Prop} (h : isSet x W) (h' : isSet y W') : isSet (x ||| y) (fun i => W i ∨ W' i) := by
  intro i
  rw [b_or, Bool.or_eq_true, h i, h' i]
  constructor
  · rintro (⟨a, b⟩ | ⟨a, b⟩)
    · exact ⟨a, Or.inl b⟩
    · exact ⟨a, Or.inr b⟩
  · rintro ⟨a, b | b⟩
    · exact Or.inl ⟨a, b⟩
    · exact Or.inr ⟨a, b⟩
def wI5 (K C : Nat → Nat → Prop) (k : Nat) : Prop := (∀ a b, a < 5 → b < 5 → K a b → C a b) ∧ (∀ a b, a < 5 → b < 5 → C a b → Rch K a b) ∧ ∀ a b c, a < 5 → b < 5 → c < 5 → c < k → C a c → C c b → C a b
theorem wI_step {K C : Nat → Nat → Prop} {k : Nat} (hk : k < 5) (h : wI5 K C k) : wI5 K (fun a b => C a b ∨ (C a k ∧ C k b)) (k + 1) := by
  obtain ⟨h1, h2, h3⟩ := h
  refine ⟨fun a b ha hb hK => Or.inl (h1 a b ha hb hK), fun a b ha hb hC => ?_, fun a b c ha hb hc hck h4 h5 => ?_⟩
  · rcases hC with hC | ⟨c1, c2⟩
    · exact h2 a b ha hb hC
    · exact rch_t ha hk hb (h2 a k ha hk c1) (h2 k b hk hb c2)
  · by_cases e : c = k
    · subst e
      right
      refine ⟨?_, ?_⟩
      · rcases h4 with z | z
        · exact z
        · exact z.1
      · rcases h5 with z | z
        · exact z
        · exact z.2
    · have hlt : c < k := by omega
      rcases h4 with h4 | ⟨p1, p2⟩ <;> rcases h5 with h5 | ⟨q1, q2⟩
      · exact Or.inl (h3 a b c ha hb hc hlt h4 h5)
      · exact Or.inr ⟨h3 a k c ha hk hc hlt h4 q1, q2⟩
      · exact Or.inr ⟨p1, h3 k b c hk hb hc hlt p2 h5⟩
      · exact Or.inr ⟨p1, q2⟩
theorem wI_end {K C : Nat → Nat → Prop} (h : wI5 K C 5) {a b : Nat} (ha : a < 5) (hb : b < 5) : C a b ↔ Rch K a b := by
  refine ⟨h.2.1 a b ha hb, fun hr => ?_⟩
  exact hr C h.1 (fun x y z hx hy hz h1 h2 => h.2.2 x z y hx hz hy hy h1 h2)
theorem x_fw {post : SX → Prop} {xc : Int32} {xo xr xp xm xb xs xq xn xu xl xg xk xt xw xv : Nat → Int32} {n : Nat} {O : Nat → Nat} (hp3 : prs n O 10 xu xl xg) {k : Nat} (hk : k < 1024)
    (hp : ∀ t' : Nat → Int32, (∀ a, a < 5 → isSet (t' a) (Rch (Kof 10 (prU n O) (prL n O) k) a)) → post (xc, xo, xr, xp, xm, xb, xs, xq, xn, xu, xl, xg, xk, t', xw, xv)) : wpX_findWaysOver post (xc, xo, xr, xp, xm, xb, xs, xq, xn, xu, xl, xg, xk, xt, xw, xv) (nI k) := by
  have hI := pr_idx n O
  unfold wpX_findWaysOver
  dsimp only
  refine pk_loop (σ := Nat → Int32) (fun m a s => wX_findWaysOver_2 post (nI k) xc m (nI a) xo xr xp xm xb xs xq xn xu xl xg xk s xw xv) (fun a s => ∀ x, x < a → s x = 0) 5 0 xt (by omega) (fun x hx => by omega) ?_ ?_
  · intro m s hs
    rw [wX_findWaysOver_2]
    refine br_t (by decide) ?_
    refine pk_loop (σ := Nat → Int32) (fun m p s => wX_findWaysOver_22 post (nI k) xc m (nI p) xo xr xp xm xb xs xq xn xu xl xg xk s xw xv) (fun p s => ∀ x, x < 5 → isSet (s x) (fun b => ∃ q, q < p ∧ k.testBit q = true ∧ prU n O q = x ∧ prL n O q = b)) 10 0 s (by omega) (fun x hx => by rw [hs x hx]; exact vb_congr vb_empty (fun i _ => ⟨fun z => z.elim, fun ⟨q, hq, _⟩ => by omega⟩)) ?_ ?_
    · intro m s hs
      rw [wX_findWaysOver_22]
      refine br_t (by decide) ?_
      refine pk_loop (σ := Nat → Int32) (fun m via s => wX_findWaysOver_66 post xc m (nI via) xo xr xp xm xb xs xq xn xu xl xg xk s xw xv) (fun via s => ∃ C, (∀ x, x < 5 → isSet (s x) (C x)) ∧ wI5 (Kof 10 (prU n O) (prL n O) k) C via) 5 0 s (by omega) ⟨Kof 10 (prU n O) (prL n O) k, hs, fun _ _ _ _ h => h, fun a b ha hb h => rch_1 ha hb h, fun a b c _ _ _ h => by omega⟩ ?_ ?_
      · rintro m s ⟨C, h1, h2⟩
        rw [wX_findWaysOver_66]
        exact br_t (by decide) (hp s (fun a ha => vb_congr (h1 a ha) (fun b hb => wI_end h2 ha hb)))
      · rintro m via s hv ⟨C, h1, h2⟩ hK
        rw [wX_findWaysOver_66]
        refine br_f (nI_ge (b := 5) hv (by decide)) ?_
        refine pk_loop (σ := Nat → Int32) (fun m' a s => wX_findWaysOver_73 post (wX_findWaysOver_66 post xc m) (nI via) xc m' (nI a) xo xr xp xm xb xs xq xn xu xl xg xk s xw xv) (fun a s => ∀ x, x < 5 → isSet (s x) (fun b => C x b ∨ (x < a ∧ C x via ∧ C via b))) 5 0 s (by omega) (fun x hx => vb_congr (h1 x hx) (fun b _ => ⟨Or.inl, fun z => z.elim id (fun w => by omega)⟩)) ?_ ?_
        · intro m' s' hs'
          rw [wX_findWaysOver_73]
          refine br_t (by decide) (nm_r (nI_1 via) (hK s' ⟨fun a b => C a b ∨ (C a via ∧ C via b), fun x hx => vb_congr (hs' x hx) (fun b _ => ?_), wI_step hv h2⟩))
          exact ⟨fun z => z.elim Or.inl (fun w => Or.inr w.2), fun z => z.elim Or.inl (fun w => Or.inr ⟨hx, w⟩)⟩
        · intro m' a s' ha hs' hK'
          rw [wX_findWaysOver_73]
          refine br_f (nI_ge (b := 5) ha (by decide)) ⟨vp_in_nI ha (by decide), ?_⟩
          rw [nI_clamp (n := a) (by omega), nI_clamp (n := via) (by omega)]
          have hav : bt (s' a) via = true ↔ C a via := by
            rw [hs' a ha via]
            exact ⟨fun z => z.2.elim id (fun w => by omega), fun z => ⟨hv, Or.inl z⟩⟩
          have hvr : isSet (s' via) (C via) := vb_congr (hs' via hv) (fun b _ => ⟨fun z => z.elim id (fun w => w.2.2), Or.inl⟩)
          refine x_has (by omega) (fun e => br_f (by decide) ⟨vp_in_nI ha (by decide), vp_in_nI hv (by decide), vp_in_nI ha (by decide), nm_e (nm_r (nI_1 a) (hK' (upd s' a (s' a ||| s' via)) (fun x hx => ?_)))⟩) (fun e => br_t rfl (nm_r (nI_1 a) (hK' s' (fun x hx => vb_congr (hs' x hx) (fun b _ => ?_)))))
          · by_cases ex : x = a
            · subst ex
              rw [pk_us]
              refine vb_congr (vb_or (hs' x hx) hvr) (fun b _ => ⟨?_, ?_⟩)
              · rintro ((z | z) | z)
                · exact Or.inl z
                · omega
                · exact Or.inr ⟨by omega, hav.mp e, z⟩
              · rintro (z | z)
                · exact Or.inl (Or.inl z)
                · exact Or.inr z.2.2
            · rw [pk_un ex]
              exact vb_congr (hs' x hx) (fun b _ => ⟨fun z => z.elim Or.inl (fun w => Or.inr ⟨by omega, w.2⟩), fun z => z.elim Or.inl (fun w => Or.inr ⟨by omega, w.2⟩)⟩)
          · refine ⟨fun z => z.elim Or.inl (fun w => Or.inr ⟨by omega, w.2⟩), fun z => z.elim Or.inl (fun w => ?_)⟩
            by_cases ex : x = a
            · subst ex
              rw [hav.mpr w.2.1] at e; cases e
            · exact Or.inr ⟨by omega, w.2⟩
    · intro m p s hp10 hs hK
      rw [wX_findWaysOver_22]
      obtain ⟨eU, eL, _⟩ := hp3 p hp10
      have hIp := hI.1 p hp10
      refine br_f (nI_ge (b := 10) hp10 (by decide)) (x_has (by omega) (fun e => br_f (by decide) ?_) (fun e => br_t rfl (nm_r (nI_1 p) (hK s (fun x hx => vb_congr (hs x hx) (fun b _ => ?_))))))
      · rw [vb_nI k p (by omega)] at e
        rw [nI_clamp (n := p) (by omega), eU, eL, nI_clamp (n := prU n O p) (by omega)]
        refine ⟨vp_in_nI hp10 (by decide), vp_in_nI hIp.1 (by decide), vp_in_nI hp10 (by decide), vp_in_nI hIp.1 (by decide), nm_e (nm_r (nI_1 p) (hK (upd s (prU n O p) (s (prU n O p) ||| ((1 : Int32) <<< (nI (prL n O p) &&& 31)))) (fun x hx => ?_)))⟩
        by_cases ex : x = prU n O p
        · subst ex
          rw [pk_us]
          refine vb_congr (vb_ins (hs _ hx) hIp.2.1) (fun b _ => ⟨?_, ?_⟩)
          · rintro (⟨q, q1, q2⟩ | z)
            · exact ⟨q, by omega, q2⟩
            · exact ⟨p, by omega, e, rfl, z.symm⟩
          · rintro ⟨q, q1, q2, q3, q4⟩
            by_cases eq : q = p
            · subst eq; exact Or.inr q4.symm
            · exact Or.inl ⟨q, by omega, q2, q3, q4⟩
        · rw [pk_un ex]
          refine vb_congr (hs x hx) (fun b _ => ⟨fun ⟨q, q1, q2⟩ => ⟨q, by omega, q2⟩, fun ⟨q, q1, q2, q3, q4⟩ => ?_⟩)
          by_cases eq : q = p
          · subst eq; exact absurd q3.symm ex
          · exact ⟨q, by omega, q2, q3, q4⟩
      · rw [vb_nI k p (by omega)] at e
        refine ⟨fun ⟨q, q1, q2⟩ => ⟨q, by omega, q2⟩, fun ⟨q, q1, q2, q3⟩ => ?_⟩
        by_cases eq : q = p
        · subst eq; rw [q2] at e; cases e
        · exact ⟨q, by omega, q2, q3⟩
  · intro m a s ha hs hK
    rw [wX_findWaysOver_2]
    refine br_f (nI_ge (b := 5) ha (by decide)) ⟨vp_in_nI ha (by decide), nm_r (e' := upd s a 0) (by rw [nI_clamp (by omega)]) (nm_r (nI_1 a) (hK (upd s a 0) (fun x hx => ?_)))⟩
    by_cases ex : x = a
    · subst ex; exact pk_us
    · rw [pk_un ex]; exact hs x (by omega)
end
section
/-! ===== rule 10: the component's main loop ===== -/
theorem x_op {post : Int32 → Prop} {xc : Int32} {xo xr xp xm xb xs xq xn xu xl xg xk xt xw xv : Nat → Int32} {n : Nat} (hn : n ≤ 9) {O : Nat → Nat} (hp3 : prs n O 10 xu xl xg) {k p : Nat} (hk : k < 1024) (hp10 : p < 10) (hct : ∀ a, a < 5 → isSet (xt a) (Rch (Kof 10 (prU n O) (prL n O) k) a)) (h1 : opn n O (prU n O) (prL n O) k p → post 1) (h0 : ¬ opn n O (prU n O) (prL n O) k p → post 0) : wpX_isOpen post (xc, xo, xr, xp, xm, xb, xs, xq, xn, xu, xl, xg, xk, xt, xw, xv) (nI p) (nI k) := by
  obtain ⟨eU, eL, eG⟩ := hp3 p hp10
  have hIp := (pr_idx n O).1 p hp10
  have hbd := Mg_bd hn O (prU n O p) (prL n O p)
  unfold wpX_isOpen
  dsimp only
  rw [nI_clamp (n := p) (by omega), eG, eL, eU, nI_clamp (n := prL n O p) (by omega)]
  refine ⟨vp_in_nI hp10 (by decide), vi_le (Mg n O (prU n O p) (prL n O p)) 0 (fun hle => h0 (fun z => by have := z.1; omega)) (fun hgt => ?_)⟩
  refine x_has (by omega) (fun e => br_f (by decide) (h0 (fun z => ?_))) (fun e => br_t rfl ⟨vp_in_nI hp10 (by decide), vp_in_nI hIp.2.1 (by decide), vp_in_nI hp10 (by decide), ?_⟩)
  · rw [vb_nI k p (by omega), z.2.1] at e; cases e
  · rw [vb_nI k p (by omega)] at e
    have hr := hct _ hIp.2.1 (prU n O p)
    refine x_has (by omega) (fun e2 => br_f (by decide) (h0 (fun z => z.2.2 (hr.mp e2).2))) (fun e2 => br_t rfl (h1 ⟨hgt, e, fun z => ?_⟩))
    rw [hr.mpr ⟨hIp.1, z⟩] at e2; cases e2
theorem x_gom {post : Int32 → Prop} {xc : Int32} {xo xr xp xm xb xs xq xn xu xl xg xk xt xw xv : Nat → Int32} {n : Nat} (hn : n ≤ 9) {O : Nat → Nat} (hp3 : prs n O 10 xu xl xg) {k : Nat} (hk : k < 1024) (hct : ∀ a, a < 5 → isSet (xt a) (Rch (Kof 10 (prU n O) (prL n O) k) a))
    (h0 : (∀ p, p < 10 → ¬ opn n O (prU n O) (prL n O) k p) → post (iI 0)) (h1 : ∀ f, f < 10 → opn n O (prU n O) (prL n O) k f → (∀ p, p < 10 → opn n O (prU n O) (prL n O) k p → Mg n O (prU n O p) (prL n O p) ≤ Mg n O (prU n O f) (prL n O f)) → post (iI (Mg n O (prU n O f) (prL n O f)))) : wpX_greatestOpenMargin post (xc, xo, xr, xp, xm, xb, xs, xq, xn, xu, xl, xg, xk, xt, xw, xv) (nI k) := by
  unfold wpX_greatestOpenMargin
  dsimp only
  refine pk_loop (σ := Int32) (fun m p x => wX_greatestOpenMargin_4 post (nI k) xc xo xr xp xm xb xs xq xn xu xl xg xk xt xw xv m x (nI p)) (fun p x => (x = iI 0 ∧ ∀ q, q < p → ¬ opn n O (prU n O) (prL n O) k q) ∨ ∃ f, f < p ∧ opn n O (prU n O) (prL n O) k f ∧ x = iI (Mg n O (prU n O f) (prL n O f)) ∧ ∀ q, q < p → opn n O (prU n O) (prL n O) k q → Mg n O (prU n O q) (prL n O q) ≤ Mg n O (prU n O f) (prL n O f)) 10 0 0 (by omega) (Or.inl ⟨rfl, fun q hq => by omega⟩) ?_ ?_
  · rintro m x hx
    rw [wX_greatestOpenMargin_4]
    refine br_t (by decide) ?_
    rcases hx with ⟨e, g⟩ | ⟨f, a, b, e, g⟩
    · rw [e]; exact h0 g
    · rw [e]; exact h1 f a b g
  · rintro m p x hp10 hx hK
    rw [wX_greatestOpenMargin_4]
    obtain ⟨eU, eL, eG⟩ := hp3 p hp10
    have hbd := Mg_bd hn O (prU n O p) (prL n O p)
    refine br_f (nI_ge (b := 10) hp10 (by decide)) (x_op hn hp3 hk hp10 hct (fun ho => br_f (by decide) ⟨vp_in_nI hp10 (by decide), ?_⟩) (fun hno => br_t rfl (nm_r (nI_1 p) (hK x ?_))))
    · rw [nI_clamp (by omega), eG]
      have hpos := ho.1
      obtain ⟨z, ez, z0, z9⟩ : ∃ z : Int, x = iI z ∧ 0 ≤ z ∧ z ≤ 9 := by
        rcases hx with ⟨e, _⟩ | ⟨f, _, b, e, _⟩
        · exact ⟨0, e, by omega, by omega⟩
        · have := Mg_bd hn O (prU n O f) (prL n O f)
          have := b.1
          exact ⟨_, e, by omega, by omega⟩
      refine vi_le (Mg n O (prU n O p) (prL n O p)) z (fun hle => nm_r (nI_1 p) (hK x ?_)) (fun hgt => ⟨vp_in_nI hp10 (by decide), nm_e (nm_r (nI_1 p) (hK _ (Or.inr ⟨p, by omega, ho, rfl, fun q hq hoq => ?_⟩)))⟩) rfl ez
      · rcases hx with ⟨e, g⟩ | ⟨f, a, b, e, g⟩
        · have : z = 0 := (vs_eq (by omega)).mp (ez.symm.trans e)
          omega
        · have hfb := Mg_bd hn O (prU n O f) (prL n O f)
          have : z = Mg n O (prU n O f) (prL n O f) := (vs_eq (by omega)).mp (ez.symm.trans e)
          refine Or.inr ⟨f, by omega, b, e, fun q hq hoq => ?_⟩
          by_cases eq : q = p
          · subst eq; omega
          · exact g q (by omega) hoq
      · by_cases eq : q = p
        · subst eq; exact Int.le_refl _
        · rcases hx with ⟨e, g⟩ | ⟨f, a, b, e, g⟩
          · exact absurd hoq (g q (by omega))
          · have hfb := Mg_bd hn O (prU n O f) (prL n O f)
            have : z = Mg n O (prU n O f) (prL n O f) := (vs_eq (by omega)).mp (ez.symm.trans e)
            have := g q (by omega) hoq
            omega
    · rcases hx with ⟨e, g⟩ | ⟨f, a, b, e, g⟩
      · refine Or.inl ⟨e, fun q hq => ?_⟩
        by_cases eq : q = p
        · subst eq; exact hno
        · exact g q (by omega)
      · refine Or.inr ⟨f, by omega, b, e, fun q hq hoq => ?_⟩
        by_cases eq : q = p
        · subst eq; exact absurd hoq hno
        · exact g q (by omega) hoq
theorem x_low {post : Int32 → Prop} {xc : Int32} {xo xr xp xm xb xs xq xn xu xl xg xk xt xw xv : Nat → Int32} {n : Nat} {O : Nat → Nat} (hp3 : prs n O 10 xu xl xg) {k : Nat} (hk : k < 1024) (hp : ∀ r, isSet r (fun b => ∃ q, q < 10 ∧ k.testBit q = true ∧ prL n O q = b) → post r) : wpX_lowersOf post (xc, xo, xr, xp, xm, xb, xs, xq, xn, xu, xl, xg, xk, xt, xw, xv) (nI k) := by
  unfold wpX_lowersOf
  dsimp only
  refine pk_loop (σ := Int32) (fun m p x => wX_lowersOf_4 post (nI k) xc xo xr xp xm xb xs xq xn xu xl xg xk xt xw xv m x (nI p)) (fun p x => isSet x (fun b => ∃ q, q < p ∧ k.testBit q = true ∧ prL n O q = b)) 10 0 0 (by omega) (vb_congr vb_empty (fun i _ => ⟨fun z => z.elim, fun ⟨q, hq, _⟩ => by omega⟩)) ?_ ?_
  · intro m x hx
    rw [wX_lowersOf_4]
    exact br_t (by decide) (hp x hx)
  · intro m p x hp10 hx hK
    rw [wX_lowersOf_4]
    obtain ⟨eU, eL, eG⟩ := hp3 p hp10
    have hIp := (pr_idx n O).1 p hp10
    refine br_f (nI_ge (b := 10) hp10 (by decide)) (x_has (by omega) (fun e => br_f (by decide) ⟨vp_in_nI hp10 (by decide), ?_⟩) (fun e => br_t rfl (nm_r (nI_1 p) (hK x (vb_congr hx (fun b _ => ?_))))))
    · rw [vb_nI k p (by omega)] at e
      rw [nI_clamp (by omega), eL]
      refine nm_e (nm_r (nI_1 p) (hK _ (vb_congr (vb_ins hx hIp.2.1) (fun b _ => ⟨?_, ?_⟩))))
      · rintro (⟨q, q1, q2⟩ | z)
        · exact ⟨q, by omega, q2⟩
        · exact ⟨p, by omega, e, z.symm⟩
      · rintro ⟨q, q1, q2, q3⟩
        by_cases eq : q = p
        · subst eq; exact Or.inr q3.symm
        · exact Or.inl ⟨q, by omega, q2, q3⟩
    · rw [vb_nI k p (by omega)] at e
      refine ⟨fun ⟨q, q1, q2⟩ => ⟨q, by omega, q2⟩, fun ⟨q, q1, q2, q3⟩ => ?_⟩
      by_cases eq : q = p
      · subst eq; rw [q2] at e; cases e
      · exact ⟨q, by omega, q2, q3⟩
/-- what keepOneOf marks -/
def kpd (n : Nat) (O : Nat → Nat) (k N : Nat) (z : Int) (q q' : Nat → Int32) : Prop := (∀ p, p < N → opn n O (prU n O) (prL n O) k p → Mg n O (prU n O p) (prL n O p) = z → q' (k ||| 2 ^ p) ≠ 0) ∧ (∀ t, q' t ≠ 0 → q t ≠ 0 ∨ ∃ p, p < 10 ∧ opn n O (prU n O) (prL n O) k p ∧ Mg n O (prU n O p) (prL n O p) = z ∧ t = k ||| 2 ^ p) ∧ ∀ t, q t ≠ 0 → q' t ≠ 0
theorem x_kp {post : SX → Prop} {xc : Int32} {xo xr xp xm xb xs xq xn xu xl xg xk xt xw xv : Nat → Int32} {n : Nat} (hn : n ≤ 9) {O : Nat → Nat} (hp3 : prs n O 10 xu xl xg) {k : Nat} (hk : k < 1024) (hct : ∀ a, a < 5 → isSet (xt a) (Rch (Kof 10 (prU n O) (prL n O) k) a)) {z : Int} (hz : -9 ≤ z ∧ z ≤ 9)
    (hp : ∀ q', kpd n O k 10 z xk q' → post (xc, xo, xr, xp, xm, xb, xs, xq, xn, xu, xl, xg, q', xt, xw, xv)) : wpX_keepOneOf post (xc, xo, xr, xp, xm, xb, xs, xq, xn, xu, xl, xg, xk, xt, xw, xv) (nI k) (iI z) := by
  unfold wpX_keepOneOf
  dsimp only
  refine pk_loop (σ := Nat → Int32) (fun m p q => wX_keepOneOf_2 post (nI k) (iI z) xc m (nI p) xo xr xp xm xb xs xq xn xu xl xg q xt xw xv) (fun p q => kpd n O k p z xk q) 10 0 xk (by omega) ⟨fun p hp => by omega, fun t ht => Or.inl ht, fun t ht => ht⟩ ?_ ?_
  · intro m q hq
    rw [wX_keepOneOf_2]
    exact br_t (by decide) (hp q hq)
  · rintro m p q hp10 ⟨g1, g2, g3⟩ hK
    rw [wX_keepOneOf_2]
    obtain ⟨eU, eL, eG⟩ := hp3 p hp10
    have hbd := Mg_bd hn O (prU n O p) (prL n O p)
    have keep : (opn n O (prU n O) (prL n O) k p → Mg n O (prU n O p) (prL n O p) ≠ z) → kpd n O k (p + 1) z xk q := by
      intro hno
      refine ⟨fun r hr ho he => ?_, g2, g3⟩
      by_cases er : r = p
      · subst er; exact absurd he (hno ho)
      · exact g1 r (by omega) ho he
    refine br_f (nI_ge (b := 10) hp10 (by decide)) (x_op hn hp3 hk hp10 hct (fun ho => br_f (by decide) ⟨vp_in_nI hp10 (by decide), ?_⟩) (fun hno => br_t rfl (nm_r (nI_1 p) (hK q (keep (fun z => absurd z hno))))))
    rw [nI_clamp (by omega), eG]
    refine vi_eq _ z (fun e => ?_) (fun e => nm_r (nI_1 p) (hK q (keep (fun _ => e))))
    have hlt : k ||| 2 ^ p < 1024 := Nat.or_lt_two_pow (n := 10) hk (Nat.pow_lt_pow_right (by decide) hp10)
    rw [pw10 p (by omega), nI_or]
    refine ⟨vp_in_nI hlt (by decide), nm_r (e' := upd q (k ||| 2 ^ p) 1) (by rw [nI_clamp (by omega), nb1]) (nm_r (nI_1 p) (hK (upd q (k ||| 2 ^ p) 1) ?_))⟩
    have key : ∀ t, q t ≠ 0 → upd q (k ||| 2 ^ p) 1 t ≠ 0 := by
      intro t ht
      by_cases et : t = k ||| 2 ^ p
      · rw [et, pk_us]; decide
      · rw [pk_un et]; exact ht
    refine ⟨fun r hr hor her => ?_, fun t ht => ?_, fun t ht => key t (g3 t ht)⟩
    · by_cases er : r = p
      · subst er; rw [pk_us]; decide
      · exact key _ (g1 r (by omega) hor her)
    · by_cases et : t = k ||| 2 ^ p
      · exact Or.inr ⟨p, hp10, ho, e, et⟩
      · rw [pk_un et] at ht; exact g2 t ht
/-- the search as far as the sets below k go -/
def srI (n : Nat) (O : Nat → Nat) (k : Nat) (q : Nat → Int32) (w : Int32) : Prop := (∀ t, t < 1024 → q t ≠ 0 → xIv n O (prU n O) (prL n O) t) ∧ q 0 ≠ 0 ∧ (∀ t f, t < k → q t ≠ 0 → f < 10 → opn n O (prU n O) (prL n O) t f → (∀ p, p < 10 → opn n O (prU n O) (prL n O) t p → Mg n O (prU n O p) (prL n O p) ≤ Mg n O (prU n O f) (prL n O f)) → q (t ||| 2 ^ f) ≠ 0) ∧ isSet w (fun c => ∃ t, t < k ∧ q t ≠ 0 ∧ (∀ p, p < 10 → ¬ opn n O (prU n O) (prL n O) t p) ∧ ¬ ∃ r, r < 10 ∧ t.testBit r = true ∧ prL n O r = c)
theorem sr_skip {n : Nat} {O : Nat → Nat} {k : Nat} {q : Nat → Int32} {w : Int32} (h : srI n O k q w) (hq : q k = 0) : srI n O (k + 1) q w := by
  obtain ⟨h1, h2, h3, h4⟩ := h
  refine ⟨h1, h2, fun t f ht hqt => ?_, vb_congr h4 (fun c _ => ⟨fun ⟨t, a, b⟩ => ⟨t, by omega, b⟩, fun ⟨t, a, b, d⟩ => ?_⟩)⟩
  · by_cases e : t = k
    · subst e; exact absurd hq hqt
    · exact h3 t f (by omega) hqt
  · by_cases e : t = k
    · subst e; exact absurd hq b
    · exact ⟨t, by omega, b, d⟩
theorem sr_end1 {n : Nat} {O : Nat → Nat} {k : Nat} {q : Nat → Int32} {w r : Int32} (h : srI n O k q w) (hq : q k ≠ 0) (hno : ∀ p, p < 10 → ¬ opn n O (prU n O) (prL n O) k p) (hr : isSet r (fun b => ∃ s, s < 10 ∧ k.testBit s = true ∧ prL n O s = b)) : srI n O (k + 1) q (w ||| (31 &&& (r ^^^ (-1)))) := by
  obtain ⟨h1, h2, h3, h4⟩ := h
  have hx : isSet (31 &&& (r ^^^ (-1))) (fun c => ¬ ∃ s, s < 10 ∧ k.testBit s = true ∧ prL n O s = c) := by
    intro i
    rw [b_and, vb_31]
    rcases Nat.lt_or_ge i 5 with g | g
    · rw [vb_not _ (by omega), decide_eq_true g, Bool.true_and]
      have := hr i
      cases hb : bt r i
      · refine ⟨fun _ => ⟨g, fun z => ?_⟩, fun _ => rfl⟩
        rw [this.mpr ⟨g, z⟩] at hb; cases hb
      · exact ⟨(fun z => by simp at z), fun z => absurd (this.mp hb).2 z.2⟩
    · rw [decide_eq_false (by omega), Bool.false_and]
      exact ⟨(fun z => by simp at z), fun z => by omega⟩
  refine ⟨h1, h2, fun t f ht hqt hf ho => ?_, vb_congr (vb_or h4 hx) (fun c _ => ⟨?_, ?_⟩)⟩
  · by_cases e : t = k
    · subst e; exact absurd ho (hno f hf)
    · exact h3 t f (by omega) hqt hf ho
  · rintro (⟨t, a, b⟩ | z)
    · exact ⟨t, by omega, b⟩
    · exact ⟨k, by omega, hq, hno, z⟩
  · rintro ⟨t, a, b, d, e⟩
    by_cases et : t = k
    · subst et; exact Or.inr e
    · exact Or.inl ⟨t, by omega, b, d, e⟩
theorem sr_go {n : Nat} {O : Nat → Nat} {k f : Nat} {q q' : Nat → Int32} {w : Int32} (hk : k < 1024) (h : srI n O k q w) (hq : q k ≠ 0) (hf : f < 10) (ho : opn n O (prU n O) (prL n O) k f) (hm : ∀ p, p < 10 → opn n O (prU n O) (prL n O) k p → Mg n O (prU n O p) (prL n O p) ≤ Mg n O (prU n O f) (prL n O f)) (hg : kpd n O k 10 (Mg n O (prU n O f) (prL n O f)) q q') : srI n O (k + 1) q' w := by
  obtain ⟨h1, h2, h3, h4⟩ := h
  obtain ⟨g1, g2, g3⟩ := hg
  have hI := pr_idx n O
  have old : ∀ t, t ≤ k → (q' t ≠ 0 ↔ q t ≠ 0) := by
    intro t ht
    refine ⟨fun z => ?_, g3 t⟩
    rcases g2 t z with a | ⟨p, hp, hop, _, e⟩
    · exact a
    · have := or_gt hop.2.1
      omega
  refine ⟨fun t ht hqt => ?_, g3 0 h2, fun t e ht hqt he hoe hme => ?_, vb_congr h4 (fun c _ => ⟨?_, ?_⟩)⟩
  · rcases g2 t hqt with a | ⟨p, hp, hop, hz, e⟩
    · exact h1 t ht a
    · rw [e]
      exact xIv_step hI (h1 k hk hq) hp hop (fun r hr hor => by rw [hz]; exact hm r hr hor)
  · by_cases et : t = k
    · subst et
      refine g1 e he hoe ?_
      have := hm e he hoe
      have := hme f hf ho
      omega
    · exact g3 _ (h3 t e (by omega) ((old t (by omega)).mp hqt) he hoe hme)
  · rintro ⟨t, a, b, d⟩
    exact ⟨t, by omega, g3 t b, d⟩
  · rintro ⟨t, a, b, d, e⟩
    by_cases et : t = k
    · subst et; exact absurd ho (d f hf)
    · exact ⟨t, by omega, (old t (by omega)).mp b, d, e⟩
theorem sr_fin {n : Nat} {O : Nat → Nat} {q : Nat → Int32} {w : Int32} (h : srI n O 1024 q w) : isSet w (W10 n O) := by
  obtain ⟨h1, h2, h3, h4⟩ := h
  have hI := pr_idx n O
  refine vb_congr h4 (fun c hc => ⟨?_, ?_⟩)
  · rintro ⟨t, a, b, d, e⟩
    refine ⟨Kof 10 (prU n O) (prL n O) t, xIv_end hI (h1 t a b) d, fun x _ ⟨r, r1, r2, r3, r4⟩ => e ⟨r, r1, r2, r4⟩⟩
  · rintro ⟨K, hK, hno⟩
    obtain ⟨k, k1, k2, k3, k4⟩ := x_cover hI (F := fun t => q t ≠ 0) h2 (fun t f ht hqt hf ho hm => h3 t f ht hqt hf ho hm) hK
    refine ⟨k, k1, k2, k3, fun ⟨r, r1, r2, r3⟩ => ?_⟩
    have := (k4 (prU n O r) c (hI.1 r r1).1 hc).mp ⟨r, r1, r2, rfl, r3⟩
    exact hno _ (hI.1 r r1).1 this
end
section
/-! ===== rule 10: the component, end ===== -/
theorem x_h37 {post : Int32 → SX → Prop} {u : SX} {n : Nat} {O : Nat → Nat} {V : Nat → Int32} (h : zRV n O V u) (hp3 : prs n O 10 u.2.2.2.2.2.2.2.2.2.1 u.2.2.2.2.2.2.2.2.2.2.1 u.2.2.2.2.2.2.2.2.2.2.2.1) (hs : srI n O 0 u.2.2.2.2.2.2.2.2.2.2.2.2.1 0) (hp : ∀ w u', isSet w (W10 n O) → zRV n O V u' → post w u') : ∃ m, wX_headsOfKeptCouples_37 post m 0 0 u.1 u.2.1 u.2.2.1 u.2.2.2.1 u.2.2.2.2.1 u.2.2.2.2.2.1 u.2.2.2.2.2.2.1 u.2.2.2.2.2.2.2.1 u.2.2.2.2.2.2.2.2.1 u.2.2.2.2.2.2.2.2.2.1 u.2.2.2.2.2.2.2.2.2.2.1 u.2.2.2.2.2.2.2.2.2.2.2.1 u.2.2.2.2.2.2.2.2.2.2.2.2.1 u.2.2.2.2.2.2.2.2.2.2.2.2.2.1 u.2.2.2.2.2.2.2.2.2.2.2.2.2.2.1 u.2.2.2.2.2.2.2.2.2.2.2.2.2.2.2 := by
  have hn := h.1.1.1
  refine pk_loop (σ := Int32 × SX) (fun m k s => wX_headsOfKeptCouples_37 post m s.1 (nI k) s.2.1 s.2.2.1 s.2.2.2.1 s.2.2.2.2.1 s.2.2.2.2.2.1 s.2.2.2.2.2.2.1 s.2.2.2.2.2.2.2.1 s.2.2.2.2.2.2.2.2.1 s.2.2.2.2.2.2.2.2.2.1 s.2.2.2.2.2.2.2.2.2.2.1 s.2.2.2.2.2.2.2.2.2.2.2.1 s.2.2.2.2.2.2.2.2.2.2.2.2.1 s.2.2.2.2.2.2.2.2.2.2.2.2.2.1 s.2.2.2.2.2.2.2.2.2.2.2.2.2.2.1 s.2.2.2.2.2.2.2.2.2.2.2.2.2.2.2.1 s.2.2.2.2.2.2.2.2.2.2.2.2.2.2.2.2) (fun k s => zRV n O V s.2 ∧ prs n O 10 s.2.2.2.2.2.2.2.2.2.2.1 s.2.2.2.2.2.2.2.2.2.2.2.1 s.2.2.2.2.2.2.2.2.2.2.2.2.1 ∧ srI n O k s.2.2.2.2.2.2.2.2.2.2.2.2.2.1 s.1) 1024 0 (0, u) (by omega) ⟨h, hp3, hs⟩ ?_ ?_
  · rintro m ⟨w, ⟨xc', xo', xr', xp', xm', xb', xs', xq', xn', xu', xl', xg', xk', xt', xw', xv'⟩⟩ ⟨hX, _, hs⟩
    dsimp only at hs ⊢
    rw [wX_headsOfKeptCouples_37]
    exact br_t (by decide) (hp w _ (sr_fin hs) hX)
  · rintro m k ⟨w, ⟨xc', xo', xr', xp', xm', xb', xs', xq', xn', xu', xl', xg', xk', xt', xw', xv'⟩⟩ hk ⟨hX, hp3, hs⟩ hK
    dsimp only at hp3 hs hK ⊢
    rw [wX_headsOfKeptCouples_37]
    refine br_f (nI_ge (b := 1024) hk (by decide)) ⟨vp_in_nI hk (by decide), ?_⟩
    rw [nI_clamp (by omega)]
    refine br_c (fun hz => nm_r (nI_1 k) (hK (w, (xc', xo', xr', xp', xm', xb', xs', xq', xn', xu', xl', xg', xk', xt', xw', xv')) ⟨hX, hp3, sr_skip hs hz⟩)) (fun hz => x_fw hp3 hk (fun t' ht => ?_))
    refine x_gom hn hp3 hk ht (fun hno => br_t rfl ?_) (fun f hf ho hm => ?_)
    · exact x_low hp3 hk (fun r hr => nm_e (nm_r (nI_1 k) (hK (w ||| (31 &&& (r ^^^ (-1))), (xc', xo', xr', xp', xm', xb', xs', xq', xn', xu', xl', xg', xk', t', xw', xv')) ⟨rv_any hX, hp3, sr_end1 hs hz hno hr⟩)))
    · have hb := Mg_bd hn O (prU n O f) (prL n O f)
      have hpos := ho.1
      refine vi_eq (Mg n O (prU n O f) (prL n O f)) 0 (fun e => by omega) (fun _ => ?_)
      exact x_kp hn hp3 hk ht hb (fun q' hq' => nm_r (nI_1 k) (hK (w, (xc', xo', xr', xp', xm', xb', xs', xq', xn', xu', xl', xg', q', t', xw', xv')) ⟨rv_any hX, hp3, sr_go hk hs hz hf ho hm hq'⟩))
theorem x_w10 {post : Int32 → SX → Prop} {u : SX} {n : Nat} {O : Nat → Nat} {V : Nat → Int32} (h : zRV n O V u) (hp : ∀ w u', isSet w (W10 n O) → zRV n O V u' → post w u') : wpX_headsOfKeptCouples post u := by
  obtain ⟨xc, xo, xr, xp, xm, xb, xs, xq, xn, xu, xl, xg, xk, xt, xw, xv⟩ := u
  unfold wpX_headsOfKeptCouples
  dsimp only
  refine x_lp h.1 (fun u' l' g' hp3 => ?_)
  refine pk_loop (σ := Nat → Int32) (fun m t q => wX_headsOfKeptCouples_6 post xc m (nI t) xo xr xp xm xb xs xq xn u' l' g' q xt xw xv) (fun t q => ∀ j, j < t → q j = 0) 1024 0 xk (by omega) (fun j hj => by omega) ?_ ?_
  · intro m q hq
    rw [wX_headsOfKeptCouples_6]
    refine br_t (by decide) (nm_r (e' := upd q 0 1) (by rw [nb1]) ?_)
    refine x_h37 (u := (xc, xo, xr, xp, xm, xb, xs, xq, xn, u', l', g', (upd q 0 1), xt, xw, xv)) (rv_any h) hp3 ⟨fun t ht hqt => ?_, ?_, fun t f ht => by omega, vb_congr vb_empty (fun c _ => ⟨fun z => z.elim, fun ⟨t, ht, _⟩ => by omega⟩)⟩ hp
    · by_cases e : t = 0
      · subst e; exact xIv_0
      · dsimp only at hqt
        rw [pk_un e] at hqt
        exact absurd (hq t ht) hqt
    · dsimp only; rw [pk_us]; decide
  · intro m t q ht hq hK
    rw [wX_headsOfKeptCouples_6]
    refine br_f (nI_ge (b := 1024) ht (by decide)) ⟨vp_in_nI ht (by decide), nm_r (e' := upd q t 0) (by rw [nI_clamp (by omega), nb0]) (nm_r (nI_1 t) (hK (upd q t 0) (fun j hj => ?_)))⟩
    by_cases e : j = t
    · subst e; exact pk_us
    · rw [pk_un e]; exact hq j (by omega)
end
section
/-! ===== rule 10: the reference's walk ===== -/
def cE (n : Nat) (O : Nat → Nat) (j : Nat) : Int := sm j (fun q => if 0 < Mg n O (q / 5) (q % 5) then 1 else 0)
theorem sm_mono {f : Nat → Int} (hf : ∀ i, 0 ≤ f i) : ∀ {n m : Nat}, n ≤ m → sm n f ≤ sm m f := by
  intro n m h
  induction m with
  | zero => have : n = 0 := by omega
            subst this; exact Int.le_refl _
  | succ m ih =>
    by_cases e : n = m + 1
    · subst e; exact Int.le_refl _
    · have := ih (by omega)
      have := hf m
      simp only [sm]; omega
theorem cE_10 (n : Nat) (O : Nat → Nat) : cE n O 25 ≤ 10 := by
  have hI := pr_idx n O
  have e1 : cE n O 25 ≤ sm 25 (fun j => sm 10 (fun p => if 5 * prU n O p + prL n O p = j then (1 : Int) else 0)) := by
    refine sm_le fun j hj => ?_
    have hnn : ∀ i, 0 ≤ (fun p => if 5 * prU n O p + prL n O p = j then (1 : Int) else 0) i := by
      intro i; dsimp only; split <;> omega
    by_cases hM : 0 < Mg n O (j / 5) (j % 5)
    · rw [if_pos hM]
      obtain ⟨p, hp, eU, eL⟩ := hI.2.1 (j / 5) (j % 5) (by omega) (by omega) hM
      have h1 : sm 10 (fun q => if q = p then (1 : Int) else 0) = 1 := by
        rw [sm_single (f := fun q => if q = p then (1 : Int) else 0) hp (fun i _ hi => if_neg hi), if_pos rfl]
      refine Int.le_trans (Int.le_of_eq h1.symm) (sm_le fun q hq => ?_)
      by_cases e : q = p
      · subst e
        rw [if_pos rfl, if_pos (by rw [eU, eL]; omega)]; exact Int.le_refl _
      · rw [if_neg e]; exact hnn q
    · rw [if_neg hM]
      exact sm_mono hnn (Nat.zero_le 10)
  rw [sm_comm] at e1
  have e2 := sm_hi (n := 10) (k := 1) (f := fun p => sm 25 (fun j => if 5 * prU n O p + prL n O p = j then (1 : Int) else 0)) (fun p hp => by
    refine sm_one (fun j _ => ?_) (fun i j _ _ h1 h2 => ?_)
    · split
      · exact Or.inr rfl
      · exact Or.inl rfl
    · split at h1
      · split at h2
        · omega
        · omega
      · omega)
  omega
/-- the couples as listed -/
def cps (n : Nat) (O : Nat → Nat) (c : Nat) (B W : Nat → Nat) (yc : Int32) (yb yw : Nat → Int32) : Prop := yc = nI c ∧ c ≤ 10 ∧ IDX n O c B W ∧ ∀ q, q < c → yb q = nI (B q) ∧ yw q = nI (W q) ∧ 0 < Mg n O (B q) (W q)
theorem y_cp {post : Int32 → SY → Prop} {yn yc : Int32} {yo yp ym ys yl yb yw yk yt yz yx : Nat → Int32} {n : Nat} {O : Nat → Nat} (h : zRYM n O (yn, yc, yo, yp, ym, ys, yl, yb, yw, yk, yt, yz, yx)) (hp : ∀ (c : Nat) (B W : Nat → Nat) (yc' : Int32) (b' w' : Nat → Int32), cps n O c B W yc' b' w' → ∃ n64, wY_inOrder_64 post yn yc' n64 0 yo yp ym ys yl b' w' yk yt yz yx) : ∃ m, wY_inOrder_7 post yn m 0 0 yo yp ym ys yl yb yw yk yt yz yx := by
  have hn := h.1.1
  have hm : ∀ a b, a < 5 → b < 5 → ym (5 * a + b) = iI (Mg n O a b) := h.2
  refine pk_loop (σ := Int32 × (Nat → Int32) × (Nat → Int32)) (fun m j s => wY_inOrder_7 post yn m (nI j) s.1 yo yp ym ys yl s.2.1 s.2.2 yk yt yz yx) (fun j s => ∃ (c : Nat) (B W : Nat → Nat), s.1 = nI c ∧ (c : Int) = cE n O j ∧ (∀ q, q < c → s.2.1 q = nI (B q) ∧ s.2.2 q = nI (W q) ∧ 0 < Mg n O (B q) (W q) ∧ B q < 5 ∧ W q < 5 ∧ 5 * B q + W q < j) ∧ (∀ a b, a < 5 → b < 5 → 5 * a + b < j → 0 < Mg n O a b → ∃ q, q < c ∧ B q = a ∧ W q = b) ∧ ∀ p q, p < c → q < c → B p = B q → W p = W q → p = q) 25 0 (0, yb, yw) (by omega) ⟨0, fun _ => 0, fun _ => 0, rfl, rfl, fun q hq => by omega, fun a b _ _ h => by omega, fun p q hp => by omega⟩ ?_ ?_
  · rintro m ⟨yc', b', w'⟩ ⟨c, B, W, e1, e2, e3, e4, e5⟩
    dsimp only at e1 e3 ⊢
    rw [wY_inOrder_7]
    have := cE_10 n O
    exact br_t (by decide) (hp c B W yc' b' w' ⟨e1, by omega, ⟨fun q hq => ⟨(e3 q hq).2.2.2.1, (e3 q hq).2.2.2.2.1, by have := (e3 q hq).2.2.1; omega⟩, fun a b ha hb hM => e4 a b ha hb (by omega) hM, e5⟩, fun q hq => ⟨(e3 q hq).1, (e3 q hq).2.1, (e3 q hq).2.2.1⟩⟩)
  · rintro m j ⟨yc', b', w'⟩ hj ⟨c, B, W, e1, e2, e3, e4, e5⟩ hK
    dsimp only at e1 e3 hK ⊢
    subst e1
    rw [wY_inOrder_7]
    have hmj := hm (j / 5) (j % 5) (by omega) (by omega)
    rw [show 5 * (j / 5) + j % 5 = j from by omega] at hmj
    have hbd := Mg_bd hn O (j / 5) (j % 5)
    refine br_f (nI_ge (b := 25) hj (by decide)) ⟨vp_in_nI hj (by decide), ?_⟩
    rw [nI_clamp (n := j) (by omega), hmj]
    refine vi_le (Mg n O (j / 5) (j % 5)) 0 (fun hle => nm_r (nI_1 j) (hK (nI c, b', w') ⟨c, B, W, rfl, ?_, fun q hq => ?_, fun a b ha hb hlt hM => ?_, e5⟩)) (fun hgt => ?_)
    · rw [e2]; unfold cE; simp only [sm]; rw [if_neg (by omega), Int.add_zero]
    · obtain ⟨x1, x2, x3, x4, x5, x6⟩ := e3 q hq
      exact ⟨x1, x2, x3, x4, x5, by omega⟩
    · by_cases e : 5 * a + b = j
      · have ea : a = j / 5 := by omega
        have eb : b = j % 5 := by omega
        rw [ea, eb] at hM; omega
      · exact e4 a b ha hb (by omega) hM
    · have hc1 : cE n O (j + 1) = cE n O j + 1 := by unfold cE; simp only [sm]; rw [if_pos hgt]
      have hmono : cE n O (j + 1) ≤ cE n O 25 := sm_mono (fun i => by split <;> omega) (by omega)
      have h10 := cE_10 n O
      have hc9 : c < 10 := by omega
      refine ⟨by decide, vp_in_nI hc9 (by decide), nm_r (e' := upd b' c (nI (j / 5))) (by rw [nI_clamp (by omega), rc_div (by omega)]) ⟨by decide, vp_in_nI hc9 (by decide), nm_r (e' := upd w' c (nI (j % 5))) (by rw [nI_clamp (by omega), rc_rem (by omega)]) (nm_r (nI_1 c) (nm_r (nI_1 j) (hK (nI (c + 1), upd b' c (nI (j / 5)), upd w' c (nI (j % 5))) ⟨c + 1, upn B c (j / 5), upn W c (j % 5), rfl, by omega, fun q hq => ?_, fun a b ha hb hlt hM => ?_, fun p q hp' hq' h1 h2 => ?_⟩)))⟩⟩
      · dsimp only
        by_cases e : q = c
        · subst e
          rw [pk_us, pk_us, upn_s, upn_s]
          exact ⟨rfl, rfl, hgt, by omega, by omega, by omega⟩
        · rw [pk_un e, pk_un e, upn_n B e, upn_n W e]
          obtain ⟨x1, x2, x3, x4, x5, x6⟩ := e3 q (by omega)
          exact ⟨x1, x2, x3, x4, x5, by omega⟩
      · by_cases e : 5 * a + b = j
        · exact ⟨c, by omega, by rw [upn_s]; omega, by rw [upn_s]; omega⟩
        · obtain ⟨q, q1, q2, q3⟩ := e4 a b ha hb (by omega) hM
          exact ⟨q, by omega, by rw [upn_n B (by omega)]; exact q2, by rw [upn_n W (by omega)]; exact q3⟩
      · by_cases ep : p = c
        · by_cases eq : q = c
          · omega
          · have hx := e3 q (by omega)
            rw [ep, upn_s, upn_n B eq] at h1
            rw [ep, upn_s, upn_n W eq] at h2
            omega
        · by_cases eq : q = c
          · have hx := e3 p (by omega)
            rw [eq, upn_s, upn_n B ep] at h1
            rw [eq, upn_s, upn_n W ep] at h2
            omega
          · rw [upn_n B ep, upn_n B eq] at h1
            rw [upn_n W ep, upn_n W eq] at h2
            exact e5 p q (by omega) (by omega) h1 h2
def crc (K : Nat → Nat → Prop) (t : Nat) : Prop := ∀ a, a < 5 → t.testBit a = true → ∃ b, b < 5 ∧ t.testBit b = true ∧ K a b
def rnd (K : Nat → Nat → Prop) (r a t : Nat) : Prop := crc K t ∨ pcn t + r ≤ 4 ∨ (pcn t + r ≤ 5 ∧ ∀ x, x < a → t.testBit x = true → ∃ b, b < 5 ∧ t.testBit b = true ∧ K x b)
theorem rnd_wrap {K : Nat → Nat → Prop} {r t : Nat} (h : rnd K r 5 t) : rnd K (r + 1) 0 t := by
  rcases h with h | h | h
  · exact Or.inl h
  · exact Or.inr (Or.inr ⟨by omega, fun x hx => by omega⟩)
  · exact Or.inl (fun a ha hb => h.2 a ha hb)
theorem rnd_goes {K : Nat → Nat → Prop} {r a t : Nat} (h : rnd K r a t) (hg : t.testBit a = true → ∃ b, b < 5 ∧ t.testBit b = true ∧ K a b) : rnd K r (a + 1) t := by
  rcases h with h | h | h
  · exact Or.inl h
  · exact Or.inr (Or.inl h)
  · refine Or.inr (Or.inr ⟨h.1, fun x hx hb => ?_⟩)
    by_cases e : x = a
    · subst e; exact hg hb
    · exact h.2 x (by omega) hb
theorem rnd_no {K : Nat → Nat → Prop} {r a t : Nat} (ht : t < 32) (ha : a < 5) (h : rnd K r a t) (hb : t.testBit a = true) (hg : ¬ ∃ b, b < 5 ∧ t.testBit b = true ∧ K a b) : rnd K r (a + 1) (rmv t a) := by
  have hp := pcn_rm t ht a ha hb
  rcases h with h | h | h
  · exact absurd (h a ha hb) hg
  · exact Or.inr (Or.inl (by omega))
  · exact Or.inr (Or.inl (by omega))
theorem rmv_no {t a : Nat} (h : t.testBit a = false) : rmv t a = t := by
  unfold rmv; rw [h]; rfl
theorem y_ir {post : Int32 → Prop} {yn yc : Int32} {yo yp ym ys yl yb yw yk yt yz yx : Nat → Int32} {n : Nat} {O : Nat → Nat} {c : Nat} {B W : Nat → Nat} (hcp : cps n O c B W yc yb yw) {k : Nat} (hk : k < 1024) (h1 : ¬ Acy (Kof c B W k) → post 1) (h0 : Acy (Kof c B W k) → post 0) : wpY_isRound post (yn, yc, yo, yp, ym, ys, yl, yb, yw, yk, yt, yz, yx) (nI k) := by
  obtain ⟨ec, hc10, hI, hq⟩ := hcp
  subst ec
  unfold wpY_isRound
  dsimp only
  refine pk_loop (σ := Int32) (fun m s x => wY_isRound_5 post (nI k) yn (nI c) yo yp ym ys yl yb yw yk yt yz yx m x (nI s)) (fun s x => ∃ t, x = nI t ∧ t < 32 ∧ (∀ S : Nat → Prop, (∀ a, a < 5 → S a → ∃ b, b < 5 ∧ S b ∧ Kof c B W k a b) → ∀ a, a < 5 → S a → t.testBit a = true) ∧ rnd (Kof c B W k) (s / 5) (s % 5) t) 25 0 31 (by omega) ⟨31, rfl, by omega, fun S _ a ha _ => bit_31 a ha, Or.inr (Or.inr ⟨by decide, fun x hx => by omega⟩)⟩ ?_ ?_
  · rintro m x ⟨t, rfl, ht, hsub, hr⟩
    rw [wY_isRound_5]
    refine br_t (by decide) (pk_eq t 0 (fun e => h0 (fun S hS a ha hSa => ?_)) (fun e => h1 (fun hA => ?_)))
    · have := hsub S hS a ha hSa
      rw [e] at this; simp at this
    · obtain ⟨a, ha, hb⟩ := bit_ex' ht (by omega)
      have hc : crc (Kof c B W k) t := by
        rcases hr with z | z | z
        · exact z
        · omega
        · exact absurd (pcn_0 t ht (by omega)) e
      exact hA (fun x => t.testBit x = true) (fun x hx hbx => hc x hx hbx) a ha hb
  · rintro m s x hs ⟨t, rfl, ht, hsub, hr⟩ hK
    rw [wY_isRound_5]
    have ha : s % 5 < 5 := by omega
    have nxt : ∀ t', rnd (Kof c B W k) (s / 5) (s % 5 + 1) t' → rnd (Kof c B W k) ((s + 1) / 5) ((s + 1) % 5) t' := by
      intro t' h'
      by_cases e : s % 5 = 4
      · rw [e] at h'
        rw [show (s + 1) / 5 = s / 5 + 1 from by omega, show (s + 1) % 5 = 0 from by omega]
        exact rnd_wrap h'
      · rw [show (s + 1) / 5 = s / 5 from by omega, show (s + 1) % 5 = s % 5 + 1 from by omega]
        exact h'
    refine br_f (nI_ge (b := 25) hs (by decide)) ⟨by decide, nm_r (rc_rem (by omega)) ?_⟩
    revert ha nxt
    generalize s % 5 = a at hr ⊢
    intro ha nxt
    refine pk_loop (σ := Int32) (fun m' q x => wY_isRound_22 post (wY_isRound_5 post (nI k) yn (nI c) yo yp ym ys yl yb yw yk yt yz yx m) (nI k) (nI t) (nI s) (nI a) yn (nI c) yo yp ym ys yl yb yw yk yt yz yx m' x (nI q)) (fun q x => (x = 0 ∧ ∀ p, p < q → ¬ (k.testBit p = true ∧ B p = a ∧ t.testBit (W p) = true)) ∨ (x = 1 ∧ ∃ b, b < 5 ∧ t.testBit b = true ∧ Kof c B W k a b)) c 0 0 (by omega) (Or.inl ⟨rfl, fun p hp => by omega⟩) ?_ ?_
    · rintro m' x hx
      rw [wY_isRound_22]
      refine br_t (nI_le (Nat.le_refl _) (by omega)) ?_
      rcases hx with ⟨e, hno⟩ | ⟨e, hg⟩
      · subst e
        have hng : ¬ ∃ b, b < 5 ∧ t.testBit b = true ∧ Kof c B W k a b := by
          rintro ⟨b, hb, htb, p, hp, hbp, e1, e2⟩
          exact hno p hp ⟨hbp, e1, by rw [e2]; exact htb⟩
        refine br_t rfl (nm_r (rmv_I t ht a ha) (nm_r (nI_1 s) (hK (nI (rmv t a)) ⟨rmv t a, rfl, rmv_32 t ht a ha, fun S hS x hx hSx => ?_, nxt _ ?_⟩)))
        · refine (rmv_bit t ht a ha x hx).mpr ⟨hsub S hS x hx hSx, ?_⟩
          rintro rfl
          obtain ⟨b, hb, hSb, hKb⟩ := hS x hx hSx
          exact hng ⟨b, hb, hsub S hS b hb hSb, hKb⟩
        · cases hb : t.testBit a with
          | true => exact rnd_no ht ha hr hb hng
          | false =>
            rw [rmv_no hb]
            exact rnd_goes hr (fun z => by rw [z] at hb; cases hb)
      · subst e
        exact br_f (by decide) (nm_r (nI_1 s) (hK (nI t) ⟨t, rfl, ht, hsub, nxt _ (rnd_goes hr (fun _ => hg))⟩))
    · rintro m' q x hqc hx hK'
      rw [wY_isRound_22]
      obtain ⟨eB, eW, hM⟩ := hq q hqc
      have hIq := hI.1 q hqc
      have keep : ¬ (k.testBit q = true ∧ B q = a ∧ t.testBit (W q) = true) → ((x = 0 ∧ ∀ p, p < q + 1 → ¬ (k.testBit p = true ∧ B p = a ∧ t.testBit (W p) = true)) ∨ (x = 1 ∧ ∃ b, b < 5 ∧ t.testBit b = true ∧ Kof c B W k a b)) := by
        intro hno
        rcases hx with ⟨e, g⟩ | g
        · refine Or.inl ⟨e, fun p hp => ?_⟩
          by_cases ep : p = q
          · subst ep; exact hno
          · exact g p (by omega)
        · exact Or.inr g
      refine br_f (nI_ge hqc (by omega)) ?_
      rw [nI_clamp (by omega), eB, eW]
      cases hb : k.testBit q with
      | true =>
        refine br_t ((vb_has (by omega)).mpr (by rw [vb_nI k q (by omega)]; exact hb)) ⟨vp_in_nI (by omega) (by decide), pk_eq (B q) a (fun e => ⟨vp_in_nI (by omega) (by decide), ?_⟩) (fun e => nm_r (nI_1 q) (hK' x (keep (fun z => e z.2.1))))⟩
        cases hb2 : t.testBit (W q) with
        | true =>
          exact br_t ((vb_has (by omega)).mpr (by rw [vb_nI t _ (by omega)]; exact hb2)) (nm_r (nI_1 q) (hK' 1 (Or.inr ⟨rfl, W q, hIq.2.1, hb2, q, hqc, hb, e, rfl⟩)))
        | false =>
          exact br_f (fun hh => by rw [vb_has (by omega), vb_nI t _ (by omega), hb2] at hh; cases hh) (nm_r (nI_1 q) (hK' x (keep (fun z => by rw [z.2.2] at hb2; cases hb2))))
      | false =>
        exact br_f (fun hh => by rw [vb_has (by omega), vb_nI k q (by omega), hb] at hh; cases hh) (nm_r (nI_1 q) (hK' x (keep (fun z => by rw [z.1] at hb; cases hb))))
theorem y_cg {post : Int32 → Prop} {yn yc : Int32} {yo yp ym ys yl yb yw yk yt yz yx : Nat → Int32} {n : Nat} {O : Nat → Nat} {c : Nat} {B W : Nat → Nat} (hcp : cps n O c B W yc yb yw) {k g : Nat} (hk : k < 1024) (hg : g < 1024) (h1 : grw c B W k g → post 1) (h0 : ¬ grw c B W k g → post 0) : wpY_canGrow post (yn, yc, yo, yp, ym, ys, yl, yb, yw, yk, yt, yz, yx) (nI k) (nI g) := by
  have hcp0 := hcp
  obtain ⟨ec, hc10, hI, hq⟩ := hcp
  subst ec
  unfold wpY_canGrow
  dsimp only
  refine pk_loop (σ := Unit) (fun m q _ => wY_canGrow_2 post (nI k) (nI g) yn (nI c) yo yp ym ys yl yb yw yk yt yz yx m (nI q)) (fun q _ => ∀ p, p < q → ¬ (g.testBit p = true ∧ k.testBit p = false ∧ Acy (adE (Kof c B W k) (B p) (W p)))) c 0 () (by omega) (fun p hp => by omega) ?_ ?_
  · intro m _ hs
    rw [wY_canGrow_2]
    exact br_t (nI_le (Nat.le_refl _) (by omega)) (h0 (fun ⟨p, hp, z⟩ => hs p hp z))
  · intro m q _ hqc hs hK
    rw [wY_canGrow_2]
    have keep : ¬ (g.testBit q = true ∧ k.testBit q = false ∧ Acy (adE (Kof c B W k) (B q) (W q))) → ∀ p, p < q + 1 → ¬ (g.testBit p = true ∧ k.testBit p = false ∧ Acy (adE (Kof c B W k) (B p) (W p))) := by
      intro hno p hp
      by_cases e : p = q
      · subst e; exact hno
      · exact hs p (by omega)
    refine br_f (nI_ge hqc (by omega)) ?_
    cases hgq : g.testBit q with
    | false =>
      exact br_f (fun hh => by rw [vb_has (by omega), vb_nI g q (by omega), hgq] at hh; cases hh) (nm_r (nI_1 q) (hK () (keep (fun z => by rw [z.1] at hgq; cases hgq))))
    | true =>
      refine br_t ((vb_has (by omega)).mpr (by rw [vb_nI g q (by omega)]; exact hgq)) ?_
      cases hkq : k.testBit q with
      | true =>
        exact br_f (fun hh => by rw [vb_has0 (by omega), vb_nI k q (by omega), hkq] at hh; cases hh) (nm_r (nI_1 q) (hK () (keep (fun z => by rw [z.2.1] at hkq; cases hkq))))
      | false =>
        refine br_t ((vb_has0 (by omega)).mpr (by rw [vb_nI k q (by omega)]; exact hkq)) ?_
        have hlt : k ||| 2 ^ q < 1024 := Nat.or_lt_two_pow (n := 10) hk (Nat.pow_lt_pow_right (by decide) (by omega))
        rw [pw10 q (by omega), nI_or]
        have hiff : Acy (Kof c B W (k ||| 2 ^ q)) ↔ Acy (adE (Kof c B W k) (B q) (W q)) := ⟨fun z => acy_mono z (fun a b _ _ h => (kof_or hqc a b).mpr h), fun z => acy_mono z (fun a b _ _ h => (kof_or hqc a b).mp h)⟩
        exact y_ir hcp0 hlt (fun hA => br_f (by decide) (nm_r (nI_1 q) (hK () (keep (fun z => hA (hiff.mpr z.2.2)))))) (fun hA => br_t rfl (h1 ⟨q, hqc, hgq, hkq, hiff.mp hA⟩))
theorem y_free {post : Int32 → Prop} {yn yc : Int32} {yo yp ym ys yl yb yw yk yt yz yx : Nat → Int32} {n : Nat} {O : Nat → Nat} {c : Nat} {B W : Nat → Nat} (hcp : cps n O c B W yc yb yw) {k : Nat} (hk : k < 1024) (hp : ∀ r, isSet r (fun x => ¬ ∃ q, q < c ∧ k.testBit q = true ∧ W q = x) → post r) : wpY_free post (yn, yc, yo, yp, ym, ys, yl, yb, yw, yk, yt, yz, yx) (nI k) := by
  obtain ⟨ec, hc10, hI, hq⟩ := hcp
  subst ec
  unfold wpY_free
  dsimp only
  refine pk_loop (σ := Int32) (fun m q x => wY_free_5 post (nI k) yn (nI c) yo yp ym ys yl yb yw yk yt yz yx m x (nI q)) (fun q x => isSet x (fun i => ¬ ∃ p, p < q ∧ k.testBit p = true ∧ W p = i)) c 0 31 (by omega) (vb_congr vb_all (fun i _ => ⟨fun _ ⟨p, hp, _⟩ => by omega, fun _ => trivial⟩)) ?_ ?_
  · intro m x hx
    rw [wY_free_5]
    exact br_t (nI_le (Nat.le_refl _) (by omega)) (hp x hx)
  · intro m q x hqc hx hK
    rw [wY_free_5]
    obtain ⟨eB, eW, hM⟩ := hq q hqc
    have hIq := hI.1 q hqc
    refine br_f (nI_ge hqc (by omega)) ?_
    cases hb : k.testBit q with
    | true =>
      refine br_t ((vb_has (by omega)).mpr (by rw [vb_nI k q (by omega)]; exact hb)) ⟨vp_in_nI (by omega) (by decide), ?_⟩
      rw [nI_clamp (by omega), eW]
      refine nm_e (nm_r (nI_1 q) (hK _ (vb_congr (vb_del hx hIq.2.1) (fun i _ => ⟨fun z ⟨p, p1, p2, p3⟩ => ?_, fun z => ⟨fun ⟨p, p1, p2, p3⟩ => z ⟨p, by omega, p2, p3⟩, fun e => z ⟨q, by omega, hb, e.symm⟩⟩⟩))))
      by_cases e : p = q
      · subst e; exact z.2 p3.symm
      · exact z.1 ⟨p, by omega, p2, p3⟩
    | false =>
      refine br_f (fun hh => by rw [vb_has (by omega), vb_nI k q (by omega), hb] at hh; cases hh) (nm_r (nI_1 q) (hK x (vb_congr hx (fun i _ => ⟨fun z ⟨p, p1, p2, p3⟩ => ?_, fun z ⟨p, p1, p2, p3⟩ => z ⟨p, by omega, p2, p3⟩⟩))))
      by_cases e : p = q
      · subst e; rw [p2] at hb; cases hb
      · exact z ⟨p, by omega, p2, p3⟩
end
section
/-! ===== rule 10: the reference's levels and its end ===== -/
/-- what a group's turn has kept so far: from the sets below k, and from k with the additions below r -/
def thI (C : Nat) (B W : Nat → Nat) (g : Nat) (yk : Nat → Int32) (k r : Nat) (q : Nat → Int32) : Prop := ∀ t, t < 2 ^ C → (q t ≠ 0 ↔ ∃ k1 r1, (k1 < k ∨ (k1 = k ∧ r1 < r)) ∧ k1 < 2 ^ C ∧ r1 < 2 ^ C ∧ yk k1 ≠ 0 ∧ (∀ p, p < C → r1.testBit p = true → g.testBit p = true) ∧ t = k1 ||| r1 ∧ Acy (Kof C B W t) ∧ ¬ grw C B W t g)
theorem th_same {C : Nat} {B W : Nat → Nat} {g : Nat} {yk : Nat → Int32} {k r : Nat} {q : Nat → Int32} (h : thI C B W g yk k r q) (hno : r < 2 ^ C → yk k ≠ 0 → (∀ p, p < C → r.testBit p = true → g.testBit p = true) → Acy (Kof C B W (k ||| r)) → ¬ grw C B W (k ||| r) g → q (k ||| r) ≠ 0) (hk : k < 2 ^ C) : thI C B W g yk k (r + 1) q := by
  intro t ht
  rw [h t ht]
  constructor
  · rintro ⟨k1, r1, a, b⟩
    exact ⟨k1, r1, by omega, b⟩
  · rintro ⟨k1, r1, a, b, d, e, f, g1, g2, g3⟩
    by_cases e1 : k1 = k ∧ r1 = r
    · obtain ⟨rfl, rfl⟩ := e1
      have := hno d e f (g1 ▸ g2) (g1 ▸ g3)
      rw [← g1] at this
      exact (h t ht).mp this
    · exact ⟨k1, r1, by omega, b, d, e, f, g1, g2, g3⟩
theorem th_new {C : Nat} {B W : Nat → Nat} {g : Nat} {yk : Nat → Int32} {k r : Nat} {q : Nat → Int32} (h : thI C B W g yk k r q) (hk : k < 2 ^ C) (hr : r < 2 ^ C) (hy : yk k ≠ 0) (hg : ∀ p, p < C → r.testBit p = true → g.testBit p = true) (hA : Acy (Kof C B W (k ||| r))) (hn : ¬ grw C B W (k ||| r) g) : thI C B W g yk k (r + 1) (upd q (k ||| r) 1) := by
  intro t ht
  by_cases e : t = k ||| r
  · rw [e, pk_us]
    refine ⟨fun _ => ⟨k, r, by omega, hk, hr, hy, hg, rfl, hA, hn⟩, fun _ => by decide⟩
  · rw [pk_un e, h t ht]
    constructor
    · rintro ⟨k1, r1, a, b⟩
      exact ⟨k1, r1, by omega, b⟩
    · rintro ⟨k1, r1, a, b, d, f, f2, g1, g2⟩
      by_cases e1 : k1 = k ∧ r1 = r
      · obtain ⟨rfl, rfl⟩ := e1; exact absurd g1 e
      · exact ⟨k1, r1, by omega, b, d, f, f2, g1, g2⟩
theorem th_row {C : Nat} {B W : Nat → Nat} {g : Nat} {yk : Nat → Int32} {k r : Nat} {q : Nat → Int32} (h : thI C B W g yk k r q) (hr : 2 ^ C ≤ r ∨ yk k = 0) : thI C B W g yk (k + 1) 0 q := by
  intro t ht
  rw [h t ht]
  constructor
  · rintro ⟨k1, r1, a, b⟩
    exact ⟨k1, r1, by omega, b⟩
  · rintro ⟨k1, r1, a, b, d, e, f⟩
    refine ⟨k1, r1, ?_, b, d, e, f⟩
    by_cases e1 : k1 = k
    · subst e1
      rcases hr with z | z
      · exact Or.inr ⟨rfl, by omega⟩
      · exact absurd z e
    · exact Or.inl (by omega)
theorem pw10' : ∀ p, p ≤ 10 → (1 : Int32) <<< (nI p &&& 31) = nI (2 ^ p) ∧ 2 ^ p ≤ 1024 := by decide +kernel
theorem nar_b {x : Int32} (h : x = 0 ∨ x = 1) : vp_nar .boolean x = x := by
  rcases h with e | e
  · subst e; exact nb0
  · subst e; exact nb1
theorem y_kg {post : SY → Prop} {yn yc : Int32} {yo yp ym ys yl yb yw yk yt yz yx : Nat → Int32} {n : Nat} {O : Nat → Nat} {c : Nat} {B W : Nat → Nat} (hcp : cps n O c B W yc yb yw) {g : Nat} (hg : g < 2 ^ c)
    (hp : ∀ k' t' : Nat → Int32, (∀ t, t < 2 ^ c → (k' t ≠ 0 ↔ ∃ k1 r1, k1 < 2 ^ c ∧ r1 < 2 ^ c ∧ yk k1 ≠ 0 ∧ (∀ p, p < c → r1.testBit p = true → g.testBit p = true) ∧ t = k1 ||| r1 ∧ Acy (Kof c B W t) ∧ ¬ grw c B W t g)) → post (yn, yc, yo, yp, ym, ys, yl, yb, yw, k', t', yz, yx)) : wpY_keepGroup post (yn, yc, yo, yp, ym, ys, yl, yb, yw, yk, yt, yz, yx) (nI g) := by
  have hcp0 := hcp
  obtain ⟨ec, hc10, hI, hq⟩ := hcp
  subst ec
  have hpw := pw10' c hc10
  unfold wpY_keepGroup
  dsimp only
  refine pk_loop (σ := Nat → Int32) (fun m j s => wY_keepGroup_2 post (nI g) yn (nI c) m (nI j) yo yp ym ys yl yb yw yk s yz yx) (fun j s => ∀ t, t < j → s t = 0) 1024 0 yt (by omega) (fun t ht => by omega) ?_ ?_
  · intro m s hs
    rw [wY_keepGroup_2]
    refine br_t (by decide) ?_
    refine pk_loop (σ := Nat → Int32) (fun m k s => wY_keepGroup_24 post (nI g) yn (nI c) m (nI k) yo yp ym ys yl yb yw yk s yz yx) (fun k s => thI c B W g yk k 0 s ∧ ∀ t, t < 1024 → s t = 0 ∨ s t = 1) (2 ^ c) 0 s (by omega) ⟨fun t ht => ⟨fun z => absurd (hs t (by omega)) z, fun ⟨k1, r1, a, _⟩ => by omega⟩, fun t ht => Or.inl (hs t ht)⟩ ?_ ?_
    · rintro m s ⟨hT, h01⟩
      rw [wY_keepGroup_24]
      refine br_t (by rw [hpw.1]; exact nI_le (Nat.le_refl _) (by omega)) ?_
      refine pk_loop (σ := Nat → Int32) (fun m j a => wY_keepGroup_119 post yn (nI c) m (nI j) yo yp ym ys yl yb yw a s yz yx) (fun j a => ∀ t, t < j → a t = s t) 1024 0 yk (by omega) (fun t ht => by omega) ?_ ?_
      · intro m a ha
        rw [wY_keepGroup_119]
        refine br_t (by decide) (hp a s (fun t ht => ?_))
        rw [ha t (by omega), hT t ht]
        constructor
        · rintro ⟨k1, r1, z, b⟩
          exact ⟨k1, r1, b⟩
        · rintro ⟨k1, r1, b⟩
          exact ⟨k1, r1, Or.inl b.1, b⟩
      · intro m j a hj ha hK
        rw [wY_keepGroup_119]
        refine br_f (nI_ge (b := 1024) hj (by decide)) ⟨vp_in_nI hj (by decide), vp_in_nI hj (by decide), nm_r (e' := upd a j (s j)) (by rw [nI_clamp (by omega), nar_b (h01 j hj)]) (nm_r (nI_1 j) (hK (upd a j (s j)) (fun t ht => ?_)))⟩
        by_cases e : t = j
        · subst e; exact pk_us
        · rw [pk_un e]; exact ha t (by omega)
    · rintro m k s hk ⟨hT, h01⟩ hK
      rw [wY_keepGroup_24]
      refine br_f (by rw [hpw.1]; exact nI_ge hk (by omega)) ?_
      refine pk_loop (σ := Nat → Int32) (fun m' r s => wY_keepGroup_36 post (wY_keepGroup_24 post (nI g) yn (nI c) m) (nI g) (nI k) yn (nI c) m' (nI r) yo yp ym ys yl yb yw yk s yz yx) (fun r s => thI c B W g yk k r s ∧ ∀ t, t < 1024 → s t = 0 ∨ s t = 1) (2 ^ c) 0 s (by omega) ⟨hT, h01⟩ ?_ ?_
      · rintro m' s' ⟨hT', h01'⟩
        rw [wY_keepGroup_36]
        exact br_t (by rw [hpw.1]; exact nI_le (Nat.le_refl _) (by omega)) (nm_r (nI_1 k) (hK s' ⟨th_row hT' (Or.inl (Nat.le_refl _)), h01'⟩))
      · rintro m' r s' hr ⟨hT', h01'⟩ hK'
        rw [wY_keepGroup_36]
        refine br_f (by rw [hpw.1]; exact nI_ge hr (by omega)) ⟨vp_in_nI (by omega) (by decide), ?_⟩
        rw [nI_clamp (n := k) (by omega)]
        refine br_c (fun hy => nm_r (nI_1 k) (hK s' ⟨th_row hT' (Or.inr hy), h01'⟩)) (fun hy => nm_r (nI_or k r) ?_)
        have hor : k ||| r < 2 ^ c := Nat.or_lt_two_pow hk hr
        have hsub : (nI r &&& (nI g ^^^ (-1))) = 0 ↔ ∀ p, p < c → r.testBit p = true → g.testBit p = true := by
          rw [and_n0]
          constructor
          · intro z p hp hb
            have := z p (by rw [vb_nI r p (by omega)]; exact hb)
            rw [vb_nI g p (by omega)] at this; exact this
          · intro z p hb
            have hpc : p < c := by
              rcases Nat.lt_or_ge p c with q | q
              · exact q
              · rw [vb_nIs (by omega), Nat.testBit_lt_two_pow (Nat.lt_of_lt_of_le hr (Nat.pow_le_pow_right (by decide) q))] at hb; cases hb
            rw [vb_nI r p (by omega)] at hb
            rw [vb_nI g p (by omega)]; exact z p hpc hb
        refine br_c (fun hs0 => ⟨vp_in_nI (by omega) (by decide), ?_⟩) (fun hs0 => nm_r (nI_1 r) (hK' s' ⟨th_same hT' (fun _ _ f _ _ => absurd (hsub.mpr f) hs0) hk, h01'⟩))
        rw [nI_clamp (n := k ||| r) (by omega)]
        refine br_c (fun ht0 => ?_) (fun ht0 => nm_r (nI_1 r) (hK' s' ⟨th_same hT' (fun _ _ _ _ _ => ht0) hk, h01'⟩))
        refine y_ir (n := n) (O := O) ?_ (by omega) (fun hA => br_f (by decide) (nm_r (nI_1 r) (hK' s' ⟨th_same hT' (fun _ _ _ z _ => absurd z hA) hk, h01'⟩))) (fun hA => br_t rfl ?_)
        · exact hcp0
        refine y_cg (n := n) (O := O) ?_ (by omega) (by omega) (fun hgr => br_f (by decide) (nm_r (nI_1 r) (hK' s' ⟨th_same hT' (fun _ _ _ _ z => absurd hgr z) hk, h01'⟩))) (fun hgr => br_t rfl ⟨vp_in_nI (by omega) (by decide), nm_r (e' := upd s' (k ||| r) 1) (by rw [nb1]) (nm_r (nI_1 r) (hK' (upd s' (k ||| r) 1) ⟨th_new hT' hk hr hy (hsub.mp hs0) hA hgr, fun t ht => ?_⟩))⟩)
        · exact hcp0
        by_cases e : t = k ||| r
        · rw [e, pk_us]; exact Or.inr rfl
        · rw [pk_un e]; exact h01' t ht
  · intro m j s hj hs hK
    rw [wY_keepGroup_2]
    refine br_f (nI_ge (b := 1024) hj (by decide)) ⟨vp_in_nI hj (by decide), nm_r (e' := upd s j 0) (by rw [nI_clamp (by omega), nb0]) (nm_r (nI_1 j) (hK (upd s j 0) (fun t ht => ?_)))⟩
    by_cases e : t = j
    · subst e; exact pk_us
    · rw [pk_un e]; exact hs t (by omega)
theorem y_o166 {post : Int32 → SY → Prop} {yn yc : Int32} {yo yp ym ys yl yb yw yk yt yz yx : Nat → Int32} {n : Nat} {O : Nat → Nat} (h : zRY n O (yn, yc, yo, yp, ym, ys, yl, yb, yw, yk, yt, yz, yx)) {c : Nat} {B W : Nat → Nat} (hcp : cps n O c B W yc yb yw) (hl : ∀ t, t < 2 ^ c → (yk t ≠ 0 ↔ LV n O c B W 0 t)) (hp : ∀ w v', isSet w (W10 n O) → zRY n O v' → post w v') : ∃ m, wY_inOrder_166 post yn yc yo yp ym ys yl yb yw yk yt yz yx m 0 0 := by
  have hcp0 := hcp
  obtain ⟨ec, hc10, hI, hq⟩ := hcp
  subst ec
  have hpw := pw10' c hc10
  refine pk_loop (σ := Int32) (fun m k w => wY_inOrder_166 post yn (nI c) yo yp ym ys yl yb yw yk yt yz yx m w (nI k)) (fun k w => isSet w (fun i => ∃ t, t < k ∧ t < 2 ^ c ∧ LV n O c B W 0 t ∧ ¬ ∃ q, q < c ∧ t.testBit q = true ∧ W q = i)) (2 ^ c) 0 0 (Nat.zero_le _) (vb_congr vb_empty (fun i _ => ⟨fun z => z.elim, fun ⟨t, ht, _⟩ => by omega⟩)) ?_ ?_
  · intro m w hw
    rw [wY_inOrder_166]
    refine br_t (by rw [hpw.1]; exact nI_le (Nat.le_refl _) (by omega)) (hp w _ (vb_congr hw (fun i hi => ⟨?_, ?_⟩)) h)
    · rintro ⟨t, a, b, d, e⟩
      exact ⟨Kof c B W t, LV_fin hI d, fun x _ ⟨r, r1, r2, r3, r4⟩ => e ⟨r, r1, r2, r4⟩⟩
    · rintro ⟨K, hK, hno⟩
      obtain ⟨k, hk, hkk⟩ := fin_LV hI hK
      refine ⟨k, hk.1, hk.1, hk, fun ⟨q, q1, q2, q3⟩ => ?_⟩
      have := (hkk (B q) i (hI.1 q q1).1 hi).mp ⟨q, q1, q2, rfl, q3⟩
      exact hno _ (hI.1 q q1).1 this
  · intro m k w hk hw hK
    rw [wY_inOrder_166]
    refine br_f (by rw [hpw.1]; exact nI_ge hk (by omega)) ⟨vp_in_nI (by omega) (by decide), ?_⟩
    rw [nI_clamp (by omega)]
    have hlk := hl k hk
    refine br_c (fun hz => nm_r (nI_1 k) (hK w (vb_congr hw (fun i _ => ⟨fun ⟨t, a, b⟩ => ⟨t, by omega, b⟩, fun ⟨t, a, b, d, e⟩ => ?_⟩)))) (fun hz => y_free hcp0 (by omega) (fun r hr => nm_e (nm_r (nI_1 k) (hK _ (vb_congr (vb_or hw hr) (fun i _ => ⟨?_, ?_⟩))))))
    · by_cases et : t = k
      · subst et; exact absurd hz (hlk.mpr d)
      · exact ⟨t, by omega, b, d, e⟩
    · rintro (⟨t, a, b⟩ | z)
      · exact ⟨t, by omega, b⟩
      · exact ⟨k, by omega, hk, hlk.mp hz, z⟩
    · rintro ⟨t, a, b, d, e⟩
      by_cases et : t = k
      · subst et; exact Or.inr e
      · exact Or.inl ⟨t, by omega, b, d, e⟩
theorem y_o95 {post : Int32 → SY → Prop} {v : SY} {n : Nat} {O : Nat → Nat} (h : zRYM n O v) {c : Nat} {B W : Nat → Nat} (hcp : cps n O c B W v.2.1 v.2.2.2.2.2.2.2.1 v.2.2.2.2.2.2.2.2.1) (hl : ∀ t, t < 2 ^ c → (v.2.2.2.2.2.2.2.2.2.1 t ≠ 0 ↔ LV n O c B W 9 t)) (hp : ∀ w v', isSet w (W10 n O) → zRY n O v' → post w v') : ∃ m, wY_inOrder_95 post m 9 v.1 v.2.1 v.2.2.1 v.2.2.2.1 v.2.2.2.2.1 v.2.2.2.2.2.1 v.2.2.2.2.2.2.1 v.2.2.2.2.2.2.2.1 v.2.2.2.2.2.2.2.2.1 v.2.2.2.2.2.2.2.2.2.1 v.2.2.2.2.2.2.2.2.2.2.1 v.2.2.2.2.2.2.2.2.2.2.2.1 v.2.2.2.2.2.2.2.2.2.2.2.2 := by
  have hn := h.1.1
  have key := pk_loopD (σ := SY) (fun m e s => wY_inOrder_95 post m (nI e) s.1 s.2.1 s.2.2.1 s.2.2.2.1 s.2.2.2.2.1 s.2.2.2.2.2.1 s.2.2.2.2.2.2.1 s.2.2.2.2.2.2.2.1 s.2.2.2.2.2.2.2.2.1 s.2.2.2.2.2.2.2.2.2.1 s.2.2.2.2.2.2.2.2.2.2.1 s.2.2.2.2.2.2.2.2.2.2.2.1 s.2.2.2.2.2.2.2.2.2.2.2.2)
    (fun e s => e ≤ 9 ∧ zRYM n O s ∧ cps n O c B W s.2.1 s.2.2.2.2.2.2.2.1 s.2.2.2.2.2.2.2.2.1 ∧ ∀ t, t < 2 ^ c → (s.2.2.2.2.2.2.2.2.2.1 t ≠ 0 ↔ LV n O c B W (e : Int) t))
    (by
      rintro m ⟨yn', yc', yo', yp', ym', ys', yl', yb', yw', yk', yt', yz', yx'⟩ ⟨_, hY, hcp, hl⟩
      dsimp only at hcp hl ⊢
      rw [wY_inOrder_95]
      exact br_t (by decide) (y_o166 hY.1 hcp hl hp))
    (by
      rintro m e ⟨yn', yc', yo', yp', ym', ys', yl', yb', yw', yk', yt', yz', yx'⟩ ⟨he, hY, hcp, hl⟩ hK
      dsimp only at hcp hl hK ⊢
      have hcp0 := hcp
      obtain ⟨ec, hc10, hI, hq⟩ := hcp
      subst ec
      have hm : ∀ a b, a < 5 → b < 5 → ym' (5 * a + b) = iI (Mg n O a b) := hY.2
      rw [wY_inOrder_95]
      refine br_f (nI_nle (by omega) (by omega)) ?_
      refine pk_loop (σ := Int32) (fun m' q x => wY_inOrder_103 post (wY_inOrder_95 post m) (nI (e + 1)) yn' (nI c) yo' yp' ym' ys' yl' yb' yw' yk' yt' yz' yx' m' x (nI q)) (fun q x => ∃ g, x = nI g ∧ g < 2 ^ c ∧ ∀ p, p < c → (g.testBit p = true ↔ (p < q ∧ Mg n O (B p) (W p) = ((e + 1 : Nat) : Int)))) c 0 0 (by omega) ⟨0, rfl, Nat.two_pow_pos c, fun p _ => by simp⟩ ?_ ?_
      · rintro m' x ⟨g, rfl, hg, hbit⟩
        rw [wY_inOrder_103]
        have hpw := pw10' c hc10
        have ecast : ((e : Nat) : Int) = ((e + 1 : Nat) : Int) - 1 := by omega
        refine br_t (nI_le (Nat.le_refl _) (by omega)) (pk_eq g 0 (fun e0 => ?_) (fun e0 => ?_))
        · refine nm_r (pk_m1 e) (hK (yn', (nI c), yo', yp', ym', ys', yl', yb', yw', yk', yt', yz', yx') ⟨by omega, hY, hcp0, fun t ht => ?_⟩)
          rw [hl t ht, ecast]
          refine (LV_skip (fun q hqc z => ?_)).symm
          have := (hbit q hqc).mpr ⟨hqc, z⟩
          rw [e0] at this; simp at this
        · refine y_kg hcp0 hg (fun k' t' hk' => nm_r (pk_m1 e) (hK (yn', (nI c), yo', yp', ym', ys', yl', yb', yw', k', t', yz', yx') ⟨by omega, rm_any hY, hcp0, fun t ht => ?_⟩))
          dsimp only
          rw [hk' t ht, ecast, LV_grp (g := g) (fun q hqc => by rw [hbit q hqc]; exact ⟨fun z => z.2, fun z => ⟨hqc, z⟩⟩)]
          constructor
          · rintro ⟨k1, r1, a, b, d, f⟩
            exact ⟨k1, r1, (hl k1 a).mp d, b, f⟩
          · rintro ⟨k1, r1, a, b, f⟩
            exact ⟨k1, r1, a.1, b, (hl k1 a.1).mpr a, f⟩
      · rintro m' q x hqc ⟨g, rfl, hg, hbit⟩ hK'
        rw [wY_inOrder_103]
        obtain ⟨eB, eW, hM⟩ := hq q hqc
        have hIq := hI.1 q hqc
        have hbd := Mg_bd hn O (B q) (W q)
        refine br_f (nI_ge hqc (by omega)) ⟨vp_in_nI (by omega) (by decide), vp_in_nI (by omega) (by decide), ?_⟩
        rw [nI_clamp (n := q) (by omega), eB, eW, vn_5b, nI_clamp (n := 5 * B q + W q) (by omega), hm _ _ hIq.1 hIq.2.1]
        refine ⟨vp_in_nI (by omega) (by decide), vi_eq (Mg n O (B q) (W q)) ((e + 1 : Nat) : Int) (fun em => ?_) (fun em => nm_r (nI_1 q) (hK' (nI g) ⟨g, rfl, hg, fun p hp' => ?_⟩)) rfl (vs_iN (e + 1)).symm⟩
        · refine nm_r (e' := nI (g ||| 2 ^ q)) (by rw [pw10 q (by omega), nI_or]) (nm_r (nI_1 q) (hK' _ ⟨g ||| 2 ^ q, rfl, Nat.or_lt_two_pow hg (Nat.pow_lt_pow_right (by decide) hqc), fun p hp' => ?_⟩))
          rw [or_bit, hbit p hp']
          constructor
          · rintro (⟨a, b⟩ | rfl)
            · exact ⟨by omega, b⟩
            · exact ⟨by omega, em⟩
          · rintro ⟨a, b⟩
            by_cases ep : p = q
            · exact Or.inr ep
            · exact Or.inl ⟨by omega, b⟩
        · rw [hbit p hp']
          refine ⟨fun z => ⟨by omega, z.2⟩, fun z => ⟨?_, z.2⟩⟩
          by_cases ep : p = q
          · subst ep; exact absurd z.2 em
          · omega)
  have k9 := key 9 v ⟨by omega, h, hcp, hl⟩
  exact ⟨10, k9⟩
theorem y_w10 {post : Int32 → SY → Prop} {v : SY} {n : Nat} {O : Nat → Nat} (h : zRYM n O v) (hp : ∀ w v', isSet w (W10 n O) → zRY n O v' → post w v') : wpY_inOrder post v := by
  obtain ⟨yn, yc, yo, yp, ym, ys, yl, yb, yw, yk, yt, yz, yx⟩ := v
  have hn := h.1.1
  unfold wpY_inOrder
  dsimp only
  refine y_cp h (fun c B W yc' b' w' hcp => ?_)
  have hpw := pw10' c hcp.2.1
  refine pk_loop (σ := Nat → Int32) (fun m j s => wY_inOrder_64 post yn yc' m (nI j) yo yp ym ys yl b' w' s yt yz yx) (fun j s => ∀ t, t < j → (s t ≠ 0 ↔ t = 0)) 1024 0 yk (by omega) (fun t ht => by omega) ?_ ?_
  · intro m s hs
    rw [wY_inOrder_64]
    refine br_t (by decide) (y_o95 (v := (yn, yc', yo, yp, ym, ys, yl, b', w', s, yt, yz, yx)) (rm_any h) hcp (fun t ht => ?_) hp)
    dsimp only
    rw [hs t (by omega), LV_9 hn ht]
  · intro m j s hj hs hK
    rw [wY_inOrder_64]
    refine br_f (nI_ge (b := 1024) hj (by decide)) (pk_eq j 0 (fun e => ?_) (fun e => ?_))
    · refine ⟨vp_in_nI hj (by decide), nm_r (e' := upd s j 1) (by rw [nI_clamp (by omega), nb1]) (nm_r (nI_1 j) (hK (upd s j 1) (fun t ht => ?_)))⟩
      by_cases et : t = j
      · subst et; rw [pk_us]; simp [e]
      · rw [pk_un et]; exact hs t (by omega)
    · refine ⟨vp_in_nI hj (by decide), nm_r (e' := upd s j 0) (by rw [nI_clamp (by omega), nb0]) (nm_r (nI_1 j) (hK (upd s j 0) (fun t ht => ?_)))⟩
      by_cases et : t = j
      · subst et; rw [pk_us]; simp [e]
      · rw [pk_un et]; exact hs t (by omega)
end
section
/-! ===== winners, agree ===== -/
def isWin (n : Nat) (O : Nat → Nat) (r : Nat) (w : Int32) : Prop := (r ≤ 5 → isSet w (WS n O r)) ∧ (6 ≤ r → r ≤ 8 → isSet w (fun c => EL n O (r - 6) (2 ^ c))) ∧ (r = 9 → isSet w (W9 n O)) ∧ (r = 10 → isSet w (W10 n O)) ∧ (r = 11 → ∃ d, isDom n O d ∧ w = nI d) ∧ (r = 12 → isSet w (W12 n O)) ∧ (r = 13 → isSet w (W13 n O)) ∧ (r = 14 → isSet w (W14 n O 32)) ∧ (15 ≤ r → isSet w (WE n O r))
theorem isWin_u {n : Nat} {O : Nat → Nat} {r : Nat} {w w' : Int32} (hr : r ≤ 16) (h : isWin n O r w) (h' : isWin n O r w') : w = w' := by
  obtain ⟨a1, a2, a3, a4, a5, a6, a7, a8, a9⟩ := h
  obtain ⟨b1, b2, b3, b4, b5, b6, b7, b8, b9⟩ := h'
  by_cases h5 : r ≤ 5
  · exact vb_uniq (a1 h5) (b1 h5)
  by_cases h8 : r ≤ 8
  · exact vb_uniq (a2 (by omega) h8) (b2 (by omega) h8)
  by_cases h9 : r = 9
  · exact vb_uniq (a3 h9) (b3 h9)
  by_cases h10 : r = 10
  · exact vb_uniq (a4 h10) (b4 h10)
  by_cases h11 : r = 11
  · obtain ⟨d, hd, e⟩ := a5 h11
    obtain ⟨d', hd', e'⟩ := b5 h11
    rw [e, e', isDom_u hd hd']
  by_cases h12 : r = 12
  · exact vb_uniq (a6 h12) (b6 h12)
  by_cases h13 : r = 13
  · exact vb_uniq (a7 h13) (b7 h13)
  by_cases h14 : r = 14
  · exact vb_uniq (a8 h14) (b8 h14)
  · exact vb_uniq (a9 (by omega)) (b9 (by omega))
theorem x_ws {post : Int32 → SX → Prop} {u : SX} {n : Nat} {O : Nat → Nat} {V : Nat → Int32} (h : zRV n O V u) {r : Nat} (hr : r ≤ 16) (hp : ∀ w u', zRV n O V u' → isWin n O r w → post w u') : wpX_winnerSet post u (nI r) := by
  obtain ⟨xc, xo, xr, xp, xm, xb, xs, xq, xn, xu, xl, xg, xk, xt, xw, xv⟩ := u
  unfold wpX_winnerSet
  dsimp only
  refine pk_lt 5 r (fun h5 => ?_) (fun h5 => ?_)
  · refine pk_lt 8 r (fun h8 => ?_) (fun h8 => ?_)
    · refine pk_lt r 9 (fun q => by omega) (fun h9 => ?_)
      refine pk_lt 14 r (fun h14 => ?_) (fun h14 => ?_)
      · refine x_le h (by omega) (fun w u' hw hX => ?_)
        obtain ⟨xc', xo', xr', xp', xm', xb', xs', xq', xn', xu', xl', xg', xk', xt', xw', xv'⟩ := u'
        exact hp w _ hX ⟨fun q => by omega, fun _ q => by omega, fun q => by omega, fun q => by omega, fun q => by omega, fun q => by omega, fun q => by omega, fun q => by omega, fun _ => hw⟩
      · refine pk_eq r 9 (fun e => ?_) (fun e9 => ?_)
        · refine x_w9 h (fun w u' hw hX => ?_)
          obtain ⟨xc', xo', xr', xp', xm', xb', xs', xq', xn', xu', xl', xg', xk', xt', xw', xv'⟩ := u'
          exact hp w _ hX ⟨fun q => by omega, fun _ q => by omega, fun _ => hw, fun q => by omega, fun q => by omega, fun q => by omega, fun q => by omega, fun q => by omega, fun q => by omega⟩
        · refine pk_eq r 10 (fun e => ?_) (fun e10 => ?_)
          · refine x_w10 h (fun w u' hw hX => ?_)
            obtain ⟨xc', xo', xr', xp', xm', xb', xs', xq', xn', xu', xl', xg', xk', xt', xw', xv'⟩ := u'
            exact hp w _ hX ⟨fun q => by omega, fun _ q => by omega, fun q => by omega, fun _ => hw, fun q => by omega, fun q => by omega, fun q => by omega, fun q => by omega, fun q => by omega⟩
          · refine pk_eq r 11 (fun e => ?_) (fun e11 => ?_)
            · exact x_w11 h.1 (fun d hd => hp _ _ h ⟨fun q => by omega, fun _ q => by omega, fun q => by omega, fun q => by omega, fun _ => ⟨d, hd, rfl⟩, fun q => by omega, fun q => by omega, fun q => by omega, fun q => by omega⟩)
            · refine pk_eq r 12 (fun e => ?_) (fun e12 => ?_)
              · refine x_w12 h (fun w u' hw hX => ?_)
                obtain ⟨xc', xo', xr', xp', xm', xb', xs', xq', xn', xu', xl', xg', xk', xt', xw', xv'⟩ := u'
                exact hp w _ hX ⟨fun q => by omega, fun _ q => by omega, fun q => by omega, fun q => by omega, fun q => by omega, fun _ => hw, fun q => by omega, fun q => by omega, fun q => by omega⟩
              · refine pk_eq r 13 (fun e => ?_) (fun e13 => ?_)
                · exact x_w13 h.1 (fun w hw => hp _ _ h ⟨fun q => by omega, fun _ q => by omega, fun q => by omega, fun q => by omega, fun q => by omega, fun q => by omega, fun _ => hw, fun q => by omega, fun q => by omega⟩)
                · refine pk_eq r 14 (fun e => ?_) (fun e14 => by omega)
                  exact x_w14 h.1 (fun w hw => hp _ _ h ⟨fun q => by omega, fun _ q => by omega, fun q => by omega, fun q => by omega, fun q => by omega, fun q => by omega, fun q => by omega, fun _ => hw, fun q => by omega⟩)
    · rw [show nI r - 6 = nI (r - 6) from pk_sub (b := 6) (by omega)]
      refine x_ps h (by omega) (fun w u' hw hX => ?_)
      obtain ⟨xc', xo', xr', xp', xm', xb', xs', xq', xn', xu', xl', xg', xk', xt', xw', xv'⟩ := u'
      exact hp w _ hX ⟨fun q => by omega, fun _ _ => hw, fun q => by omega, fun q => by omega, fun q => by omega, fun q => by omega, fun q => by omega, fun q => by omega, fun q => by omega⟩
  · exact x_gs h.1 h5 (fun w hw => hp _ _ h ⟨fun _ => hw, fun q => by omega, fun q => by omega, fun q => by omega, fun q => by omega, fun q => by omega, fun q => by omega, fun q => by omega, fun q => by omega⟩)
theorem y_ws {post : Int32 → SY → Prop} {v : SY} {n : Nat} {O : Nat → Nat} (h : zRY n O v) {r : Nat} (hr : r ≤ 16) (hp : ∀ w v', zRY n O v' → isWin n O r w → post w v') : wpY_winners post v (nI r) := by
  obtain ⟨yn, yc, yo, yp, ym, ys, yl, yb, yw, yk, yt, yz, yx⟩ := v
  unfold wpY_winners
  dsimp only
  refine y_in 0 16 rfl (by decide) (fun hh => absurd rfl (hh r (by omega) hr)) (fun _ _ _ _ => br_f (by decide) (y_ct h (fun m' hM => ?_)))
  refine pk_lt 5 r (fun h5 => ?_) (fun h5 => ?_)
  · refine pk_lt 8 r (fun h8 => ?_) (fun h8 => ?_)
    · refine pk_eq r 9 (fun e => ?_) (fun e9 => ?_)
      · refine y_w9 hM (fun w u' hw hX => ?_)
        obtain ⟨yn', yc', yo', yp', ym', ys', yl', yb', yw', yk', yt', yz', yx'⟩ := u'
        exact hp w _ hX ⟨fun q => by omega, fun _ q => by omega, fun _ => hw, fun q => by omega, fun q => by omega, fun q => by omega, fun q => by omega, fun q => by omega, fun q => by omega⟩
      · refine pk_eq r 10 (fun e => ?_) (fun e10 => ?_)
        · refine y_w10 hM (fun w u' hw hX => ?_)
          obtain ⟨yn', yc', yo', yp', ym', ys', yl', yb', yw', yk', yt', yz', yx'⟩ := u'
          exact hp w _ hX ⟨fun q => by omega, fun _ q => by omega, fun q => by omega, fun _ => hw, fun q => by omega, fun q => by omega, fun q => by omega, fun q => by omega, fun q => by omega⟩
        · refine pk_eq r 11 (fun e => ?_) (fun e11 => ?_)
          · exact y_w11 hM (fun d hd => hp _ _ hM.1 ⟨fun q => by omega, fun _ q => by omega, fun q => by omega, fun q => by omega, fun _ => ⟨d, hd, rfl⟩, fun q => by omega, fun q => by omega, fun q => by omega, fun q => by omega⟩)
          · refine pk_eq r 12 (fun e => ?_) (fun e12 => ?_)
            · refine y_w12 hM (fun w u' hw hX => ?_)
              obtain ⟨yn', yc', yo', yp', ym', ys', yl', yb', yw', yk', yt', yz', yx'⟩ := u'
              exact hp w _ hX ⟨fun q => by omega, fun _ q => by omega, fun q => by omega, fun q => by omega, fun q => by omega, fun _ => hw, fun q => by omega, fun q => by omega, fun q => by omega⟩
            · refine pk_eq r 13 (fun e => ?_) (fun e13 => ?_)
              · exact y_w13 hM (fun w hw => hp _ _ hM.1 ⟨fun q => by omega, fun _ q => by omega, fun q => by omega, fun q => by omega, fun q => by omega, fun q => by omega, fun _ => hw, fun q => by omega, fun q => by omega⟩)
              · refine pk_eq r 14 (fun e => ?_) (fun e14 => ?_)
                · exact y_w14 hM (fun w hw => hp _ _ hM.1 ⟨fun q => by omega, fun _ q => by omega, fun q => by omega, fun q => by omega, fun q => by omega, fun q => by omega, fun q => by omega, fun _ => hw, fun q => by omega⟩)
                · have last : ∀ x1 : Int32, x1 = (if r = 15 then 1 else 0) → wY_winners_125 post x1 yn yc yo yp m' ys yl yb yw yk yt yz yx := by
                    intro x1 hx1
                    unfold wY_winners_125
                    refine y_le (r := r) hM.1 (by omega) hx1 (fun w u' hw hX => ?_)
                    obtain ⟨yn', yc', yo', yp', ym', ys', yl', yb', yw', yk', yt', yz', yx'⟩ := u'
                    exact hp w _ hX ⟨fun q => by omega, fun _ q => by omega, fun q => by omega, fun q => by omega, fun q => by omega, fun q => by omega, fun q => by omega, fun q => by omega, fun _ => hw⟩
                  exact pk_eq r 15 (fun e => last 1 (by rw [if_pos e])) (fun e => last 0 (by rw [if_neg e]))
    · rw [show nI r - 6 = nI (r - 6) from pk_sub (b := 6) (by omega)]
      refine y_el hM.1 (by omega) (fun w u' hw hX => ?_)
      obtain ⟨yn', yc', yo', yp', ym', ys', yl', yb', yw', yk', yt', yz', yx'⟩ := u'
      exact hp w _ hX ⟨fun q => by omega, fun _ _ => hw, fun q => by omega, fun q => by omega, fun q => by omega, fun q => by omega, fun q => by omega, fun q => by omega, fun q => by omega⟩
  · exact y_hi hM h5 (fun w hw => hp _ _ hM.1 ⟨fun _ => hw, fun q => by omega, fun q => by omega, fun q => by omega, fun q => by omega, fun q => by omega, fun q => by omega, fun q => by omega, fun q => by omega⟩)
theorem i_vc_winners {k : Nat} {u : SX} {v : SY} (I : i_Rel k u v) (hk : k + 3 ≤ 1536) (v1 : Int32) : wpX_winners (fun r u' => wpY_winners (fun r' v' => r' = r ∧ i_Rel (k + 3) u' v') v v1) u v1 := by
  have I0 := I
  obtain ⟨n, O, hX, hY⟩ := I
  obtain ⟨xc, xo, xr, xp, xm, xb, xs, xq, xn, xu, xl, xg, xk, xt, xw, xv⟩ := u
  unfold wpX_winners
  dsimp only
  refine x_rule (fun hno => br_t rfl ?_) (fun r hr e => br_f (by decide) ?_)
  · obtain ⟨yn, yc, yo, yp, ym, ys, yl, yb, yw, yk, yt, yz, yx⟩ := v
    unfold wpY_winners
    dsimp only
    exact y_in 0 16 rfl (by decide) (fun _ => br_t rfl ⟨rfl, I0⟩) (fun j _ hj e => absurd e (hno j hj))
  · subst e
    refine x_ws (V := xv) ⟨hX, rfl⟩ hr (fun w u' hX' hw => ?_)
    obtain ⟨xc', xo', xr', xp', xm', xb', xs', xq', xn', xu', xl', xg', xk', xt', xw', xv'⟩ := u'
    exact y_ws hY hr (fun w' v' hY' hw' => ⟨isWin_u hr hw' hw, n, O, hX'.1, hY'⟩)
theorem i_vc_agree {k : Nat} {u : SX} {v : SY} (I : i_Rel k u v) (hk : k + 3 ≤ 1536) (v1 : Int32) (v2 : Int32) : wpX_agree (fun r u' => wpY_agree (fun r' v' => r' = r ∧ i_Rel (k + 3) u' v') v v1 v2) u v1 v2 := by
  have I0 := I
  obtain ⟨n, O, hX, hY⟩ := I
  obtain ⟨xc, xo, xr, xp, xm, xb, xs, xq, xn, xu, xl, xg, xk, xt, xw, xv⟩ := u
  obtain ⟨yn, yc, yo, yp, ym, ys, yl, yb, yw, yk, yt, yz, yx⟩ := v
  unfold wpX_agree
  dsimp only
  refine x_rule (fun hno => br_t rfl ?_) (fun r hr e => br_f (by decide) ?_)
  · unfold wpY_agree
    dsimp only
    exact y_in 0 16 rfl (by decide) (fun _ => br_t rfl ⟨rfl, I0⟩) (fun j _ hj e => absurd e (hno j hj))
  · subst e
    refine x_rule (fun hno => br_t rfl ?_) (fun s hs e => br_f (by decide) ?_)
    · unfold wpY_agree
      dsimp only
      refine y_in 0 16 rfl (by decide) (fun hh => absurd rfl (hh r (by omega) hr)) (fun _ _ _ _ => br_f (by decide) ?_)
      exact y_in 0 16 rfl (by decide) (fun _ => br_t rfl ⟨rfl, I0⟩) (fun j _ hj e => absurd e (hno j hj))
    · subst e
      refine x_ws (V := xv) ⟨hX, rfl⟩ hr (fun w1 u1 hX1 hw1 => ?_)
      obtain ⟨xc', xo', xr', xp', xm', xb', xs', xq', xn', xu', xl', xg', xk', xt', xw', xv'⟩ := u1
      refine x_ws hX1 hs (fun w2 u2 hX2 hw2 => ?_)
      obtain ⟨xc'', xo'', xr'', xp'', xm'', xb'', xs'', xq'', xn'', xu'', xl'', xg'', xk'', xt'', xw'', xv''⟩ := u2
      have yy : ∀ z : Int32, (w1 = w2 → z = 1) → (¬ w1 = w2 → z = 0) → wpY_agree (fun r' v' => r' = z ∧ i_Rel (k + 3) (xc'', xo'', xr'', xp'', xm'', xb'', xs'', xq'', xn'', xu'', xl'', xg'', xk'', xt'', xw'', xv'') v') (yn, yc, yo, yp, ym, ys, yl, yb, yw, yk, yt, yz, yx) (nI r) (nI s) := by
        intro z hz1 hz0
        unfold wpY_agree
        dsimp only
        refine y_in 0 16 rfl (by decide) (fun hh => absurd rfl (hh r (by omega) hr)) (fun _ _ _ _ => br_f (by decide) ?_)
        refine y_in 0 16 rfl (by decide) (fun hh => absurd rfl (hh s (by omega) hs)) (fun _ _ _ _ => br_f (by decide) ?_)
        refine y_ws hY hr (fun y1 v1 hY1 hv1 => ?_)
        obtain ⟨yn', yc', yo', yp', ym', ys', yl', yb', yw', yk', yt', yz', yx'⟩ := v1
        refine y_ws hY1 hs (fun y2 v2 hY2 hv2 => ?_)
        obtain ⟨yn'', yc'', yo'', yp'', ym'', ys'', yl'', yb'', yw'', yk'', yt'', yz'', yx''⟩ := v2
        have e1 := isWin_u hr hv1 hw1
        have e2 := isWin_u hs hv2 hw2
        subst e1 e2
        exact br_c (fun e => ⟨(hz1 e).symm, n, O, hX2.1, hY2⟩) (fun e => ⟨(hz0 e).symm, n, O, hX2.1, hY2⟩)
      exact br_c (fun e => yy 1 (fun _ => rfl) (fun z => absurd e z)) (fun e => yy 0 (fun z => absurd z e) (fun _ => rfl))
end
section
/-! ===== gain ===== -/
theorem Mg_congr {n : Nat} {O O' : Nat → Nat} (h : ∀ j, j < n → O j = O' j) (a b : Nat) : Mg n O a b = Mg n O' a b := Mw_congr (fun _ _ => rfl) h
theorem rx_congr {n : Nat} {O O' : Nat → Nat} {u : SX} (h : zRX n O u) (e : ∀ j, j < n → O j = O' j) : zRX n O' u := by
  obtain ⟨⟨h1, h2, h3⟩, h4, h5⟩ := h
  refine ⟨⟨h1, h2, fun i hi => by rw [← e i hi]; exact h3 i hi⟩, fun a b ha hb => by rw [← Mg_congr e]; exact h4 a b ha hb, fun a ha => vb_congr (h5 a ha) (fun b _ => by rw [Mg_congr e])⟩
theorem ry_congr {n : Nat} {O O' : Nat → Nat} {v : SY} (h : zRY n O v) (e : ∀ j, j < n → O j = O' j) : zRY n O' v := by
  obtain ⟨h1, h2, h3⟩ := h
  exact ⟨h1, h2, fun i hi => by rw [← e i hi]; exact h3 i hi⟩
theorem upn2 (O : Nat → Nat) (i x o j : Nat) : upn (upn O i x) i o j = upn O i o j := by
  by_cases e : j = i
  · subst e; rw [upn_s, upn_s]
  · rw [upn_n _ e, upn_n _ e, upn_n _ e]
theorem upn_id (O : Nat → Nat) (i j : Nat) : upn O i (O i) j = O j := by
  by_cases e : j = i
  · subst e; rw [upn_s]
  · rw [upn_n _ e]
theorem x_rb {post : SX → Prop} {xc : Int32} {xo xr xp xm xb xs xq xn xu xl xg xk xt xw xv : Nat → Int32} {n : Nat} {O : Nat → Nat} {V : Nat → Int32} (h : zRV n O V (xc, xo, xr, xp, xm, xb, xs, xq, xn, xu, xl, xg, xk, xt, xw, xv)) {i o : Nat} (hi : i < n) (ho : isr o = true) (hp : ∀ u', zRV n (upn O i o) V u' → post u') : wpX_replaceBallot post (xc, xo, xr, xp, xm, xb, xs, xq, xn, xu, xl, xg, xk, xt, xw, xv) (nI i) (nI o) := by
  have hn := h.1.1.1
  have hc : xc = nI n := h.1.1.2.1
  have hV : xv = V := h.2
  unfold wpX_replaceBallot
  dsimp only
  refine ⟨vp_in_nI (by omega) (by decide), nm_r (e' := upd xo i (nI o)) (by rw [nI_clamp (by omega)]) (x_read (by omega) ho pk_us (fun r' p' g1 g2 => ?_))⟩
  have hRB : zRB n (upn O i o) (xc, (upd xo i (nI o)), r', p', xm, xb, xs, xq, xn, xu, xl, xg, xk, xt, xw, xv) := by
    refine ⟨hn, hc, fun j hj => ?_⟩
    by_cases e : j = i
    · subst e; rw [upn_s]; exact g1
    · rw [upn_n O e]
      have hb := h.1.1.2.2 j hj
      exact g2 j (O j) e ⟨hb.1, (pk_un e).trans hb.2.1, hb.2.2⟩
  exact x_cm hRB (fun m' b' hM => hp _ ⟨⟨hRB, hM⟩, hV⟩)
theorem y_wr {post : SY → Prop} {yn yc : Int32} {yo yp ym ys yl yb yw yk yt yz yx : Nat → Int32} {n : Nat} {O : Nat → Nat} (h : zRY n O (yn, yc, yo, yp, ym, ys, yl, yb, yw, yk, yt, yz, yx)) {i o : Nat} (hi : i < n) (ho : isr o = true) (hp : ∀ v', zRY n (upn O i o) v' → post v') : wpY_write post (yn, yc, yo, yp, ym, ys, yl, yb, yw, yk, yt, yz, yx) (nI i) (nI o) := by
  have hn := h.1
  refine y_write (by omega) ho (fun p' g1 g2 => hp _ ⟨hn, h.2.1, fun j hj => ?_⟩)
  by_cases e : j = i
  · subst e; rw [upn_s]; exact g1
  · rw [upn_n O e]; exact g2 j (O j) e (h.2.2 j hj)
/-- z is the best place of a member of w on the ballot o -/
def isBp (o : Nat) (w : Int32) (z : Nat) : Prop := z ≤ 5 ∧ (∀ c, c < 5 → bt w c = true → z ≤ plc o c) ∧ (z = 5 ∨ ∃ c, c < 5 ∧ bt w c = true ∧ z = plc o c)
theorem isBp_u {o : Nat} {w : Int32} {z z' : Nat} (h : isBp o w z) (h' : isBp o w z') : z = z' := by
  obtain ⟨a1, a2, a3⟩ := h
  obtain ⟨b1, b2, b3⟩ := h'
  rcases a3 with e | ⟨c, hc, hb, e⟩
  · rcases b3 with e' | ⟨c', hc', hb', e'⟩
    · omega
    · have := a2 c' hc' hb'
      have := plc_4 o c'
      omega
  · have h1 := b2 c hc hb
    rcases b3 with e' | ⟨c', hc', hb', e'⟩
    · have := plc_4 o c
      omega
    · have := a2 c' hc' hb'
      omega
theorem x_bp {post : Int32 → Prop} {xc : Int32} {xo xr xp xm xb xs xq xn xu xl xg xk xt xw xv : Nat → Int32} {o : Nat} (hv : ∀ c, c < 5 → xv c = nI (plc o c)) (w : Int32) (hp : ∀ z, isBp o w z → post (nI z)) : wpX_bestPlaceBefore post (xc, xo, xr, xp, xm, xb, xs, xq, xn, xu, xl, xg, xk, xt, xw, xv) w := by
  unfold wpX_bestPlaceBefore
  dsimp only
  refine pk_loop (σ := Int32) (fun m c x => wX_bestPlaceBefore_4 post w xc xo xr xp xm xb xs xq xn xu xl xg xk xt xw xv m x (nI c)) (fun c x => ∃ z, x = nI z ∧ z ≤ 5 ∧ (∀ d, d < c → bt w d = true → z ≤ plc o d) ∧ (z = 5 ∨ ∃ d, d < c ∧ bt w d = true ∧ z = plc o d)) 5 0 5 (by omega) ⟨5, rfl, by omega, fun d hd => by omega, Or.inl rfl⟩ ?_ ?_
  · rintro m x ⟨z, rfl, a, b, d⟩
    rw [wX_bestPlaceBefore_4]
    exact br_t (by decide) (hp z ⟨a, b, d⟩)
  · rintro m c x hc ⟨z, rfl, a, b, d⟩ hK
    rw [wX_bestPlaceBefore_4]
    have h4 := plc_4 o c
    have keep : (bt w c = true → z ≤ plc o c) → ∃ z', nI z = nI z' ∧ z' ≤ 5 ∧ (∀ d, d < c + 1 → bt w d = true → z' ≤ plc o d) ∧ (z' = 5 ∨ ∃ d, d < c + 1 ∧ bt w d = true ∧ z' = plc o d) := by
      intro g
      refine ⟨z, rfl, a, fun e he hb => ?_, ?_⟩
      · by_cases ee : e = c
        · subst ee; exact g hb
        · exact b e (by omega) hb
      · rcases d with d | ⟨e, e1, e2⟩
        · exact Or.inl d
        · exact Or.inr ⟨e, by omega, e2⟩
    refine br_f (nI_ge (b := 5) hc (by decide)) (x_has (by omega) (fun e => br_f (by decide) ⟨vp_in_nI hc (by decide), ?_⟩) (fun e => br_t rfl (nm_r (nI_1 c) (hK _ (keep (fun q => by rw [q] at e; cases e))))))
    rw [nI_clamp (by omega), hv c hc]
    refine pk_le z (plc o c) (fun hle => nm_r (nI_1 c) (hK _ (keep (fun _ => hle)))) (fun hlt => ⟨vp_in_nI hc (by decide), nm_e (nm_r (nI_1 c) (hK _ ⟨plc o c, rfl, by omega, fun e' he hb => ?_, Or.inr ⟨c, by omega, e, rfl⟩⟩))⟩)
    by_cases ee : e' = c
    · subst ee; exact Nat.le_refl _
    · have := b e' (by omega) hb
      omega
theorem y_bp {post : Int32 → Prop} {yn yc : Int32} {yo yp ym ys yl yb yw yk yt yz yx : Nat → Int32} {o : Nat} (ho : isr o = true) (w : Int32) (hp : ∀ z, isBp o w z → post (nI z)) : wpY_bestPlace post (yn, yc, yo, yp, ym, ys, yl, yb, yw, yk, yt, yz, yx) w (nI o) := by
  have hol := isr_lt ho
  unfold wpY_bestPlace
  dsimp only
  refine ⟨6, ?_⟩
  have key := pk_loopD (σ := Int32 × Int32) (fun m e s => wY_bestPlace_8 post w yn yc yo yp ym ys yl yb yw yk yt yz yx m s.1 s.2 (iI ((e : Int) - 1)))
    (fun e s => e ≤ 5 ∧ s.1 = nI (o / 5 ^ (5 - e)) ∧ ∃ z, s.2 = nI z ∧ z ≤ 5 ∧ (∀ q, e ≤ q → q < 5 → bt w (rkc o q) = true → z ≤ q) ∧ (z = 5 ∨ (e ≤ z ∧ z < 5 ∧ bt w (rkc o z) = true)))
    (by
      rintro m ⟨x3, x4⟩ ⟨_, _, z, e, a, b, d⟩
      dsimp only at e ⊢
      subst e
      rw [wY_bestPlace_8]
      refine br_t (by decide) (hp z ⟨a, fun c hc hb => ?_, ?_⟩)
      · have hr := rc_all ho hc
        exact b (plc o c) (by omega) hr.2.2.1 (by rw [hr.2.2.2]; exact hb)
      · rcases d with d | ⟨_, d1, d2⟩
        · exact Or.inl d
        · have hr := rc_all ho d1
          exact Or.inr ⟨rkc o z, hr.1, d2, hr.2.1.symm⟩)
    (by
      rintro m e ⟨x3, x4⟩ ⟨he, e3, z, e4, a, b, d⟩ hK
      dsimp only at e3 e4 hK ⊢
      subst e3 e4
      rw [ve_p, wY_bestPlace_8, show 5 - (e + 1) = 4 - e from by omega]
      have hr := rc_all ho (show e < 5 by omega)
      have hq1 : nI (o / 5 ^ (4 - e)) - nI (o / 5 ^ (4 - e)) / 5 * 5 = nI (rkc o e) := rc_rem (rc_dl o _ hol)
      have hq2 : nI (o / 5 ^ (4 - e)) / 5 = nI (o / 5 ^ (5 - e)) := by
        rw [rc_div (rc_dl o _ hol), rc_step, show 4 - e + 1 = 5 - e from by omega]
      refine br_f (nI_pos (by omega)) ⟨by decide, ?_⟩
      rw [hq1]
      cases hb : bt w (rkc o e) with
      | true =>
        refine br_t ((vb_has (by omega)).mpr hb) ⟨by decide, nm_r hq2 (nm_r (ve_m e) (hK (_, nI e) ⟨by omega, rfl, e, rfl, by omega, fun q hq _ _ => hq, Or.inr ⟨Nat.le_refl _, by omega, hb⟩⟩))⟩
      | false =>
        refine br_f (fun hh => by rw [vb_has (by omega), hb] at hh; cases hh) ⟨by decide, nm_r hq2 (nm_r (ve_m e) (hK (_, nI z) ⟨by omega, rfl, z, rfl, a, fun q hq hq5 hbq => ?_, ?_⟩))⟩
        · by_cases eq : q = e
          · subst eq; rw [hbq] at hb; cases hb
          · exact b q (by omega) hq5 hbq
        · rcases d with d | ⟨d1, d2, d3⟩
          · exact Or.inl d
          · exact Or.inr ⟨by omega, d2, d3⟩)
  have k5 := key 5 (nI o, 5) ⟨by omega, by simp, 5, rfl, by omega, fun q h1 h2 => by omega, Or.inl rfl⟩
  dsimp only at k5
  rw [show iI (((5 : Nat) : Int) - 1) = 4 from by decide] at k5
  exact k5
/-- with the order o instead of ballot i its voter sees a better place -/
def bet (n : Nat) (O : Nat → Nat) (r i now o : Nat) : Prop := ∃ (w : Int32) (b : Nat), isWin n (upn O i o) r w ∧ isBp (O i) w b ∧ b < now
def gnZ (n : Nat) (O : Nat → Nat) (r i now : Nat) (z : Int) : Prop := (z = -1002 ∧ ∀ o, isr o = true → ¬ bet n O r i now o) ∨ ∃ o : Nat, z = o ∧ isr o = true ∧ bet n O r i now o ∧ ∀ o', o' < o → isr o' = true → ¬ bet n O r i now o'
def gnS (n : Nat) (O : Nat → Nat) (r i : Nat) (z : Int) : Prop := ∃ (w : Int32) (now : Nat), isWin n O r w ∧ isBp (O i) w now ∧ gnZ n O r i now z
theorem gnS_u {n : Nat} {O : Nat → Nat} {r i : Nat} {z z' : Int} (hr : r ≤ 16) (h : gnS n O r i z) (h' : gnS n O r i z') : z = z' := by
  obtain ⟨w, now, a, b, d⟩ := h
  obtain ⟨w', now', a', b', d'⟩ := h'
  have e := isWin_u hr a a'
  subst e
  have e := isBp_u b b'
  subst e
  rcases d with ⟨d1, d2⟩ | ⟨o, o1, o2, o3, o4⟩
  · rcases d' with ⟨d1', _⟩ | ⟨o', p1, p2, p3, p4⟩
    · rw [d1, d1']
    · exact absurd p3 (d2 o' p2)
  · rcases d' with ⟨d1', d2'⟩ | ⟨o', p1, p2, p3, p4⟩
    · exact absurd o3 (d2' o o2)
    · rcases Nat.lt_trichotomy o o' with g | g | g
      · exact absurd o3 (p4 o g o2)
      · rw [o1, p1, g]
      · exact absurd p3 (o4 o' g p2)
/-- the search as far as the orders below o go -/
def gnI (n : Nat) (O : Nat → Nat) (r i now o : Nat) (x : Int32) : Prop := (x = -1002 ∧ ∀ o', o' < o → isr o' = true → ¬ bet n O r i now o') ∨ ∃ o1, o1 < o ∧ x = nI o1 ∧ isr o1 = true ∧ bet n O r i now o1 ∧ ∀ o', o' < o1 → isr o' = true → ¬ bet n O r i now o'
theorem gn_end {n : Nat} {O : Nat → Nat} {r i now o : Nat} {x : Int32} (h : gnI n O r i now o x) (hx : 3125 ≤ o ∨ ¬ x = -1002 ∨ now = 0) : ∃ z, x = iI z ∧ gnZ n O r i now z := by
  rcases h with ⟨a, b⟩ | ⟨o1, a, b, d, e, f⟩
  · refine ⟨-1002, by rw [a]; exact i_1002.symm, Or.inl ⟨rfl, fun o' ho' hb => ?_⟩⟩
    rcases hx with g | g | g
    · exact b o' (by have := isr_lt ho'; omega) ho' hb
    · exact g a
    · obtain ⟨_, q, _, _, hq⟩ := hb
      omega
  · exact ⟨(o1 : Int), by rw [b, vs_iN], Or.inr ⟨o1, rfl, d, e, f⟩⟩
theorem gn_no {n : Nat} {O : Nat → Nat} {r i now o : Nat} {x : Int32} (h : gnI n O r i now o x) (hno : isr o = true → ¬ bet n O r i now o) : gnI n O r i now (o + 1) x := by
  rcases h with ⟨a, b⟩ | ⟨o1, a, b⟩
  · refine Or.inl ⟨a, fun o' ho' hi => ?_⟩
    by_cases e : o' = o
    · subst e; exact hno hi
    · exact b o' (by omega) hi
  · exact Or.inr ⟨o1, by omega, b⟩
theorem gn_yes {n : Nat} {O : Nat → Nat} {r i now o : Nat} (h : gnI n O r i now o (-1002)) (hi : isr o = true) (hb : bet n O r i now o) : gnI n O r i now (o + 1) (nI o) := by
  refine Or.inr ⟨o, by omega, rfl, hi, hb, ?_⟩
  rcases h with ⟨_, b⟩ | ⟨o1, a, b, d, _⟩
  · exact b
  · exfalso
    have := isr_lt d
    exact nI_pos (n := o1) (by omega) (by rw [← b]; decide)
theorem x_g144 {post : Int32 → SX → Prop} {xc : Int32} {xo xr xp xm xb xs xq xn xu xl xg xk xt xw xv : Nat → Int32} {n : Nat} {O : Nat → Nat} {V : Nat → Int32} {i x : Nat} (hi : i < n) (h : zRV n (upn O i x) V (xc, xo, xr, xp, xm, xb, xs, xq, xn, xu, xl, xg, xk, xt, xw, xv)) (ho : isr (O i) = true) {y : Int32} (hp : ∀ u', zRX n O u' → post y u') : wX_gain_144 post (nI i) (nI (O i)) y xc xo xr xp xm xb xs xq xn xu xl xg xk xt xw xv := by
  unfold wX_gain_144
  refine x_rb h hi ho (fun u' hX => ?_)
  obtain ⟨xc', xo', xr', xp', xm', xb', xs', xq', xn', xu', xl', xg', xk', xt', xw', xv'⟩ := u'
  exact hp _ (rx_congr hX.1 (fun j _ => by rw [upn2, upn_id]))
theorem x_g85 {post : Int32 → SX → Prop} {u : SX} {n : Nat} {O : Nat → Nat} {V : Nat → Int32} {r i now : Nat} (hr : r ≤ 16) (hi : i < n) (h : zRV n O V u) (ho : isr (O i) = true) (hV : ∀ c, c < 5 → V c = nI (plc (O i) c)) (h5 : now ≤ 5) (hp : ∀ z u', gnZ n O r i now z → zRX n O u' → post (iI z) u') : ∃ m, wX_gain_85 post (nI r) (nI i) (nI (O i)) (nI now) m (-1002) 0 u.1 u.2.1 u.2.2.1 u.2.2.2.1 u.2.2.2.2.1 u.2.2.2.2.2.1 u.2.2.2.2.2.2.1 u.2.2.2.2.2.2.2.1 u.2.2.2.2.2.2.2.2.1 u.2.2.2.2.2.2.2.2.2.1 u.2.2.2.2.2.2.2.2.2.2.1 u.2.2.2.2.2.2.2.2.2.2.2.1 u.2.2.2.2.2.2.2.2.2.2.2.2.1 u.2.2.2.2.2.2.2.2.2.2.2.2.2.1 u.2.2.2.2.2.2.2.2.2.2.2.2.2.2.1 u.2.2.2.2.2.2.2.2.2.2.2.2.2.2.2 := by
  refine pk_loop (σ := Int32 × SX) (fun m o s => wX_gain_85 post (nI r) (nI i) (nI (O i)) (nI now) m s.1 (nI o) s.2.1 s.2.2.1 s.2.2.2.1 s.2.2.2.2.1 s.2.2.2.2.2.1 s.2.2.2.2.2.2.1 s.2.2.2.2.2.2.2.1 s.2.2.2.2.2.2.2.2.1 s.2.2.2.2.2.2.2.2.2.1 s.2.2.2.2.2.2.2.2.2.2.1 s.2.2.2.2.2.2.2.2.2.2.2.1 s.2.2.2.2.2.2.2.2.2.2.2.2.1 s.2.2.2.2.2.2.2.2.2.2.2.2.2.1 s.2.2.2.2.2.2.2.2.2.2.2.2.2.2.1 s.2.2.2.2.2.2.2.2.2.2.2.2.2.2.2.1 s.2.2.2.2.2.2.2.2.2.2.2.2.2.2.2.2) (fun o s => (∃ x, zRV n (upn O i x) V s.2) ∧ gnI n O r i now o s.1) 3125 0 (-1002, u) (by omega) ⟨⟨O i, rx_congr h.1 (fun j _ => (upn_id O i j).symm), h.2⟩, Or.inl ⟨rfl, fun o' ho' => by omega⟩⟩ ?_ ?_
  · rintro m ⟨y, ⟨xc', xo', xr', xp', xm', xb', xs', xq', xn', xu', xl', xg', xk', xt', xw', xv'⟩⟩ ⟨⟨x, hX⟩, hg⟩
    dsimp only at hg ⊢
    rw [wX_gain_85]
    obtain ⟨z, ez, hz⟩ := gn_end hg (Or.inl (Nat.le_refl _))
    subst ez
    exact br_t (by decide) (x_g144 hi hX ho (fun u' hX' => hp z u' hz hX'))
  · rintro m o ⟨y, ⟨xc', xo', xr', xp', xm', xb', xs', xq', xn', xu', xl', xg', xk', xt', xw', xv'⟩⟩ ho3 ⟨⟨x, hX⟩, hg⟩ hK
    dsimp only at hg hK ⊢
    rw [wX_gain_85]
    refine br_f (nI_ge (b := 3125) ho3 (by decide)) (br_c (fun ey => ?_) (fun ey => ?_))
    · subst ey
      refine x_isRanking (fun hno => br_t rfl (nm_r (nI_1 o) (hK (-1002, (xc', xo', xr', xp', xm', xb', xs', xq', xn', xu', xl', xg', xk', xt', xw', xv')) ⟨⟨x, hX⟩, gn_no hg (fun q => absurd rfl (hno o q))⟩))) (fun o' e' hio => br_f (by decide) ?_)
      have eo : o = o' := (nI_eq (by omega) (by have := isr_lt hio; omega)).mp e'
      subst eo
      refine x_rb hX hi hio (fun u1 hX1 => ?_)
      obtain ⟨xc'', xo'', xr'', xp'', xm'', xb'', xs'', xq'', xn'', xu'', xl'', xg'', xk'', xt'', xw'', xv''⟩ := u1
      have hX1' : zRV n (upn O i o) V (xc'', xo'', xr'', xp'', xm'', xb'', xs'', xq'', xn'', xu'', xl'', xg'', xk'', xt'', xw'', xv'') := ⟨rx_congr hX1.1 (fun j _ => upn2 O i x o j), hX1.2⟩
      refine x_ws hX1' hr (fun w u2 hX2 hw => ?_)
      obtain ⟨xc, xo, xr, xp, xm, xb, xs, xq, xn, xu, xl, xg, xk, xt, xw, xv⟩ := u2
      have hv2 : xv = V := hX2.2
      subst hv2
      refine x_bp hV w (fun b hb => ?_)
      have hb5 := hb.1
      refine pk_le now b (fun hle => nm_r (nI_1 o) (hK (-1002, (xc, xo, xr, xp, xm, xb, xs, xq, xn, xu, xl, xg, xk, xt, xw, xv)) ⟨⟨o, hX2⟩, gn_no hg (fun _ ⟨w', b', q1, q2, q3⟩ => ?_)⟩)) (fun hlt => nm_r (nI_1 o) (hK (nI o, (xc, xo, xr, xp, xm, xb, xs, xq, xn, xu, xl, xg, xk, xt, xw, xv)) ⟨⟨o, hX2⟩, gn_yes hg hio ⟨w, b, hw, hb, hlt⟩⟩))
      have e1 := isWin_u hr q1 hw
      subst e1
      have := isBp_u q2 hb
      omega
    · obtain ⟨z, ez, hz⟩ := gn_end hg (Or.inr (Or.inl ey))
      subst ez
      exact x_g144 hi hX ho (fun u' hX' => hp z u' hz hX')
theorem x_gain {post : Int32 → SX → Prop} {xc : Int32} {xo xr xp xm xb xs xq xn xu xl xg xk xt xw xv : Nat → Int32} {n : Nat} {O : Nat → Nat} (h : zRX n O (xc, xo, xr, xp, xm, xb, xs, xq, xn, xu, xl, xg, xk, xt, xw, xv)) {r i : Nat} (hr : r ≤ 14) (hi : i < n) (hp : ∀ z u', gnS n O r i z → zRX n O u' → post (iI z) u') : wpX_gain post (xc, xo, xr, xp, xm, xb, xs, xq, xn, xu, xl, xg, xk, xt, xw, xv) (nI r) (nI i) := by
  have hn := h.1.1
  have hc : xc = nI n := h.1.2.1
  have hB := h.1.2.2 i hi
  have hpl : ∀ c, c < 5 → xp (5 * i + c) = nI (plc (O i) c) := hB.2.2.2
  have hor : xo i = nI (O i) := hB.2.1
  unfold wpX_gain
  dsimp only
  refine br_f (nI_pos (by omega)) (pk_lt 14 r (fun q => by omega) (fun _ => ?_))
  refine x_isB hn hc (fun hno => absurd rfl (hno i hi)) (fun _ _ _ => br_f (by decide) ⟨vp_in_nI (by omega) (by decide), nm_r (e' := nI (O i)) (by rw [nI_clamp (by omega), hor]) ?_⟩)
  refine pk_loop (σ := Nat → Int32) (fun m c s => wX_gain_32 post (nI r) (nI i) (nI (O i)) xc m (nI c) xo xr xp xm xb xs xq xn xu xl xg xk xt xw s) (fun c s => ∀ d, d < c → s d = nI (plc (O i) d)) 5 0 xv (by omega) (fun d hd => by omega) ?_ ?_
  · intro m V hV
    rw [wX_gain_32]
    have h0 : zRV n O V (xc, xo, xr, xp, xm, xb, xs, xq, xn, xu, xl, xg, xk, xt, xw, V) := ⟨rx_any h, rfl⟩
    refine br_t (by decide) (x_ws h0 (by omega) (fun w u1 hX1 hw => ?_))
    obtain ⟨xc', xo', xr', xp', xm', xb', xs', xq', xn', xu', xl', xg', xk', xt', xw', xv'⟩ := u1
    have hv2 : xv' = V := hX1.2
    subst hv2
    refine x_bp hV w (fun now hnow => ?_)
    exact x_g85 (by omega) hi hX1 hB.1 hV hnow.1 (fun z u' hz hX => hp z u' ⟨w, now, hw, hnow, hz⟩ hX)
  · intro m c V hc5 hV hK
    rw [wX_gain_32]
    refine br_f (nI_ge (b := 5) hc5 (by decide)) ⟨by rw [vn_5a]; exact vp_in_nI (by omega) (by decide), vp_in_nI hc5 (by decide), nm_r (e' := upd V c (nI (plc (O i) c))) (by rw [vn_5a, nI_clamp (n := c) (by omega), nI_clamp (n := 5 * i + c) (by omega), hpl c hc5]) (nm_r (nI_1 c) (hK (upd V c (nI (plc (O i) c))) (fun d hd => ?_)))⟩
    by_cases e : d = c
    · subst e; exact pk_us
    · rw [pk_un e]; exact hV d (by omega)
theorem y_g127 {post : Int32 → SY → Prop} {yn yc : Int32} {yo yp ym ys yl yb yw yk yt yz yx : Nat → Int32} {n : Nat} {O : Nat → Nat} {i x : Nat} (hi : i < n) (h : zRY n (upn O i x) (yn, yc, yo, yp, ym, ys, yl, yb, yw, yk, yt, yz, yx)) (ho : isr (O i) = true) {y : Int32} (hp : ∀ v', zRY n O v' → post y v') : wY_gain_127 post (nI i) (nI (O i)) y yn yc yo yp ym ys yl yb yw yk yt yz yx := by
  unfold wY_gain_127
  refine y_wr h hi ho (fun v' hY => ?_)
  obtain ⟨yn', yc', yo', yp', ym', ys', yl', yb', yw', yk', yt', yz', yx'⟩ := v'
  exact hp _ (ry_congr hY (fun j _ => by rw [upn2, upn_id]))
theorem y_g61 {post : Int32 → SY → Prop} {v : SY} {n : Nat} {O : Nat → Nat} {r i now : Nat} (hr : r ≤ 16) (hi : i < n) (h : zRY n O v) (ho : isr (O i) = true) (h5 : now ≤ 5) (hp : ∀ z v', gnZ n O r i now z → zRY n O v' → post (iI z) v') : ∃ m, wY_gain_61 post (nI r) (nI i) (nI (O i)) (nI now) m (-1002) 0 v.1 v.2.1 v.2.2.1 v.2.2.2.1 v.2.2.2.2.1 v.2.2.2.2.2.1 v.2.2.2.2.2.2.1 v.2.2.2.2.2.2.2.1 v.2.2.2.2.2.2.2.2.1 v.2.2.2.2.2.2.2.2.2.1 v.2.2.2.2.2.2.2.2.2.2.1 v.2.2.2.2.2.2.2.2.2.2.2.1 v.2.2.2.2.2.2.2.2.2.2.2.2 := by
  refine pk_loop (σ := Int32 × SY) (fun m o s => wY_gain_61 post (nI r) (nI i) (nI (O i)) (nI now) m s.1 (nI o) s.2.1 s.2.2.1 s.2.2.2.1 s.2.2.2.2.1 s.2.2.2.2.2.1 s.2.2.2.2.2.2.1 s.2.2.2.2.2.2.2.1 s.2.2.2.2.2.2.2.2.1 s.2.2.2.2.2.2.2.2.2.1 s.2.2.2.2.2.2.2.2.2.2.1 s.2.2.2.2.2.2.2.2.2.2.2.1 s.2.2.2.2.2.2.2.2.2.2.2.2.1 s.2.2.2.2.2.2.2.2.2.2.2.2.2) (fun o s => (∃ x, zRY n (upn O i x) s.2) ∧ gnI n O r i now o s.1) 3125 0 (-1002, v) (by omega) ⟨⟨O i, ry_congr h (fun j _ => (upn_id O i j).symm)⟩, Or.inl ⟨rfl, fun o' ho' => by omega⟩⟩ ?_ ?_
  · rintro m ⟨y, ⟨yn', yc', yo', yp', ym', ys', yl', yb', yw', yk', yt', yz', yx'⟩⟩ ⟨⟨x, hY⟩, hg⟩
    dsimp only at hg ⊢
    rw [wY_gain_61]
    obtain ⟨z, ez, hz⟩ := gn_end hg (Or.inl (Nat.le_refl _))
    subst ez
    exact br_t (by decide) (y_g127 hi hY ho (fun u' hY' => hp z u' hz hY'))
  · rintro m o ⟨y, ⟨yn', yc', yo', yp', ym', ys', yl', yb', yw', yk', yt', yz', yx'⟩⟩ ho3 ⟨⟨x, hY⟩, hg⟩ hK
    dsimp only at hg hK ⊢
    rw [wY_gain_61]
    refine br_f (nI_ge (b := 3125) ho3 (by decide)) (br_c (fun ey => ?_) (fun ey => ?_))
    · subst ey
      refine pk_le now 0 (fun hz => ?_) (fun hz => ?_)
      · obtain ⟨z, ez, hz⟩ := gn_end hg (Or.inr (Or.inr (by omega)))
        rw [ez]
        exact y_g127 hi hY ho (fun u' hY' => hp z u' hz hY')
      · refine y_isOrder (fun hno => br_t rfl (nm_r (nI_1 o) (hK (-1002, (yn', yc', yo', yp', ym', ys', yl', yb', yw', yk', yt', yz', yx')) ⟨⟨x, hY⟩, gn_no hg (fun q => absurd rfl (hno o q))⟩))) (fun o' e' hio => br_f (by decide) ?_)
        have eo : o = o' := (nI_eq (by omega) (by have := isr_lt hio; omega)).mp e'
        subst eo
        refine y_wr hY hi hio (fun v1 hY1 => ?_)
        obtain ⟨yn'', yc'', yo'', yp'', ym'', ys'', yl'', yb'', yw'', yk'', yt'', yz'', yx''⟩ := v1
        have hY1' : zRY n (upn O i o) (yn'', yc'', yo'', yp'', ym'', ys'', yl'', yb'', yw'', yk'', yt'', yz'', yx'') := ry_congr hY1 (fun j _ => upn2 O i x o j)
        refine y_ws hY1' hr (fun w v2 hY2 hw => ?_)
        obtain ⟨yn, yc, yo, yp, ym, ys, yl, yb, yw, yk, yt, yz, yx⟩ := v2
        refine y_bp ho w (fun b hb => ?_)
        have hb5 := hb.1
        refine pk_le now b (fun hle => nm_r (nI_1 o) (hK (-1002, (yn, yc, yo, yp, ym, ys, yl, yb, yw, yk, yt, yz, yx)) ⟨⟨o, hY2⟩, gn_no hg (fun _ ⟨w', b', q1, q2, q3⟩ => ?_)⟩)) (fun hlt => nm_r (nI_1 o) (hK (nI o, (yn, yc, yo, yp, ym, ys, yl, yb, yw, yk, yt, yz, yx)) ⟨⟨o, hY2⟩, gn_yes hg hio ⟨w, b, hw, hb, hlt⟩⟩))
        have e1 := isWin_u hr q1 hw
        subst e1
        have := isBp_u q2 hb
        omega
    · obtain ⟨z, ez, hz⟩ := gn_end hg (Or.inr (Or.inl ey))
      subst ez
      exact y_g127 hi hY ho (fun u' hY' => hp z u' hz hY')
theorem i_vc_gain {k : Nat} {u : SX} {v : SY} (I : i_Rel k u v) (hk : k + 3 ≤ 1536) (v1 : Int32) (v2 : Int32) : wpX_gain (fun r u' => wpY_gain (fun r' v' => r' = r ∧ i_Rel (k + 3) u' v') v v1 v2) u v1 v2 := by
  have I0 := I
  obtain ⟨n, O, hX, hY⟩ := I
  obtain ⟨xc, xo, xr, xp, xm, xb, xs, xq, xn, xu, xl, xg, xk, xt, xw, xv⟩ := u
  obtain ⟨yn, yc, yo, yp, ym, ys, yl, yb, yw, yk, yt, yz, yx⟩ := v
  have hn := hX.1.1
  have hc : xc = nI n := hX.1.2.1
  have hc' : yn = nI n := hY.2.1
  have bad : (∀ r, r ≤ 14 → v1 ≠ nI r) → wpY_gain (fun r' v' => r' = -1000 ∧ i_Rel (k + 3) (xc, xo, xr, xp, xm, xb, xs, xq, xn, xu, xl, xg, xk, xt, xw, xv) v') (yn, yc, yo, yp, ym, ys, yl, yb, yw, yk, yt, yz, yx) v1 v2 := by
    intro hno
    unfold wpY_gain
    dsimp only
    exact y_in 0 14 rfl (by decide) (fun _ => br_t rfl ⟨rfl, I0⟩) (fun j _ hj e => absurd e (hno j hj))
  by_cases hr : ∃ r, r ≤ 14 ∧ v1 = nI r
  · obtain ⟨r, hr, rfl⟩ := hr
    by_cases hi : ∃ i, i < n ∧ v2 = nI i
    · obtain ⟨i, hi, rfl⟩ := hi
      refine x_gain hX hr hi (fun z u' hz hX' => ?_)
      unfold wpY_gain
      dsimp only
      refine y_in 0 14 rfl (by decide) (fun hh => absurd rfl (hh r (by omega) hr)) (fun _ _ _ _ => br_f (by decide) ?_)
      have hor : yo i = nI (O i) := (hY.2.2 i hi).2.1
      have hio := (hY.2.2 i hi).1
      refine y_isB hn hc' (fun hno => absurd rfl (hno i hi)) (fun _ _ _ => br_f (by decide) ⟨vp_in_nI (by omega) (by decide), nm_r (e' := nI (O i)) (by rw [nI_clamp (by omega), hor]) ?_⟩)
      refine y_ws hY (by omega) (fun w v1 hY1 hw => ?_)
      obtain ⟨yn', yc', yo', yp', ym', ys', yl', yb', yw', yk', yt', yz', yx'⟩ := v1
      refine y_bp hio w (fun now hnow => ?_)
      exact y_g61 (by omega) hi hY1 hio hnow.1 (fun z' v' hz' hY' => ⟨by rw [gnS_u (by omega) hz ⟨w, now, hw, hnow, hz'⟩], n, O, hX', hY'⟩)
    · have hno : ∀ i, i < n → v2 ≠ nI i := fun i h1 h2 => hi ⟨i, h1, h2⟩
      unfold wpX_gain
      dsimp only
      refine br_f (nI_pos (by omega)) (pk_lt 14 r (fun q => by omega) (fun _ => ?_))
      refine x_isB hn hc (fun _ => br_t rfl ?_) (fun i h1 h2 => absurd h2 (hno i h1))
      unfold wpY_gain
      dsimp only
      refine y_in 0 14 rfl (by decide) (fun hh => absurd rfl (hh r (by omega) hr)) (fun _ _ _ _ => br_f (by decide) ?_)
      exact y_isB hn hc' (fun _ => br_t rfl ⟨rfl, I0⟩) (fun i h1 h2 => absurd h2 (hno i h1))
  · have hno : ∀ r, r ≤ 14 → v1 ≠ nI r := fun r h1 h2 => hr ⟨r, h1, h2⟩
    unfold wpX_gain
    dsimp only
    by_cases hneg : v1 < 0
    · exact br_t hneg (bad hno)
    · obtain ⟨j, hj, rfl⟩ := nI_of hneg
      exact br_f hneg (pk_lt 14 j (fun _ => bad hno) (fun q => absurd rfl (hno j q)) rfl rfl (by omega) hj)
end
