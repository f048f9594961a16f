section
theorem pk_us {f : Nat → Int32} {k : Nat} {x : Int32} : upd f k x k = x := if_pos rfl
theorem pk_un {f : Nat → Int32} {k j : Nat} {x : Int32} (h : j ≠ k) : upd f k x j = f j := if_neg h
theorem pk_sub {a b : Nat} (h : b ≤ a) : nI a - nI b = nI (a - b) := by
  obtain ⟨c, rfl⟩ : ∃ c, a = c + b := ⟨a - b, by omega⟩
  rw [← nI_add, Int32.add_sub_cancel, Nat.add_sub_cancel]
theorem pk_m1 (n : Nat) : nI (n + 1) + (-1) = nI n := by
  rw [← nI_1, Int32.add_assoc, show (1 : Int32) + (-1) = 0 from rfl, Int32.add_zero]
theorem pk_mul (a b : Nat) : nI a * nI b = nI (a * b) := (Int32.ofNat_mul a b).symm
theorem pk_div {a d : Nat} (ha : a < 2 ^ 31) (h0 : 0 < d) (hd : d < 2 ^ 31) : nI a / nI d = nI (a / d) := by
  apply Int32.toInt_inj.mp
  rw [lg_idiv_nonneg (by rw [nI_toInt ha]; omega) (by rw [nI_toInt hd]; omega), nI_toInt ha, nI_toInt hd, nI_toInt (Nat.lt_of_le_of_lt (Nat.div_le_self a d) ha)]
  first | rfl | exact (Int.natCast_ediv _ _).symm
theorem pk_rem {a d : Nat} (ha : a < 2 ^ 31) (h0 : 0 < d) (hd : d < 2 ^ 31) : nI a - nI a / nI d * nI d = nI (a % d) := by
  rw [pk_div ha h0 hd, pk_mul, pk_sub (Nat.div_mul_le_self a d)]
  exact congrArg nI (by have := Nat.div_add_mod' a d; omega)
theorem pk_ix (x : Int32) {n : Nat} (hn : n < 2 ^ 31) : x < 0 ∨ nI n ≤ x ∨ ∃ j : Nat, j < n ∧ x = nI j := by
  by_cases h : x < 0
  · exact Or.inl h
  · obtain ⟨j, hj, rfl⟩ := nI_of h
    by_cases h2 : j < n
    · exact Or.inr (Or.inr ⟨j, h2, rfl⟩)
    · exact Or.inr (Or.inl (nI_le (by omega) hj))
theorem pk_le {x y : Int32} {A B : Prop} (a b : Nat) (f : a ≤ b → A) (g : b < a → B) (hx : x = nI a := by rfl) (hy : y = nI b := by rfl) (ha : a < 2 ^ 31 := by omega) (hb : b < 2 ^ 31 := by omega) : (x ≤ y → A) ∧ (¬ x ≤ y → B) := by
  subst hx hy
  rw [nI_leI ha hb]
  exact ⟨f, fun z => g (by omega)⟩
theorem pk_lt {x y : Int32} {A B : Prop} (a b : Nat) (f : a < b → A) (g : b ≤ a → B) (hx : x = nI a := by rfl) (hy : y = nI b := by rfl) (ha : a < 2 ^ 31 := by omega) (hb : b < 2 ^ 31 := by omega) : (x < y → A) ∧ (¬ x < y → B) := by
  subst hx hy
  rw [nI_ltI ha hb]
  exact ⟨f, fun z => g (by omega)⟩
theorem pk_eq {x y : Int32} {A B : Prop} (a b : Nat) (f : a = b → A) (g : a ≠ b → B) (hx : x = nI a := by rfl) (hy : y = nI b := by rfl) (ha : a < 2 ^ 31 := by omega) (hb : b < 2 ^ 31 := by omega) : (x = y → A) ∧ (¬ x = y → B) := by
  subst hx hy
  rw [nI_eq ha hb]
  exact ⟨f, g⟩
theorem pk_in {x : Int32} (n N : Nat) (h : n < N) (hx : x = nI n := by rfl) (hN : N < 2 ^ 31 := by omega) : vp_in x N := by
  subst hx
  exact vp_in_nI h hN
theorem pk_cl {x : Int32} (n : Nat) (hx : x = nI n := by rfl) (h : n < 2 ^ 31 := by omega) : x.toNatClampNeg = n := by
  subst hx
  exact nI_clamp h
theorem pk_tn {n : Nat} (h : n < 2 ^ 32) : (nI n).toBitVec.toNat = n := Nat.mod_eq_of_lt h
theorem pk_shl (a s : Int32) (k : Nat) (hs : (s.toBitVec.smod 32).toNat = k) : (a <<< s).toBitVec.toNat = a.toBitVec.toNat * 2 ^ k % 2 ^ 32 := by
  show (a.toBitVec <<< (s.toBitVec.smod 32).toNat).toNat = _
  rw [hs, BitVec.toNat_shiftLeft, Nat.shiftLeft_eq]
theorem pk_shlN {n : Nat} (s : Int32) (k : Nat) (hs : (s.toBitVec.smod 32).toNat = k) (h : n * 2 ^ k < 2 ^ 32) : nI n <<< s = nI (n * 2 ^ k) := by
  apply Int32.toBitVec_inj.mp
  apply BitVec.eq_of_toNat_eq
  have hn : n < 2 ^ 32 := Nat.lt_of_le_of_lt (Nat.le_mul_of_pos_right n (Nat.two_pow_pos k)) h
  rw [pk_shl _ _ k hs, pk_tn hn, pk_tn h, Nat.mod_eq_of_lt h]
theorem pk_shr (a s : Int32) (k : Nat) (hs : (s.toBitVec.smod 32).toNat = k) : (a >>> s).toInt = a.toInt >>> k := by
  show (a.toBitVec.sshiftRight (s.toBitVec.smod 32).toNat).toInt = _
  rw [hs, BitVec.toInt_sshiftRight]
  rfl
theorem pk_shrN {n : Nat} (h : n < 2 ^ 31) (s : Int32) (k : Nat) (hs : (s.toBitVec.smod 32).toNat = k) : nI n >>> s = nI (n / 2 ^ k) := by
  apply Int32.toInt_inj.mp
  have h2 : n / 2 ^ k ≤ n := Nat.div_le_self _ _
  rw [pk_shr _ _ k hs, nI_toInt h, nI_toInt (by omega), Int.shiftRight_eq_div_pow]
  rfl
theorem pk_loop {σ : Type} (W : Nat → Nat → σ → Prop) (I : Nat → σ → Prop) (e i0 : Nat) (s : σ) (hi : i0 ≤ e) (h0 : I i0 s) (hx : ∀ n s, I e s → W (n + 1) e s)
    (hs : ∀ n i s, i < e → I i s → (∀ s', I (i + 1) s' → W n (i + 1) s') → W (n + 1) i s) : ∃ n, W n i0 s :=
  ⟨e + 1, loop_i W I e hx hs (e + 1) i0 s hi (by omega) h0⟩
theorem pk_loopD {σ : Type} (W : Nat → Nat → σ → Prop) (I : Nat → σ → Prop) (hx : ∀ n s, I 0 s → W (n + 1) 0 s)
    (hs : ∀ n i s, I (i + 1) s → (∀ s', I i s' → W n i s') → W (n + 1) (i + 1) s) : ∀ (e : Nat) (s : σ), I e s → W (e + 1) e s := by
  intro e
  induction e with
  | zero => exact fun s h => hx 0 s h
  | succ e ih => exact fun s h => hs (e + 1) e s h (fun s' h' => ih s' h')
theorem pk_least (P : Nat → Prop) (h : ∃ k, P k) : ∃ k, P k ∧ ∀ j, j < k → ¬ P j := by
  obtain ⟨k, hk⟩ := h
  induction k using Nat.strongRecOn with
  | ind k ih =>
    by_cases e : ∃ j, j < k ∧ P j
    · obtain ⟨j, hj, pj⟩ := e
      exact ih j hj pj
    · exact ⟨k, hk, fun j hj pj => e ⟨j, hj, pj⟩⟩
def bt (x : Int32) (i : Nat) : Bool := x.toBitVec.getLsbD i
theorem b_ext {x y : Int32} (h : ∀ i, i < 32 → bt x i = bt y i) : x = y := Int32.toBitVec_inj.mp (BitVec.eq_of_getLsbD_eq (fun i hi => h i hi))
theorem b_or (x y : Int32) (i : Nat) : bt (x ||| y) i = (bt x i || bt y i) := by unfold bt; rw [Int32.toBitVec_or, BitVec.getLsbD_or]
theorem b_and (x y : Int32) (i : Nat) : bt (x &&& y) i = (bt x i && bt y i) := by unfold bt; rw [Int32.toBitVec_and, BitVec.getLsbD_and]
theorem b_xor (x y : Int32) (i : Nat) : bt (x ^^^ y) i = (bt x i ^^ bt y i) := by unfold bt; rw [Int32.toBitVec_xor, BitVec.getLsbD_xor]
theorem b_big {x : Int32} {i : Nat} (h : 32 ≤ i) : bt x i = false := BitVec.getLsbD_of_ge _ _ h
theorem b_m1 : ∀ i, i < 32 → bt (-1) i = true := by decide +kernel
theorem b_0 (i : Nat) : bt 0 i = false := BitVec.getLsbD_zero
theorem s_l : ∀ n, n < 32 → ((nI n &&& 31).toBitVec.smod 32).toNat = n := by decide +kernel
theorem b_shl (n : Nat) (hn : n < 32) (x : Int32) {i : Nat} (hi : i < 32) : bt (x <<< (nI n &&& 31)) i = (decide (n ≤ i) && bt x (i - n)) := by
  unfold bt
  rw [Int32.toBitVec_shiftLeft]
  show (x.toBitVec <<< ((nI n &&& 31).toBitVec.smod 32).toNat).getLsbD i = _
  rw [s_l n hn, BitVec.getLsbD_shiftLeft]
  rcases Nat.lt_or_ge i n with h | h
  · simp [h, Nat.not_le.mpr h]
  · simp [hi, h, Nat.not_lt.mpr h]
theorem b_sshr (n : Nat) (hn : n < 32) (x : Int32) {i : Nat} (hi : i < 32) : bt (x >>> (nI n &&& 31)) i = if n + i < 32 then bt x (n + i) else bt x 31 := by
  unfold bt
  rw [Int32.toBitVec_shiftRight]
  show (x.toBitVec.sshiftRight ((nI n &&& 31).toBitVec.smod 32).toNat).getLsbD i = _
  rw [s_l n hn, BitVec.getLsbD_sshiftRight, BitVec.msb_eq_getLsbD_last]
  simp [hi]
/-! ===== our own rows: numbers, bits, sums, loops ===== -/
def iI (z : Int) : Int32 := Int32.ofInt z
theorem vs_iN (n : Nat) : iI (n : Int) = nI n := by
  apply Int32.toBitVec_inj.mp
  show BitVec.ofInt 32 (n : Int) = BitVec.ofNat 32 n
  exact BitVec.ofInt_natCast 32 n
theorem vs_toInt {z : Int} (h : -2147483648 ≤ z ∧ z < 2147483648) : (iI z).toInt = z := by
  show (Int32.ofInt z).toInt = z
  rw [Int32.toInt_ofInt, show Int32.size = 4294967296 from rfl]
  exact Int.bmod_eq_of_le (by omega) (by omega)
theorem vs_le {a b : Int} (h : -2147483648 ≤ a ∧ a < 2147483648 ∧ -2147483648 ≤ b ∧ b < 2147483648) : iI a ≤ iI b ↔ a ≤ b := by
  rw [Int32.le_iff_toInt_le, vs_toInt (by omega), vs_toInt (by omega)]
theorem vs_lt {a b : Int} (h : -2147483648 ≤ a ∧ a < 2147483648 ∧ -2147483648 ≤ b ∧ b < 2147483648) : iI a < iI b ↔ a < b := by
  rw [Int32.lt_iff_toInt_lt, vs_toInt (by omega), vs_toInt (by omega)]
theorem vs_eq {a b : Int} (h : -2147483648 ≤ a ∧ a < 2147483648 ∧ -2147483648 ≤ b ∧ b < 2147483648) : iI a = iI b ↔ a = b := by
  rw [← Int32.toInt_inj, vs_toInt (by omega), vs_toInt (by omega)]
theorem vs_add (a b : Int) : iI a + iI b = iI (a + b) := (Int32.ofInt_add a b).symm
theorem vs_sub (a b : Int) : iI a - iI b = iI (a - b) := (Int32.ofInt_sub a b).symm
theorem vs_mul (a b : Int) : iI a * iI b = iI (a * b) := (Int32.ofInt_mul a b).symm
theorem vs_neg (a : Int) : -iI a = iI (-a) := (Int32.ofInt_neg a).symm
theorem vs_1 (a : Int) : iI a + 1 = iI (a + 1) := vs_add a 1
theorem vs_2 (a : Int) : iI a + 2 = iI (a + 2) := vs_add a 2
theorem vs_m1 (a : Int) : iI a + (-1) = iI (a - 1) := by
  rw [show (-1 : Int32) = iI (-1) from by decide, vs_add]; rfl
theorem vi_le {x y : Int32} {A B : Prop} (a b : Int) (f : a ≤ b → A) (g : b < a → B) (hx : x = iI a := by rfl) (hy : y = iI b := by rfl) (hr : -2147483648 ≤ a ∧ a < 2147483648 ∧ -2147483648 ≤ b ∧ b < 2147483648 := by omega) : (x ≤ y → A) ∧ (¬ x ≤ y → B) := by
  subst hx hy
  rw [vs_le hr]
  exact ⟨f, fun z => g (by omega)⟩
theorem vi_lt {x y : Int32} {A B : Prop} (a b : Int) (f : a < b → A) (g : b ≤ a → B) (hx : x = iI a := by rfl) (hy : y = iI b := by rfl) (hr : -2147483648 ≤ a ∧ a < 2147483648 ∧ -2147483648 ≤ b ∧ b < 2147483648 := by omega) : (x < y → A) ∧ (¬ x < y → B) := by
  subst hx hy
  rw [vs_lt hr]
  exact ⟨f, fun z => g (by omega)⟩
theorem vi_eq {x y : Int32} {A B : Prop} (a b : Int) (f : a = b → A) (g : a ≠ b → B) (hx : x = iI a := by rfl) (hy : y = iI b := by rfl) (hr : -2147483648 ≤ a ∧ a < 2147483648 ∧ -2147483648 ≤ b ∧ b < 2147483648 := by omega) : (x = y → A) ∧ (¬ x = y → B) := by
  subst hx hy
  rw [vs_eq hr]
  exact ⟨f, g⟩
theorem vb_1 : ∀ i, i < 32 → bt 1 i = decide (i = 0) := by decide +kernel
theorem vb_31 (i : Nat) : bt 31 i = decide (i < 5) := by
  rcases Nat.lt_or_ge i 32 with h | h
  · exact (by decide +kernel : ∀ i, i < 32 → bt 31 i = decide (i < 5)) i h
  · rw [b_big h, decide_eq_false (by omega)]
theorem vb_nI (s i : Nat) (hi : i < 32) : bt (nI s) i = s.testBit i := by
  show (BitVec.ofNat 32 s).getLsbD i = _
  rw [BitVec.getLsbD_ofNat]
  simp [hi]
theorem vb_nIs {s : Nat} (hs : s < 2 ^ 32) (i : Nat) : bt (nI s) i = s.testBit i := by
  rcases Nat.lt_or_ge i 32 with h | h
  · exact vb_nI s i h
  · rw [b_big h, Nat.testBit_lt_two_pow (Nat.lt_of_lt_of_le hs (Nat.pow_le_pow_right (by decide) h))]
theorem vb_bit (x : Int32) {j : Nat} (hj : j < 32) : (x >>> (nI j &&& 31)) &&& 1 = if bt x j then 1 else 0 := by
  apply b_ext
  intro i hi
  rw [b_and, b_sshr j hj x hi, vb_1 i hi]
  by_cases h0 : i = 0
  · subst h0
    cases hb : bt x j <;> simp [hj, hb, vb_1, b_0]
  · cases hb : bt x j <;> simp [h0, vb_1 i hi, b_0]
theorem vb_has {x : Int32} {j : Nat} (hj : j < 32) : (x >>> (nI j &&& 31)) &&& 1 = 1 ↔ bt x j = true := by
  rw [vb_bit x hj]
  cases bt x j <;> simp
theorem vb_has0 {x : Int32} {j : Nat} (hj : j < 32) : (x >>> (nI j &&& 31)) &&& 1 = 0 ↔ bt x j = false := by
  rw [vb_bit x hj]
  cases bt x j <;> simp
theorem vb_pow {c : Nat} (hc : c < 32) (i : Nat) : bt ((1 : Int32) <<< (nI c &&& 31)) i = decide (i = c) := by
  rcases Nat.lt_or_ge i 32 with h | h
  · rw [b_shl c hc _ h]
    rcases Nat.lt_or_ge i c with h2 | h2
    · simp [Nat.not_le.mpr h2, Nat.ne_of_lt h2]
    · rw [vb_1 (i - c) (by omega)]
      by_cases e : i = c
      · simp [e]
      · simp [e, h2]; omega
  · rw [b_big h, decide_eq_false (by omega)]
theorem vb_not (x : Int32) {i : Nat} (hi : i < 32) : bt (x ^^^ (-1)) i = !bt x i := by
  rw [b_xor, b_m1 i hi]; cases bt x i <;> rfl
theorem vb_lo {x : Int32} {N : Nat} (h : ∀ i, N ≤ i → bt x i = false) (hN : N ≤ 31) : ∃ s, s < 2 ^ N ∧ x = nI s := by
  refine ⟨x.toBitVec.toNat, ?_, ?_⟩
  · apply Nat.lt_pow_two_of_testBit
    intro i hi
    exact h i hi
  · apply Int32.toBitVec_inj.mp
    show x.toBitVec = BitVec.ofNat 32 _
    rw [BitVec.ofNat_toNat]; simp
/-- the set r of candidates holds just those of W -/
def isSet (r : Int32) (W : Nat → Prop) : Prop := ∀ i, bt r i = true ↔ (i < 5 ∧ W i)
theorem vb_uniq {r r' : Int32} {W : Nat → Prop} (h : isSet r W) (h' : isSet r' W) : r = r' := by
  apply b_ext
  intro i _
  have h1 := h i
  have h2 := h' i
  cases e1 : bt r i <;> cases e2 : bt r' i <;> simp_all
theorem vb_congr {r : Int32} {W W' : Nat → Prop} (h : isSet r W) (e : ∀ i, i < 5 → (W i ↔ W' i)) : isSet r W' := by
  intro i
  rw [h i]
  exact ⟨fun a => ⟨a.1, (e i a.1).mp a.2⟩, fun a => ⟨a.1, (e i a.1).mpr a.2⟩⟩
theorem vb_empty : isSet 0 (fun _ => False) := by
  intro i; rw [b_0]; simp
theorem vb_all : isSet 31 (fun _ => True) := by
  intro i; rw [vb_31]; simp
theorem vb_ins {r : Int32} {W : Nat → Prop} (h : isSet r W) {c : Nat} (hc : c < 5) : isSet (r ||| ((1 : Int32) <<< (nI c &&& 31))) (fun i => W i ∨ i = c) := by
  intro i
  rw [b_or, vb_pow (by omega), Bool.or_eq_true, h i, decide_eq_true_eq]
  constructor
  · rintro (⟨a, b⟩ | rfl)
    · exact ⟨a, Or.inl b⟩
    · exact ⟨hc, Or.inr rfl⟩
  · rintro ⟨a, b | b⟩
    · exact Or.inl ⟨a, b⟩
    · exact Or.inr b
theorem vb_del {r : Int32} {W : Nat → Prop} (h : isSet r W) {c : Nat} (hc : c < 5) : isSet (r &&& (((1 : Int32) <<< (nI c &&& 31)) ^^^ (-1))) (fun i => W i ∧ i ≠ c) := by
  intro i
  rw [b_and]
  rcases Nat.lt_or_ge i 32 with hi | hi
  · rw [vb_not _ hi, vb_pow (by omega), Bool.and_eq_true, h i]
    by_cases e : i = c <;> simp [e, and_assoc]
  · rw [b_big hi]
    simp; omega
def sm : Nat → (Nat → Int) → Int
  | 0, _ => 0
  | n + 1, f => sm n f + f n
theorem sm_congr {n : Nat} {f g : Nat → Int} (h : ∀ i, i < n → f i = g i) : sm n f = sm n g := by
  induction n with
  | zero => rfl
  | succ n ih => simp only [sm]; rw [ih (fun i hi => h i (by omega)), h n (by omega)]
theorem sm_zero {n : Nat} {f : Nat → Int} (h : ∀ i, i < n → f i = 0) : sm n f = 0 := by
  induction n with
  | zero => rfl
  | succ n ih => simp only [sm]; rw [ih (fun i hi => h i (by omega)), h n (by omega)]; rfl
theorem sm_single {n k : Nat} {f : Nat → Int} (hk : k < n) (h : ∀ i, i < n → i ≠ k → f i = 0) : sm n f = f k := by
  induction n with
  | zero => omega
  | succ n ih =>
    simp only [sm]
    by_cases e : k = n
    · subst e
      rw [sm_zero (fun i hi => h i (by omega) (by omega))]; omega
    · rw [ih (by omega) (fun i hi => h i (by omega)), h n (by omega) (by omega)]; omega
theorem sm_add (n : Nat) (f g : Nat → Int) : sm n (fun i => f i + g i) = sm n f + sm n g := by
  induction n with
  | zero => rfl
  | succ n ih => simp only [sm]; rw [ih]; omega
theorem sm_neg (n : Nat) (f : Nat → Int) : sm n (fun i => - f i) = - sm n f := by
  induction n with
  | zero => rfl
  | succ n ih => simp only [sm]; rw [ih]; omega
theorem sm_comm (n m : Nat) (f : Nat → Nat → Int) : sm n (fun i => sm m (fun j => f i j)) = sm m (fun j => sm n (fun i => f i j)) := by
  induction n with
  | zero => exact (sm_zero (fun _ _ => rfl)).symm
  | succ n ih => simp only [sm]; rw [ih, ← sm_add]
theorem sm_le {n : Nat} {f g : Nat → Int} (h : ∀ i, i < n → f i ≤ g i) : sm n f ≤ sm n g := by
  induction n with
  | zero => exact Int.le_refl 0
  | succ n ih =>
    simp only [sm]
    have a := ih (fun i hi => h i (by omega))
    have b := h n (by omega)
    omega
theorem sm_lo {n : Nat} {f : Nat → Int} {k : Int} (h : ∀ i, i < n → k ≤ f i) : k * n ≤ sm n f := by
  induction n with
  | zero => simp [sm]
  | succ n ih =>
    simp only [sm]
    have a := ih (fun i hi => h i (by omega))
    have b := h n (by omega)
    have c : k * ((n + 1 : Nat) : Int) = k * n + k := by rw [Int.natCast_add, Int.mul_add]; simp
    omega
theorem sm_hi {n : Nat} {f : Nat → Int} {k : Int} (h : ∀ i, i < n → f i ≤ k) : sm n f ≤ k * n := by
  induction n with
  | zero => simp [sm]
  | succ n ih =>
    simp only [sm]
    have a := ih (fun i hi => h i (by omega))
    have b := h n (by omega)
    have c : k * ((n + 1 : Nat) : Int) = k * n + k := by rw [Int.natCast_add, Int.mul_add]; simp
    omega
theorem vl_sum (W : Nat → Int32 → Int32 → Prop) (post : Int32 → Prop) (e : Nat) (f : Nat → Int)
    (hx : ∀ n x, post x → W (n + 1) x (nI e))
    (hs : ∀ n i z, i < e → W n (iI (z + f i)) (nI (i + 1)) → W (n + 1) (iI z) (nI i))
    (hp : post (iI (sm e f))) : ∃ n, W n 0 0 :=
  pk_loop (σ := Int32) (fun n i s => W n s (nI i)) (fun i s => s = iI (sm i f)) e 0 0 (by omega) rfl
    (fun n s h => hx n s (h ▸ hp)) (fun n i s hi h k => by
      subst h
      exact hs n i _ hi (k _ rfl))
def b01 (b : Bool) : Int := if b then 1 else 0
theorem vb_b01 (x : Int32) {j : Nat} (hj : j < 32) : (x >>> (nI j &&& 31)) &&& 1 = iI (b01 (bt x j)) := by
  rw [vb_bit x hj]; cases bt x j <;> rfl
theorem vn_5a {a b : Nat} : nI a * 5 + nI b = nI (5 * a + b) := by
  rw [show (5 : Int32) = nI 5 from rfl, pk_mul, nI_add, Nat.mul_comm]
theorem vn_5b {a b : Nat} : (5 : Int32) * nI a + nI b = nI (5 * a + b) := by
  rw [show (5 : Int32) = nI 5 from rfl, pk_mul, nI_add]
end
section
/-! ===== codes of rankings ===== -/
def rkc (o p : Nat) : Nat := o / 5 ^ (4 - p) % 5
def plc (o c : Nat) : Nat := if rkc o 0 = c then 0 else if rkc o 1 = c then 1 else if rkc o 2 = c then 2 else if rkc o 3 = c then 3 else 4
def rc_sj (o : Nat) : Bool := (List.range 5).all fun c => (List.range 5).any fun p => rkc o p == c
def rc_pm (o : Nat) : Bool := (List.range 5).all fun p => decide (rkc o p < 5) && (plc o (rkc o p) == p) && decide (plc o p < 5) && (rkc o (plc o p) == p)
theorem rc_dec : (List.range 3125).all (fun o => !rc_sj o || rc_pm o) = true := by decide +kernel
/-- the seen digits after k steps -/
def rc_sn (o : Nat) : Nat → Int32
  | 0 => 0
  | k + 1 => rc_sn o k ||| ((1 : Int32) <<< (nI (o / 5 ^ k % 5) &&& 31))
def isr (o : Nat) : Bool := decide (o < 3125) && decide (rc_sn o 5 = 31)
theorem rc_bits (o : Nat) : ∀ k i, bt (rc_sn o k) i = true ↔ ∃ j, j < k ∧ o / 5 ^ j % 5 = i := by
  intro k
  induction k with
  | zero => intro i; simp [rc_sn, b_0]
  | succ k ih =>
    intro i
    have h5 : o / 5 ^ k % 5 < 5 := Nat.mod_lt _ (by decide)
    rw [rc_sn, b_or, vb_pow (by omega), Bool.or_eq_true, ih i, decide_eq_true_eq]
    constructor
    · rintro (⟨j, a, b⟩ | e)
      · exact ⟨j, by omega, b⟩
      · exact ⟨k, by omega, e.symm⟩
    · rintro ⟨j, a, b⟩
      by_cases e : j = k
      · subst e; exact Or.inr b.symm
      · exact Or.inl ⟨j, by omega, b⟩
theorem isr_lt {o : Nat} (h : isr o = true) : o < 3125 := by
  unfold isr at h
  simp only [Bool.and_eq_true, decide_eq_true_eq] at h
  exact h.1
theorem rc_perm {o : Nat} (h : isr o = true) : rc_pm o = true := by
  have hl := isr_lt h
  unfold isr at h
  simp only [Bool.and_eq_true, decide_eq_true_eq] at h
  have hs : rc_sj o = true := by
    unfold rc_sj
    rw [List.all_eq_true]
    intro c hc
    rw [List.mem_range] at hc
    have hb := (rc_bits o 5 c).mp (by rw [h.2, vb_31, decide_eq_true hc])
    obtain ⟨j, hj, e⟩ := hb
    rw [List.any_eq_true]
    refine ⟨4 - j, by rw [List.mem_range]; omega, ?_⟩
    rw [beq_iff_eq]
    unfold rkc
    rw [show 4 - (4 - j) = j from by omega]
    exact e
  have hd := rc_dec
  rw [List.all_eq_true] at hd
  have := hd o (by rw [List.mem_range]; exact hl)
  rw [hs] at this
  simpa using this
theorem rc_all {o p : Nat} (h : isr o = true) (hp : p < 5) : rkc o p < 5 ∧ plc o (rkc o p) = p ∧ plc o p < 5 ∧ rkc o (plc o p) = p := by
  have := rc_perm h
  unfold rc_pm at this
  rw [List.all_eq_true] at this
  have := this p (by rw [List.mem_range]; exact hp)
  simp only [Bool.and_eq_true, decide_eq_true_eq, beq_iff_eq] at this
  exact ⟨this.1.1.1, this.1.1.2, this.1.2, this.2⟩
theorem rc_inj {o a b : Nat} (h : isr o = true) (ha : a < 5) (hb : b < 5) (e : plc o a = plc o b) : a = b := by
  rw [← (rc_all h ha).2.2.2, e, (rc_all h hb).2.2.2]
theorem rc_inj2 {o a b : Nat} (h : isr o = true) (ha : a < 5) (hb : b < 5) (e : rkc o a = rkc o b) : a = b := by
  rw [← (rc_all h ha).2.1, e, (rc_all h hb).2.1]
theorem rc_step {o k : Nat} : o / 5 ^ k / 5 = o / 5 ^ (k + 1) := by
  rw [Nat.div_div_eq_div_mul, Nat.pow_succ]
theorem rc_div {a : Nat} (h : a < 2 ^ 31) : nI a / 5 = nI (a / 5) := pk_div h (by decide) (by decide)
theorem rc_rem {a : Nat} (h : a < 2 ^ 31) : nI a - nI a / 5 * 5 = nI (a % 5) := pk_rem h (by decide) (by decide)
theorem rc_dl (o k : Nat) (h : o < 3125) : o / 5 ^ k < 2 ^ 31 := Nat.lt_of_le_of_lt (Nat.div_le_self _ _) (by omega)
theorem rc_xl {post : Int32 → Prop} {o : Nat} (ho : o < 3125) (hp : post (if isr o then 1 else 0)) : ∃ n, wX_isRanking_19 post n 0 (nI o) 0 := by
  refine pk_loop (σ := Int32 × Int32) (fun n i s => wX_isRanking_19 post n s.1 s.2 (nI i)) (fun i s => s = (rc_sn o i, nI (o / 5 ^ i))) 5 0 (0, nI o) (by omega) (by simp [rc_sn]) ?_ ?_
  · rintro n s rfl
    rw [wX_isRanking_19]
    refine br_t (by decide) ?_
    unfold isr at hp
    simp only [ho, decide_true, Bool.true_and, decide_eq_true_eq] at hp
    exact br_c (fun h => by rw [if_pos h] at hp; exact hp) (fun h => by rw [if_neg h] at hp; exact hp)
  · rintro n i s hi rfl hk
    rw [wX_isRanking_19]
    refine br_f (nI_ge (b := 5) hi (by decide)) ⟨by decide, nm_r rfl ⟨by decide, nm_r (rc_div (rc_dl o i ho)) (nm_r (nI_1 i) ?_)⟩⟩
    have := hk (rc_sn o (i + 1), nI (o / 5 ^ (i + 1))) rfl
    rw [rc_rem (rc_dl o i ho), rc_step]
    exact this
theorem rc_yl {post : Int32 → Prop} {yn yc : Int32} {yo yp ym ys yl yb yw yk yt yz yx : Nat → Int32} {o : Nat} (ho : o < 3125) (hp : post (if isr o then 1 else 0)) : ∃ n, wY_isOrder_21 post yn yc yo yp ym ys yl yb yw yk yt yz yx n (nI o) 0 0 := by
  refine pk_loop (σ := Int32 × Int32) (fun n i s => wY_isOrder_21 post yn yc yo yp ym ys yl yb yw yk yt yz yx n s.2 s.1 (nI i)) (fun i s => s = (rc_sn o i, nI (o / 5 ^ i))) 5 0 (0, nI o) (by omega) (by simp [rc_sn]) ?_ ?_
  · rintro n s rfl
    rw [wY_isOrder_21]
    refine br_t (by decide) ?_
    unfold isr at hp
    simp only [ho, decide_true, Bool.true_and, decide_eq_true_eq] at hp
    exact br_c (fun h => by rw [if_pos h] at hp; exact hp) (fun h => by rw [if_neg h] at hp; exact hp)
  · rintro n i s hi rfl hk
    rw [wY_isOrder_21]
    refine br_f (nI_ge (b := 5) hi (by decide)) ⟨by decide, nm_r rfl ⟨by decide, nm_r (rc_div (rc_dl o i ho)) (nm_r (nI_1 i) ?_)⟩⟩
    have := hk (rc_sn o (i + 1), nI (o / 5 ^ (i + 1))) rfl
    rw [rc_rem (rc_dl o i ho), rc_step]
    exact this
theorem x_isRanking {post : Int32 → Prop} {x : Int32} (h0 : (∀ o, isr o = true → x ≠ nI o) → post 0) (h1 : ∀ o, x = nI o → isr o = true → post 1) : wpX_isRanking post x := by
  unfold wpX_isRanking
  by_cases hn : x < 0
  · refine br_t hn (h0 fun o ho e => ?_)
    subst e
    exact nI_pos (Nat.lt_trans (isr_lt ho) (by decide)) hn
  · obtain ⟨o, ho, rfl⟩ := nI_of hn
    refine br_f hn ?_
    by_cases hl : o < 3125
    · refine br_t (nI_lt (b := 3125) hl (by decide)) (rc_xl hl ?_)
      by_cases hi : isr o = true
      · rw [if_pos hi]; exact h1 o rfl hi
      · rw [if_neg hi]
        refine h0 fun o' ho' e => hi ?_
        rw [nI_eq ho (Nat.lt_trans (isr_lt ho') (by decide))] at e
        rw [e]; exact ho'
    · refine br_f (nI_nlt (b := 3125) (by omega) ho) (h0 fun o' ho' e => ?_)
      have := isr_lt ho'
      rw [nI_eq ho (by omega)] at e
      omega
theorem y_in {post : Int32 → Prop} {v : SY} {x : Int32} {b : Int32} (lo hi : Nat) (hb : b = nI hi) (hh : hi < 2 ^ 31) (h0 : (∀ j, lo ≤ j → j ≤ hi → x ≠ nI j) → post 0) (h1 : ∀ j, lo ≤ j → j ≤ hi → x = nI j → post 1) (hlo : lo = 0 := by rfl) : wpY_in post v x 0 b := by
  obtain ⟨yn, yc, yo, yp, ym, ys, yl, yb, yw, yk, yt, yz, yx⟩ := v
  unfold wpY_in
  dsimp only
  subst hb hlo
  by_cases hn : x < 0
  · refine br_t hn (h0 fun j _ hj e => ?_)
    subst e
    exact nI_pos (by omega) hn
  · obtain ⟨o, ho, rfl⟩ := nI_of hn
    refine br_f hn ?_
    refine pk_lt hi o (fun h => h0 fun j _ hj e => ?_) (fun h => h1 o (by omega) h rfl) rfl rfl hh ho
    rw [nI_eq ho (by omega)] at e
    omega
theorem y_isOrder {post : Int32 → Prop} {v : SY} {x : Int32} (h0 : (∀ o, isr o = true → x ≠ nI o) → post 0) (h1 : ∀ o, x = nI o → isr o = true → post 1) : wpY_isOrder post v x := by
  obtain ⟨yn, yc, yo, yp, ym, ys, yl, yb, yw, yk, yt, yz, yx⟩ := v
  unfold wpY_isOrder
  dsimp only
  refine y_in 0 3124 rfl (by decide) (fun hno => br_t rfl (h0 fun o ho e => hno o (by omega) (by have := isr_lt ho; omega) e)) (fun o _ hl e => br_f (by decide) ?_)
  subst e
  refine rc_yl (by omega) ?_
  by_cases hi : isr o = true
  · rw [if_pos hi]; exact h1 o rfl hi
  · rw [if_neg hi]
    refine h0 fun o' ho' e => hi ?_
    have := isr_lt ho'
    rw [nI_eq (by omega) (by omega)] at e
    rw [e]; exact ho'
end
section
/-! ===== the ballots in both states, and the margins ===== -/
def prf (o a b : Nat) : Int := if plc o a < plc o b then 1 else if plc o b < plc o a then -1 else 0
def Mw (K : Nat → Bool) (n : Nat) (O : Nat → Nat) (a b : Nat) : Int := sm n (fun i => if K i then prf (O i) a b else 0)
def Mg (n : Nat) (O : Nat → Nat) (a b : Nat) : Int := Mw (fun _ => true) n O a b
/-- the class's ballot i is o -/
def zBX (o i : Nat) (u : SX) : Prop := isr o = true ∧ u.2.1 i = nI o ∧ (∀ p, p < 5 → u.2.2.1 (5 * i + p) = nI (rkc o p)) ∧ (∀ c, c < 5 → u.2.2.2.1 (5 * i + c) = nI (plc o c))
/-- the class's ballots -/
def zRB (n : Nat) (O : Nat → Nat) (u : SX) : Prop := n ≤ 9 ∧ u.1 = nI n ∧ ∀ i, i < n → zBX (O i) i u
/-- the class's margins -/
def zRM (n : Nat) (O : Nat → Nat) (u : SX) : Prop := (∀ a b, a < 5 → b < 5 → u.2.2.2.2.1 (5 * a + b) = iI (Mg n O a b)) ∧ (∀ a, a < 5 → isSet (u.2.2.2.2.2.1 a) (fun b => 0 < Mg n O a b))
def zRX (n : Nat) (O : Nat → Nat) (u : SX) : Prop := zRB n O u ∧ zRM n O u
/-- the reference's ballots -/
def zBY (o i : Nat) (v : SY) : Prop := isr o = true ∧ v.2.2.1 i = nI o ∧ (∀ c, c < 5 → v.2.2.2.1 (5 * i + c) = nI (plc o c))
def zRY (n : Nat) (O : Nat → Nat) (v : SY) : Prop := n ≤ 9 ∧ v.1 = nI n ∧ ∀ i, i < n → zBY (O i) i v
def zRYM (n : Nat) (O : Nat → Nat) (v : SY) : Prop := zRY n O v ∧ ∀ a b, a < 5 → b < 5 → v.2.2.2.2.1 (5 * a + b) = iI (Mg n O a b)
theorem ve_p (e : Nat) : iI (((e + 1 : Nat) : Int) - 1) = nI e := by
  rw [← vs_iN]; exact congrArg iI (by omega)
theorem ve_m (e : Nat) : nI e + (-1) = iI ((e : Int) - 1) := by
  rw [← vs_iN, vs_m1]
theorem x_read {post : SX → Prop} {xc : Int32} {xo xr xp xm xb xs xq xn xu xl xg xk xt xw xv : Nat → Int32} {i o : Nat} (hi : i < 9) (ho : isr o = true) (hx : xo i = nI o)
    (hp : ∀ r' p' : Nat → Int32, zBX o i (xc, xo, r', p', xm, xb, xs, xq, xn, xu, xl, xg, xk, xt, xw, xv) → (∀ j o', j ≠ i → zBX o' j (xc, xo, xr, xp, xm, xb, xs, xq, xn, xu, xl, xg, xk, xt, xw, xv) → zBX o' j (xc, xo, r', p', xm, xb, xs, xq, xn, xu, xl, xg, xk, xt, xw, xv)) → post (xc, xo, r', p', xm, xb, xs, xq, xn, xu, xl, xg, xk, xt, xw, xv)) :
    wpX_readRanking post (xc, xo, xr, xp, xm, xb, xs, xq, xn, xu, xl, xg, xk, xt, xw, xv) (nI i) := by
  unfold wpX_readRanking
  dsimp only
  refine ⟨vp_in_nI hi (by decide), ?_⟩
  rw [nI_clamp (by omega)]
  refine nm_r hx ⟨6, ?_⟩
  have hol := isr_lt ho
  have key := pk_loopD (σ := Int32 × (Nat → Int32) × (Nat → Int32)) (fun n e s => wX_readRanking_9 post (nI i) xc n s.1 (iI ((e : Int) - 1)) xo s.2.1 s.2.2 xm xb xs xq xn xu xl xg xk xt xw xv)
    (fun e s => e ≤ 5 ∧ s.1 = nI (o / 5 ^ (5 - e)) ∧ (∀ q, e ≤ q → q < 5 → s.2.1 (5 * i + q) = nI (rkc o q) ∧ s.2.2 (5 * i + rkc o q) = nI q) ∧ ∀ j, (j < 5 * i ∨ 5 * i + 5 ≤ j) → s.2.1 j = xr j ∧ s.2.2 j = xp j)
    (by
      rintro n ⟨x2, r', p'⟩ ⟨_, _, h3, h4⟩
      dsimp only
      rw [wX_readRanking_9]
      refine br_t (by decide) (hp r' p' ⟨ho, hx, fun q hq => (h3 q (by omega) hq).1, fun c hc => ?_⟩ (fun j o' hj hB => ⟨hB.1, hB.2.1, fun q hq => by rw [← hB.2.2.1 q hq]; exact (h4 _ (by omega)).1, fun q hq => by rw [← hB.2.2.2 q hq]; exact (h4 _ (by omega)).2⟩))
      have hr := rc_all ho hc
      have := (h3 (plc o c) (by omega) hr.2.2.1).2
      rw [hr.2.2.2] at this
      exact this)
    (by
      rintro n e ⟨x2, r', p'⟩ ⟨h1, h2, h3, h4⟩ hk
      dsimp only at h2 h3 h4 ⊢
      subst h2
      rw [ve_p, wX_readRanking_9, show 5 - (e + 1) = 4 - e from by omega]
      have hq := rc_all ho (show e < 5 by omega)
      have hq1 : nI (o / 5 ^ (4 - e)) - nI (o / 5 ^ (4 - e)) / 5 * 5 = nI (rkc o e) := rc_rem (rc_dl o _ hol)
      have hq2 : nI (o / 5 ^ (4 - e)) / 5 = nI (o / 5 ^ (5 - e)) := by
        rw [rc_div (rc_dl o _ hol), rc_step, show 4 - e + 1 = 5 - e from by omega]
      refine br_f (nI_pos (by omega)) ⟨by decide, nm_r hq1 ⟨by decide, nm_r hq2 ⟨by rw [vn_5a]; exact vp_in_nI (by omega) (by decide), nm_r (e' := upd r' (5 * i + e) (nI (rkc o e))) (by rw [vn_5a, nI_clamp (by omega)]) ⟨by rw [vn_5a]; exact vp_in_nI (by omega) (by decide), nm_r (e' := upd p' (5 * i + rkc o e) (nI e)) (by rw [vn_5a, nI_clamp (by omega)]) (nm_r (ve_m e) ?_)⟩⟩⟩⟩
      refine hk (nI (o / 5 ^ (5 - e)), upd r' (5 * i + e) (nI (rkc o e)), upd p' (5 * i + rkc o e) (nI e)) ⟨by omega, rfl, fun q hq1 hq2 => ?_, fun j hj => ?_⟩
      · dsimp only
        by_cases eq : q = e
        · subst eq; exact ⟨pk_us, pk_us⟩
        · have hr := rc_all ho hq2
          have hne : rkc o q ≠ rkc o e := fun z => eq (rc_inj2 ho hq2 (by omega) z)
          rw [pk_un (by omega), pk_un (by omega)]
          exact h3 q (by omega) hq2
      · dsimp only
        rw [pk_un (by omega), pk_un (by omega)]
        exact h4 j hj)
  have k5 := key 5 (nI o, xr, xp) ⟨by omega, by simp, fun q h1 h2 => by omega, fun j _ => ⟨rfl, rfl⟩⟩
  dsimp only at k5
  rw [show iI (((5 : Nat) : Int) - 1) = 4 from by decide] at k5
  exact k5
theorem y_write {post : SY → Prop} {yn yc : Int32} {yo yp ym ys yl yb yw yk yt yz yx : Nat → Int32} {i o : Nat} (hi : i < 9) (ho : isr o = true)
    (hp : ∀ p' : Nat → Int32, zBY o i (yn, yc, (upd yo i (nI o)), p', ym, ys, yl, yb, yw, yk, yt, yz, yx) → (∀ j o', j ≠ i → zBY o' j (yn, yc, yo, yp, ym, ys, yl, yb, yw, yk, yt, yz, yx) → zBY o' j (yn, yc, (upd yo i (nI o)), p', ym, ys, yl, yb, yw, yk, yt, yz, yx)) → post (yn, yc, (upd yo i (nI o)), p', ym, ys, yl, yb, yw, yk, yt, yz, yx)) :
    wpY_write post (yn, yc, yo, yp, ym, ys, yl, yb, yw, yk, yt, yz, yx) (nI i) (nI o) := by
  unfold wpY_write
  dsimp only
  refine ⟨vp_in_nI hi (by decide), ?_⟩
  rw [nI_clamp (by omega)]
  refine nm_e ⟨6, ?_⟩
  have hol := isr_lt ho
  have key := pk_loopD (σ := Int32 × (Nat → Int32)) (fun n e s => wY_write_12 post (nI i) yn yc n s.1 (iI ((e : Int) - 1)) (upd yo i (nI o)) s.2 ym ys yl yb yw yk yt yz yx)
    (fun e s => e ≤ 5 ∧ s.1 = nI (o / 5 ^ (5 - e)) ∧ (∀ q, e ≤ q → q < 5 → s.2 (5 * i + rkc o q) = nI q) ∧ ∀ j, (j < 5 * i ∨ 5 * i + 5 ≤ j) → s.2 j = yp j)
    (by
      rintro n ⟨x2, p'⟩ ⟨_, _, h3, h4⟩
      dsimp only
      rw [wY_write_12]
      refine br_t (by decide) (hp p' ⟨ho, pk_us, fun c hc => ?_⟩ (fun j o' hj hB => ⟨hB.1, (pk_un hj).trans hB.2.1, fun q hq => by rw [← hB.2.2 q hq]; exact h4 _ (by omega)⟩))
      have hr := rc_all ho hc
      have := h3 (plc o c) (by omega) hr.2.2.1
      rw [hr.2.2.2] at this
      exact this)
    (by
      rintro n e ⟨x2, p'⟩ ⟨h1, h2, h3, h4⟩ hk
      dsimp only at h2 h3 h4 ⊢
      subst h2
      rw [ve_p, wY_write_12, show 5 - (e + 1) = 4 - e from by omega]
      have hq := rc_all ho (show e < 5 by omega)
      have hq1 : nI (o / 5 ^ (4 - e)) - nI (o / 5 ^ (4 - e)) / 5 * 5 = nI (rkc o e) := rc_rem (rc_dl o _ hol)
      have hq2 : nI (o / 5 ^ (4 - e)) / 5 = nI (o / 5 ^ (5 - e)) := by
        rw [rc_div (rc_dl o _ hol), rc_step, show 4 - e + 1 = 5 - e from by omega]
      refine br_f (nI_pos (by omega)) ⟨by decide, by rw [hq1, vn_5b]; exact vp_in_nI (by omega) (by decide), nm_r (e' := upd p' (5 * i + rkc o e) (nI e)) (by rw [hq1, vn_5b, nI_clamp (by omega)]) ⟨by decide, nm_r hq2 (nm_r (ve_m e) ?_)⟩⟩
      refine hk (nI (o / 5 ^ (5 - e)), upd p' (5 * i + rkc o e) (nI e)) ⟨by omega, rfl, fun q hq1 hq2 => ?_, fun j hj => ?_⟩
      · dsimp only
        by_cases eq : q = e
        · subst eq; exact pk_us
        · have hr := rc_all ho hq2
          have hne : rkc o q ≠ rkc o e := fun z => eq (rc_inj2 ho hq2 (by omega) z)
          rw [pk_un (by omega)]
          exact h3 q (by omega) hq2
      · dsimp only
        rw [pk_un (by omega)]
        exact h4 j hj)
  have k5 := key 5 (nI o, yp) ⟨by omega, by simp, fun q h1 h2 => by omega, fun j _ => rfl⟩
  dsimp only at k5
  rw [show iI (((5 : Nat) : Int) - 1) = 4 from by decide] at k5
  exact k5
theorem x_mw {post : Int32 → Prop} {xc : Int32} {xo xr xp xm xb xs xq xn xu xl xg xk xt xw xv : Nat → Int32} {n : Nat} {O : Nat → Nat} (h : zRB n O (xc, xo, xr, xp, xm, xb, xs, xq, xn, xu, xl, xg, xk, xt, xw, xv)) {a b : Nat} (ha : a < 5) (hb : b < 5) (S : Int32) (hp : post (iI (Mw (fun i => !bt S i) n O a b))) :
    wpX_marginWithout post (xc, xo, xr, xp, xm, xb, xs, xq, xn, xu, xl, xg, xk, xt, xw, xv) (nI a) (nI b) S := by
  obtain ⟨hn, h1, h2⟩ := h
  have h4 : ∀ i, i < n → ∀ c, c < 5 → xp (5 * i + c) = nI (plc (O i) c) := fun i hi => (h2 i hi).2.2.2
  dsimp only at h1
  unfold wpX_marginWithout
  dsimp only
  subst h1
  refine vl_sum (fun m x4 x5 => wX_marginWithout_6 post (nI a) (nI b) S (nI n) xo xr xp xm xb xs xq xn xu xl xg xk xt xw xv m x4 x5) post n (fun i => if !bt S i then prf (O i) a b else 0) ?_ ?_ hp
  · intro m x hx
    rw [wX_marginWithout_6]
    exact br_t (nI_le (Nat.le_refl n) (by omega)) hx
  · intro m i z hi hW
    rw [wX_marginWithout_6]
    have pa := (rc_all (h2 i hi).1 ha).2.2.1
    have pb := (rc_all (h2 i hi).1 hb).2.2.1
    refine br_f (nI_ge hi (by omega)) ⟨by rw [vn_5a]; exact vp_in_nI (by omega) (by decide), nm_r (e' := nI (plc (O i) a)) (by rw [vn_5a, nI_clamp (by omega), h4 i hi a ha]) ⟨by rw [vn_5a]; exact vp_in_nI (by omega) (by decide), nm_r (e' := nI (plc (O i) b)) (by rw [vn_5a, nI_clamp (by omega), h4 i hi b hb]) ?_⟩⟩
    cases hbt : bt S i with
    | false =>
      refine br_t ((vb_has0 (by omega)).mpr hbt) ?_
      rw [hbt] at hW
      unfold wX_marginWithout_55
      refine br_f (by decide) (pk_le _ _ (fun hle => ?_) (fun hlt => ?_) rfl rfl (by omega) (by omega))
      · unfold wX_marginWithout_75
        refine br_f (by decide) (pk_le _ _ (fun hle2 => ?_) (fun hlt => ?_) rfl rfl (by omega) (by omega))
        · refine nm_r (nI_1 i) ?_
          simp only [prf, if_neg (show ¬ plc (O i) a < plc (O i) b by omega), if_neg (show ¬ plc (O i) b < plc (O i) a by omega)] at hW
          simpa using hW
        · refine nm_r (vs_m1 z) (nm_r (nI_1 i) ?_)
          simp only [prf, if_neg (show ¬ plc (O i) a < plc (O i) b by omega), if_pos (show plc (O i) b < plc (O i) a by omega)] at hW
          exact hW
      · refine nm_r (vs_1 z) (nm_r (nI_1 i) ?_)
        simp only [prf, if_pos (show plc (O i) a < plc (O i) b by omega)] at hW
        exact hW
    | true =>
      refine br_f (fun hh => by rw [vb_has0 (by omega), hbt] at hh; cases hh) ?_
      rw [hbt] at hW
      unfold wX_marginWithout_55
      refine br_t rfl ?_
      unfold wX_marginWithout_75
      refine br_t rfl (nm_r (nI_1 i) ?_)
      simpa using hW
theorem y_mo {post : Int32 → Prop} {yn yc : Int32} {yo yp ym ys yl yb yw yk yt yz yx : Nat → Int32} {n : Nat} {O : Nat → Nat} (h : zRY n O (yn, yc, yo, yp, ym, ys, yl, yb, yw, yk, yt, yz, yx)) {a b : Nat} (ha : a < 5) (hb : b < 5) (S : Int32) (hp : post (iI (Mw (fun i => bt S i) n O a b))) :
    wpY_marginOf post (yn, yc, yo, yp, ym, ys, yl, yb, yw, yk, yt, yz, yx) (nI a) (nI b) S := by
  obtain ⟨hn, h1, h2⟩ := h
  have h4 : ∀ i, i < n → ∀ c, c < 5 → yp (5 * i + c) = nI (plc (O i) c) := fun i hi => (h2 i hi).2.2
  dsimp only at h1
  unfold wpY_marginOf
  dsimp only
  subst h1
  refine vl_sum (fun m x4 x5 => wY_marginOf_6 post (nI a) (nI b) S (nI n) yc yo yp ym ys yl yb yw yk yt yz yx m x4 x5) post n (fun i => if bt S i then prf (O i) a b else 0) ?_ ?_ hp
  · intro m x hx
    rw [wY_marginOf_6]
    exact br_t (nI_le (Nat.le_refl n) (by omega)) hx
  · intro m i z hi hW
    rw [wY_marginOf_6]
    have pa := (rc_all (h2 i hi).1 ha).2.2.1
    have pb := (rc_all (h2 i hi).1 hb).2.2.1
    refine br_f (nI_ge hi (by omega)) ?_
    cases hbt : bt S i with
    | true =>
      refine br_t ((vb_has (by omega)).mpr hbt) ?_
      rw [hbt] at hW
      refine pk_eq a b (fun e => ?_) (fun hne => ?_)
      · subst e
        refine nm_r (nI_1 i) ?_
        simpa [prf] using hW
      · have hpn : plc (O i) a ≠ plc (O i) b := fun z => hne (rc_inj (h2 i hi).1 ha hb z)
        refine ⟨by rw [vn_5b]; exact vp_in_nI (by omega) (by decide), by rw [vn_5b]; exact vp_in_nI (by omega) (by decide), ?_⟩
        rw [vn_5b, vn_5b, nI_clamp (by omega), nI_clamp (by omega), h4 i hi a ha, h4 i hi b hb]
        refine pk_le _ _ (fun hle => ?_) (fun hlt => ?_) rfl rfl (by omega) (by omega)
        · refine nm_r (vs_m1 z) (nm_r (nI_1 i) ?_)
          simp only [prf, if_neg (show ¬ plc (O i) a < plc (O i) b by omega), if_pos (show plc (O i) b < plc (O i) a by omega)] at hW
          exact hW
        · refine nm_r (vs_1 z) (nm_r (nI_1 i) ?_)
          simp only [prf, if_pos (show plc (O i) a < plc (O i) b by omega)] at hW
          exact hW
    | false =>
      refine br_f (fun hh => by rw [vb_has (by omega), hbt] at hh; cases hh) (nm_r (nI_1 i) ?_)
      rw [hbt] at hW
      simpa using hW
theorem Mw_congr {K K' : Nat → Bool} {n : Nat} {O O' : Nat → Nat} {a b : Nat} (h : ∀ i, i < n → K i = K' i) (ho : ∀ i, i < n → O i = O' i) : Mw K n O a b = Mw K' n O' a b :=
  sm_congr fun i hi => by rw [h i hi, ho i hi]
theorem prf_anti (o a b : Nat) : prf o a b = - prf o b a := by
  unfold prf
  by_cases h1 : plc o a < plc o b
  · rw [if_pos h1, if_neg (by omega), if_pos h1]; rfl
  · by_cases h2 : plc o b < plc o a
    · rw [if_neg h1, if_pos h2, if_pos h2]
    · rw [if_neg h1, if_neg h2, if_neg h2, if_neg h1]; rfl
theorem Mw_anti (K : Nat → Bool) (n : Nat) (O : Nat → Nat) (a b : Nat) : Mw K n O a b = - Mw K n O b a := by
  unfold Mw
  rw [← sm_neg]
  refine sm_congr fun i _ => ?_
  skip
  by_cases h : K i = true
  · rw [if_pos h, if_pos h, prf_anti]
  · rw [if_neg h, if_neg h]; rfl
theorem Mg_anti (n : Nat) (O : Nat → Nat) (a b : Nat) : Mg n O a b = - Mg n O b a := Mw_anti _ n O a b
theorem Mg_self (n : Nat) (O : Nat → Nat) (a : Nat) : Mg n O a a = 0 := by
  have := Mg_anti n O a a; omega
theorem Mw_bd (K : Nat → Bool) (n : Nat) (O : Nat → Nat) (a b : Nat) : - (n : Int) ≤ Mw K n O a b ∧ Mw K n O a b ≤ n := by
  have h : ∀ i, i < n → (-1 : Int) ≤ (if K i then prf (O i) a b else 0) ∧ (if K i then prf (O i) a b else 0) ≤ (1 : Int) := by
    intro i _
    unfold prf
    split
    · split
      · omega
      · split <;> omega
    · omega
  have h1 := sm_lo (n := n) (k := -1) (fun i hi => (h i hi).1)
  have h2 := sm_hi (n := n) (k := 1) (fun i hi => (h i hi).2)
  unfold Mw
  omega
theorem Mg_bd {n : Nat} (hn : n ≤ 9) (O : Nat → Nat) (a b : Nat) : -9 ≤ Mg n O a b ∧ Mg n O a b ≤ 9 := by
  have := Mw_bd (fun _ => true) n O a b
  unfold Mg; omega
theorem Mw_0 (n : Nat) (O : Nat → Nat) (a b : Nat) : Mw (fun i => !bt 0 i) n O a b = Mg n O a b :=
  Mw_congr (fun i _ => by rw [b_0]; rfl) (fun _ _ => rfl)
theorem vb_511 : ∀ i, i < 9 → bt 511 i = true := by decide +kernel
theorem Mw_511 {n : Nat} (hn : n ≤ 9) (O : Nat → Nat) (a b : Nat) : Mw (fun i => bt 511 i) n O a b = Mg n O a b :=
  Mw_congr (fun i hi => vb_511 i (by omega)) (fun _ _ => rfl)
end
section
/-! ===== counting margins; ballot, drop, order, margin, leader, ballots ===== -/
theorem x_cm {post : SX → Prop} {xc : Int32} {xo xr xp xm xb xs xq xn xu xl xg xk xt xw xv : Nat → Int32} {n : Nat} {O : Nat → Nat} (h : zRB n O (xc, xo, xr, xp, xm, xb, xs, xq, xn, xu, xl, xg, xk, xt, xw, xv)) (hp : ∀ m' b' : Nat → Int32, zRM n O (xc, xo, xr, xp, m', b', xs, xq, xn, xu, xl, xg, xk, xt, xw, xv) → post (xc, xo, xr, xp, m', b', xs, xq, xn, xu, xl, xg, xk, xt, xw, xv)) :
    wpX_countMargins post (xc, xo, xr, xp, xm, xb, xs, xq, xn, xu, xl, xg, xk, xt, xw, xv) := by
  unfold wpX_countMargins
  dsimp only
  have hn := h.1
  refine pk_loop (σ := (Nat → Int32) × (Nat → Int32)) (fun k a s => wX_countMargins_2 post xc k (nI a) xo xr xp s.1 s.2 xs xq xn xu xl xg xk xt xw xv)
    (fun a s => (∀ a' b', a' < a → b' < 5 → s.1 (5 * a' + b') = iI (Mg n O a' b')) ∧ (∀ a', a' < a → isSet (s.2 a') (fun b => 0 < Mg n O a' b))) 5 0 (xm, xb) (by omega) ⟨fun a' b' h1 => by omega, fun a' h1 => by omega⟩ ?_ ?_
  · rintro k ⟨m', b'⟩ ⟨h1, h2⟩
    dsimp only at h1 h2 ⊢
    rw [wX_countMargins_2]
    exact br_t (by decide) (hp m' b' ⟨fun a b ha hb => h1 a b ha hb, fun a ha => h2 a ha⟩)
  · rintro k a ⟨m', b'⟩ ha ⟨h1, h2⟩ hk
    dsimp only at h1 h2 hk ⊢
    rw [wX_countMargins_2]
    refine br_f (nI_ge (b := 5) ha (by decide)) ⟨vp_in_nI ha (by decide), nm_r (e' := upd b' a 0) (by rw [nI_clamp (by omega)]) ?_⟩
    refine pk_loop (σ := (Nat → Int32) × (Nat → Int32)) (fun k' b s => wX_countMargins_16 post (wX_countMargins_2 post xc k) (nI a) xc k' (nI b) xo xr xp s.1 s.2 xs xq xn xu xl xg xk xt xw xv)
      (fun b s => (∀ a' b', (a' < a ∧ b' < 5) ∨ (a' = a ∧ b' < b) → s.1 (5 * a' + b') = iI (Mg n O a' b')) ∧ (∀ a', a' < a → isSet (s.2 a') (fun b => 0 < Mg n O a' b)) ∧ isSet (s.2 a) (fun d => d < b ∧ 0 < Mg n O a d)) 5 0 (m', upd b' a 0) (by omega) ?_ ?_ ?_
    · refine ⟨fun a' b'' h3 => ?_, fun a' h3 => ?_, ?_⟩
      · dsimp only; rcases h3 with h3 | h3
        · exact h1 a' b'' h3.1 h3.2
        · omega
      · dsimp only; rw [pk_un (by omega)]; exact h2 a' h3
      · dsimp only; rw [pk_us]; exact vb_congr vb_empty (fun i _ => by simp)
    · rintro k' ⟨m2, b2⟩ ⟨g1, g2, g3⟩
      dsimp only at g1 g2 g3 ⊢
      rw [wX_countMargins_16]
      refine br_t (by decide) (nm_r (nI_1 a) (hk (m2, b2) ⟨fun a' b' h3 h4 => ?_, fun a' h3 => ?_⟩))
      · by_cases e : a' = a
        · exact g1 a' b' (Or.inr ⟨e, h4⟩)
        · exact g1 a' b' (Or.inl ⟨by omega, h4⟩)
      · by_cases e : a' = a
        · subst e; exact vb_congr g3 (fun i hi => by simp [hi])
        · exact g2 a' (by omega)
    · rintro k' b ⟨m2, b2⟩ hb ⟨g1, g2, g3⟩ hk'
      dsimp only at g1 g2 g3 hk' ⊢
      rw [wX_countMargins_16]
      refine br_f (nI_ge (b := 5) hb (by decide)) (x_mw (n := n) (O := O) ?_ ha hb 0 ?_)
      · exact h
      rw [Mw_0]
      have hbd := Mg_bd hn O a b
      have hm : ∀ a' b', (a' < a ∧ b' < 5) ∨ (a' = a ∧ b' < b + 1) → upd m2 (5 * a + b) (iI (Mg n O a b)) (5 * a' + b') = iI (Mg n O a' b') := by
        intro a' b' h3
        by_cases e : a' = a ∧ b' = b
        · rw [e.1, e.2, pk_us]
        · rw [pk_un (by omega)]
          exact g1 a' b' (by omega)
      refine ⟨by rw [vn_5a]; exact vp_in_nI (by omega) (by decide), nm_r (e' := upd m2 (5 * a + b) (iI (Mg n O a b))) (by rw [vn_5a, nI_clamp (by omega)]) (vi_le (Mg n O a b) 0 (fun hle => ?_) (fun hlt => ?_))⟩
      · refine nm_r (nI_1 b) (hk' (_, b2) ⟨hm, g2, ?_⟩)
        refine vb_congr g3 (fun i hi => ⟨fun z => ⟨by omega, z.2⟩, fun z => ⟨?_, z.2⟩⟩)
        by_cases e : i = b
        · subst e; omega
        · omega
      · refine ⟨vp_in_nI ha (by decide), vp_in_nI ha (by decide), nm_r (e' := upd b2 a (b2 a ||| ((1 : Int32) <<< (nI b &&& 31)))) (by rw [nI_clamp (by omega)]) (nm_r (nI_1 b) (hk' (upd m2 (5 * a + b) (iI (Mg n O a b)), upd b2 a (b2 a ||| ((1 : Int32) <<< (nI b &&& 31)))) ⟨hm, fun a' h3 => ?_, ?_⟩))⟩
        · dsimp only; rw [pk_un (by omega)]; exact g2 a' h3
        · dsimp only; rw [pk_us]
          refine vb_congr (vb_ins g3 hb) (fun i hi => ?_)
          constructor
          · rintro (z | rfl)
            · exact ⟨by omega, z.2⟩
            · exact ⟨by omega, hlt⟩
          · intro z
            by_cases e : i = b
            · exact Or.inr e
            · exact Or.inl ⟨by omega, z.2⟩
theorem y_ct {post : SY → Prop} {yn yc : Int32} {yo yp ym ys yl yb yw yk yt yz yx : Nat → Int32} {n : Nat} {O : Nat → Nat} (h : zRY n O (yn, yc, yo, yp, ym, ys, yl, yb, yw, yk, yt, yz, yx)) (hp : ∀ m' : Nat → Int32, zRYM n O (yn, yc, yo, yp, m', ys, yl, yb, yw, yk, yt, yz, yx) → post (yn, yc, yo, yp, m', ys, yl, yb, yw, yk, yt, yz, yx)) :
    wpY_count post (yn, yc, yo, yp, ym, ys, yl, yb, yw, yk, yt, yz, yx) := by
  unfold wpY_count
  dsimp only
  have hn := h.1
  refine pk_loop (σ := (Nat → Int32)) (fun k j s => wY_count_2 post yn yc k (nI j) yo yp s ys yl yb yw yk yt yz yx)
    (fun j s => ∀ q, q < j → s q = iI (Mg n O (q / 5) (q % 5))) 25 0 ym (by omega) (fun q hq => by omega) ?_ ?_
  · intro k s hs
    rw [wY_count_2]
    refine br_t (by decide) (hp s ⟨h, fun a b ha hb => ?_⟩)
    have := hs (5 * a + b) (by omega)
    rw [show (5 * a + b) / 5 = a from by omega, show (5 * a + b) % 5 = b from by omega] at this
    exact this
  · intro k j s hj hs hk
    rw [wY_count_2]
    refine br_f (nI_ge (b := 25) hj (by decide)) ⟨by decide, by decide, ?_⟩
    rw [rc_rem (show j < 2 ^ 31 by omega), rc_div (show j < 2 ^ 31 by omega)]
    refine y_mo (n := n) (O := O) (a := j / 5) (b := j % 5) ?_ (by omega) (by omega) 511 ?_
    · exact h
    rw [Mw_511 hn]
    refine ⟨vp_in_nI hj (by decide), nm_r (e' := upd s j (iI (Mg n O (j / 5) (j % 5)))) (by rw [nI_clamp (by omega)]) (nm_r (nI_1 j) (hk (upd s j (iI (Mg n O (j / 5) (j % 5)))) (fun q hq => ?_)))⟩
    by_cases e : q = j
    · subst e; exact pk_us
    · rw [pk_un e]; exact hs q (by omega)
theorem x_has {post : Int32 → Prop} {x : Int32} {j : Nat} (hj : j < 32) (h1 : bt x j = true → post 1) (h0 : bt x j = false → post 0) : wpX_has post x (nI j) := by
  unfold wpX_has
  refine br_c (fun h => h1 ((vb_has hj).mp h)) (fun h => h0 ?_)
  rw [vb_has hj] at h
  simpa using h
theorem y_be {post : Int32 → Prop} {yn yc : Int32} {yo yp ym ys yl yb yw yk yt yz yx : Nat → Int32} {n : Nat} {O : Nat → Nat} (h : zRYM n O (yn, yc, yo, yp, ym, ys, yl, yb, yw, yk, yt, yz, yx)) {a b : Nat} (ha : a < 5) (hb : b < 5) (h1 : 0 < Mg n O a b → post 1) (h0 : Mg n O a b ≤ 0 → post 0) : wpY_beats post (yn, yc, yo, yp, ym, ys, yl, yb, yw, yk, yt, yz, yx) (nI a) (nI b) := by
  have hm := h.2 a b ha hb
  have hbd := Mg_bd h.1.1 O a b
  dsimp only at hm
  unfold wpY_beats
  dsimp only
  rw [vn_5b, nI_clamp (by omega), hm]
  exact ⟨vp_in_nI (by omega) (by decide), vi_le (Mg n O a b) 0 h0 h1⟩
theorem y_bb {post : Int32 → Prop} {yn yc : Int32} {yo yp ym ys yl yb yw yk yt yz yx : Nat → Int32} {n : Nat} {O : Nat → Nat} (h : zRYM n O (yn, yc, yo, yp, ym, ys, yl, yb, yw, yk, yt, yz, yx)) {a : Nat} (ha : a < 5) (hp : ∀ r, isSet r (fun b => 0 < Mg n O a b) → post r) : wpY_beatenBy post (yn, yc, yo, yp, ym, ys, yl, yb, yw, yk, yt, yz, yx) (nI a) := by
  unfold wpY_beatenBy
  dsimp only
  refine pk_loop (σ := Int32) (fun k b s => wY_beatenBy_4 post (nI a) yn yc yo yp ym ys yl yb yw yk yt yz yx k s (nI b)) (fun b s => isSet s (fun d => d < b ∧ 0 < Mg n O a d)) 5 0 0 (by omega) (vb_congr vb_empty (fun i _ => by simp)) ?_ ?_
  · intro k s hs
    rw [wY_beatenBy_4]
    exact br_t (by decide) (hp s (vb_congr hs (fun i hi => by simp [hi])))
  · intro k b s hb hs hk
    rw [wY_beatenBy_4]
    refine br_f (nI_ge (b := 5) hb (by decide)) (y_be h ha hb (fun hlt => br_f (by decide) (nm_e (nm_r (nI_1 b) (hk _ (vb_congr (vb_ins hs hb) (fun i hi => ?_)))))) (fun hle => br_t rfl (nm_r (nI_1 b) (hk _ (vb_congr hs (fun i hi => ?_))))))
    · constructor
      · rintro (z | rfl)
        · exact ⟨by omega, z.2⟩
        · exact ⟨by omega, hlt⟩
      · intro z
        by_cases e : i = b
        · exact Or.inr e
        · exact Or.inl ⟨by omega, z.2⟩
    · refine ⟨fun z => ⟨by omega, z.2⟩, fun z => ⟨?_, z.2⟩⟩
      by_cases e : i = b
      · subst e; omega
      · omega
theorem x_cand {post : Int32 → Prop} {x : Int32} (h0 : (∀ c, c < 5 → x ≠ nI c) → post 0) (h1 : ∀ c, c < 5 → x = nI c → post 1) : wpX_isCandidate post x := by
  unfold wpX_isCandidate
  by_cases hn : x < 0
  · refine br_t hn (h0 fun c hc e => ?_)
    subst e
    exact nI_pos (by omega) hn
  · obtain ⟨o, ho, rfl⟩ := nI_of hn
    refine br_f hn (pk_le 5 o (fun h => h0 fun c hc e => ?_) (fun h => h1 o h rfl) rfl rfl (by omega) ho)
    rw [nI_eq ho (by omega)] at e
    omega
theorem x_rule {post : Int32 → Prop} {x : Int32} (h0 : (∀ c, c ≤ 16 → x ≠ nI c) → post 0) (h1 : ∀ c, c ≤ 16 → x = nI c → post 1) : wpX_isRule post x := by
  unfold wpX_isRule
  by_cases hn : x < 0
  · refine br_t hn (h0 fun c hc e => ?_)
    subst e
    exact nI_pos (by omega) hn
  · obtain ⟨o, ho, rfl⟩ := nI_of hn
    refine br_f hn (pk_lt 16 o (fun h => h0 fun c hc e => ?_) (fun h => h1 o h rfl) rfl rfl (by omega) ho)
    rw [nI_eq ho (by omega)] at e
    omega
theorem x_isB {post : Int32 → Prop} {xc : Int32} {xo xr xp xm xb xs xq xn xu xl xg xk xt xw xv : Nat → Int32} {n : Nat} (hn : n ≤ 9) (hc : xc = nI n) {x : Int32} (h0 : (∀ i, i < n → x ≠ nI i) → post 0) (h1 : ∀ i, i < n → x = nI i → post 1) : wpX_isBallot post (xc, xo, xr, xp, xm, xb, xs, xq, xn, xu, xl, xg, xk, xt, xw, xv) x := by
  unfold wpX_isBallot
  dsimp only
  subst hc
  by_cases hn : x < 0
  · refine br_t hn (h0 fun c hc e => ?_)
    subst e
    exact nI_pos (by omega) hn
  · obtain ⟨o, ho, rfl⟩ := nI_of hn
    refine br_f hn (pk_le n o (fun h => h0 fun c hc e => ?_) (fun h => h1 o h rfl) rfl rfl (by omega) ho)
    rw [nI_eq ho (by omega)] at e
    omega
/-- the reference's question whether i is a ballot: its upper bound is n - 1, which may be -1 -/
theorem y_isB {post : Int32 → Prop} {v : SY} {n : Nat} {yn : Int32} (hn : n ≤ 9) (hc : yn = nI n) {x : Int32} (h0 : (∀ i, i < n → x ≠ nI i) → post 0) (h1 : ∀ i, i < n → x = nI i → post 1) : wpY_in post v x 0 (yn - 1) := by
  subst hc
  cases n with
  | zero =>
    obtain ⟨yn, yc, yo, yp, ym, ys, yl, yb, yw, yk, yt, yz, yx⟩ := v
    unfold wpY_in
    dsimp only
    by_cases hn : x < 0
    · exact br_t hn (h0 fun c hc e => by omega)
    · refine br_f hn (br_t ?_ (h0 fun c hc e => by omega))
      obtain ⟨o, ho, rfl⟩ := nI_of hn
      rw [Int32.lt_iff_toInt_lt, nI_toInt ho]
      have : (nI 0 - 1 : Int32).toInt = -1 := by decide
      omega
  | succ m =>
    rw [nI_pred]
    exact y_in 0 m rfl (by omega) (fun hh => h0 fun i hi => hh i (by omega) (by omega)) (fun j _ hj e => h1 j (by omega) e)
/-- the relation: the same ballots; the class's margins are those of the ballots -/
def i_Rel (k : Nat) (u : SX) (v : SY) : Prop := ∃ (n : Nat) (O : Nat → Nat), zRX n O u ∧ zRY n O v
theorem i_up {k : Nat} {u : SX} {v : SY} (h : i_Rel k u v) : i_Rel (k + 3) u v := h
theorem i_vc0 : wpX_init (fun u => wpY_init (fun v => i_Rel 0 u v)) := by
  refine ⟨0, fun _ => 0, ⟨⟨by omega, rfl, fun i hi => by omega⟩, fun a b ha hb => ?_, fun a ha => ?_⟩, ⟨by omega, rfl, fun i hi => by omega⟩⟩
  · rfl
  · exact vb_congr vb_empty (fun i _ => by simp [Mg, Mw, sm])
def upn (O : Nat → Nat) (k o : Nat) : Nat → Nat := fun j => if j = k then o else O j
theorem upn_s (O : Nat → Nat) (k o : Nat) : upn O k o k = o := if_pos rfl
theorem upn_n (O : Nat → Nat) {k o j : Nat} (h : j ≠ k) : upn O k o j = O j := if_neg h
theorem i_vc_ballot {k : Nat} {u : SX} {v : SY} (I : i_Rel k u v) (hk : k + 3 ≤ 1536) (v1 : Int32) : wpX_ballot (fun r u' => wpY_ballot (fun r' v' => r' = r ∧ i_Rel (k + 3) u' v') v v1) u v1 := by
  have I0 := I
  obtain ⟨n, O, ⟨⟨hn, hc, hB⟩, hM⟩, ⟨_, hc', hB'⟩⟩ := I
  obtain ⟨xc, xo, xr, xp, xm, xb, xs, xq, xn, xu, xl, xg, xk, xt, xw, xv⟩ := u
  obtain ⟨yn, yc, yo, yp, ym, ys, yl, yb, yw, yk, yt, yz, yx⟩ := v
  dsimp only at hc hc'
  subst hc hc'
  unfold wpX_ballot
  dsimp only
  by_cases h9 : n < 9
  · refine br_t (nI_lt (b := 9) h9 (by decide)) (x_isRanking (fun hno => br_t rfl ?_) (fun o e ho => br_f (by decide) ?_))
    · unfold wpY_ballot
      dsimp only
      refine br_f (fun h => by rw [show (9 : Int32) = nI 9 from rfl, nI_eq (by omega) (by omega)] at h; omega) (y_isOrder (fun _ => br_t rfl ⟨rfl, I0⟩) (fun o e ho => absurd e (hno o ho)))
    · subst e
      refine ⟨vp_in_nI h9 (by decide), nm_r (e' := upd xo n (nI o)) (by rw [nI_clamp (by omega)]) (x_read h9 ho pk_us (fun r' p' g1 g2 => ?_))⟩
      refine nm_r (nI_1 n) ?_
      have hRB : zRB (n + 1) (upn O n o) ((nI (n + 1)), (upd xo n (nI o)), r', p', xm, xb, xs, xq, xn, xu, xl, xg, xk, xt, xw, xv) := by
        refine ⟨by omega, rfl, fun i hi => ?_⟩
        by_cases e : i = n
        · subst e; rw [upn_s]; exact g1
        · rw [upn_n O e]
          refine g2 i (O i) e ?_
          have := hB i (by omega)
          exact ⟨this.1, (pk_un e).trans this.2.1, this.2.2⟩
      refine x_cm hRB (fun m' b' hM' => ?_)
      unfold wpY_ballot
      dsimp only
      refine br_f (fun h => by rw [show (9 : Int32) = nI 9 from rfl, nI_eq (by omega) (by omega)] at h; omega) (y_isOrder (fun hno => absurd rfl (hno o ho)) (fun _ _ _ => br_f (by decide) (y_write h9 ho (fun p'' q1 q2 => nm_r (nI_1 n) ⟨rfl, n + 1, upn O n o, ⟨hRB, hM'⟩, ⟨by omega, rfl, fun i hi => ?_⟩⟩))))
      by_cases e : i = n
      · subst e; rw [upn_s]; exact q1
      · rw [upn_n O e]
        exact q2 i (O i) e (hB' i (by omega))
  · have e : n = 9 := by omega
    subst e
    refine br_f (by decide) ?_
    unfold wpY_ballot
    exact br_t rfl ⟨rfl, I0⟩
theorem i_vc_order {k : Nat} {u : SX} {v : SY} (I : i_Rel k u v) (hk : k + 3 ≤ 1536) (v1 : Int32) : wpX_order (fun r => wpY_order (fun r' => r' = r ∧ i_Rel (k + 3) u v) v v1) u v1 := by
  have I0 := I
  obtain ⟨n, O, ⟨⟨hn, hc, hB⟩, hM⟩, ⟨_, hc', hB'⟩⟩ := I
  obtain ⟨xc, xo, xr, xp, xm, xb, xs, xq, xn, xu, xl, xg, xk, xt, xw, xv⟩ := u
  obtain ⟨yn, yc, yo, yp, ym, ys, yl, yb, yw, yk, yt, yz, yx⟩ := v
  dsimp only at hc hc'
  unfold wpX_order
  dsimp only
  refine x_isB hn hc (fun hno => br_t rfl ?_) (fun i hi e => br_f (by decide) ?_)
  · unfold wpY_order
    dsimp only
    exact y_isB hn hc' (fun _ => br_t rfl ⟨rfl, I0⟩) (fun i hi e => absurd e (hno i hi))
  · subst e
    refine ⟨vp_in_nI (by omega) (by decide), ?_⟩
    unfold wpY_order
    dsimp only
    refine y_isB hn hc' (fun hno => absurd rfl (hno i hi)) (fun _ _ _ => br_f (by decide) ⟨vp_in_nI (by omega) (by decide), ?_, I0⟩)
    rw [nI_clamp (by omega)]
    exact (hB' i hi).2.1.trans (hB i hi).2.1.symm
theorem i_vc_margin {k : Nat} {u : SX} {v : SY} (I : i_Rel k u v) (hk : k + 3 ≤ 1536) (v1 : Int32) (v2 : Int32) : wpX_margin (fun r => wpY_margin (fun r' => r' = r ∧ i_Rel (k + 3) u v) v v1 v2) u v1 v2 := by
  have I0 := I
  obtain ⟨n, O, ⟨⟨hn, hc, hB⟩, hM⟩, hY⟩ := I
  obtain ⟨xc, xo, xr, xp, xm, xb, xs, xq, xn, xu, xl, xg, xk, xt, xw, xv⟩ := u
  obtain ⟨yn, yc, yo, yp, ym, ys, yl, yb, yw, yk, yt, yz, yx⟩ := v
  unfold wpX_margin
  dsimp only
  refine x_cand (fun hno => br_t rfl ?_) (fun a ha e => br_f (by decide) ?_)
  · unfold wpY_margin
    dsimp only
    exact y_in 0 4 rfl (by decide) (fun _ => br_t rfl ⟨rfl, I0⟩) (fun j _ hj e => absurd e (hno j (by omega)))
  · subst e
    refine x_cand (fun hno => br_t rfl ?_) (fun b hb e => br_f (by decide) ?_)
    · unfold wpY_margin
      dsimp only
      refine y_in 0 4 rfl (by decide) (fun hh => absurd rfl (hh a (by omega) (by omega))) (fun _ _ _ _ => br_f (by decide) ?_)
      exact y_in 0 4 rfl (by decide) (fun _ => br_t rfl ⟨rfl, I0⟩) (fun j _ hj e => absurd e (hno j (by omega)))
    · subst e
      have hm := hM.1 a b ha hb
      dsimp only at hm
      rw [vn_5a, nI_clamp (by omega), hm]
      refine ⟨vp_in_nI (by omega) (by decide), ?_⟩
      unfold wpY_margin
      dsimp only
      refine y_in 0 4 rfl (by decide) (fun hh => absurd rfl (hh a (by omega) (by omega))) (fun _ _ _ _ => br_f (by decide) ?_)
      refine y_in 0 4 rfl (by decide) (fun hh => absurd rfl (hh b (by omega) (by omega))) (fun _ _ _ _ => br_f (by decide) ?_)
      refine y_mo hY ha hb 511 ?_
      rw [Mw_511 hn]
      exact ⟨rfl, I0⟩
theorem i_vc_ballots {k : Nat} {u : SX} {v : SY} (I : i_Rel k u v) (hk : k + 3 ≤ 1536) : wpX_ballots (fun r => wpY_ballots (fun r' => r' = r ∧ i_Rel (k + 3) u v) v) u := by
  have I0 := I
  obtain ⟨n, O, ⟨⟨hn, hc, hB⟩, hM⟩, ⟨_, hc', hB'⟩⟩ := I
  obtain ⟨xc, xo, xr, xp, xm, xb, xs, xq, xn, xu, xl, xg, xk, xt, xw, xv⟩ := u
  obtain ⟨yn, yc, yo, yp, ym, ys, yl, yb, yw, yk, yt, yz, yx⟩ := v
  exact ⟨hc'.trans hc.symm, I0⟩
end
section
/-! ===== drop and leader ===== -/
def drn (O : Nat → Nat) (i : Nat) : Nat → Nat := fun j => if j < i then O j else O (j + 1)
theorem x_drop {post : Int32 → SX → Prop} {u : SX} {n : Nat} {O : Nat → Nat} {i : Nat} (hn : n < 9) (hi : i ≤ n) (hc : u.1 = nI n) (hB : ∀ j, j < n + 1 → zBX (O j) j u)
    (hp : ∀ u', zRX n (drn O i) u' → post (nI n) u') : ∃ m, wX_drop_24 post m (nI i) u.1 u.2.1 u.2.2.1 u.2.2.2.1 u.2.2.2.2.1 u.2.2.2.2.2.1 u.2.2.2.2.2.2.1 u.2.2.2.2.2.2.2.1 u.2.2.2.2.2.2.2.2.1 u.2.2.2.2.2.2.2.2.2.1 u.2.2.2.2.2.2.2.2.2.2.1 u.2.2.2.2.2.2.2.2.2.2.2.1 u.2.2.2.2.2.2.2.2.2.2.2.2.1 u.2.2.2.2.2.2.2.2.2.2.2.2.2.1 u.2.2.2.2.2.2.2.2.2.2.2.2.2.2.1 u.2.2.2.2.2.2.2.2.2.2.2.2.2.2.2 := by
  refine pk_loop (σ := SX) (fun m k s => wX_drop_24 post m (nI k) s.1 s.2.1 s.2.2.1 s.2.2.2.1 s.2.2.2.2.1 s.2.2.2.2.2.1 s.2.2.2.2.2.2.1 s.2.2.2.2.2.2.2.1 s.2.2.2.2.2.2.2.2.1 s.2.2.2.2.2.2.2.2.2.1 s.2.2.2.2.2.2.2.2.2.2.1 s.2.2.2.2.2.2.2.2.2.2.2.1 s.2.2.2.2.2.2.2.2.2.2.2.2.1 s.2.2.2.2.2.2.2.2.2.2.2.2.2.1 s.2.2.2.2.2.2.2.2.2.2.2.2.2.2.1 s.2.2.2.2.2.2.2.2.2.2.2.2.2.2.2) (fun k s => i ≤ k ∧ s.1 = nI n ∧ (∀ j, j < k → zBX (drn O i j) j s) ∧ ∀ j, k ≤ j → j < n + 1 → zBX (O j) j s) n i u hi ⟨Nat.le_refl i, hc, fun j hj => ?_, fun j _ h => hB j h⟩ ?_ ?_
  · unfold drn; rw [if_pos hj]; exact hB j (by omega)
  · rintro m ⟨xc, xo, xr, xp, xm, xb, xs, xq, xn, xu, xl, xg, xk, xt, xw, xv⟩ ⟨_, h1, h2, h3⟩
    dsimp only at h1 ⊢
    subst h1
    rw [wX_drop_24]
    have hRB : zRB n (drn O i) ((nI n), xo, xr, xp, xm, xb, xs, xq, xn, xu, xl, xg, xk, xt, xw, xv) := ⟨by omega, rfl, fun j hj => h2 j hj⟩
    exact br_t (nI_le (Nat.le_refl n) (by omega)) (x_cm hRB (fun m' b' hM => hp _ ⟨hRB, hM⟩))
  · rintro m k ⟨xc, xo, xr, xp, xm, xb, xs, xq, xn, xu, xl, xg, xk, xt, xw, xv⟩ hk ⟨hik, h1, h2, h3⟩ hK
    dsimp only at h1 hK ⊢
    subst h1
    rw [wX_drop_24]
    have hb := h3 (k + 1) (by omega) (by omega)
    refine br_f (nI_ge hk (by omega)) ⟨by rw [nI_1]; exact vp_in_nI (by omega) (by decide), vp_in_nI (by omega) (by decide), nm_r (e' := upd xo k (nI (O (k + 1)))) (by rw [nI_1, nI_clamp (by omega), nI_clamp (by omega)]; exact congrArg _ hb.2.1) ?_⟩
    refine x_read (by omega) hb.1 pk_us (fun r' p' g1 g2 => nm_r (nI_1 k) ?_)
    have hg : ∀ j o', j ≠ k → zBX o' j ((nI n), xo, xr, xp, xm, xb, xs, xq, xn, xu, xl, xg, xk, xt, xw, xv) → zBX o' j ((nI n), (upd xo k (nI (O (k + 1)))), r', p', xm, xb, xs, xq, xn, xu, xl, xg, xk, xt, xw, xv) := by
      intro j o' hj hb'
      exact g2 j o' hj ⟨hb'.1, (pk_un hj).trans hb'.2.1, hb'.2.2⟩
    refine hK ((nI n), (upd xo k (nI (O (k + 1)))), r', p', xm, xb, xs, xq, xn, xu, xl, xg, xk, xt, xw, xv) ⟨by omega, rfl, fun j hj => ?_, fun j h4 h5 => hg j _ (by omega) (h3 j (by omega) h5)⟩
    by_cases e : j = k
    · subst e
      unfold drn
      rw [if_neg (by omega)]
      exact g1
    · exact hg j _ e (h2 j (by omega))
theorem y_drop {post : Int32 → SY → Prop} {v : SY} {n : Nat} {O : Nat → Nat} {i : Nat} (hn : n < 9) (hi : i ≤ n) (hc : v.1 = nI (n + 1)) (hB : ∀ j, j < n + 1 → zBY (O j) j v)
    (hp : ∀ v', zRY n (drn O i) v' → post (nI n) v') : ∃ m, wY_drop_21 post m (nI i) v.1 v.2.1 v.2.2.1 v.2.2.2.1 v.2.2.2.2.1 v.2.2.2.2.2.1 v.2.2.2.2.2.2.1 v.2.2.2.2.2.2.2.1 v.2.2.2.2.2.2.2.2.1 v.2.2.2.2.2.2.2.2.2.1 v.2.2.2.2.2.2.2.2.2.2.1 v.2.2.2.2.2.2.2.2.2.2.2.1 v.2.2.2.2.2.2.2.2.2.2.2.2 := by
  refine pk_loop (σ := SY) (fun m k s => wY_drop_21 post m (nI k) s.1 s.2.1 s.2.2.1 s.2.2.2.1 s.2.2.2.2.1 s.2.2.2.2.2.1 s.2.2.2.2.2.2.1 s.2.2.2.2.2.2.2.1 s.2.2.2.2.2.2.2.2.1 s.2.2.2.2.2.2.2.2.2.1 s.2.2.2.2.2.2.2.2.2.2.1 s.2.2.2.2.2.2.2.2.2.2.2.1 s.2.2.2.2.2.2.2.2.2.2.2.2) (fun k s => i ≤ k ∧ s.1 = nI (n + 1) ∧ (∀ j, j < k → zBY (drn O i j) j s) ∧ ∀ j, k ≤ j → j < n + 1 → zBY (O j) j s) n i v hi ⟨Nat.le_refl i, hc, fun j hj => ?_, fun j _ h => hB j h⟩ ?_ ?_
  · unfold drn; rw [if_pos hj]; exact hB j (by omega)
  · rintro m ⟨yn, yc, yo, yp, ym, ys, yl, yb, yw, yk, yt, yz, yx⟩ ⟨_, h1, h2, h3⟩
    dsimp only at h1 ⊢
    subst h1
    rw [wY_drop_21]
    refine br_t (by rw [nI_pred]; exact nI_le (Nat.le_refl n) (by omega)) (nm_r (nI_pred n) (hp _ ⟨by omega, rfl, fun j hj => h2 j hj⟩))
  · rintro m k ⟨yn, yc, yo, yp, ym, ys, yl, yb, yw, yk, yt, yz, yx⟩ hk ⟨hik, h1, h2, h3⟩ hK
    dsimp only at h1 hK ⊢
    subst h1
    rw [wY_drop_21]
    have hb := h3 (k + 1) (by omega) (by omega)
    have hb2 : yo (k + 1) = nI (O (k + 1)) := hb.2.1
    refine br_f (by rw [nI_pred]; exact nI_ge hk (by omega)) ⟨by rw [nI_1]; exact vp_in_nI (by omega) (by decide), ?_⟩
    rw [nI_1, nI_clamp (by omega), hb2]
    refine y_write (by omega) hb.1 (fun p' g1 g2 => nm_e ?_)
    refine hK ((nI (n + 1)), yc, (upd yo k (nI (O (k + 1)))), p', ym, ys, yl, yb, yw, yk, yt, yz, yx) ⟨by omega, rfl, fun j hj => ?_, fun j h4 h5 => g2 j _ (by omega) (h3 j (by omega) h5)⟩
    by_cases e : j = k
    · subst e
      unfold drn
      rw [if_neg (by omega)]
      exact g1
    · exact g2 j _ e (h2 j (by omega))
theorem i_vc_drop {k : Nat} {u : SX} {v : SY} (I : i_Rel k u v) (hk : k + 3 ≤ 1536) (v1 : Int32) : wpX_drop (fun r u' => wpY_drop (fun r' v' => r' = r ∧ i_Rel (k + 3) u' v') v v1) u v1 := by
  have I0 := I
  obtain ⟨n, O, ⟨⟨hn, hc, hB⟩, hM⟩, ⟨_, hc', hB'⟩⟩ := I
  obtain ⟨xc, xo, xr, xp, xm, xb, xs, xq, xn, xu, xl, xg, xk, xt, xw, xv⟩ := u
  obtain ⟨yn, yc, yo, yp, ym, ys, yl, yb, yw, yk, yt, yz, yx⟩ := v
  dsimp only at hc hc'
  unfold wpX_drop
  dsimp only
  refine x_isB hn hc (fun hno => br_t rfl ?_) (fun i hi e => br_f (by decide) ?_)
  · unfold wpY_drop
    dsimp only
    exact y_isB hn hc' (fun _ => br_t rfl ⟨rfl, I0⟩) (fun i hi e => absurd e (hno i hi))
  · subst e
    obtain ⟨m, rfl⟩ : ∃ m, n = m + 1 := ⟨n - 1, by omega⟩
    refine nm_r (e' := nI m) (by rw [hc]; exact nI_pred m) ?_
    refine x_drop (u := ((nI m), xo, xr, xp, xm, xb, xs, xq, xn, xu, xl, xg, xk, xt, xw, xv)) (n := m) (O := O) (i := i) (by omega) (by omega) rfl hB (fun u' hX => ?_)
    unfold wpY_drop
    dsimp only
    refine y_isB hn hc' (fun hno => absurd rfl (hno i hi)) (fun _ _ _ => br_f (by decide) ?_)
    exact y_drop (v := (yn, yc, yo, yp, ym, ys, yl, yb, yw, yk, yt, yz, yx)) (n := m) (O := O) (i := i) (by omega) (by omega) hc' hB' (fun v' hY => ⟨rfl, m, drn O i, hX, hY⟩)
def Ld (n : Nat) (O : Nat → Nat) (c : Nat) : Prop := ∀ d, d < 5 → d ≠ c → 0 < Mg n O c d
theorem ld_iff {n : Nat} {O : Nat → Nat} {c : Nat} {r : Int32} (hc : c < 5) (h : isSet r (fun b => 0 < Mg n O c b)) : (r ||| ((1 : Int32) <<< (nI c &&& 31))) = 31 ↔ Ld n O c := by
  have h2 := vb_ins h hc
  constructor
  · intro e d hd hne
    rw [e] at h2
    have := (h2 d).mp (by rw [vb_31]; simpa using hd)
    rcases this.2 with z | z
    · exact z
    · exact absurd z hne
  · intro hl
    refine vb_uniq (W := fun _ => True) (vb_congr h2 (fun i hi => ⟨fun _ => trivial, fun _ => ?_⟩)) vb_all
    by_cases e : i = c
    · exact Or.inr e
    · exact Or.inl (hl i hi e)
theorem x_leader {post : Int32 → Prop} {xc : Int32} {xo xr xp xm xb xs xq xn xu xl xg xk xt xw xv : Nat → Int32} {n : Nat} {O : Nat → Nat} (h : zRX n O (xc, xo, xr, xp, xm, xb, xs, xq, xn, xu, xl, xg, xk, xt, xw, xv)) (h1 : ∀ c, c < 5 → Ld n O c → (∀ d, d < c → ¬ Ld n O d) → post (nI c)) (h0 : (∀ c, c < 5 → ¬ Ld n O c) → post (-1002)) : wpX_leader post (xc, xo, xr, xp, xm, xb, xs, xq, xn, xu, xl, xg, xk, xt, xw, xv) := by
  unfold wpX_leader
  dsimp only
  refine pk_loop (σ := Unit) (fun m k _ => wX_leader_2 post xc xo xr xp xm xb xs xq xn xu xl xg xk xt xw xv m (nI k)) (fun k _ => ∀ d, d < k → ¬ Ld n O d) 5 0 () (by omega) (fun d hd => by omega) ?_ ?_
  · intro m _ hs
    rw [wX_leader_2]
    exact br_t (by decide) (h0 hs)
  · intro m k _ hk hs hK
    rw [wX_leader_2]
    refine br_f (nI_ge (b := 5) hk (by decide)) ⟨vp_in_nI hk (by decide), ?_⟩
    rw [nI_clamp (by omega)]
    have hl := ld_iff hk (h.2.2 k hk)
    refine br_c (fun e => h1 k hk (hl.mp e) hs) (fun e => nm_r (nI_1 k) (hK () (fun d hd => ?_)))
    by_cases e2 : d = k
    · subst e2; exact fun z => e (hl.mpr z)
    · exact hs d (by omega)
theorem y_leader {post : Int32 → SY → Prop} {yn yc : Int32} {yo yp ym ys yl yb yw yk yt yz yx : Nat → Int32} {n : Nat} {O : Nat → Nat} (h : zRY n O (yn, yc, yo, yp, ym, ys, yl, yb, yw, yk, yt, yz, yx)) (h1 : ∀ c v', zRY n O v' → c < 5 → Ld n O c → (∀ d, d < c → ¬ Ld n O d) → post (nI c) v') (h0 : ∀ v', zRY n O v' → (∀ c, c < 5 → ¬ Ld n O c) → post (-1002) v') : wpY_leader post (yn, yc, yo, yp, ym, ys, yl, yb, yw, yk, yt, yz, yx) := by
  unfold wpY_leader
  dsimp only
  refine y_ct h (fun m' hM => ?_)
  refine pk_loop (σ := Unit) (fun m k _ => wY_leader_6 post yn yc yo yp m' ys yl yb yw yk yt yz yx m (nI k)) (fun k _ => ∀ d, d < k → ¬ Ld n O d) 5 0 () (by omega) (fun d hd => by omega) ?_ ?_
  · intro m _ hs
    rw [wY_leader_6]
    exact br_t (by decide) (h0 _ hM.1 hs)
  · intro m k _ hk hs hK
    rw [wY_leader_6]
    refine br_f (nI_ge (b := 5) hk (by decide)) (y_bb hM hk (fun r hr => ?_))
    have hl := ld_iff hk hr
    refine br_c (fun e => h1 k _ hM.1 hk (hl.mp e) hs) (fun e => nm_r (nI_1 k) (hK () (fun d hd => ?_)))
    by_cases e2 : d = k
    · subst e2; exact fun z => e (hl.mpr z)
    · exact hs d (by omega)
theorem i_vc_leader {k : Nat} {u : SX} {v : SY} (I : i_Rel k u v) (hk : k + 3 ≤ 1536) : wpX_leader (fun r => wpY_leader (fun r' v' => r' = r ∧ i_Rel (k + 3) u v') v) u := by
  obtain ⟨n, O, hX, hY⟩ := I
  obtain ⟨xc, xo, xr, xp, xm, xb, xs, xq, xn, xu, xl, xg, xk, xt, xw, xv⟩ := u
  obtain ⟨yn, yc, yo, yp, ym, ys, yl, yb, yw, yk, yt, yz, yx⟩ := v
  refine x_leader hX (fun c hc hl hm => y_leader hY (fun c' v' hY' hc' hl' hm' => ⟨?_, n, O, hX, hY'⟩) (fun v' hY' h0 => absurd hl (h0 c hc))) (fun h0 => y_leader hY (fun c' v' hY' hc' hl' hm' => absurd hl' (h0 c' hc')) (fun v' hY' _ => ⟨rfl, n, O, hX, hY'⟩))
  rcases Nat.lt_trichotomy c c' with h | h | h
  · exact absurd hl (hm' c h)
  · rw [h]
  · exact absurd hl' (hm c' h)
end
section
/-! ===== members before and behind, the scores by rule 0, 1, 2 among a set ===== -/
def szI (s : Int32) : Int := sm 10 (fun j => b01 (bt s j))
def bh (o c : Nat) (s : Int32) : Int := sm 5 (fun a => b01 (bt s a && decide (plc o c < plc o a)))
def bf (o c : Nat) (s : Int32) : Int := sm 5 (fun a => b01 (bt s a && decide (plc o a < plc o c)))
def vt (r o c : Nat) (s : Int32) : Int := if r = 0 then (if bf o c s = 0 then 1 else 0) else if r = 1 then (if bh o c s = 0 then -1 else 0) else bh o c s
def Vs (r c : Nat) (s : Int32) (n : Nat) (O : Nat → Nat) : Int := sm n (fun i => vt r (O i) c s)
theorem b01_bd (b : Bool) : 0 ≤ b01 b ∧ b01 b ≤ 1 := by cases b <;> decide
theorem bh_bd (o c : Nat) (s : Int32) : 0 ≤ bh o c s ∧ bh o c s ≤ 5 := by
  have h1 := sm_lo (n := 5) (k := 0) (f := fun a => b01 (bt s a && decide (plc o c < plc o a))) (fun i _ => (b01_bd _).1)
  have h2 := sm_hi (n := 5) (k := 1) (f := fun a => b01 (bt s a && decide (plc o c < plc o a))) (fun i _ => (b01_bd _).2)
  unfold bh; omega
theorem bf_bd (o c : Nat) (s : Int32) : 0 ≤ bf o c s ∧ bf o c s ≤ 5 := by
  have h1 := sm_lo (n := 5) (k := 0) (f := fun a => b01 (bt s a && decide (plc o a < plc o c))) (fun i _ => (b01_bd _).1)
  have h2 := sm_hi (n := 5) (k := 1) (f := fun a => b01 (bt s a && decide (plc o a < plc o c))) (fun i _ => (b01_bd _).2)
  unfold bf; omega
theorem szI_bd (s : Int32) : 0 ≤ szI s ∧ szI s ≤ 10 := by
  have h1 := sm_lo (n := 10) (k := 0) (f := fun a => b01 (bt s a)) (fun i _ => (b01_bd _).1)
  have h2 := sm_hi (n := 10) (k := 1) (f := fun a => b01 (bt s a)) (fun i _ => (b01_bd _).2)
  unfold szI; omega
theorem vt_bd (r o c : Nat) (s : Int32) : -1 ≤ vt r o c s ∧ vt r o c s ≤ 5 := by
  have := bh_bd o c s
  unfold vt
  split
  · split <;> omega
  · split
    · split <;> omega
    · omega
theorem Vs_bd {n : Nat} (hn : n ≤ 9) (r c : Nat) (s : Int32) (O : Nat → Nat) : -9 ≤ Vs r c s n O ∧ Vs r c s n O ≤ 45 := by
  have h1 := sm_lo (n := n) (k := -1) (f := fun i => vt r (O i) c s) (fun i _ => (vt_bd _ _ _ _).1)
  have h2 := sm_hi (n := n) (k := 5) (f := fun i => vt r (O i) c s) (fun i _ => (vt_bd _ _ _ _).2)
  unfold Vs; omega
theorem sz_split {o c : Nat} {s : Int32} (ho : isr o = true) (hc : c < 5) (hb : bt s c = true) (hs : ∀ j, 5 ≤ j → bt s j = false) : szI s = bh o c s + bf o c s + 1 := by
  have e1 : szI s = sm 5 (fun j => b01 (bt s j)) := by
    unfold szI
    simp only [sm, hs 5 (by omega), hs 6 (by omega), hs 7 (by omega), hs 8 (by omega), hs 9 (by omega), b01]
    simp
  have e2 : sm 5 (fun j => b01 (bt s j)) = sm 5 (fun a => (b01 (bt s a && decide (plc o c < plc o a)) + b01 (bt s a && decide (plc o a < plc o c))) + (if a = c then 1 else 0)) := by
    refine sm_congr fun a ha => ?_
    by_cases e : a = c
    · subst e
      simp [hb, b01]
    · have hne : plc o a ≠ plc o c := fun z => e (rc_inj ho ha hc z)
      rw [if_neg e]
      cases bt s a
      · rfl
      · rcases Nat.lt_or_gt_of_ne hne with h | h
        · simp [b01, h, Nat.not_lt.mpr (Nat.le_of_lt h)]
        · simp [b01, h, Nat.not_lt.mpr (Nat.le_of_lt h)]
  rw [e1, e2, sm_add, sm_add, sm_single (f := fun a => if a = c then (1 : Int) else 0) hc (fun i _ hi => if_neg hi)]
  simp [bh, bf]
theorem sm_perm {o : Nat} (ho : isr o = true) (g : Nat → Int) : sm 5 g = sm 5 (fun a => g (plc o a)) := by
  have e1 : sm 5 g = sm 5 (fun q => sm 5 (fun a => if plc o a = q then g q else 0)) := by
    refine sm_congr fun q hq => ?_
    have hr := rc_all ho hq
    rw [sm_single (f := fun a => if plc o a = q then g q else 0) hr.1 (fun a ha hne => if_neg (fun z => hne (by rw [← z, (rc_all ho ha).2.2.2])))]
    rw [if_pos hr.2.1]
  rw [e1, sm_comm]
  refine sm_congr fun a ha => ?_
  have hr := rc_all ho ha
  rw [sm_single (f := fun q => if plc o a = q then g q else 0) hr.2.2.1 (fun q _ hne => if_neg (fun z => hne z.symm)), if_pos rfl]
theorem x_size {post : Int32 → Prop} {s : Int32} (hp : post (iI (szI s))) : wpX_sizeOf post s := by
  unfold wpX_sizeOf
  refine vl_sum (fun m x1 x2 => wX_sizeOf_4 post s m x1 x2) post 10 (fun j => b01 (bt s j)) ?_ ?_ hp
  · intro m x hx
    rw [wX_sizeOf_4]
    exact br_t (by decide) hx
  · intro m i z hi hW
    rw [wX_sizeOf_4]
    exact br_f (nI_ge (b := 10) hi (by decide)) (nm_r (by rw [vb_b01 s (by omega), vs_add]) (nm_r (nI_1 i) hW))
theorem x_mb {post : Int32 → Prop} {xc : Int32} {xo xr xp xm xb xs xq xn xu xl xg xk xt xw xv : Nat → Int32} {n : Nat} {O : Nat → Nat} (h : zRB n O (xc, xo, xr, xp, xm, xb, xs, xq, xn, xu, xl, xg, xk, xt, xw, xv)) {i c : Nat} (hi : i < n) (hc : c < 5) (s : Int32) (hp : post (iI (bh (O i) c s))) :
    wpX_membersBehind post (xc, xo, xr, xp, xm, xb, xs, xq, xn, xu, xl, xg, xk, xt, xw, xv) (nI i) (nI c) s := by
  obtain ⟨hn, h1, h2⟩ := h
  have hB := h2 i hi
  have ho := hB.1
  have h3 : ∀ p, p < 5 → xr (5 * i + p) = nI (rkc (O i) p) := hB.2.2.1
  have h4 : ∀ c, c < 5 → xp (5 * i + c) = nI (plc (O i) c) := hB.2.2.2
  have hpc := (rc_all ho hc).2.2.1
  unfold wpX_membersBehind
  dsimp only
  refine ⟨by rw [vn_5a]; exact vp_in_nI (by omega) (by decide), nm_r (e' := nI (plc (O i) c + 1)) (by rw [vn_5a, nI_clamp (by omega), h4 c hc, nI_1]) ?_⟩
  refine pk_loop (σ := Int32) (fun m p x => wX_membersBehind_17 post (nI i) s xc xo xr xp xm xb xs xq xn xu xl xg xk xt xw xv m x (nI p)) (fun p x => plc (O i) c < p ∧ x = iI (sm p (fun q => if plc (O i) c < q then b01 (bt s (rkc (O i) q)) else 0))) 5 (plc (O i) c + 1) 0 (by omega) ⟨by omega, ?_⟩ ?_ ?_
  · rw [sm_zero (fun q hq => if_neg (by omega))]; rfl
  · rintro m x ⟨_, rfl⟩
    rw [wX_membersBehind_17]
    refine br_t (by decide) ?_
    rw [sm_perm ho]
    refine Eq.mp (congrArg post (congrArg iI (sm_congr fun a ha => ?_))) hp
    rw [(rc_all ho ha).2.2.2]
    by_cases hlt : plc (O i) c < plc (O i) a
    · simp [hlt]
    · simp [hlt, b01]
  · rintro m p x hp5 ⟨hlt, rfl⟩ hK
    rw [wX_membersBehind_17]
    have hr := (rc_all ho hp5).1
    refine br_f (nI_ge (b := 5) hp5 (by decide)) ⟨by rw [vn_5a]; exact vp_in_nI (by omega) (by decide), nm_r (e' := iI (sm (p + 1) (fun q => if plc (O i) c < q then b01 (bt s (rkc (O i) q)) else 0))) ?_ (nm_r (nI_1 p) (hK _ ⟨by omega, rfl⟩))⟩
    rw [vn_5a, nI_clamp (by omega), h3 p hp5, vb_b01 s (by omega), vs_add]
    simp only [sm, if_pos hlt]
theorem x_sa {post : Int32 → Prop} {xc : Int32} {xo xr xp xm xb xs xq xn xu xl xg xk xt xw xv : Nat → Int32} {n : Nat} {O : Nat → Nat} (h : zRB n O (xc, xo, xr, xp, xm, xb, xs, xq, xn, xu, xl, xg, xk, xt, xw, xv)) {r c : Nat} (hr : r ≤ 2) (hc : c < 5) {s : Int32} (hs : ∀ j, 5 ≤ j → bt s j = false)
    (hp : ∀ z : Int, (bt s c = true → z = Vs r c s n O) → -9 ≤ z → z ≤ 45 → post (iI z)) : wpX_scoreAmong post (xc, xo, xr, xp, xm, xb, xs, xq, xn, xu, xl, xg, xk, xt, xw, xv) (nI r) (nI c) s := by
  have h0 := h
  obtain ⟨hn, h1, h2⟩ := h
  dsimp only at h1
  subst h1
  unfold wpX_scoreAmong
  dsimp only
  refine x_size (nm_r (e' := iI (szI s - 1)) (vs_sub (szI s) 1) ?_)
  have hsz := szI_bd s
  have hbd : ∀ i, i < n → -1 ≤ (if r = 0 then (if bh (O i) c s = szI s - 1 then (1 : Int) else 0) else if r = 1 then (if bh (O i) c s = 0 then -1 else 0) else bh (O i) c s) ∧ (if r = 0 then (if bh (O i) c s = szI s - 1 then (1 : Int) else 0) else if r = 1 then (if bh (O i) c s = 0 then -1 else 0) else bh (O i) c s) ≤ 5 := by
    intro i hi
    have := bh_bd (O i) c s
    split
    · split <;> omega
    · split
      · split <;> omega
      · omega
  refine vl_sum (fun m x5 x6 => wX_scoreAmong_14 post (nI r) (nI c) s (iI (szI s - 1)) (nI n) xo xr xp xm xb xs xq xn xu xl xg xk xt xw xv m x5 x6) post n (fun i => if r = 0 then (if bh (O i) c s = szI s - 1 then 1 else 0) else if r = 1 then (if bh (O i) c s = 0 then -1 else 0) else bh (O i) c s) ?_ ?_ ?_
  · intro m x hx
    rw [wX_scoreAmong_14]
    exact br_t (nI_le (Nat.le_refl n) (by omega)) hx
  · intro m i z hi hW
    rw [wX_scoreAmong_14]
    have hb := bh_bd (O i) c s
    refine br_f (nI_ge hi (by omega)) (x_mb (n := n) (O := O) h0 hi hc s ?_)
    refine pk_eq r 0 (fun e => ?_) (fun e => ?_)
    · rw [if_pos e] at hW
      refine vi_eq (bh (O i) c s) (szI s - 1) (fun e2 => ?_) (fun e2 => ?_)
      · rw [if_pos e2] at hW
        exact nm_r (vs_1 z) (nm_r (nI_1 i) hW)
      · rw [if_neg e2, Int.add_zero] at hW
        unfold wX_scoreAmong_50
        refine pk_eq r 1 (fun e3 => by omega) (fun e3 => ?_)
        unfold wX_scoreAmong_66
        exact pk_eq r 2 (fun e3 => by omega) (fun e3 => nm_r (nI_1 i) hW)
    · rw [if_neg e] at hW
      unfold wX_scoreAmong_50
      refine pk_eq r 1 (fun e3 => ?_) (fun e3 => ?_)
      · rw [if_pos e3] at hW
        refine vi_eq (bh (O i) c s) 0 (fun e2 => ?_) (fun e2 => ?_)
        · rw [if_pos e2] at hW
          exact nm_r (vs_m1 z) (nm_r (nI_1 i) hW)
        · rw [if_neg e2, Int.add_zero] at hW
          unfold wX_scoreAmong_66
          exact pk_eq r 2 (fun e3 => by omega) (fun e3 => nm_r (nI_1 i) hW)
      · rw [if_neg e3] at hW
        unfold wX_scoreAmong_66
        exact pk_eq r 2 (fun e3 => nm_r (vs_add z _) (nm_r (nI_1 i) hW)) (fun e4 => by omega)
  · have b1 := sm_lo (n := n) (k := -1) (fun i hi => (hbd i hi).1)
    have b2 := sm_hi (n := n) (k := 5) (fun i hi => (hbd i hi).2)
    refine hp _ (fun hb => sm_congr fun i hi => ?_) (by omega) (by omega)
    have := sz_split (h2 i hi).1 hc hb hs
    unfold vt
    by_cases e : r = 0
    · rw [if_pos e, if_pos e]
      by_cases e2 : bf (O i) c s = 0
      · rw [if_pos e2, if_pos (by omega)]
      · rw [if_neg e2, if_neg (by omega)]
    · rw [if_neg e, if_neg e]
theorem y_ar {post : Int32 → Prop} {yn yc : Int32} {yo yp ym ys yl yb yw yk yt yz yx : Nat → Int32} {n : Nat} {O : Nat → Nat} (h : zRY n O (yn, yc, yo, yp, ym, ys, yl, yb, yw, yk, yt, yz, yx)) {i c : Nat} (hi : i < n) (hc : c < 5) (s : Int32) (x4 : Int32)
    (hp : post (iI (if x4 = 0 then bf (O i) c s else bh (O i) c s))) : wpY_around post (yn, yc, yo, yp, ym, ys, yl, yb, yw, yk, yt, yz, yx) (nI i) (nI c) s x4 := by
  obtain ⟨hn, h1, h2⟩ := h
  have hB := h2 i hi
  have ho := hB.1
  have h4 : ∀ c, c < 5 → yp (5 * i + c) = nI (plc (O i) c) := hB.2.2
  unfold wpY_around
  dsimp only
  refine vl_sum (fun m x5 x6 => wY_around_6 post (nI i) (nI c) s x4 yn yc yo yp ym ys yl yb yw yk yt yz yx m x5 x6) post 5 (fun a => if x4 = 0 then b01 (bt s a && decide (plc (O i) a < plc (O i) c)) else b01 (bt s a && decide (plc (O i) c < plc (O i) a))) ?_ ?_ ?_
  · intro m x hx
    rw [wY_around_6]
    exact br_t (by decide) hx
  · intro m a z ha hW
    rw [wY_around_6]
    have pa := (rc_all ho ha).2.2.1
    have pc := (rc_all ho hc).2.2.1
    refine br_f (nI_ge (b := 5) ha (by decide)) ⟨by rw [vn_5b]; exact vp_in_nI (by omega) (by decide), by rw [vn_5b]; exact vp_in_nI (by omega) (by decide), nm_r (e' := iI ((plc (O i) a : Int) - plc (O i) c)) (by rw [vn_5b, vn_5b, nI_clamp (by omega), nI_clamp (by omega), h4 a ha, h4 c hc, ← vs_iN, ← vs_iN, vs_sub]) ?_⟩
    cases hbt : bt s a with
    | false =>
      refine br_f (fun hh => by rw [vb_has (by omega), hbt] at hh; cases hh) (nm_r (nI_1 a) ?_)
      simpa [hbt, b01] using hW
    | true =>
      refine br_t ((vb_has (by omega)).mpr hbt) ?_
      by_cases e : x4 = 0
      · refine br_t e ?_
        rw [if_pos e, hbt, Bool.true_and] at hW
        refine vi_le 0 _ (fun hle => nm_r (nI_1 a) ?_) (fun hlt => nm_r (vs_1 z) (nm_r (nI_1 a) ?_))
        · rw [decide_eq_false (by omega)] at hW
          simpa [b01] using hW
        · rw [decide_eq_true (by omega)] at hW
          exact hW
      · refine br_f e ?_
        rw [if_neg e, hbt, Bool.true_and] at hW
        refine vi_le _ 0 (fun hle => nm_r (nI_1 a) ?_) (fun hlt => nm_r (vs_1 z) (nm_r (nI_1 a) ?_))
        · rw [decide_eq_false (by omega)] at hW
          simpa [b01] using hW
        · rw [decide_eq_true (by omega)] at hW
          exact hW
  · by_cases e : x4 = 0
    · rw [if_pos e] at hp
      simp only [if_pos e]
      exact hp
    · rw [if_neg e] at hp
      simp only [if_neg e]
      exact hp
theorem y_va {post : Int32 → Prop} {yn yc : Int32} {yo yp ym ys yl yb yw yk yt yz yx : Nat → Int32} {n : Nat} {O : Nat → Nat} (h : zRY n O (yn, yc, yo, yp, ym, ys, yl, yb, yw, yk, yt, yz, yx)) {r c : Nat} (hr : r ≤ 2) (hc : c < 5) (s : Int32) (hp : post (iI (Vs r c s n O))) : wpY_value post (yn, yc, yo, yp, ym, ys, yl, yb, yw, yk, yt, yz, yx) (nI r) (nI c) s := by
  have h0 := h
  obtain ⟨hn, h1, h2⟩ := h
  dsimp only at h1
  subst h1
  unfold wpY_value
  dsimp only
  refine vl_sum (fun m x4 x5 => wY_value_6 post (nI r) (nI c) s (nI n) yc yo yp ym ys yl yb yw yk yt yz yx m x4 x5) post n (fun i => vt r (O i) c s) ?_ ?_ hp
  · intro m x hx
    rw [wY_value_6]
    exact br_t (nI_le (Nat.le_refl n) (by omega)) hx
  · intro m i z hi hW
    rw [wY_value_6]
    have b1 := bh_bd (O i) c s
    have b2 := bf_bd (O i) c s
    refine br_f (nI_ge hi (by omega)) (y_ar (n := n) (O := O) h0 hi hc s 1 ?_)
    rw [if_neg (by decide)]
    refine y_ar (n := n) (O := O) h0 hi hc s 0 ?_
    rw [if_pos rfl]
    unfold vt at hW
    refine pk_eq r 0 (fun e => ?_) (fun e => ?_)
    · rw [if_pos e] at hW
      refine vi_eq (bf (O i) c s) 0 (fun e2 => ?_) (fun e2 => ?_)
      · rw [if_pos e2] at hW
        refine nm_r (vs_1 z) ?_
        unfold wY_value_49
        refine pk_eq r 1 (fun e3 => by omega) (fun e3 => ?_)
        unfold wY_value_62
        exact pk_eq r 2 (fun e3 => by omega) (fun e3 => nm_r (nI_1 i) hW)
      · rw [if_neg e2, Int.add_zero] at hW
        unfold wY_value_49
        refine pk_eq r 1 (fun e3 => by omega) (fun e3 => ?_)
        unfold wY_value_62
        exact pk_eq r 2 (fun e3 => by omega) (fun e3 => nm_r (nI_1 i) hW)
    · rw [if_neg e] at hW
      unfold wY_value_49
      refine pk_eq r 1 (fun e3 => ?_) (fun e3 => ?_)
      · rw [if_pos e3] at hW
        refine vi_eq (bh (O i) c s) 0 (fun e2 => ?_) (fun e2 => ?_)
        · rw [if_pos e2] at hW
          refine nm_r (vs_m1 z) ?_
          unfold wY_value_62
          exact pk_eq r 2 (fun e3 => by omega) (fun e3 => nm_r (nI_1 i) hW)
        · rw [if_neg e2, Int.add_zero] at hW
          unfold wY_value_62
          exact pk_eq r 2 (fun e3 => by omega) (fun e3 => nm_r (nI_1 i) hW)
      · rw [if_neg e3] at hW
        unfold wY_value_62
        exact pk_eq r 2 (fun e3 => nm_r (vs_add z _) (nm_r (nI_1 i) hW)) (fun e4 => by omega)
end
section
/-! ===== victories, smallest margin, majority depth; score; the highest scores ===== -/
def Wn (n : Nat) (O : Nat → Nat) (c : Nat) : Int := sm 5 (fun d => if d = c then 0 else if 0 < Mg n O c d then 2 else if Mg n O c d = 0 then 1 else 0)
theorem x_vic {post : Int32 → Prop} {xc : Int32} {xo xr xp xm xb xs xq xn xu xl xg xk xt xw xv : Nat → Int32} {n : Nat} {O : Nat → Nat} (h : zRX n O (xc, xo, xr, xp, xm, xb, xs, xq, xn, xu, xl, xg, xk, xt, xw, xv)) {c : Nat} (hc : c < 5) (hp : post (iI (Wn n O c))) : wpX_victoryScore post (xc, xo, xr, xp, xm, xb, xs, xq, xn, xu, xl, xg, xk, xt, xw, xv) (nI c) := by
  unfold wpX_victoryScore
  dsimp only
  refine vl_sum (fun m x2 x3 => wX_victoryScore_4 post (nI c) xc xo xr xp xm xb xs xq xn xu xl xg xk xt xw xv m x2 x3) post 5 (fun d => if d = c then 0 else if 0 < Mg n O c d then 2 else if Mg n O c d = 0 then 1 else 0) ?_ ?_ hp
  · intro m x hx
    rw [wX_victoryScore_4]
    exact br_t (by decide) hx
  · intro m d z hd hW
    rw [wX_victoryScore_4]
    have hb1 := h.2.2 c hc d
    have hb2 := h.2.2 d hd c
    dsimp only at hb1 hb2
    have ha := Mg_anti n O c d
    refine br_f (nI_ge (b := 5) hd (by decide)) ⟨vp_in_nI hc (by decide), ?_⟩
    rw [nI_clamp (n := c) (by omega), nI_clamp (n := d) (by omega)]
    refine x_has (by omega) (fun e => br_f (by decide) ?_) (fun e => br_t rfl ?_)
    · have := (hb1.mp e).2
      have hne : d ≠ c := by rintro rfl; rw [Mg_self] at this; omega
      rw [if_neg hne, if_pos this] at hW
      exact nm_r (vs_2 z) (nm_r (nI_1 d) hW)
    · have hno : ¬ 0 < Mg n O c d := fun q => by rw [hb1.mpr ⟨hd, q⟩] at e; cases e
      refine pk_eq d c (fun e2 => ?_) (fun e2 => ⟨vp_in_nI hd (by decide), ?_⟩)
      · rw [if_pos e2, Int.add_zero] at hW
        exact nm_r (nI_1 d) hW
      · rw [if_neg e2, if_neg hno] at hW
        refine x_has (by omega) (fun e3 => br_f (by decide) ?_) (fun e3 => br_t rfl ?_)
        · have := (hb2.mp e3).2
          rw [if_neg (by omega), Int.add_zero] at hW
          exact nm_r (nI_1 d) hW
        · have hno2 : ¬ 0 < Mg n O d c := fun q => by rw [hb2.mpr ⟨hc, q⟩] at e3; cases e3
          rw [if_pos (by omega)] at hW
          exact nm_r (vs_1 z) (nm_r (nI_1 d) hW)
/-- the least margin of c over another among those below k, begun with z -/
def lmf (n : Nat) (O : Nat → Nat) (c : Nat) (z : Int) : Nat → Int
  | 0 => z
  | k + 1 => if k ≠ c ∧ Mg n O c k < lmf n O c z k then Mg n O c k else lmf n O c z k
theorem lmf_le (n : Nat) (O : Nat → Nat) (c : Nat) (z : Int) : ∀ k d, d < k → d ≠ c → lmf n O c z k ≤ Mg n O c d := by
  intro k
  induction k with
  | zero => intro d hd; omega
  | succ k ih =>
    intro d hd hne
    unfold lmf
    by_cases e : d = k
    · subst e
      split
      · exact Int.le_refl _
      · rename_i hh
        by_cases h2 : Mg n O c d < lmf n O c z d
        · exact absurd ⟨hne, h2⟩ hh
        · omega
    · have := ih d (by omega) hne
      split
      · rename_i hh; omega
      · exact this
theorem lmf_z (n : Nat) (O : Nat → Nat) (c : Nat) (z : Int) : ∀ k, lmf n O c z k ≤ z := by
  intro k
  induction k with
  | zero => exact Int.le_refl _
  | succ k ih => unfold lmf; split <;> omega
theorem lmf_9 (n : Nat) (O : Nat → Nat) (c : Nat) : ∀ k, (lmf n O c 100 k ≤ 9 → lmf n O c 9 k = lmf n O c 100 k) ∧ (9 ≤ lmf n O c 100 k → lmf n O c 9 k = 9) := by
  intro k
  induction k with
  | zero => exact ⟨fun h => by simp [lmf] at h, fun _ => rfl⟩
  | succ k ih =>
    obtain ⟨i1, i2⟩ := ih
    unfold lmf
    by_cases hk : k = c
    · simp only [hk, ne_eq, not_true_eq_false, false_and, if_false]
      rw [hk] at i1 i2
      exact ⟨i1, i2⟩
    · simp only [ne_eq, hk, not_false_eq_true, true_and]
      rcases Int.lt_or_le 9 (lmf n O c 100 k) with h9 | h9
      · have e := i2 (by omega)
        rw [e]
        split <;> split <;> constructor <;> intro <;> omega
      · have e := i1 h9
        rw [e]
        split <;> constructor <;> intro <;> omega
theorem lmf_eq {n : Nat} (hn : n ≤ 9) (O : Nat → Nat) {c : Nat} (hc : c < 5) : lmf n O c 100 5 = lmf n O c 9 5 := by
  refine ((lmf_9 n O c 5).1 ?_).symm
  by_cases h : c = 0
  · have h1 := lmf_le n O c 100 5 1 (by omega) (by omega)
    have := Mg_bd hn O c 1
    omega
  · have h1 := lmf_le n O c 100 5 0 (by omega) (by omega)
    have := Mg_bd hn O c 0
    omega
theorem lmf_bd {n : Nat} (hn : n ≤ 9) (O : Nat → Nat) (c : Nat) (z : Int) (hz : 9 ≤ z) : ∀ k, -9 ≤ lmf n O c z k := by
  intro k
  induction k with
  | zero => unfold lmf; omega
  | succ k ih =>
    have := Mg_bd hn O c k
    unfold lmf; split <;> omega
theorem x_smm {post : Int32 → Prop} {xc : Int32} {xo xr xp xm xb xs xq xn xu xl xg xk xt xw xv : Nat → Int32} {n : Nat} {O : Nat → Nat} (h : zRX n O (xc, xo, xr, xp, xm, xb, xs, xq, xn, xu, xl, xg, xk, xt, xw, xv)) {c : Nat} (hc : c < 5) (hp : post (iI (lmf n O c 9 5))) : wpX_smallestMargin post (xc, xo, xr, xp, xm, xb, xs, xq, xn, xu, xl, xg, xk, xt, xw, xv) (nI c) := by
  unfold wpX_smallestMargin
  dsimp only
  have hn := h.1.1
  refine pk_loop (σ := Int32) (fun m d x => wX_smallestMargin_5 post (nI c) xc xo xr xp xm xb xs xq xn xu xl xg xk xt xw xv m x (nI d)) (fun d x => x = iI (lmf n O c 9 d)) 5 0 9 (by omega) rfl ?_ ?_
  · rintro m x rfl
    rw [wX_smallestMargin_5]
    exact br_t (by decide) hp
  · rintro m d x hd rfl hK
    rw [wX_smallestMargin_5]
    have hm := h.2.1 c d hc hd
    dsimp only at hm
    have hb := Mg_bd hn O c d
    have hl := lmf_bd hn O c 9 (by omega) d
    have hz := lmf_z n O c 9 d
    refine br_f (nI_ge (b := 5) hd (by decide)) ⟨by rw [vn_5a]; exact vp_in_nI (by omega) (by decide), nm_r (e' := iI (Mg n O c d)) (by rw [vn_5a, nI_clamp (by omega), hm]) (pk_eq d c (fun e => ?_) (fun e => ?_))⟩
    · refine nm_r (nI_1 d) (hK _ ?_)
      rw [lmf, if_neg (by omega)]
    · refine vi_le (lmf n O c 9 d) (Mg n O c d) (fun hle => nm_r (nI_1 d) (hK _ ?_)) (fun hlt => nm_r (nI_1 d) (hK _ ?_))
      · rw [lmf, if_neg (by omega)]
      · rw [lmf, if_pos ⟨e, hlt⟩]
def wi (n : Nat) (O : Nat → Nat) (c k : Nat) : Int := sm n (fun i => if plc (O i) c < k then 1 else 0)
theorem wi_bd (n : Nat) (O : Nat → Nat) (c k : Nat) : 0 ≤ wi n O c k ∧ wi n O c k ≤ n := by
  have h1 := sm_lo (n := n) (k := 0) (f := fun i => if plc (O i) c < k then 1 else 0) (fun i _ => by split <;> omega)
  have h2 := sm_hi (n := n) (k := 1) (f := fun i => if plc (O i) c < k then 1 else 0) (fun i _ => by split <;> omega)
  unfold wi; omega
theorem x_wi {post : Int32 → Prop} {xc : Int32} {xo xr xp xm xb xs xq xn xu xl xg xk xt xw xv : Nat → Int32} {n : Nat} {O : Nat → Nat} (h : zRB n O (xc, xo, xr, xp, xm, xb, xs, xq, xn, xu, xl, xg, xk, xt, xw, xv)) {c k : Nat} (hc : c < 5) (hk : k ≤ 5) (hp : post (iI (wi n O c k))) : wpX_ballotsWithin post (xc, xo, xr, xp, xm, xb, xs, xq, xn, xu, xl, xg, xk, xt, xw, xv) (nI c) (nI k) := by
  obtain ⟨hn, h1, h2⟩ := h
  have h4 : ∀ i, i < n → ∀ c, c < 5 → xp (5 * i + c) = nI (plc (O i) c) := fun i hi => (h2 i hi).2.2.2
  dsimp only at h1
  subst h1
  unfold wpX_ballotsWithin
  dsimp only
  refine vl_sum (fun m x3 x4 => wX_ballotsWithin_5 post (nI c) (nI k) (nI n) xo xr xp xm xb xs xq xn xu xl xg xk xt xw xv m x3 x4) post n (fun i => if plc (O i) c < k then 1 else 0) ?_ ?_ hp
  · intro m x hx
    rw [wX_ballotsWithin_5]
    exact br_t (nI_le (Nat.le_refl n) (by omega)) hx
  · intro m i z hi hW
    rw [wX_ballotsWithin_5]
    have pa := (rc_all (h2 i hi).1 hc).2.2.1
    refine br_f (nI_ge hi (by omega)) ⟨by rw [vn_5a]; exact vp_in_nI (by omega) (by decide), ?_⟩
    rw [vn_5a, nI_clamp (by omega), h4 i hi c hc]
    refine pk_le _ _ (fun hle => nm_r (nI_1 i) ?_) (fun hlt => nm_r (vs_1 z) (nm_r (nI_1 i) ?_)) rfl rfl (by omega) (by omega)
    · rw [if_neg (by omega), Int.add_zero] at hW; exact hW
    · rw [if_pos hlt] at hW; exact hW
theorem y_wi {post : Int32 → Prop} {yn yc : Int32} {yo yp ym ys yl yb yw yk yt yz yx : Nat → Int32} {n : Nat} {O : Nat → Nat} (h : zRY n O (yn, yc, yo, yp, ym, ys, yl, yb, yw, yk, yt, yz, yx)) {c k : Nat} (hc : c < 5) (hk : k ≤ 5) (hp : post (iI (wi n O c k))) : wpY_within post (yn, yc, yo, yp, ym, ys, yl, yb, yw, yk, yt, yz, yx) (nI c) (nI k) := by
  obtain ⟨hn, h1, h2⟩ := h
  have h4 : ∀ i, i < n → ∀ c, c < 5 → yp (5 * i + c) = nI (plc (O i) c) := fun i hi => (h2 i hi).2.2
  dsimp only at h1
  subst h1
  unfold wpY_within
  dsimp only
  refine vl_sum (fun m x3 x4 => wY_within_5 post (nI c) (nI k) (nI n) yc yo yp ym ys yl yb yw yk yt yz yx m x3 x4) post n (fun i => if plc (O i) c < k then 1 else 0) ?_ ?_ hp
  · intro m x hx
    rw [wY_within_5]
    exact br_t (nI_le (Nat.le_refl n) (by omega)) hx
  · intro m i z hi hW
    rw [wY_within_5]
    have pa := (rc_all (h2 i hi).1 hc).2.2.1
    refine br_f (nI_ge hi (by omega)) ⟨by rw [vn_5b]; exact vp_in_nI (by omega) (by decide), ?_⟩
    rw [vn_5b, nI_clamp (by omega), h4 i hi c hc]
    refine pk_le _ _ (fun hle => nm_r (nI_1 i) ?_) (fun hlt => nm_r (vs_1 z) (nm_r (nI_1 i) ?_)) rfl rfl (by omega) (by omega)
    · rw [if_neg (by omega), Int.add_zero] at hW; exact hW
    · rw [if_pos hlt] at hW; exact hW
def mjb (n : Nat) (O : Nat → Nat) (k : Nat) : Prop := ∃ d, d < 5 ∧ (n : Int) < 2 * wi n O d k
/-- k is the depth: the first of 1 .. 4 with a majority, or 5 -/
def isD (n : Nat) (O : Nat → Nat) (k : Nat) : Prop := 1 ≤ k ∧ k ≤ 5 ∧ (k < 5 → mjb n O k) ∧ ∀ j, 1 ≤ j → j < k → ¬ mjb n O j
theorem isD_u {n : Nat} {O : Nat → Nat} {k k' : Nat} (h : isD n O k) (h' : isD n O k') : k = k' := by
  rcases Nat.lt_trichotomy k k' with g | g | g
  · exact absurd (h.2.2.1 (by have := h'.2.1; omega)) (h'.2.2.2 k h.1 g)
  · exact g
  · exact absurd (h'.2.2.1 (by have := h.2.1; omega)) (h.2.2.2 k' h'.1 g)
theorem x_maj {post : Int32 → Prop} {xc : Int32} {xo xr xp xm xb xs xq xn xu xl xg xk xt xw xv : Nat → Int32} {n : Nat} {O : Nat → Nat} (h : zRB n O (xc, xo, xr, xp, xm, xb, xs, xq, xn, xu, xl, xg, xk, xt, xw, xv)) {c : Nat} (hc : c < 5) (hp : ∀ k, isD n O k → post (iI (wi n O c k))) : wpX_majorityScore post (xc, xo, xr, xp, xm, xb, xs, xq, xn, xu, xl, xg, xk, xt, xw, xv) (nI c) := by
  have hn := h.1
  have h1 := h.2.1
  dsimp only at h1
  unfold wpX_majorityScore
  dsimp only
  refine pk_loop (σ := Int32 × Int32) (fun m k s => wX_majorityScore_7 post (nI c) xc xo xr xp xm xb xs xq xn xu xl xg xk xt xw xv m s.1 s.2 (nI k)) (fun k s => 1 ≤ k ∧ ((s.1 = 0 ∧ (∀ j, 1 ≤ j → j < k → ¬ mjb n O j) ∧ (1 < k → s.2 = iI (wi n O c (k - 1)))) ∨ (s.1 = 1 ∧ 1 < k ∧ s.2 = iI (wi n O c (k - 1)) ∧ mjb n O (k - 1) ∧ ∀ j, 1 ≤ j → j < k - 1 → ¬ mjb n O j))) 6 1 (0, 0) (by omega) ⟨by omega, Or.inl ⟨rfl, fun j a b => by omega, fun z => by omega⟩⟩ ?_ ?_
  · rintro m ⟨x2, x3⟩ ⟨_, hs⟩
    dsimp only at hs ⊢
    rw [wX_majorityScore_7]
    refine br_t (by decide) ?_
    rcases hs with ⟨_, a, b⟩ | ⟨_, _, b, d, a⟩
    · rw [b (by omega)]
      exact hp 5 ⟨by omega, by omega, fun z => by omega, fun j u v => a j u (by omega)⟩
    · rw [b]
      exact hp 5 ⟨by omega, by omega, fun z => by omega, fun j u v => a j u (by omega)⟩
  · rintro m k ⟨x2, x3⟩ hk ⟨hk1, hs⟩ hK
    dsimp only at hs hK ⊢
    rw [wX_majorityScore_7]
    refine br_f (nI_nlt (b := k) (a := 5) (by omega) (by omega)) ?_
    rcases hs with ⟨e, a, b⟩ | ⟨e, k1, b, d, a⟩
    · subst e
      refine br_t rfl (x_wi h hc (by omega) ?_)
      refine pk_loop (σ := Int32) (fun m' d x => wX_majorityScore_28 post (wX_majorityScore_7 post (nI c) xc xo xr xp xm xb xs xq xn xu xl xg xk xt xw xv m) (nI c) (iI (wi n O c k)) (nI k) xc xo xr xp xm xb xs xq xn xu xl xg xk xt xw xv m' x (nI d)) (fun d x => (x = 0 ∧ ∀ d', d' < d → ¬ (n : Int) < 2 * wi n O d' k) ∨ (x = 1 ∧ ∃ d', d' < d ∧ (n : Int) < 2 * wi n O d' k)) 5 0 0 (by omega) (Or.inl ⟨rfl, fun d' z => by omega⟩) ?_ ?_
      · rintro m' x hx
        rw [wX_majorityScore_28]
        refine br_t (by decide) (nm_r (nI_1 k) (hK (x, iI (wi n O c k)) ⟨by omega, ?_⟩))
        rcases hx with ⟨e, g⟩ | ⟨e, g⟩
        · refine Or.inl ⟨e, fun j u v => ?_, fun _ => rfl⟩
          by_cases ej : j = k
          · subst ej
            rintro ⟨d, hd, hm⟩
            exact g d hd hm
          · exact a j u (by omega)
        · exact Or.inr ⟨e, by omega, rfl, by obtain ⟨d, hd, hm⟩ := g; exact ⟨d, hd, hm⟩, fun j u v => a j u (by omega)⟩
      · rintro m' d x hd hx hK'
        rw [wX_majorityScore_28]
        have hw := wi_bd n O d k
        refine br_f (nI_ge (b := 5) hd (by decide)) ?_
        rcases hx with ⟨e, g⟩ | ⟨e, g⟩
        · subst e
          refine br_t rfl (x_wi h hd (by omega) ?_)
          refine vi_le (2 * wi n O d k) (n : Int) (fun hle => nm_r (nI_1 d) (hK' 0 (Or.inl ⟨rfl, fun d' z => ?_⟩))) (fun hlt => nm_r (nI_1 d) (hK' 1 (Or.inr ⟨rfl, d, by omega, hlt⟩))) (vs_mul 2 _) (by rw [h1, vs_iN])
          by_cases ed : d' = d
          · subst ed; omega
          · exact g d' (by omega)
        · subst e
          obtain ⟨d', u, v⟩ := g
          exact br_f (by decide) (nm_r (nI_1 d) (hK' 1 (Or.inr ⟨rfl, d', by omega, v⟩)))
    · subst e
      refine br_f (by decide) ?_
      rw [b]
      exact hp (k - 1) ⟨by omega, by omega, fun _ => d, a⟩
theorem y_dep {post : Int32 → Prop} {yn yc : Int32} {yo yp ym ys yl yb yw yk yt yz yx : Nat → Int32} {n : Nat} {O : Nat → Nat} (h : zRY n O (yn, yc, yo, yp, ym, ys, yl, yb, yw, yk, yt, yz, yx)) (hp : ∀ k, isD n O k → post (nI k)) : wpY_depth post (yn, yc, yo, yp, ym, ys, yl, yb, yw, yk, yt, yz, yx) := by
  have hn := h.1
  have h1 := h.2.1
  dsimp only at h1
  unfold wpY_depth
  dsimp only
  refine pk_loop (σ := Unit) (fun m k _ => wY_depth_2 post yn yc yo yp ym ys yl yb yw yk yt yz yx m (nI k)) (fun k _ => 1 ≤ k ∧ ∀ j, 1 ≤ j → j < k → ¬ mjb n O j) 5 1 () (by omega) ⟨by omega, fun j a b => by omega⟩ ?_ ?_
  · rintro m _ ⟨_, hs⟩
    rw [wY_depth_2]
    exact br_t (by decide) (hp 5 ⟨by omega, by omega, fun z => by omega, hs⟩)
  · rintro m k _ hk ⟨hk1, hs⟩ hK
    rw [wY_depth_2]
    refine br_f (nI_ge (b := 5) hk (by decide)) ?_
    refine pk_loop (σ := Unit) (fun m' d _ => wY_depth_9 post (wY_depth_2 post yn yc yo yp ym ys yl yb yw yk yt yz yx m) (nI k) yn yc yo yp ym ys yl yb yw yk yt yz yx m' (nI d)) (fun d _ => ∀ d', d' < d → ¬ (n : Int) < 2 * wi n O d' k) 5 0 () (by omega) (fun d' z => by omega) ?_ ?_
    · rintro m' _ hx
      rw [wY_depth_9]
      refine br_t (by decide) (nm_r (nI_1 k) (hK () ⟨by omega, fun j u v => ?_⟩))
      by_cases ej : j = k
      · subst ej
        rintro ⟨d, hd, hm⟩
        exact hx d hd hm
      · exact hs j u (by omega)
    · rintro m' d _ hd hx hK'
      rw [wY_depth_9]
      have hw := wi_bd n O d k
      refine br_f (nI_ge (b := 5) hd (by decide)) (y_wi h hd (by omega) ?_)
      refine vi_le (2 * wi n O d k) (n : Int) (fun hle => nm_r (nI_1 d) (hK' () (fun d' z => ?_))) (fun hlt => hp k ⟨hk1, by omega, fun _ => ⟨d, hd, hlt⟩, hs⟩) (vs_mul 2 _) (by rw [h1, vs_iN])
      by_cases ed : d' = d
      · subst ed; omega
      · exact hx d' (by omega)
/-- z is the score of c by rule r -/
def isSc (n : Nat) (O : Nat → Nat) (r c : Nat) (z : Int) : Prop := (r ≤ 2 → z = Vs r c 31 n O) ∧ (r = 3 → z = Wn n O c) ∧ (r = 4 → z = lmf n O c 9 5) ∧ (r = 5 → ∃ k, isD n O k ∧ z = wi n O c k)
theorem isSc_u {n : Nat} {O : Nat → Nat} {r c : Nat} {z z' : Int} (hr : r ≤ 5) (h : isSc n O r c z) (h' : isSc n O r c z') : z = z' := by
  by_cases h2 : r ≤ 2
  · rw [h.1 h2, h'.1 h2]
  · by_cases h3 : r = 3
    · rw [h.2.1 h3, h'.2.1 h3]
    · by_cases h4 : r = 4
      · rw [h.2.2.1 h4, h'.2.2.1 h4]
      · obtain ⟨k, a, b⟩ := h.2.2.2 (by omega)
        obtain ⟨k', a', b'⟩ := h'.2.2.2 (by omega)
        rw [b, b', isD_u a a']
theorem Wn_bd (n : Nat) (O : Nat → Nat) (c : Nat) : 0 ≤ Wn n O c ∧ Wn n O c ≤ 10 := by
  have h1 := sm_lo (n := 5) (k := 0) (f := fun d => if d = c then 0 else if 0 < Mg n O c d then 2 else if Mg n O c d = 0 then 1 else 0) (fun i _ => by split; omega; split; omega; split <;> omega)
  have h2 := sm_hi (n := 5) (k := 2) (f := fun d => if d = c then 0 else if 0 < Mg n O c d then 2 else if Mg n O c d = 0 then 1 else 0) (fun i _ => by split; omega; split; omega; split <;> omega)
  unfold Wn; omega
theorem isSc_bd {n : Nat} (hn : n ≤ 9) {O : Nat → Nat} {r c : Nat} {z : Int} (hr : r ≤ 5) (h : isSc n O r c z) : -9 ≤ z ∧ z ≤ 45 := by
  by_cases h2 : r ≤ 2
  · rw [h.1 h2]; exact Vs_bd hn r c 31 O
  · by_cases h3 : r = 3
    · rw [h.2.1 h3]; have := Wn_bd n O c; omega
    · by_cases h4 : r = 4
      · rw [h.2.2.1 h4]
        have := lmf_bd hn O c 9 (by omega) 5
        have := lmf_z n O c 9 5
        omega
      · obtain ⟨k, a, b⟩ := h.2.2.2 (by omega)
        rw [b]; have := wi_bd n O c k; omega
theorem b31_hi : ∀ j, 5 ≤ j → bt 31 j = false := by
  intro j hj; rw [vb_31, decide_eq_false (by omega)]
theorem x_so {post : Int32 → Prop} {xc : Int32} {xo xr xp xm xb xs xq xn xu xl xg xk xt xw xv : Nat → Int32} {n : Nat} {O : Nat → Nat} (h : zRX n O (xc, xo, xr, xp, xm, xb, xs, xq, xn, xu, xl, xg, xk, xt, xw, xv)) {r c : Nat} (hr : r ≤ 5) (hc : c < 5) (hp : ∀ z, isSc n O r c z → post (iI z)) : wpX_scoreOf post (xc, xo, xr, xp, xm, xb, xs, xq, xn, xu, xl, xg, xk, xt, xw, xv) (nI r) (nI c) := by
  unfold wpX_scoreOf
  dsimp only
  refine pk_lt r 3 (fun hlt => ?_) (fun hge => ?_)
  · exact x_sa h.1 (by omega) hc b31_hi (fun z hz _ _ => hp z ⟨fun _ => hz (by rw [vb_31]; simpa using hc), fun e => by omega, fun e => by omega, fun e => by omega⟩)
  · refine pk_lt 5 r (fun hlt => by omega) (fun _ => ?_)
    refine pk_eq r 3 (fun e => ?_) (fun e3 => ?_)
    · exact x_vic h hc (hp _ ⟨fun e => by omega, fun _ => rfl, fun e => by omega, fun e => by omega⟩)
    · refine pk_eq r 4 (fun e => ?_) (fun e4 => ?_)
      · exact x_smm h hc (hp _ ⟨fun e => by omega, fun e => by omega, fun _ => rfl, fun e => by omega⟩)
      · refine pk_eq r 5 (fun e => ?_) (fun e5 => by omega)
        exact x_maj h.1 hc (fun k hk => hp _ ⟨fun e => by omega, fun e => by omega, fun e => by omega, fun _ => ⟨k, hk, rfl⟩⟩)
theorem y_so {post : Int32 → Prop} {yn yc : Int32} {yo yp ym ys yl yb yw yk yt yz yx : Nat → Int32} {n : Nat} {O : Nat → Nat} (h : zRYM n O (yn, yc, yo, yp, ym, ys, yl, yb, yw, yk, yt, yz, yx)) {r c : Nat} (hr : r ≤ 5) (hc : c < 5) (hp : ∀ z, isSc n O r c z → post (iI z)) : wpY_scoreOf post (yn, yc, yo, yp, ym, ys, yl, yb, yw, yk, yt, yz, yx) (nI r) (nI c) := by
  have hn := h.1.1
  unfold wpY_scoreOf
  dsimp only
  refine pk_lt 2 r (fun hlt => ?_) (fun hge => ?_)
  · refine pk_eq r 5 (fun e => ?_) (fun e5 => ?_)
    · refine y_dep h.1 (fun k hk => ?_)
      exact y_wi h.1 hc hk.2.1 (hp _ ⟨fun e => by omega, fun e => by omega, fun e => by omega, fun _ => ⟨k, hk, rfl⟩⟩)
    · refine pk_loop (σ := Int32 × Int32) (fun m b s => wY_scoreOf_40 post (nI r) (nI c) yn yc yo yp ym ys yl yb yw yk yt yz yx m s.1 s.2 (nI b)) (fun b s => s = (iI (sm b (fun d => if d = c then 0 else if 0 < Mg n O c d then 2 else if Mg n O c d = 0 then 1 else 0)), iI (lmf n O c 100 b))) 5 0 (0, 100) (by omega) rfl ?_ ?_
      · rintro m s rfl
        rw [wY_scoreOf_40]
        refine br_t (by decide) (pk_eq r 3 (fun e => hp _ ⟨fun e => by omega, fun _ => rfl, fun e => by omega, fun e => by omega⟩) (fun e => hp _ ⟨fun e => by omega, fun e => by omega, fun _ => lmf_eq hn O hc, fun e => by omega⟩))
      · rintro m b s hb rfl hK
        rw [wY_scoreOf_40]
        have hm := h.2 c b hc hb
        dsimp only at hm hK ⊢
        have hbd := Mg_bd hn O c b
        have hl := lmf_bd hn O c 100 (by omega) b
        have hz := lmf_z n O c 100 b
        refine br_f (nI_ge (b := 5) hb (by decide)) ⟨by rw [vn_5b]; exact vp_in_nI (by omega) (by decide), nm_r (e' := iI (Mg n O c b)) (by rw [vn_5b, nI_clamp (by omega), hm]) ?_⟩
        have hK2 := hK _ rfl
        have tail : ∀ x3 : Int32, x3 = iI (sm (b + 1) (fun d => if d = c then 0 else if 0 < Mg n O c d then 2 else if Mg n O c d = 0 then 1 else 0)) → wY_scoreOf_87 post (wY_scoreOf_40 post (nI r) (nI c) yn yc yo yp ym ys yl yb yw yk yt yz yx m) (nI r) (nI c) x3 (iI (lmf n O c 100 b)) (nI b) (iI (Mg n O c b)) yn yc yo yp ym ys yl yb yw yk yt yz yx := by
          rintro x3 rfl
          unfold wY_scoreOf_87
          refine pk_eq b c (fun e => nm_r (nI_1 b) ?_) (fun e => vi_le (lmf n O c 100 b) (Mg n O c b) (fun hle => nm_r (nI_1 b) ?_) (fun hlt => nm_r (nI_1 b) ?_))
          · rw [lmf, if_neg (by omega)] at hK2; exact hK2
          · rw [lmf, if_neg (by omega)] at hK2; exact hK2
          · rw [lmf, if_pos ⟨e, hlt⟩] at hK2; exact hK2
        refine pk_eq b c (fun e => tail _ ?_) (fun e => vi_le (Mg n O c b) 0 (fun hle => vi_eq (Mg n O c b) 0 (fun e0 => ?_) (fun e0 => ?_)) (fun hlt => ?_))
        · simp only [sm]; rw [if_pos e, Int.add_zero]
        · unfold wY_scoreOf_85
          refine nm_e (tail _ ?_)
          simp only [sm]; rw [if_neg e, if_neg (by omega), if_pos e0]; exact vs_1 _
        · unfold wY_scoreOf_85
          refine nm_e (tail _ ?_)
          simp only [sm]; rw [if_neg e, if_neg (by omega), if_neg e0]; exact vs_add _ 0
        · unfold wY_scoreOf_85
          refine nm_e (tail _ ?_)
          simp only [sm]; rw [if_neg e, if_pos hlt]; exact vs_2 _
  · exact y_va h.1 (by omega) hc 31 (hp _ ⟨fun _ => rfl, fun e => by omega, fun e => by omega, fun e => by omega⟩)
theorem i_vc_score {k : Nat} {u : SX} {v : SY} (I : i_Rel k u v) (hk : k + 3 ≤ 1536) (v1 : Int32) (v2 : Int32) : wpX_score (fun r => wpY_score (fun r' v' => r' = r ∧ i_Rel (k + 3) u v') v v1 v2) u v1 v2 := by
  have I0 := I
  obtain ⟨n, O, hX, hY⟩ := I
  obtain ⟨xc, xo, xr, xp, xm, xb, xs, xq, xn, xu, xl, xg, xk, xt, xw, xv⟩ := u
  obtain ⟨yn, yc, yo, yp, ym, ys, yl, yb, yw, yk, yt, yz, yx⟩ := v
  unfold wpX_score
  dsimp only
  have bad : (∀ r, r ≤ 5 → v1 ≠ nI r) → wpY_score (fun r' v' => r' = -1000 ∧ i_Rel (k + 3) (xc, xo, xr, xp, xm, xb, xs, xq, xn, xu, xl, xg, xk, xt, xw, xv) v') (yn, yc, yo, yp, ym, ys, yl, yb, yw, yk, yt, yz, yx) v1 v2 := by
    intro hno
    unfold wpY_score
    dsimp only
    exact y_in 0 5 rfl (by decide) (fun _ => br_t rfl ⟨rfl, I0⟩) (fun j _ hj e => absurd e (hno j hj))
  by_cases hn : v1 < 0
  · refine br_t hn (bad fun r hr e => ?_)
    subst e
    exact nI_pos (by omega) hn
  · obtain ⟨r, hr, rfl⟩ := nI_of hn
    refine br_f hn (pk_lt 5 r (fun h5 => bad fun r' hr' e => ?_) (fun h5 => ?_) rfl rfl (by omega) hr)
    · rw [nI_eq hr (by omega)] at e; omega
    · refine x_cand (fun hno => br_t rfl ?_) (fun c hc e => br_f (by decide) ?_)
      · unfold wpY_score
        dsimp only
        refine y_in 0 5 rfl (by decide) (fun hh => absurd rfl (hh r (by omega) h5)) (fun _ _ _ _ => br_f (by decide) ?_)
        exact y_in 0 4 rfl (by decide) (fun _ => br_t rfl ⟨rfl, I0⟩) (fun j _ hj e => absurd e (hno j (by omega)))
      · subst e
        refine x_so hX h5 hc (fun z hz => ?_)
        unfold wpY_score
        dsimp only
        refine y_in 0 5 rfl (by decide) (fun hh => absurd rfl (hh r (by omega) h5)) (fun _ _ _ _ => br_f (by decide) ?_)
        refine y_in 0 4 rfl (by decide) (fun hh => absurd rfl (hh c (by omega) (by omega))) (fun _ _ _ _ => br_f (by decide) ?_)
        refine y_ct hY (fun m' hM => y_so hM h5 hc (fun z' hz' => ⟨?_, n, O, hX, hM.1⟩))
        rw [isSc_u h5 hz hz']
end
section
/-! ===== rules 0 to 5: the highest scores ===== -/
def WS (n : Nat) (O : Nat → Nat) (r : Nat) (i : Nat) : Prop := ∃ z, isSc n O r i z ∧ ∀ d, d < 5 → ∀ z', isSc n O r d z' → z' ≤ z
/-- where the search for the highest stands: B the best, s those with it, among the first c -/
def hiS (n : Nat) (O : Nat → Nat) (r c : Nat) (B : Int) (s : Int32) : Prop := isSet s (fun i => i < c ∧ isSc n O r i B) ∧ (∀ d, d < c → ∀ z, isSc n O r d z → z ≤ B) ∧ (0 < c → ∃ i, i < c ∧ isSc n O r i B)
theorem hi_end {n : Nat} {O : Nat → Nat} {r : Nat} {B : Int} {s : Int32} (h : hiS n O r 5 B s) : isSet s (WS n O r) := by
  obtain ⟨h1, h2, h3⟩ := h
  refine vb_congr h1 (fun i hi => ⟨fun a => ⟨B, a.2, h2⟩, ?_⟩)
  rintro ⟨z, hz, hm⟩
  obtain ⟨j, hj, hB⟩ := h3 (by omega)
  have a := hm j hj B hB
  have b := h2 i hi z hz
  have : z = B := by omega
  exact ⟨hi, this ▸ hz⟩
theorem hi_new {n : Nat} {O : Nat → Nat} {r c : Nat} {B z : Int} {s : Int32} (hr : r ≤ 5) (hc : c < 5) (h : hiS n O r c B s) (hz : isSc n O r c z) (hlt : B < z) : hiS n O r (c + 1) z (0 ||| ((1 : Int32) <<< (nI c &&& 31))) := by
  obtain ⟨h1, h2, h3⟩ := h
  refine ⟨vb_congr (vb_ins vb_empty hc) (fun i hi => ⟨?_, ?_⟩), fun d hd z' hz' => ?_, fun _ => ⟨c, by omega, hz⟩⟩
  · rintro (a | rfl)
    · exact a.elim
    · exact ⟨by omega, hz⟩
  · rintro ⟨a, b⟩
    by_cases e : i = c
    · exact Or.inr e
    · have := h2 i (by omega) z b
      omega
  · by_cases e : d = c
    · subst e
      rw [isSc_u hr hz hz']; exact Int.le_refl _
    · have := h2 d (by omega) z' hz'
      omega
theorem hi_same {n : Nat} {O : Nat → Nat} {r c : Nat} {B : Int} {s : Int32} (hr : r ≤ 5) (hc : c < 5) (h : hiS n O r c B s) (hz : isSc n O r c B) : hiS n O r (c + 1) B (s ||| ((1 : Int32) <<< (nI c &&& 31))) := by
  obtain ⟨h1, h2, h3⟩ := h
  refine ⟨vb_congr (vb_ins h1 hc) (fun i hi => ⟨?_, ?_⟩), fun d hd z' hz' => ?_, fun _ => ⟨c, by omega, hz⟩⟩
  · rintro (a | rfl)
    · exact ⟨by omega, a.2⟩
    · exact ⟨by omega, hz⟩
  · rintro ⟨a, b⟩
    by_cases e : i = c
    · exact Or.inr e
    · exact Or.inl ⟨by omega, b⟩
  · by_cases e : d = c
    · subst e
      rw [isSc_u hr hz hz']; exact Int.le_refl _
    · exact h2 d (by omega) z' hz'
theorem hi_less {n : Nat} {O : Nat → Nat} {r c : Nat} {B z : Int} {s : Int32} (hr : r ≤ 5) (h0 : 0 < c) (h : hiS n O r c B s) (hz : isSc n O r c z) (hlt : z < B) : hiS n O r (c + 1) B s := by
  obtain ⟨h1, h2, h3⟩ := h
  refine ⟨vb_congr h1 (fun i hi => ⟨fun a => ⟨by omega, a.2⟩, fun a => ⟨?_, a.2⟩⟩), fun d hd z' hz' => ?_, fun _ => ?_⟩
  · by_cases e : i = c
    · subst e
      have := isSc_u hr hz a.2
      omega
    · omega
  · by_cases e : d = c
    · subst e
      have := isSc_u hr hz hz'
      omega
    · exact h2 d (by omega) z' hz'
  · obtain ⟨i, a, b⟩ := h3 h0
    exact ⟨i, by omega, b⟩
theorem x_gs {post : Int32 → Prop} {xc : Int32} {xo xr xp xm xb xs xq xn xu xl xg xk xt xw xv : Nat → Int32} {n : Nat} {O : Nat → Nat} (h : zRX n O (xc, xo, xr, xp, xm, xb, xs, xq, xn, xu, xl, xg, xk, xt, xw, xv)) {r : Nat} (hr : r ≤ 5) (hp : ∀ s, isSet s (WS n O r) → post s) : wpX_greatestScores post (xc, xo, xr, xp, xm, xb, xs, xq, xn, xu, xl, xg, xk, xt, xw, xv) (nI r) := by
  have hn := h.1.1
  unfold wpX_greatestScores
  dsimp only
  refine x_so h hr (c := 0) (by omega) (fun z0 hz0 => ?_)
  refine pk_loop (σ := Int32 × Int32) (fun m c s => wX_greatestScores_12 post (nI r) xc xo xr xp xm xb xs xq xn xu xl xg xk xt xw xv m s.1 s.2 (nI c)) (fun c s => 0 < c ∧ ∃ B, s.1 = iI B ∧ -9 ≤ B ∧ B ≤ 45 ∧ hiS n O r c B s.2) 5 1 (iI z0, 1) (by omega) ?_ ?_ ?_
  · have hb := isSc_bd hn hr hz0
    refine ⟨by omega, z0, rfl, hb.1, hb.2, ?_, fun d hd z hz => ?_, fun _ => ⟨0, by omega, hz0⟩⟩
    · intro i
      dsimp only
      constructor
      · intro hbt
        have hi : i < 32 := by
          rcases Nat.lt_or_ge i 32 with g | g
          · exact g
          · rw [b_big g] at hbt; cases hbt
        rw [vb_1 i hi, decide_eq_true_eq] at hbt
        subst hbt
        exact ⟨by omega, by omega, hz0⟩
      · rintro ⟨a, b, c⟩
        have : i = 0 := by omega
        subst this
        exact vb_1 0 (by omega)
    · have : d = 0 := by omega
      subst this
      rw [isSc_u hr hz0 hz]; exact Int.le_refl _
  · rintro m ⟨x2, x3⟩ ⟨_, B, _, _, _, hs⟩
    dsimp only at hs ⊢
    rw [wX_greatestScores_12]
    exact br_t (by decide) (hp _ (hi_end hs))
  · rintro m c ⟨x2, x3⟩ hc ⟨h0, B, e, hb1, hb2, hs⟩ hK
    dsimp only at hs e hK ⊢
    subst e
    rw [wX_greatestScores_12]
    refine br_f (nI_ge (b := 5) hc (by decide)) (x_so h hr hc (fun z hz => ?_))
    have hb := isSc_bd hn hr hz
    refine vi_le z B (fun hle => ?_) (fun hlt => ?_)
    · unfold wX_greatestScores_38
      refine vi_eq z B (fun e => ?_) (fun e => ?_)
      · subst e
        exact nm_e (nm_r (nI_1 c) (hK (iI z, x3 ||| ((1 : Int32) <<< (nI c &&& 31))) ⟨by omega, z, rfl, hb1, hb2, hi_same hr hc hs hz⟩))
      · exact nm_r (nI_1 c) (hK (iI B, x3) ⟨by omega, B, rfl, hb1, hb2, hi_less hr h0 hs hz (by omega)⟩)
    · unfold wX_greatestScores_38
      exact br_t rfl (nm_e (nm_r (nI_1 c) (hK (iI z, 0 ||| ((1 : Int32) <<< (nI c &&& 31))) ⟨by omega, z, rfl, hb.1, hb.2, hi_new hr hc hs hz hlt⟩)))
theorem y_hi {post : Int32 → Prop} {yn yc : Int32} {yo yp ym ys yl yb yw yk yt yz yx : Nat → Int32} {n : Nat} {O : Nat → Nat} (h : zRYM n O (yn, yc, yo, yp, ym, ys, yl, yb, yw, yk, yt, yz, yx)) {r : Nat} (hr : r ≤ 5) (hp : ∀ s, isSet s (WS n O r) → post s) : wpY_highest post (yn, yc, yo, yp, ym, ys, yl, yb, yw, yk, yt, yz, yx) (nI r) := by
  have hn := h.1.1
  unfold wpY_highest
  dsimp only
  refine pk_loop (σ := Int32 × Int32) (fun m c s => wY_highest_9 post (nI r) yn yc yo yp ym ys yl yb yw yk yt yz yx m s.1 s.2 (nI c)) (fun c s => ∃ B, s.2 = iI B ∧ -1000 ≤ B ∧ B ≤ 45 ∧ (c = 0 → B = -1000) ∧ hiS n O r c B s.1) 5 0 (0, -1000) (by omega) ?_ ?_ ?_
  · exact ⟨-1000, by decide, by omega, by omega, fun _ => rfl, vb_congr vb_empty (fun i _ => by simp), fun d hd => by omega, fun z => by omega⟩
  · rintro m ⟨x2, x3⟩ ⟨B, _, _, _, _, hs⟩
    dsimp only at hs ⊢
    rw [wY_highest_9]
    exact br_t (by decide) (hp _ (hi_end hs))
  · rintro m c ⟨x2, x3⟩ hc ⟨B, e, hb1, hb2, h0, hs⟩ hK
    dsimp only at hs e hK ⊢
    subst e
    rw [wY_highest_9]
    refine br_f (nI_ge (b := 5) hc (by decide)) (y_so h hr hc (fun z hz => ?_))
    have hb := isSc_bd hn hr hz
    refine vi_le z B (fun hle => ?_) (fun hlt => ?_)
    · unfold wY_highest_32
      refine vi_le z B (fun _ => ?_) (fun hlt => by omega)
      unfold wY_highest_41
      refine vi_eq z B (fun e => ?_) (fun e => ?_)
      · subst e
        exact nm_e (nm_r (nI_1 c) (hK (x2 ||| ((1 : Int32) <<< (nI c &&& 31)), iI z) ⟨z, rfl, hb1, hb2, fun e => by omega, hi_same hr hc hs hz⟩))
      · have hc0 : 0 < c := by
          rcases Nat.eq_zero_or_pos c with g | g
          · have := h0 g; omega
          · exact g
        exact nm_r (nI_1 c) (hK (x2, iI B) ⟨B, rfl, hb1, hb2, fun e => by omega, hi_less hr hc0 hs hz (by omega)⟩)
    · unfold wY_highest_32
      refine vi_le z B (fun hle => by omega) (fun _ => ?_)
      unfold wY_highest_41
      exact br_t rfl (nm_e (nm_r (nI_1 c) (hK (0 ||| ((1 : Int32) <<< (nI c &&& 31)), iI z) ⟨z, rfl, by omega, hb.2, fun e => by omega, hi_new hr hc hs hz hlt⟩)))
end
section
/-! ===== rules 6, 7, 8: eliminations ===== -/
theorem nb1 : vp_nar .boolean 1 = 1 := by rfl
theorem nb0 : vp_nar .boolean 0 = 0 := by rfl
def rmv (s c : Nat) : Nat := if s.testBit c then s - 2 ^ c else s
def sgb (s : Nat) : Bool := s == 1 || s == 2 || s == 4 || s == 8 || s == 16
theorem rmv_I : ∀ s, s < 32 → ∀ c, c < 5 → nI s &&& (((1 : Int32) <<< (nI c &&& 31)) ^^^ (-1)) = nI (rmv s c) := by decide +kernel
theorem rmv_lt : ∀ s, s < 32 → ∀ c, c < 5 → s.testBit c = true → rmv s c < s := by decide +kernel
theorem rmv_32 : ∀ s, s < 32 → ∀ c, c < 5 → rmv s c < 32 := by decide +kernel
theorem sgb_X : ∀ s, s < 32 → (szI (nI s) = 1 ↔ sgb s = true) := by decide +kernel
theorem sgb_Y : ∀ s, s < 32 → 0 < s → ((nI s &&& (nI s - 1)) = 0 ↔ sgb s = true) := by decide +kernel
theorem sgb_p : ∀ s, s < 32 → sgb s = true → ∃ c, c < 5 ∧ s = 2 ^ c := by
  intro s _ h
  unfold sgb at h
  simp only [Bool.or_eq_true, beq_iff_eq] at h
  rcases h with (((h | h) | h) | h) | h
  · exact ⟨0, by omega, h⟩
  · exact ⟨1, by omega, h⟩
  · exact ⟨2, by omega, h⟩
  · exact ⟨3, by omega, h⟩
  · exact ⟨4, by omega, h⟩
theorem sgb_q : ∀ c, c < 5 → sgb (2 ^ c) = true ∧ 2 ^ c < 32 ∧ (1 : Int32) <<< (nI c &&& 31) = nI (2 ^ c) := by decide +kernel
theorem bit_ex : ∀ s, s < 32 → 0 < s → s.testBit 0 = true ∨ s.testBit 1 = true ∨ s.testBit 2 = true ∨ s.testBit 3 = true ∨ s.testBit 4 = true := by decide +kernel
theorem pw_inj : ∀ c, c < 5 → ∀ d, d < 5 → 2 ^ c = 2 ^ d → c = d := by decide +kernel
/-- c has the least score by rule r among the members of s -/
def lst (n : Nat) (O : Nat → Nat) (r s c : Nat) : Prop := ∀ d, d < 5 → s.testBit d = true → Vs r c (nI s) n O ≤ Vs r d (nI s) n O
/-- the sets that an elimination can come to -/
def EL (n : Nat) (O : Nat → Nat) (r t : Nat) : Prop := ∀ F : Nat → Prop, F 31 → (∀ s c, s < 32 → 0 < s → F s → sgb s = false → c < 5 → s.testBit c = true → lst n O r s c → F (rmv s c)) → F t
theorem EL_go {n : Nat} {O : Nat → Nat} {r s c : Nat} (h : EL n O r s) (hs : s < 32) (h0 : 0 < s) (hg : sgb s = false) (hc : c < 5) (hb : s.testBit c = true) (hl : lst n O r s c) : EL n O r (rmv s c) :=
  fun F h31 hF => hF s c hs h0 (h F h31 hF) hg hc hb hl
def gone (n : Nat) (O : Nat → Nat) (r s : Nat) (q q' : Nat → Int32) : Prop :=
  (∀ c, c < 5 → s.testBit c = true → lst n O r s c → q' (rmv s c) ≠ 0) ∧ (∀ t, q' t ≠ 0 → q t ≠ 0 ∨ ∃ c, c < 5 ∧ s.testBit c = true ∧ lst n O r s c ∧ t = rmv s c) ∧ (∀ t, q t ≠ 0 → q' t ≠ 0)
/-- all sets above s are dealt with -/
def elI (n : Nat) (O : Nat → Nat) (r s : Nat) (q : Nat → Int32) : Prop :=
  (∀ t, t < 32 → q t ≠ 0 → EL n O r t) ∧ q 31 ≠ 0 ∧ (∀ t, s < t → t < 32 → q t ≠ 0 → sgb t = false → ∀ c, c < 5 → t.testBit c = true → lst n O r t c → q (rmv t c) ≠ 0)
theorem el_skip {n : Nat} {O : Nat → Nat} {r s : Nat} {q : Nat → Int32} (h : elI n O r (s + 1) q) (hq : q (s + 1) = 0 ∨ sgb (s + 1) = true) : elI n O r s q := by
  obtain ⟨h1, h2, h3⟩ := h
  refine ⟨h1, h2, fun t ht ht2 hqt hsg => ?_⟩
  by_cases e : t = s + 1
  · subst e
    rcases hq with hq | hq
    · exact absurd hq hqt
    · rw [hq] at hsg; cases hsg
  · exact h3 t (by omega) ht2 hqt hsg
theorem el_go {n : Nat} {O : Nat → Nat} {r s : Nat} {q q' : Nat → Int32} (hs : s + 1 < 32) (h : elI n O r (s + 1) q) (hq : q (s + 1) ≠ 0) (hg : sgb (s + 1) = false) (hgo : gone n O r (s + 1) q q') : elI n O r s q' := by
  obtain ⟨h1, h2, h3⟩ := h
  obtain ⟨g1, g2, g3⟩ := hgo
  refine ⟨fun t ht hqt => ?_, g3 _ h2, fun t ht ht2 hqt hsg c hc hb hl => ?_⟩
  · rcases g2 t hqt with a | ⟨c, hc, hb, hl, e⟩
    · exact h1 t ht a
    · rw [e]; exact EL_go (h1 _ hs hq) hs (by omega) hg hc hb hl
  · by_cases e : t = s + 1
    · subst e; exact g1 c hc hb hl
    · rcases g2 t hqt with a | ⟨d, hd, hb2, hl2, e2⟩
      · exact g3 _ (h3 t (by omega) ht2 a hsg c hc hb hl)
      · have := rmv_lt (s + 1) hs d hd hb2
        omega
theorem el_keep {n : Nat} {O : Nat → Nat} {r s : Nat} {q q' : Nat → Int32} (hs : s < 32) (hgo : gone n O r s q q') {t : Nat} (ht : s ≤ t) : q' t ≠ 0 ↔ q t ≠ 0 := by
  obtain ⟨g1, g2, g3⟩ := hgo
  refine ⟨fun h => ?_, g3 t⟩
  rcases g2 t h with a | ⟨d, hd, hb2, hl2, e2⟩
  · exact a
  · have := rmv_lt s hs d hd hb2
    omega
theorem el_end {n : Nat} {O : Nat → Nat} {r : Nat} {q : Nat → Int32} (h : elI n O r 0 q) {t : Nat} (ht : t < 32) : q t ≠ 0 ↔ EL n O r t := by
  obtain ⟨h1, h2, h3⟩ := h
  exact ⟨h1 t ht, fun hE => hE (fun t => q t ≠ 0) h2 (fun s c hs h0 hF hg hc hb hl => h3 s h0 hs hF hg c hc hb hl)⟩
/-- the least score found among the members below c -/
def lsI (n : Nat) (O : Nat → Nat) (r s c : Nat) (L B : Int) : Prop := (∀ d, d < c → s.testBit d = true → L ≤ Vs r d (nI s) n O) ∧ ((L = B ∧ ∀ d, d < c → s.testBit d = false) ∨ ∃ d, d < c ∧ s.testBit d = true ∧ L = Vs r d (nI s) n O)
theorem ls_no {n : Nat} {O : Nat → Nat} {r s c : Nat} {L B : Int} (h : lsI n O r s c L B) (hb : s.testBit c = false) : lsI n O r s (c + 1) L B := by
  obtain ⟨h1, h2⟩ := h
  refine ⟨fun d hd hbd => ?_, ?_⟩
  · by_cases e : d = c
    · subst e; rw [hb] at hbd; cases hbd
    · exact h1 d (by omega) hbd
  · rcases h2 with ⟨a, b⟩ | ⟨d, a, b, e⟩
    · refine Or.inl ⟨a, fun d hd => ?_⟩
      by_cases e : d = c
      · subst e; exact hb
      · exact b d (by omega)
    · exact Or.inr ⟨d, by omega, b, e⟩
theorem ls_ge {n : Nat} {O : Nat → Nat} {r s c : Nat} {L B : Int} (h : lsI n O r s c L B) (hB : Vs r c (nI s) n O < B) (hle : L ≤ Vs r c (nI s) n O) : lsI n O r s (c + 1) L B := by
  obtain ⟨h1, h2⟩ := h
  refine ⟨fun d hd hbd => ?_, ?_⟩
  · by_cases e : d = c
    · subst e; exact hle
    · exact h1 d (by omega) hbd
  · rcases h2 with ⟨a, b⟩ | ⟨d, a, b, e⟩
    · omega
    · exact Or.inr ⟨d, by omega, b, e⟩
theorem ls_lt {n : Nat} {O : Nat → Nat} {r s c : Nat} {L B : Int} (h : lsI n O r s c L B) (hb : s.testBit c = true) (hlt : Vs r c (nI s) n O < L) : lsI n O r s (c + 1) (Vs r c (nI s) n O) B := by
  obtain ⟨h1, h2⟩ := h
  refine ⟨fun d hd hbd => ?_, Or.inr ⟨c, by omega, hb, rfl⟩⟩
  by_cases e : d = c
  · subst e; exact Int.le_refl _
  · have := h1 d (by omega) hbd
    omega
theorem ls_end {n : Nat} {O : Nat → Nat} {r s : Nat} {L B : Int} (h : lsI n O r s 5 L B) (hs : s < 32) (h0 : 0 < s) {c : Nat} (hc : c < 5) (hb : s.testBit c = true) : Vs r c (nI s) n O = L ↔ lst n O r s c := by
  obtain ⟨h1, h2⟩ := h
  constructor
  · intro e d hd hbd
    have := h1 d hd hbd
    omega
  · intro hl
    have h3 := h1 c hc hb
    rcases h2 with ⟨_, b⟩ | ⟨d, a, b, e⟩
    · rw [b c hc] at hb; cases hb
    · have := hl d a b
      omega
/-- the sets that have been marked for the members below c -/
def mkI (n : Nat) (O : Nat → Nat) (r s c : Nat) (q q' : Nat → Int32) : Prop :=
  (∀ d, d < c → d < 5 → s.testBit d = true → lst n O r s d → q' (rmv s d) ≠ 0) ∧ (∀ t, q' t ≠ 0 → q t ≠ 0 ∨ ∃ d, d < 5 ∧ s.testBit d = true ∧ lst n O r s d ∧ t = rmv s d) ∧ (∀ t, q t ≠ 0 → q' t ≠ 0)
theorem mk_no {n : Nat} {O : Nat → Nat} {r s c : Nat} {q q' : Nat → Int32} (h : mkI n O r s c q q') (hno : s.testBit c = true → ¬ lst n O r s c) : mkI n O r s (c + 1) q q' := by
  obtain ⟨h1, h2, h3⟩ := h
  refine ⟨fun d hd hd5 hb hl => ?_, h2, h3⟩
  by_cases e : d = c
  · subst e; exact absurd hl (hno hb)
  · exact h1 d (by omega) hd5 hb hl
theorem mk_yes {n : Nat} {O : Nat → Nat} {r s c : Nat} {q q' : Nat → Int32} (h : mkI n O r s c q q') (hc : c < 5) (hb : s.testBit c = true) (hl : lst n O r s c) : mkI n O r s (c + 1) q (upd q' (rmv s c) 1) := by
  obtain ⟨h1, h2, h3⟩ := h
  have key : ∀ t, q' t ≠ 0 → upd q' (rmv s c) 1 t ≠ 0 := by
    intro t ht
    by_cases e : t = rmv s c
    · rw [e, pk_us]; decide
    · rw [pk_un e]; exact ht
  refine ⟨fun d hd hd5 hb' hl' => ?_, fun t ht => ?_, fun t ht => key t (h3 t ht)⟩
  · by_cases e : d = c
    · subst e; rw [pk_us]; decide
    · exact key _ (h1 d (by omega) hd5 hb' hl')
  · by_cases e : t = rmv s c
    · exact Or.inr ⟨c, hc, hb, hl, e⟩
    · rw [pk_un e] at ht; exact h2 t ht
theorem mk_end {n : Nat} {O : Nat → Nat} {r s : Nat} {q q' : Nat → Int32} (h : mkI n O r s 5 q q') : gone n O r s q q' :=
  ⟨fun c hc hb hl => h.1 c hc hc hb hl, h.2.1, h.2.2⟩
theorem nI_hi {s : Nat} (hs : s < 32) : ∀ j, 5 ≤ j → bt (nI s) j = false := by
  intro j hj
  rw [vb_nIs (by omega)]
  exact Nat.testBit_lt_two_pow (Nat.lt_of_lt_of_le hs (show 2 ^ 5 ≤ 2 ^ j from Nat.pow_le_pow_right (by decide) hj))
theorem x_lg {post : SX → Prop} {xc : Int32} {xo xr xp xm xb xs xq xn xu xl xg xk xt xw xv : Nat → Int32} {n : Nat} {O : Nat → Nat} (h : zRX n O (xc, xo, xr, xp, xm, xb, xs, xq, xn, xu, xl, xg, xk, xt, xw, xv)) {r s : Nat} (hr : r ≤ 2) (hs : s < 32) (h0 : 0 < s)
    (hp : ∀ q' n' : Nat → Int32, gone n O r s xq q' → post (xc, xo, xr, xp, xm, xb, xs, q', n', xu, xl, xg, xk, xt, xw, xv)) : wpX_letOneGo post (xc, xo, xr, xp, xm, xb, xs, xq, xn, xu, xl, xg, xk, xt, xw, xv) (nI r) (nI s) := by
  have hn := h.1.1
  unfold wpX_letOneGo
  dsimp only
  have hbit : ∀ c, bt (nI s) c = s.testBit c := vb_nIs (by omega)
  refine pk_loop (σ := Int32 × (Nat → Int32)) (fun m c x => wX_letOneGo_6 post (nI r) (nI s) xc m x.1 (nI c) xo xr xp xm xb xs xq x.2 xu xl xg xk xt xw xv) (fun c x => ∃ L, x.1 = iI L ∧ -9 ≤ L ∧ L ≤ 1000000 ∧ lsI n O r s c L 1000000 ∧ ∀ d, d < c → s.testBit d = true → x.2 d = iI (Vs r d (nI s) n O)) 5 0 (1000000, xn) (by omega) ⟨1000000, (by decide : (1000000 : Int32) = iI 1000000), by omega, by omega, ⟨fun d hd => by omega, Or.inl ⟨rfl, fun d hd => by omega⟩⟩, fun d hd => by omega⟩ ?_ ?_
  · rintro m ⟨x3, x8⟩ ⟨L, e, hL1, hL2, hl, hv⟩
    dsimp only at e hv ⊢
    subst e
    rw [wX_letOneGo_6]
    refine br_t (by decide) ?_
    refine pk_loop (σ := Nat → Int32) (fun m' c q => wX_letOneGo_64 post (nI s) (iI L) xc m' (nI c) xo xr xp xm xb xs q x8 xu xl xg xk xt xw xv) (fun c q => mkI n O r s c xq q) 5 0 xq (by omega) ⟨fun d hd => by omega, fun t ht => Or.inl ht, fun t ht => ht⟩ ?_ ?_
    · intro m' q hq
      rw [wX_letOneGo_64]
      exact br_t (by decide) (hp q x8 (mk_end hq))
    · intro m' c q hc hq hK
      rw [wX_letOneGo_64]
      refine br_f (nI_ge (b := 5) hc (by decide)) (x_has (by omega) (fun hb => br_f (by decide) ⟨vp_in_nI hc (by decide), ?_⟩) (fun hb => br_t rfl (nm_r (nI_1 c) (hK q (mk_no hq (fun z => by rw [hbit, z] at hb; cases hb))))))
      rw [hbit] at hb
      have hV := Vs_bd hn r c (nI s) O
      rw [nI_clamp (by omega), hv c hc hb]
      refine vi_eq (Vs r c (nI s) n O) L (fun e => ?_) (fun e => ?_)
      · rw [rmv_I s hs c hc]
        have := rmv_32 s hs c hc
        refine ⟨vp_in_nI this (by decide), nm_r (e' := upd q (rmv s c) 1) (by rw [nI_clamp (by omega), nb1]) (nm_r (nI_1 c) (hK (upd q (rmv s c) 1) (mk_yes hq hc hb ((ls_end hl hs h0 hc hb).mp e))))⟩
      · exact nm_r (nI_1 c) (hK q (mk_no hq (fun z hz => e ((ls_end hl hs h0 hc hb).mpr hz))))
  · rintro m c ⟨x3, x8⟩ hc ⟨L, e, hL1, hL2, hl, hv⟩ hK
    dsimp only at e hv hK ⊢
    subst e
    rw [wX_letOneGo_6]
    refine br_f (nI_ge (b := 5) hc (by decide)) (x_sa (n := n) (O := O) ?_ hr hc (nI_hi hs) (fun z hz hz1 hz2 => ?_))
    · exact h.1
    refine ⟨vp_in_nI hc (by decide), nm_r (e' := upd x8 c (iI z)) (by rw [nI_clamp (by omega)]) ?_⟩
    have hv' : s.testBit c = true → ∀ d, d < c + 1 → s.testBit d = true → upd x8 c (iI z) d = iI (Vs r d (nI s) n O) := by
      intro hb d hd hbd
      by_cases e : d = c
      · subst e; rw [pk_us, hz (by rw [hbit]; exact hb)]
      · rw [pk_un e]; exact hv d (by omega) hbd
    refine x_has (by omega) (fun hb => br_f (by decide) ⟨vp_in_nI hc (by decide), ?_⟩) (fun hb => br_t rfl (nm_r (nI_1 c) (hK (iI L, upd x8 c (iI z)) ⟨L, rfl, hL1, hL2, ls_no hl (by rw [hbit] at hb; exact hb), fun d hd hbd => ?_⟩)))
    · have hb' := hb
      rw [hbit] at hb
      have ez := hz hb'
      rw [nI_clamp (by omega), pk_us]
      refine vi_le L z (fun hle => nm_r (nI_1 c) (hK (iI L, upd x8 c (iI z)) ⟨L, rfl, hL1, hL2, ls_ge hl (by omega) (by omega), hv' hb⟩)) (fun hlt => ⟨vp_in_nI hc (by decide), nm_r rfl (nm_r (nI_1 c) (hK (iI z, upd x8 c (iI z)) ⟨z, rfl, hz1, by omega, ?_, hv' hb⟩))⟩)
      rw [ez]
      exact ls_lt hl hb (by omega)
    · dsimp only
      rw [hbit] at hb
      by_cases e : d = c
      · subst e; rw [hb] at hbd; cases hbd
      · rw [pk_un e]; exact hv d (by omega) hbd
theorem y_sh {post : SY → Prop} {yn yc : Int32} {yo yp ym ys yl yb yw yk yt yz yx : Nat → Int32} {n : Nat} {O : Nat → Nat} (h : zRY n O (yn, yc, yo, yp, ym, ys, yl, yb, yw, yk, yt, yz, yx)) {r s : Nat} (hr : r ≤ 2) (hs : s < 32) (h0 : 0 < s)
    (hp : ∀ q' : Nat → Int32, gone n O r s yl q' → post (yn, yc, yo, yp, ym, ys, q', yb, yw, yk, yt, yz, yx)) : wpY_shrink post (yn, yc, yo, yp, ym, ys, yl, yb, yw, yk, yt, yz, yx) (nI s) (nI r) := by
  have hn := h.1
  unfold wpY_shrink
  dsimp only
  have hbit : ∀ c, bt (nI s) c = s.testBit c := vb_nIs (by omega)
  refine pk_loop (σ := Int32) (fun m c x => wY_shrink_7 post (nI s) (nI r) yn yc yo yp ym ys yl yb yw yk yt yz yx m x (nI c)) (fun c x => ∃ L, x = iI L ∧ -9 ≤ L ∧ L ≤ 1000 ∧ lsI n O r s c L 1000) 5 0 1000 (by omega) ⟨1000, by decide, by omega, by omega, ⟨fun d hd => by omega, Or.inl ⟨rfl, fun d hd => by omega⟩⟩⟩ ?_ ?_
  · rintro m x3 ⟨L, e, hL1, hL2, hl⟩
    subst e
    rw [wY_shrink_7]
    refine br_t (by decide) ?_
    refine pk_loop (σ := Nat → Int32) (fun m' c q => wY_shrink_51 post (nI s) (nI r) (iI L) yn yc m' (nI c) yo yp ym ys q yb yw yk yt yz yx) (fun c q => mkI n O r s c yl q) 5 0 yl (by omega) ⟨fun d hd => by omega, fun t ht => Or.inl ht, fun t ht => ht⟩ ?_ ?_
    · intro m' q hq
      rw [wY_shrink_51]
      exact br_t (by decide) (hp q (mk_end hq))
    · intro m' c q hc hq hK
      rw [wY_shrink_51]
      refine br_f (nI_ge (b := 5) hc (by decide)) ?_
      have hV := Vs_bd hn r c (nI s) O
      cases hb : s.testBit c with
      | true =>
        refine br_t ((vb_has (by omega)).mpr (by rw [hbit]; exact hb)) (y_va (n := n) (O := O) ?_ hr hc (nI s) ?_)
        · exact h
        refine vi_eq (Vs r c (nI s) n O) L (fun e => ?_) (fun e => ?_)
        · rw [rmv_I s hs c hc]
          have := rmv_32 s hs c hc
          refine ⟨vp_in_nI this (by decide), nm_r (e' := upd q (rmv s c) 1) (by rw [nI_clamp (by omega), nb1]) (nm_r (nI_1 c) (hK (upd q (rmv s c) 1) (mk_yes hq hc hb ((ls_end hl hs h0 hc hb).mp e))))⟩
        · exact nm_r (nI_1 c) (hK q (mk_no hq (fun z hz => e ((ls_end hl hs h0 hc hb).mpr hz))))
      | false =>
        exact br_f (fun hh => by rw [vb_has (by omega), hbit, hb] at hh; cases hh) (nm_r (nI_1 c) (hK q (mk_no hq (fun z => by rw [z] at hb; cases hb))))
  · rintro m c x3 hc ⟨L, e, hL1, hL2, hl⟩ hK
    subst e
    rw [wY_shrink_7]
    have hV := Vs_bd hn r c (nI s) O
    refine br_f (nI_ge (b := 5) hc (by decide)) (y_va h hr hc (nI s) ?_)
    cases hb : s.testBit c with
    | true =>
      refine br_t ((vb_has (by omega)).mpr (by rw [hbit]; exact hb)) ?_
      exact vi_le L (Vs r c (nI s) n O) (fun hle => nm_r (nI_1 c) (hK (iI L) ⟨L, rfl, hL1, hL2, ls_ge hl (by omega) (by omega)⟩)) (fun hlt => nm_r (nI_1 c) (hK _ ⟨_, rfl, hV.1, by omega, ls_lt hl hb hlt⟩))
    | false =>
      exact br_f (fun hh => by rw [vb_has (by omega), hbit, hb] at hh; cases hh) (nm_r (nI_1 c) (hK (iI L) ⟨L, rfl, hL1, hL2, ls_no hl hb⟩))
end
section
/-! ===== rules 6, 7, 8: the main loops ===== -/
theorem bt_sg : ∀ s, s < 32 → ∀ i, i < 32 → bt (nI s) i = s.testBit i := fun s _ i hi => vb_nI s i hi
theorem sg_bit : ∀ s, s < 32 → sgb s = true → ∀ i, i < 5 → (s.testBit i = true ↔ s = 2 ^ i) := by decide +kernel
theorem x_ps {post : Int32 → SX → Prop} {u : SX} {n : Nat} {O : Nat → Nat} (h : zRX n O u) {r : Nat} (hr : r ≤ 2) (hp : ∀ w u', isSet w (fun c => EL n O r (2 ^ c)) → zRX n O u' → post w u') : wpX_possibleSurvivors post u (nI r) := by
  obtain ⟨xc, xo, xr, xp, xm, xb, xs, xq, xn, xu, xl, xg, xk, xt, xw, xv⟩ := u
  unfold wpX_possibleSurvivors
  dsimp only
  refine pk_loop (σ := Nat → Int32) (fun m t q => wX_possibleSurvivors_2 post (nI r) xc m (nI t) xo xr xp xm xb xs q xn xu xl xg xk xt xw xv) (fun t q => ∀ j, j < t → q j = 0) 32 0 xq (by omega) (fun j hj => by omega) ?_ ?_
  · intro m q hq
    rw [wX_possibleSurvivors_2]
    refine br_t (by decide) (nm_r (e' := upd q 31 1) (by rw [nb1]) ⟨32, ?_⟩)
    have key := pk_loopD (σ := Int32 × SX) (fun m s x => wX_possibleSurvivors_34 post (nI r) m x.1 (nI s) x.2.1 x.2.2.1 x.2.2.2.1 x.2.2.2.2.1 x.2.2.2.2.2.1 x.2.2.2.2.2.2.1 x.2.2.2.2.2.2.2.1 x.2.2.2.2.2.2.2.2.1 x.2.2.2.2.2.2.2.2.2.1 x.2.2.2.2.2.2.2.2.2.2.1 x.2.2.2.2.2.2.2.2.2.2.2.1 x.2.2.2.2.2.2.2.2.2.2.2.2.1 x.2.2.2.2.2.2.2.2.2.2.2.2.2.1 x.2.2.2.2.2.2.2.2.2.2.2.2.2.2.1 x.2.2.2.2.2.2.2.2.2.2.2.2.2.2.2.1 x.2.2.2.2.2.2.2.2.2.2.2.2.2.2.2.2)
      (fun s x => s < 32 ∧ zRX n O x.2 ∧ elI n O r s (x.2.2.2.2.2.2.2.2.1) ∧ isSet x.1 (fun c => s < 2 ^ c ∧ x.2.2.2.2.2.2.2.2.1 (2 ^ c) ≠ 0))
      (by
        rintro m ⟨w, ⟨xc', xo', xr', xp', xm', xb', xs', xq', xn', xu', xl', xg', xk', xt', xw', xv'⟩⟩ ⟨_, hX, he, hw⟩
        dsimp only at he hw ⊢
        rw [wX_possibleSurvivors_34]
        refine br_t (by decide) (hp w _ (vb_congr hw (fun i hi => ?_)) hX)
        have hi2 := sgb_q i hi
        rw [← el_end he hi2.2.1]
        have : 0 < 2 ^ i := Nat.two_pow_pos i
        simp [this])
      (by
        rintro m s ⟨w, ⟨xc', xo', xr', xp', xm', xb', xs', xq', xn', xu', xl', xg', xk', xt', xw', xv'⟩⟩ ⟨hs, hX, he, hw⟩ hK
        dsimp only at he hw hK ⊢
        rw [wX_possibleSurvivors_34]
        refine br_f (nI_nle (by omega) (by omega)) ⟨vp_in_nI hs (by decide), ?_⟩
        rw [nI_clamp (by omega)]
        have skip : (xq' (s + 1) = 0 ∨ sgb (s + 1) = false) → isSet w (fun c => s < 2 ^ c ∧ xq' (2 ^ c) ≠ 0) := by
          intro hz
          refine vb_congr hw (fun i hi => ⟨fun a => ⟨by omega, a.2⟩, fun a => ⟨?_, a.2⟩⟩)
          by_cases e : 2 ^ i = s + 1
          · rcases hz with hz | hz
            · rw [← e] at hz; exact absurd hz a.2
            · have := (sgb_q i hi).1
              rw [e, hz] at this; cases this
          · omega
        refine br_c (fun hz => nm_r (pk_m1 s) (hK (w, (xc', xo', xr', xp', xm', xb', xs', xq', xn', xu', xl', xg', xk', xt', xw', xv')) ⟨by omega, hX, el_skip he (Or.inl hz), skip (Or.inl hz)⟩)) (fun hz => x_size ?_)
        have hsz := szI_bd (nI (s + 1))
        refine vi_eq (szI (nI (s + 1))) 1 (fun e => ?_) (fun e => ?_)
        · have hg := (sgb_X (s + 1) hs).mp e
          refine nm_e (nm_r (pk_m1 s) (hK (w ||| nI (s + 1), (xc', xo', xr', xp', xm', xb', xs', xq', xn', xu', xl', xg', xk', xt', xw', xv')) ⟨by omega, hX, el_skip he (Or.inr hg), ?_⟩))
          intro i
          dsimp only
          rw [b_or, Bool.or_eq_true, hw i, vb_nIs (by omega)]
          constructor
          · rintro (⟨a, b, c⟩ | a)
            · exact ⟨a, by omega, c⟩
            · have hi : i < 5 := by
                rcases Nat.lt_or_ge i 5 with g | g
                · exact g
                · rw [← vb_nIs (by omega), nI_hi hs i g] at a; cases a
              have e := (sg_bit (s + 1) hs hg i hi).mp a
              exact ⟨hi, by omega, by rw [← e]; exact hz⟩
          · rintro ⟨a, b, c⟩
            by_cases e : 2 ^ i = s + 1
            · exact Or.inr ((sg_bit (s + 1) hs hg i a).mpr e.symm)
            · exact Or.inl ⟨a, by omega, c⟩
        · have hg : sgb (s + 1) = false := by
            cases hgg : sgb (s + 1)
            · rfl
            · exact absurd ((sgb_X (s + 1) hs).mpr hgg) e
          refine x_lg hX hr hs (by omega) (fun q' n' hgo => nm_r (pk_m1 s) (hK (w, (xc', xo', xr', xp', xm', xb', xs', q', n', xu', xl', xg', xk', xt', xw', xv')) ⟨by omega, hX, el_go hs he hz hg hgo, ?_⟩))
          refine vb_congr (skip (Or.inr hg)) (fun i hi => ⟨fun a => ⟨a.1, (el_keep hs hgo (by omega)).mpr a.2⟩, fun a => ⟨a.1, (el_keep hs hgo (by omega)).mp a.2⟩⟩))
    refine key 31 (0, (xc, xo, xr, xp, xm, xb, xs, (upd q 31 1), xn, xu, xl, xg, xk, xt, xw, xv)) ⟨by omega, h, ⟨fun t ht hqt => ?_, by dsimp only; rw [pk_us]; decide, fun t h1 h2 => by omega⟩, vb_congr vb_empty (fun i hi => ?_)⟩
    · by_cases e : t = 31
      · subst e; exact fun F h31 _ => h31
      · dsimp only at hqt
        rw [pk_un e] at hqt
        exact absurd (hq t ht) hqt
    · have := (sgb_q i hi).2.1
      dsimp only
      constructor
      · exact fun z => z.elim
      · intro z; omega
  · intro m t q ht hq hK
    rw [wX_possibleSurvivors_2]
    refine br_f (nI_ge (b := 32) ht (by decide)) ⟨vp_in_nI ht (by decide), nm_r (e' := upd q t 0) (by rw [nI_clamp (by omega), nb0]) (nm_r (nI_1 t) (hK (upd q t 0) (fun j hj => ?_)))⟩
    by_cases e : j = t
    · subst e; exact pk_us
    · rw [pk_un e]; exact hq j (by omega)
theorem y_el {post : Int32 → SY → Prop} {v : SY} {n : Nat} {O : Nat → Nat} (h : zRY n O v) {r : Nat} (hr : r ≤ 2) (hp : ∀ w v', isSet w (fun c => EL n O r (2 ^ c)) → zRY n O v' → post w v') : wpY_eliminate post v (nI r) := by
  obtain ⟨yn, yc, yo, yp, ym, ys, yl, yb, yw, yk, yt, yz, yx⟩ := v
  unfold wpY_eliminate
  dsimp only
  refine pk_loop (σ := Nat → Int32) (fun m t q => wY_eliminate_2 post (nI r) yn yc m (nI t) yo yp ym ys q yb yw yk yt yz yx) (fun t q => ∀ j, j < t → (q j ≠ 0 ↔ j = 31)) 32 0 yl (by omega) (fun j hj => by omega) ?_ ?_
  · intro m q hq
    rw [wY_eliminate_2]
    refine br_t (by decide) ⟨32, ?_⟩
    have key := pk_loopD (σ := SY) (fun m s x => wY_eliminate_34 post (nI r) m (nI s) x.1 x.2.1 x.2.2.1 x.2.2.2.1 x.2.2.2.2.1 x.2.2.2.2.2.1 x.2.2.2.2.2.2.1 x.2.2.2.2.2.2.2.1 x.2.2.2.2.2.2.2.2.1 x.2.2.2.2.2.2.2.2.2.1 x.2.2.2.2.2.2.2.2.2.2.1 x.2.2.2.2.2.2.2.2.2.2.2.1 x.2.2.2.2.2.2.2.2.2.2.2.2)
      (fun s x => s < 32 ∧ zRY n O x ∧ elI n O r s (x.2.2.2.2.2.2.1))
      (by
        rintro m ⟨yn', yc', yo', yp', ym', ys', yl', yb', yw', yk', yt', yz', yx'⟩ ⟨_, hY, he⟩
        dsimp only at he ⊢
        rw [wY_eliminate_34]
        refine br_t (by decide) ?_
        refine pk_loop (σ := Int32) (fun m' c w => wY_eliminate_71 post yn' yc' yo' yp' ym' ys' yl' yb' yw' yk' yt' yz' yx' m' w (nI c)) (fun c w => isSet w (fun i => i < c ∧ EL n O r (2 ^ i))) 5 0 0 (by omega) (vb_congr vb_empty (fun i _ => by simp)) ?_ ?_
        · intro m' w hw
          rw [wY_eliminate_71]
          exact br_t (by decide) (hp w _ (vb_congr hw (fun i hi => by simp [hi])) hY)
        · intro m' c w hc hw hK
          rw [wY_eliminate_71]
          have hg := sgb_q c hc
          refine br_f (nI_ge (b := 5) hc (by decide)) ⟨by rw [hg.2.2]; exact vp_in_nI hg.2.1 (by decide), ?_⟩
          have hz : (yl' ((1 : Int32) <<< (nI c &&& 31)).toNatClampNeg = 0) ↔ ¬ EL n O r (2 ^ c) := by
            rw [hg.2.2, nI_clamp (by omega), ← el_end he hg.2.1]
            simp
          refine br_c (fun e => nm_r (nI_1 c) (hK w (vb_congr hw (fun i hi => ?_)))) (fun e => nm_e (nm_r (nI_1 c) (hK _ (vb_congr (vb_ins hw hc) (fun i hi => ?_)))))
          · refine ⟨fun a => ⟨by omega, a.2⟩, fun a => ⟨?_, a.2⟩⟩
            by_cases e2 : i = c
            · subst e2; exact absurd a.2 (hz.mp e)
            · omega
          · constructor
            · rintro (a | rfl)
              · exact ⟨by omega, a.2⟩
              · refine ⟨by omega, ?_⟩
                by_cases e2 : EL n O r (2 ^ i)
                · exact e2
                · exact absurd (hz.mpr e2) e
            · rintro ⟨a, b⟩
              by_cases e2 : i = c
              · exact Or.inr e2
              · exact Or.inl ⟨by omega, b⟩)
      (by
        rintro m s ⟨yn', yc', yo', yp', ym', ys', yl', yb', yw', yk', yt', yz', yx'⟩ ⟨hs, hY, he⟩ hK
        dsimp only at he hK ⊢
        rw [wY_eliminate_34]
        refine br_f (nI_nle (by omega) (by omega)) ⟨vp_in_nI hs (by decide), ?_⟩
        rw [nI_clamp (by omega)]
        refine br_c (fun hz => nm_r (pk_m1 s) (hK (yn', yc', yo', yp', ym', ys', yl', yb', yw', yk', yt', yz', yx') ⟨by omega, hY, el_skip he (Or.inl hz)⟩)) (fun hz => ?_)
        have hsg := sgb_Y (s + 1) hs (by omega)
        refine br_c (fun e => nm_r (pk_m1 s) (hK (yn', yc', yo', yp', ym', ys', yl', yb', yw', yk', yt', yz', yx') ⟨by omega, hY, el_skip he (Or.inr (hsg.mp e))⟩)) (fun e => ?_)
        have hg : sgb (s + 1) = false := by
          cases hgg : sgb (s + 1)
          · rfl
          · exact absurd (hsg.mpr hgg) e
        exact y_sh hY hr hs (by omega) (fun q' hgo => nm_r (pk_m1 s) (hK (yn', yc', yo', yp', ym', ys', q', yb', yw', yk', yt', yz', yx') ⟨by omega, hY, el_go hs he hz hg hgo⟩)))
    refine key 31 (yn, yc, yo, yp, ym, ys, q, yb, yw, yk, yt, yz, yx) ⟨by omega, h, ⟨fun t ht hqt => ?_, (hq 31 (by omega)).mpr rfl, fun t h1 h2 => by omega⟩⟩
    have e := (hq t ht).mp hqt
    subst e
    exact fun F h31 _ => h31
  · intro m t q ht hq hK
    rw [wY_eliminate_2]
    refine br_f (nI_ge (b := 32) ht (by decide)) (pk_eq t 31 (fun e => ?_) (fun e => ?_))
    · refine ⟨vp_in_nI ht (by decide), nm_r (e' := upd q t 1) (by rw [nI_clamp (by omega), nb1]) (nm_r (nI_1 t) (hK (upd q t 1) (fun j hj => ?_)))⟩
      by_cases e2 : j = t
      · subst e2; rw [pk_us]; simp [e]
      · rw [pk_un e2]; exact hq j (by omega)
    · refine ⟨vp_in_nI ht (by decide), nm_r (e' := upd q t 0) (by rw [nI_clamp (by omega), nb0]) (nm_r (nI_1 t) (hK (upd q t 0) (fun j hj => ?_)))⟩
      by_cases e2 : j = t
      · subst e2; rw [pk_us]; simp [e]
      · rw [pk_un e2]; exact hq j (by omega)
end
