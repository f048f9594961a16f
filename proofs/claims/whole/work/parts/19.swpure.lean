/-! ===== swaps: pure ===== -/
def oth (c j : Nat) : Nat := if j < c then j else j + 1
def pst (c d : Nat) : Nat := if d < c then d else d - 1
theorem oth_f {c j : Nat} (hc : c < 5) (hj : j < 4) : oth c j < 5 ∧ oth c j ≠ c ∧ pst c (oth c j) = j := by
  unfold oth pst
  split
  · omega
  · rw [if_neg (by omega)]; omega
theorem pst_f {c d : Nat} (hc : c < 5) (hd : d < 5) (hne : d ≠ c) : pst c d < 4 ∧ oth c (pst c d) = d := by
  unfold oth pst
  split
  · omega
  · rw [if_neg (by omega)]; omega
theorem plc_4 (o c : Nat) : plc o c ≤ 4 := by
  unfold plc
  split; omega
  split; omega
  split; omega
  split <;> omega
/-- c goes up by up places: what is still wanting -/
def mv (o c up : Nat) (w : Nat → Nat) (j : Nat) : Nat := if plc o (oth c j) < plc o c ∧ plc o c ≤ plc o (oth c j) + up then w j - 1 else w j
theorem mv_le (o c up : Nat) (w : Nat → Nat) (j : Nat) : mv o c up w j ≤ w j := by
  unfold mv; split <;> omega
theorem mv_0 (o c : Nat) (w : Nat → Nat) (j : Nat) : mv o c 0 w j = w j := by
  unfold mv; rw [if_neg (by omega)]
def RC (O : Nat → Nat) (c : Nat) (st : Nat → Nat) : Nat → (Nat → Nat) → Nat → Prop
  | 0, w, k => (∀ j, j < 4 → w j = st j) ∧ k = 0
  | i + 1, w, k => ∃ (w' : Nat → Nat) (k' up : Nat), RC O c st i w' k' ∧ up ≤ plc (O i) c ∧ k = k' + up ∧ ∀ j, j < 4 → w j = mv (O i) c up w' j
theorem RC_congr {O : Nat → Nat} {c : Nat} {st : Nat → Nat} {i : Nat} {w w2 : Nat → Nat} {k : Nat} (h : RC O c st i w k) (e : ∀ j, j < 4 → w j = w2 j) : RC O c st i w2 k := by
  cases i with
  | zero => exact ⟨fun j hj => by rw [← e j hj]; exact h.1 j hj, h.2⟩
  | succ i =>
    obtain ⟨w', k', up, a, b, d, f⟩ := h
    exact ⟨w', k', up, a, b, d, fun j hj => by rw [← e j hj]; exact f j hj⟩
theorem RC_bd {O : Nat → Nat} {c : Nat} {st : Nat → Nat} : ∀ {i : Nat} {w : Nat → Nat} {k : Nat}, RC O c st i w k → (∀ j, j < 4 → w j ≤ st j) ∧ k ≤ 4 * i := by
  intro i
  induction i with
  | zero => intro w k h; exact ⟨fun j hj => Nat.le_of_eq (h.1 j hj), by rw [h.2]; omega⟩
  | succ i ih =>
    intro w k h
    obtain ⟨w', k', up, a, b, d, f⟩ := h
    obtain ⟨g1, g2⟩ := ih a
    have := plc_4 (O i) c
    refine ⟨fun j hj => ?_, by omega⟩
    rw [f j hj]
    have h1 := mv_le (O i) c up w' j
    have h2 := g1 j hj
    omega
def dig (w : Nat → Nat) : Prop := ∀ j, j < 4 → w j ≤ 5
def e8 (w : Nat → Nat) : Nat := w 0 + 8 * w 1 + 64 * w 2 + 512 * w 3
def e6 (w : Nat → Nat) : Nat := w 0 + 6 * w 1 + 36 * w 2 + 216 * w 3
theorem j4 {P : Nat → Prop} (h0 : P 0) (h1 : P 1) (h2 : P 2) (h3 : P 3) : ∀ j, j < 4 → P j := by
  intro j hj
  match j, hj with
  | 0, _ => exact h0
  | 1, _ => exact h1
  | 2, _ => exact h2
  | 3, _ => exact h3
  | n + 4, h => omega
theorem e8_lt {w : Nat → Nat} (h : dig w) : e8 w < 4096 := by
  have h0 := h 0 (by omega)
  have h1 := h 1 (by omega)
  have h2 := h 2 (by omega)
  have h3 := h 3 (by omega)
  unfold e8; omega
theorem e6_lt {w : Nat → Nat} (h : dig w) : e6 w < 1296 := by
  have h0 := h 0 (by omega)
  have h1 := h 1 (by omega)
  have h2 := h 2 (by omega)
  have h3 := h 3 (by omega)
  unfold e6; omega
theorem e8_inj {w w' : Nat → Nat} (h : dig w) (h' : dig w') (e : e8 w = e8 w') : ∀ j, j < 4 → w j = w' j := by
  have h0 := h 0 (by omega)
  have h1 := h 1 (by omega)
  have h2 := h 2 (by omega)
  have h3 := h 3 (by omega)
  have g0 := h' 0 (by omega)
  have g1 := h' 1 (by omega)
  have g2 := h' 2 (by omega)
  have g3 := h' 3 (by omega)
  unfold e8 at e
  exact j4 (by omega) (by omega) (by omega) (by omega)
theorem e6_inj {w w' : Nat → Nat} (h : dig w) (h' : dig w') (e : e6 w = e6 w') : ∀ j, j < 4 → w j = w' j := by
  have h0 := h 0 (by omega)
  have h1 := h 1 (by omega)
  have h2 := h 2 (by omega)
  have h3 := h 3 (by omega)
  have g0 := h' 0 (by omega)
  have g1 := h' 1 (by omega)
  have g2 := h' 2 (by omega)
  have g3 := h' 3 (by omega)
  unfold e6 at e
  exact j4 (by omega) (by omega) (by omega) (by omega)
theorem e8_congr {w w' : Nat → Nat} (h : ∀ j, j < 4 → w j = w' j) : e8 w = e8 w' := by
  unfold e8; rw [h 0 (by omega), h 1 (by omega), h 2 (by omega), h 3 (by omega)]
theorem e6_congr {w w' : Nat → Nat} (h : ∀ j, j < 4 → w j = w' j) : e6 w = e6 w' := by
  unfold e6; rw [h 0 (by omega), h 1 (by omega), h 2 (by omega), h 3 (by omega)]
theorem e8_le {w w' : Nat → Nat} (h : ∀ j, j < 4 → w j ≤ w' j) : e8 w ≤ e8 w' := by
  have h0 := h 0 (by omega)
  have h1 := h 1 (by omega)
  have h2 := h 2 (by omega)
  have h3 := h 3 (by omega)
  unfold e8; omega
def dec1 (w : Nat → Nat) (j : Nat) : Nat → Nat := fun i => if i = j then w i - 1 else w i
theorem e8_dig {w : Nat → Nat} (h : dig w) : ∀ j, j < 4 → e8 w / 2 ^ (3 * j) % 8 = w j := by
  have h0 := h 0 (by omega)
  have h1 := h 1 (by omega)
  have h2 := h 2 (by omega)
  have h3 := h 3 (by omega)
  unfold e8
  refine j4 ?_ ?_ ?_ ?_ <;> simp <;> omega
theorem e6_dig {w : Nat → Nat} (h : dig w) : ∀ j, j < 4 → e6 w / 6 ^ j % 6 = w j := by
  have h0 := h 0 (by omega)
  have h1 := h 1 (by omega)
  have h2 := h 2 (by omega)
  have h3 := h 3 (by omega)
  unfold e6
  refine j4 ?_ ?_ ?_ ?_ <;> simp <;> omega
theorem e8_dec {w : Nat → Nat} : ∀ j, j < 4 → 0 < w j → 2 ^ (3 * j) ≤ e8 w ∧ e8 w - 2 ^ (3 * j) = e8 (dec1 w j) := by
  unfold e8 dec1
  refine j4 ?_ ?_ ?_ ?_ <;> intro h <;> simp <;> omega
theorem e6_dec {w : Nat → Nat} : ∀ j, j < 4 → 0 < w j → 6 ^ j ≤ e6 w ∧ e6 w - 6 ^ j = e6 (dec1 w j) := by
  unfold e6 dec1
  refine j4 ?_ ?_ ?_ ?_ <;> intro h <;> simp <;> omega
theorem dec_0 {w : Nat → Nat} {j : Nat} (h : w j = 0) : ∀ i, dec1 w j i = w i := by
  intro i
  unfold dec1
  split
  · rename_i e; subst e; omega
  · rfl
/-- x is the least number of Q, or F if there is none -/
def MN (x : Int32) (Q : Nat → Prop) (F : Nat) : Prop := (∃ z, z < 1000 ∧ x = nI z ∧ Q z ∧ ∀ z', Q z' → z ≤ z') ∨ (x = nI F ∧ ∀ z', ¬ Q z')
theorem MN_conv {x : Int32} {Q Q' : Nat → Prop} {F : Nat} (h : MN x Q F) (h1 : ∀ k, Q k → Q' k) (h2 : ∀ k', Q' k' → ∃ k, k ≤ k' ∧ Q k) : MN x Q' F := by
  rcases h with ⟨z, a, b, c, d⟩ | ⟨a, b⟩
  · refine Or.inl ⟨z, a, b, h1 z c, fun z' hz' => ?_⟩
    obtain ⟨k, hk, hq⟩ := h2 z' hz'
    have := d k hq
    omega
  · refine Or.inr ⟨a, fun z' hz' => ?_⟩
    obtain ⟨k, hk, hq⟩ := h2 z' hz'
    exact b k hq
theorem MN_le {x : Int32} {Q : Nat → Prop} {F c : Nat} (hF : 1000 ≤ F) (hF2 : F < 2 ^ 31) (hc : c < 1000) (h : MN x Q F) (hle : x ≤ nI c) : MN x (fun k => Q k ∨ k = c) F := by
  rcases h with ⟨z, a, b, d, e⟩ | ⟨a, b⟩
  · refine Or.inl ⟨z, a, b, Or.inl d, fun z' hz' => ?_⟩
    rcases hz' with g | g
    · exact e z' g
    · subst g
      rw [b, nI_leI (by omega) (by omega)] at hle
      exact hle
  · rw [a, nI_leI hF2 (by omega)] at hle
    omega
theorem MN_gt {x : Int32} {Q : Nat → Prop} {F c : Nat} (hc : c < 1000) (h : MN x Q F) (hle : ¬ x ≤ nI c) : MN (nI c) (fun k => Q k ∨ k = c) F := by
  refine Or.inl ⟨c, hc, rfl, Or.inr rfl, fun z' hz' => ?_⟩
  rcases hz' with g | g
  · rcases h with ⟨z, a, b, d, e⟩ | ⟨a, b⟩
    · have := e z' g
      rw [b, nI_leI (by omega) (by omega)] at hle
      omega
    · exact absurd g (b z')
  · omega
def okA (E : (Nat → Nat) → Nat) (F N : Nat) (A : Nat → Int32) (Q : (Nat → Nat) → Nat → Prop) : Prop := (∀ w, dig w → MN (A (E w)) (Q w) F) ∧ ∀ t, t < N → (∀ w, dig w → E w ≠ t) → A t = nI F
theorem ok_conv {E : (Nat → Nat) → Nat} {F N : Nat} {A : Nat → Int32} {Q Q' : (Nat → Nat) → Nat → Prop} (h : okA E F N A Q) (h1 : ∀ w, dig w → ∀ k, Q w k → Q' w k) (h2 : ∀ w, dig w → ∀ k', Q' w k' → ∃ k, k ≤ k' ∧ Q w k) : okA E F N A Q' :=
  ⟨fun w hw => MN_conv (h.1 w hw) (h1 w hw) (h2 w hw), h.2⟩
theorem ok_ins {E : (Nat → Nat) → Nat} {F N : Nat} {A : Nat → Int32} {Q : (Nat → Nat) → Nat → Prop} (hinj : ∀ w w', dig w → dig w' → E w = E w' → ∀ j, j < 4 → w j = w' j) (hcon : ∀ w w', (∀ j, j < 4 → w j = w' j) → E w = E w') (hF : 1000 ≤ F) (hF2 : F < 2 ^ 31) (h : okA E F N A Q) {v : Nat → Nat} (hv : dig v) {c : Nat} (hc : c < 1000) :
    (A (E v) ≤ nI c → okA E F N A (fun w k => Q w k ∨ (k = c ∧ ∀ j, j < 4 → w j = v j))) ∧ (¬ A (E v) ≤ nI c → okA E F N (upd A (E v) (nI c)) (fun w k => Q w k ∨ (k = c ∧ ∀ j, j < 4 → w j = v j))) := by
  constructor
  · intro hle
    refine ⟨fun w hw => ?_, h.2⟩
    by_cases e : E w = E v
    · have hj := hinj w v hw hv e
      rw [e]
      have := h.1 w hw
      rw [e] at this
      exact MN_conv (MN_le hF hF2 hc this hle) (fun k hk => hk.elim Or.inl (fun z => Or.inr ⟨z, hj⟩)) (fun k hk => ⟨k, Nat.le_refl _, hk.elim Or.inl (fun z => Or.inr z.1)⟩)
    · exact MN_conv (h.1 w hw) (fun k hk => Or.inl hk) (fun k hk => ⟨k, Nat.le_refl _, hk.elim id (fun z => absurd (hcon w v z.2) e)⟩)
  · intro hle
    refine ⟨fun w hw => ?_, fun t ht hno => ?_⟩
    · by_cases e : E w = E v
      · have hj := hinj w v hw hv e
        rw [e, pk_us]
        have := h.1 w hw
        rw [e] at this
        exact MN_conv (MN_gt hc this hle) (fun k hk => hk.elim Or.inl (fun z => Or.inr ⟨z, hj⟩)) (fun k hk => ⟨k, Nat.le_refl _, hk.elim Or.inl (fun z => Or.inr z.1)⟩)
      · rw [pk_un e]
        exact MN_conv (h.1 w hw) (fun k hk => Or.inl hk) (fun k hk => ⟨k, Nat.le_refl _, hk.elim id (fun z => absurd (hcon w v z.2) e)⟩)
    · rw [pk_un (fun z => hno v hv z.symm)]
      exact h.2 t ht hno
/-- how many ballots c lacks against the candidate at position j -/
def stn (n : Nat) (O : Nat → Nat) (c j : Nat) : Nat := if Mg n O c (oth c j) ≤ 0 then (- Mg n O c (oth c j)).toNat / 2 + 1 else 0
theorem stn_5 {n : Nat} (hn : n ≤ 9) (O : Nat → Nat) (c : Nat) : dig (stn n O c) := by
  intro j _
  have := Mg_bd hn O c (oth c j)
  unfold stn; split <;> omega
/-- the number of ballots with a before b -/
def bfr (n : Nat) (O : Nat → Nat) (a b : Nat) : Int := sm n (fun i => if plc (O i) a < plc (O i) b then 1 else 0)
theorem bfr_bd (n : Nat) (O : Nat → Nat) (a b : Nat) : 0 ≤ bfr n O a b ∧ bfr n O a b ≤ n := by
  have h1 := sm_lo (n := n) (k := 0) (f := fun i => if plc (O i) a < plc (O i) b then (1 : Int) else 0) (fun i _ => by split <;> omega)
  have h2 := sm_hi (n := n) (k := 1) (f := fun i => if plc (O i) a < plc (O i) b then (1 : Int) else 0) (fun i _ => by split <;> omega)
  unfold bfr; omega
theorem Mg_bfr {n : Nat} {O : Nat → Nat} (hO : ∀ i, i < n → isr (O i) = true) {a b : Nat} (ha : a < 5) (hb : b < 5) (hne : a ≠ b) : Mg n O a b = 2 * bfr n O a b - n ∧ Mg n O a b = n - 2 * bfr n O b a := by
  have key : ∀ m, m ≤ n → sm m (fun i => if (fun _ => true) i = true then prf (O i) a b else 0) = 2 * sm m (fun i => if plc (O i) a < plc (O i) b then (1 : Int) else 0) - m ∧ sm m (fun i => if (fun _ => true) i = true then prf (O i) a b else 0) = m - 2 * sm m (fun i => if plc (O i) b < plc (O i) a then (1 : Int) else 0) := by
    intro m
    induction m with
    | zero => intro _; exact ⟨rfl, rfl⟩
    | succ m ih =>
      intro hm
      obtain ⟨i1, i2⟩ := ih (by omega)
      have hne2 : plc (O m) a ≠ plc (O m) b := fun z => hne (rc_inj (hO m (by omega)) ha hb z)
      simp only [sm, if_true] at i1 i2 ⊢
      unfold prf at i1 i2 ⊢
      rcases Nat.lt_or_gt_of_ne hne2 with h | h
      · rw [if_pos h, if_pos h, if_neg (Nat.not_lt.mpr (Nat.le_of_lt h))]
        constructor <;> omega
      · rw [if_neg (Nat.not_lt.mpr (Nat.le_of_lt h)), if_neg (Nat.not_lt.mpr (Nat.le_of_lt h)), if_pos h, if_pos h]
        constructor <;> omega
  exact key n (Nat.le_refl n)
/-- all the way up on each ballot: nothing is wanting at the end -/
theorem RC_full {n : Nat} {O : Nat → Nat} {c : Nat} {st : Nat → Nat} : ∀ i, ∃ (w : Nat → Nat) (k : Nat), RC O c st i w k ∧ ∀ j, j < 4 → (w j : Int) ≤ st j - bfr i O (oth c j) c ∨ w j = 0 := by
  intro i
  induction i with
  | zero => exact ⟨st, 0, ⟨fun _ _ => rfl, rfl⟩, fun j _ => Or.inl (by simp [bfr, sm])⟩
  | succ i ih =>
    obtain ⟨w, k, h, g⟩ := ih
    refine ⟨mv (O i) c (plc (O i) c) w, k + plc (O i) c, ⟨w, k, plc (O i) c, h, Nat.le_refl _, rfl, fun _ _ => rfl⟩, fun j hj => ?_⟩
    have := g j hj
    unfold bfr at this ⊢
    simp only [sm]
    unfold mv
    by_cases e : plc (O i) (oth c j) < plc (O i) c
    · rw [if_pos ⟨e, by omega⟩, if_pos e]
      omega
    · rw [if_neg (fun z => e z.1), if_neg e]
      omega
theorem RC_zero {n : Nat} (h0 : 0 < n) {O : Nat → Nat} (hO : ∀ i, i < n → isr (O i) = true) {c : Nat} (hc : c < 5) : ∃ k, RC O c (stn n O c) n (fun _ => 0) k := by
  obtain ⟨w, k, h, g⟩ := RC_full (n := n) (O := O) (c := c) (st := stn n O c) n
  refine ⟨k, RC_congr h (fun j hj => ?_)⟩
  have hf := oth_f hc hj
  have hM := (Mg_bfr hO hc hf.1 (fun z => hf.2.1 z.symm)).2
  have hb := bfr_bd n O (oth c j) c
  have := g j hj
  unfold stn at this
  split at this
  · omega
  · omega
def isSw (n : Nat) (O : Nat → Nat) (c : Nat) (z : Int) : Prop := (n = 0 ∧ z = -1002) ∨ (0 < n ∧ ∃ k : Nat, z = k ∧ k < 1000 ∧ RC O c (stn n O c) n (fun _ => 0) k ∧ ∀ k', RC O c (stn n O c) n (fun _ => 0) k' → k ≤ k')
theorem isSw_u {n : Nat} {O : Nat → Nat} {c : Nat} {z z' : Int} (h : isSw n O c z) (h' : isSw n O c z') : z = z' := by
  rcases h with ⟨a, b⟩ | ⟨a, k, b, _, d, e⟩
  · rcases h' with ⟨a', b'⟩ | ⟨a', _⟩
    · rw [b, b']
    · omega
  · rcases h' with ⟨a', b'⟩ | ⟨_, k', b', _, d', e'⟩
    · omega
    · have := e k' d'
      have := e' k d
      omega
theorem sw_fin {n : Nat} (h0 : 0 < n) {O : Nat → Nat} (hO : ∀ i, i < n → isr (O i) = true) {c : Nat} (hc : c < 5) {E : (Nat → Nat) → Nat} {F N : Nat} {A : Nat → Int32} (hE : E (fun _ => 0) = 0) (h : okA E F N A (RC O c (stn n O c) n)) : ∃ z : Int, A 0 = iI z ∧ isSw n O c z := by
  have h1 := h.1 (fun _ => 0) (fun _ _ => Nat.zero_le 5)
  rw [hE] at h1
  rcases h1 with ⟨z, a, b, d, e⟩ | ⟨_, b⟩
  · exact ⟨z, by rw [b, vs_iN], Or.inr ⟨h0, z, rfl, a, d, e⟩⟩
  · obtain ⟨k, hk⟩ := RC_zero h0 hO hc
    exact absurd hk (b k)
