/-! ===== codes of rankings ===== -/
def rkc (o p : Nat) : Nat := o / 5 ^ (4 - p) % 5
def plc (o c : Nat) : Nat := if rkc o 0 = c then 0 else if rkc o 1 = c then 1 else if rkc o 2 = c then 2 else if rkc o 3 = c then 3 else 4
def rc_sj (o : Nat) : Bool := (List.range 5).all fun c => (List.range 5).any fun p => rkc o p == c
def rc_pm (o : Nat) : Bool := (List.range 5).all fun p => decide (rkc o p < 5) && (plc o (rkc o p) == p) && decide (plc o p < 5) && (rkc o (plc o p) == p)
theorem rc_dec : (List.range 3125).all (fun o => !rc_sj o || rc_pm o) = true := by decide +kernel
/-- the seen digits after k steps -/
def rc_sn (o : Nat) : Nat → Int32
  | 0 => 0
  | k + 1 => rc_sn o k ||| ((1 : Int32) <<< (nI (o / 5 ^ k % 5) &&& 31))
def isr (o : Nat) : Bool := decide (o < 3125) && decide (rc_sn o 5 = 31)
theorem rc_bits (o : Nat) : ∀ k i, bt (rc_sn o k) i = true ↔ ∃ j, j < k ∧ o / 5 ^ j % 5 = i := by
  intro k
  induction k with
  | zero => intro i; simp [rc_sn, b_0]
  | succ k ih =>
    intro i
    have h5 : o / 5 ^ k % 5 < 5 := Nat.mod_lt _ (by decide)
    rw [rc_sn, b_or, vb_pow (by omega), Bool.or_eq_true, ih i, decide_eq_true_eq]
    constructor
    · rintro (⟨j, a, b⟩ | e)
      · exact ⟨j, by omega, b⟩
      · exact ⟨k, by omega, e.symm⟩
    · rintro ⟨j, a, b⟩
      by_cases e : j = k
      · subst e; exact Or.inr b.symm
      · exact Or.inl ⟨j, by omega, b⟩
theorem isr_lt {o : Nat} (h : isr o = true) : o < 3125 := by
  unfold isr at h
  simp only [Bool.and_eq_true, decide_eq_true_eq] at h
  exact h.1
theorem rc_perm {o : Nat} (h : isr o = true) : rc_pm o = true := by
  have hl := isr_lt h
  unfold isr at h
  simp only [Bool.and_eq_true, decide_eq_true_eq] at h
  have hs : rc_sj o = true := by
    unfold rc_sj
    rw [List.all_eq_true]
    intro c hc
    rw [List.mem_range] at hc
    have hb := (rc_bits o 5 c).mp (by rw [h.2, vb_31, decide_eq_true hc])
    obtain ⟨j, hj, e⟩ := hb
    rw [List.any_eq_true]
    refine ⟨4 - j, by rw [List.mem_range]; omega, ?_⟩
    rw [beq_iff_eq]
    unfold rkc
    rw [show 4 - (4 - j) = j from by omega]
    exact e
  have hd := rc_dec
  rw [List.all_eq_true] at hd
  have := hd o (by rw [List.mem_range]; exact hl)
  rw [hs] at this
  simpa using this
theorem rc_all {o p : Nat} (h : isr o = true) (hp : p < 5) : rkc o p < 5 ∧ plc o (rkc o p) = p ∧ plc o p < 5 ∧ rkc o (plc o p) = p := by
  have := rc_perm h
  unfold rc_pm at this
  rw [List.all_eq_true] at this
  have := this p (by rw [List.mem_range]; exact hp)
  simp only [Bool.and_eq_true, decide_eq_true_eq, beq_iff_eq] at this
  exact ⟨this.1.1.1, this.1.1.2, this.1.2, this.2⟩
theorem rc_inj {o a b : Nat} (h : isr o = true) (ha : a < 5) (hb : b < 5) (e : plc o a = plc o b) : a = b := by
  rw [← (rc_all h ha).2.2.2, e, (rc_all h hb).2.2.2]
theorem rc_inj2 {o a b : Nat} (h : isr o = true) (ha : a < 5) (hb : b < 5) (e : rkc o a = rkc o b) : a = b := by
  rw [← (rc_all h ha).2.1, e, (rc_all h hb).2.1]
theorem rc_step {o k : Nat} : o / 5 ^ k / 5 = o / 5 ^ (k + 1) := by
  rw [Nat.div_div_eq_div_mul, Nat.pow_succ]
theorem rc_div {a : Nat} (h : a < 2 ^ 31) : nI a / 5 = nI (a / 5) := pk_div h (by decide) (by decide)
theorem rc_rem {a : Nat} (h : a < 2 ^ 31) : nI a - nI a / 5 * 5 = nI (a % 5) := pk_rem h (by decide) (by decide)
theorem rc_dl (o k : Nat) (h : o < 3125) : o / 5 ^ k < 2 ^ 31 := Nat.lt_of_le_of_lt (Nat.div_le_self _ _) (by omega)
theorem rc_xl {post : Int32 → Prop} {o : Nat} (ho : o < 3125) (hp : post (if isr o then 1 else 0)) : ∃ n, wX_isRanking_19 post n 0 (nI o) 0 := by
  refine pk_loop (σ := Int32 × Int32) (fun n i s => wX_isRanking_19 post n s.1 s.2 (nI i)) (fun i s => s = (rc_sn o i, nI (o / 5 ^ i))) 5 0 (0, nI o) (by omega) (by simp [rc_sn]) ?_ ?_
  · rintro n s rfl
    rw [wX_isRanking_19]
    refine br_t (by decide) ?_
    unfold isr at hp
    simp only [ho, decide_true, Bool.true_and, decide_eq_true_eq] at hp
    exact br_c (fun h => by rw [if_pos h] at hp; exact hp) (fun h => by rw [if_neg h] at hp; exact hp)
  · rintro n i s hi rfl hk
    rw [wX_isRanking_19]
    refine br_f (nI_ge (b := 5) hi (by decide)) ⟨by decide, nm_r rfl ⟨by decide, nm_r (rc_div (rc_dl o i ho)) (nm_r (nI_1 i) ?_)⟩⟩
    have := hk (rc_sn o (i + 1), nI (o / 5 ^ (i + 1))) rfl
    rw [rc_rem (rc_dl o i ho), rc_step]
    exact this
theorem rc_yl {post : Int32 → Prop} {yn yc : Int32} {yo yp ym ys yl yb yw yk yt yz yx : Nat → Int32} {o : Nat} (ho : o < 3125) (hp : post (if isr o then 1 else 0)) : ∃ n, wY_isOrder_21 post yn yc yo yp ym ys yl yb yw yk yt yz yx n (nI o) 0 0 := by
  refine pk_loop (σ := Int32 × Int32) (fun n i s => wY_isOrder_21 post yn yc yo yp ym ys yl yb yw yk yt yz yx n s.2 s.1 (nI i)) (fun i s => s = (rc_sn o i, nI (o / 5 ^ i))) 5 0 (0, nI o) (by omega) (by simp [rc_sn]) ?_ ?_
  · rintro n s rfl
    rw [wY_isOrder_21]
    refine br_t (by decide) ?_
    unfold isr at hp
    simp only [ho, decide_true, Bool.true_and, decide_eq_true_eq] at hp
    exact br_c (fun h => by rw [if_pos h] at hp; exact hp) (fun h => by rw [if_neg h] at hp; exact hp)
  · rintro n i s hi rfl hk
    rw [wY_isOrder_21]
    refine br_f (nI_ge (b := 5) hi (by decide)) ⟨by decide, nm_r rfl ⟨by decide, nm_r (rc_div (rc_dl o i ho)) (nm_r (nI_1 i) ?_)⟩⟩
    have := hk (rc_sn o (i + 1), nI (o / 5 ^ (i + 1))) rfl
    rw [rc_rem (rc_dl o i ho), rc_step]
    exact this
theorem x_isRanking {post : Int32 → Prop} {x : Int32} (h0 : (∀ o, isr o = true → x ≠ nI o) → post 0) (h1 : ∀ o, x = nI o → isr o = true → post 1) : wpX_isRanking post x := by
  unfold wpX_isRanking
  by_cases hn : x < 0
  · refine br_t hn (h0 fun o ho e => ?_)
    subst e
    exact nI_pos (Nat.lt_trans (isr_lt ho) (by decide)) hn
  · obtain ⟨o, ho, rfl⟩ := nI_of hn
    refine br_f hn ?_
    by_cases hl : o < 3125
    · refine br_t (nI_lt (b := 3125) hl (by decide)) (rc_xl hl ?_)
      by_cases hi : isr o = true
      · rw [if_pos hi]; exact h1 o rfl hi
      · rw [if_neg hi]
        refine h0 fun o' ho' e => hi ?_
        rw [nI_eq ho (Nat.lt_trans (isr_lt ho') (by decide))] at e
        rw [e]; exact ho'
    · refine br_f (nI_nlt (b := 3125) (by omega) ho) (h0 fun o' ho' e => ?_)
      have := isr_lt ho'
      rw [nI_eq ho (by omega)] at e
      omega
theorem y_in {post : Int32 → Prop} {v : SY} {x : Int32} {b : Int32} (lo hi : Nat) (hb : b = nI hi) (hh : hi < 2 ^ 31) (h0 : (∀ j, lo ≤ j → j ≤ hi → x ≠ nI j) → post 0) (h1 : ∀ j, lo ≤ j → j ≤ hi → x = nI j → post 1) (hlo : lo = 0 := by rfl) : wpY_in post v x 0 b := by
  obtain ⟨yn, yc, yo, yp, ym, ys, yl, yb, yw, yk, yt, yz, yx⟩ := v
  unfold wpY_in
  dsimp only
  subst hb hlo
  by_cases hn : x < 0
  · refine br_t hn (h0 fun j _ hj e => ?_)
    subst e
    exact nI_pos (by omega) hn
  · obtain ⟨o, ho, rfl⟩ := nI_of hn
    refine br_f hn ?_
    refine pk_lt hi o (fun h => h0 fun j _ hj e => ?_) (fun h => h1 o (by omega) h rfl) rfl rfl hh ho
    rw [nI_eq ho (by omega)] at e
    omega
theorem y_isOrder {post : Int32 → Prop} {v : SY} {x : Int32} (h0 : (∀ o, isr o = true → x ≠ nI o) → post 0) (h1 : ∀ o, x = nI o → isr o = true → post 1) : wpY_isOrder post v x := by
  obtain ⟨yn, yc, yo, yp, ym, ys, yl, yb, yw, yk, yt, yz, yx⟩ := v
  unfold wpY_isOrder
  dsimp only
  refine y_in 0 3124 rfl (by decide) (fun hno => br_t rfl (h0 fun o ho e => hno o (by omega) (by have := isr_lt ho; omega) e)) (fun o _ hl e => br_f (by decide) ?_)
  subst e
  refine rc_yl (by omega) ?_
  by_cases hi : isr o = true
  · rw [if_pos hi]; exact h1 o rfl hi
  · rw [if_neg hi]
    refine h0 fun o' ho' e => hi ?_
    have := isr_lt ho'
    rw [nI_eq (by omega) (by omega)] at e
    rw [e]; exact ho'
