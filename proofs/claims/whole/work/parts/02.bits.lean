/-- sets of states as ints: a lies within b -/
def sb_s (a b : Int32) : Prop := ∀ i, i < 32 → bt a i = true → bt b i = true
/-- a set of the six states -/
def sb_6 (a : Int32) : Prop := ∀ i, 6 ≤ i → i < 32 → bt a i = false
theorem sb_rf (a : Int32) : sb_s a a := fun _ _ h => h
theorem sb_tr {a b c : Int32} (h : sb_s a b) (k : sb_s b c) : sb_s a c := fun i hi x => k i hi (h i hi x)
theorem sb_63b : ∀ i, i < 32 → bt 63 i = decide (i < 6) := by decide +kernel
theorem sb_bit : ∀ s, s < 6 → ∀ i, i < 32 → bt ((1 : Int32) <<< (nI s &&& 31)) i = decide (i = s) := by decide +kernel
theorem sb_and {a a' b b' : Int32} (h : sb_s a a') (k : sb_s b b') : sb_s (a &&& b) (a' &&& b') := fun i hi x => by
  rw [b_and, Bool.and_eq_true] at x ⊢
  exact ⟨h i hi x.1, k i hi x.2⟩
theorem sb_or {a a' b b' : Int32} (h : sb_s a a') (k : sb_s b b') : sb_s (a ||| b) (a' ||| b') := fun i hi x => by
  rw [b_or, Bool.or_eq_true] at x ⊢
  exact x.elim (fun y => Or.inl (h i hi y)) (fun y => Or.inr (k i hi y))
theorem sb_0 (b : Int32) : sb_s 0 b := fun i hi x => by rw [b_0] at x; exact absurd x (by decide)
theorem sb_63 {a : Int32} (h : sb_6 a) : sb_s a 63 := fun i hi x => by
  rw [sb_63b i hi, decide_eq_true_eq]
  refine Nat.lt_of_not_le fun z => ?_
  rw [h i z hi] at x
  exact absurd x (by decide)
theorem sb_nc {a b : Int32} (h : sb_s a b) : sb_s (63 &&& (b ^^^ (-1))) (63 &&& (a ^^^ (-1))) := fun i hi x => by
  rw [b_and, b_xor, b_m1 i hi] at x ⊢
  have := h i hi
  revert x this
  cases bt 63 i <;> cases bt a i <;> cases bt b i <;> decide
theorem sb_60 : sb_6 0 := fun i _ _ => b_0 i
theorem sb_663 : sb_6 63 := fun i h hi => by rw [sb_63b i hi, decide_eq_false_iff_not]; omega
theorem sb_6and {a b : Int32} (h : sb_6 a) : sb_6 (a &&& b) := fun i k hi => by rw [b_and, h i k hi]; rfl
theorem sb_6or {a b : Int32} (h : sb_6 a) (h' : sb_6 b) : sb_6 (a ||| b) := fun i k hi => by rw [b_or, h i k hi, h' i k hi]; rfl
theorem sb_6bit {s : Nat} (hs : s < 6) : sb_6 ((1 : Int32) <<< (nI s &&& 31)) := fun i k hi => by
  rw [sb_bit s hs i hi, decide_eq_false_iff_not]; omega
theorem sb_6n {m : Nat} (h : m < 64) : sb_6 (nI m) := by
  have : ∀ m, m < 64 → ∀ i, i < 32 → 6 ≤ i → bt (nI m) i = false := by decide +kernel
  exact fun i k hi => this m h i hi k
/-- how many states a set has -/
def sb_c (a : Int32) : Nat := (bt a 0).toNat + (bt a 1).toNat + (bt a 2).toNat + (bt a 3).toNat + (bt a 4).toNat + (bt a 5).toNat
theorem sb_c6 (a : Int32) : sb_c a ≤ 6 := by
  unfold sb_c
  have h := fun i => Bool.toNat_le (bt a i)
  have h0 := h 0; have h1 := h 1; have h2 := h 2; have h3 := h 3; have h4 := h 4; have h5 := h 5
  omega
theorem sb_b {x y : Bool} (h : x = true → y = true) : x.toNat ≤ y.toNat := by
  cases x <;> cases y <;> revert h <;> decide
theorem sb_bi {x y : Bool} (h : x.toNat = y.toNat) : x = y := by
  cases x <;> cases y <;> revert h <;> decide
theorem sb_cs {a b : Int32} (h : sb_s a b) (hb : sb_6 b) (ha : sb_6 a) (hn : ¬ a = b) : sb_c a < sb_c b := by
  refine Nat.lt_of_not_le fun z => hn ?_
  have h0 := sb_b (h 0 (by omega)); have h1 := sb_b (h 1 (by omega)); have h2 := sb_b (h 2 (by omega))
  have h3 := sb_b (h 3 (by omega)); have h4 := sb_b (h 4 (by omega)); have h5 := sb_b (h 5 (by omega))
  unfold sb_c at z
  refine b_ext fun i hi => ?_
  have : i = 0 ∨ i = 1 ∨ i = 2 ∨ i = 3 ∨ i = 4 ∨ i = 5 ∨ 6 ≤ i := by omega
  rcases this with e | e | e | e | e | e | e
  · rw [e]; exact sb_bi (by omega)
  · rw [e]; exact sb_bi (by omega)
  · rw [e]; exact sb_bi (by omega)
  · rw [e]; exact sb_bi (by omega)
  · rw [e]; exact sb_bi (by omega)
  · rw [e]; exact sb_bi (by omega)
  · rw [ha i e hi, hb i e hi]
/-- the states below k with a step into Z -/
def sb_p (tg : Nat → Int32) (Z : Int32) : Nat → Int32
  | 0 => 0
  | s + 1 => if (tg s &&& Z) = 0 then sb_p tg Z s else sb_p tg Z s ||| ((1 : Int32) <<< (nI s &&& 31))
/-- the states below k all of whose steps lead into Z -/
def sb_q (tg : Nat → Int32) (Z : Int32) : Nat → Int32
  | 0 => 0
  | s + 1 => if (tg s &&& (Z ^^^ (-1))) = 0 then sb_q tg Z s ||| ((1 : Int32) <<< (nI s &&& 31)) else sb_q tg Z s
theorem sb_pb (tg : Nat → Int32) (Z : Int32) : ∀ s, s ≤ 6 → ∀ i, i < 32 → bt (sb_p tg Z s) i = (decide (i < s) && decide (¬ (tg i &&& Z) = 0)) := by
  intro s
  induction s with
  | zero => intro _ i _; rw [sb_p, b_0, decide_eq_false (by omega), Bool.false_and]
  | succ s ih =>
    intro hs i hi
    have := ih (by omega) i hi
    rw [sb_p]
    by_cases z : (tg s &&& Z) = 0
    · rw [if_pos z, this]
      by_cases e : i = s
      · rw [e, decide_eq_false (show ¬ s < s by omega), decide_eq_false (show ¬ ¬ (tg s &&& Z) = 0 from fun n => n z), Bool.and_false, Bool.and_false]
      · rw [show decide (i < s + 1) = decide (i < s) from decide_eq_decide.mpr (by omega)]
    · rw [if_neg z, b_or, this, sb_bit s (by omega) i hi]
      by_cases e : i = s
      · rw [e, decide_eq_true (rfl : s = s), decide_eq_true (show s < s + 1 by omega), decide_eq_true z, Bool.or_true, Bool.and_true]
      · rw [decide_eq_false e, Bool.or_false, show decide (i < s + 1) = decide (i < s) from decide_eq_decide.mpr (by omega)]
theorem sb_qb (tg : Nat → Int32) (Z : Int32) : ∀ s, s ≤ 6 → ∀ i, i < 32 → bt (sb_q tg Z s) i = (decide (i < s) && decide ((tg i &&& (Z ^^^ (-1))) = 0)) := by
  intro s
  induction s with
  | zero => intro _ i _; rw [sb_q, b_0, decide_eq_false (by omega), Bool.false_and]
  | succ s ih =>
    intro hs i hi
    have := ih (by omega) i hi
    rw [sb_q]
    by_cases z : (tg s &&& (Z ^^^ (-1))) = 0
    · rw [if_pos z, b_or, this, sb_bit s (by omega) i hi]
      by_cases e : i = s
      · rw [e, decide_eq_true (rfl : s = s), decide_eq_true (show s < s + 1 by omega), decide_eq_true z, Bool.or_true, Bool.and_true]
      · rw [decide_eq_false e, Bool.or_false, show decide (i < s + 1) = decide (i < s) from decide_eq_decide.mpr (by omega)]
    · rw [if_neg z, this]
      by_cases e : i = s
      · rw [e, decide_eq_false (show ¬ s < s by omega), decide_eq_false z, Bool.and_false, Bool.and_false]
      · rw [show decide (i < s + 1) = decide (i < s) from decide_eq_decide.mpr (by omega)]
theorem sb_z {a b : Int32} (h : sb_s a b) (k : b = 0) : a = 0 := b_ext fun i hi => by
  rw [b_0]
  cases e : bt a i
  · rfl
  · have := h i hi e
    rw [k, b_0] at this
    exact absurd this (by decide)
theorem sb_pm (tg : Nat → Int32) {Z Z' : Int32} (h : sb_s Z Z') : sb_s (sb_p tg Z 6) (sb_p tg Z' 6) := fun i hi x => by
  rw [sb_pb tg _ 6 (by omega) i hi, Bool.and_eq_true, decide_eq_true_eq, decide_eq_true_eq] at x ⊢
  exact ⟨x.1, fun z => x.2 (sb_z (sb_and (sb_rf _) h) z)⟩
theorem sb_p6 (tg : Nat → Int32) (Z : Int32) : sb_6 (sb_p tg Z 6) := fun i k hi => by
  rw [sb_pb tg _ 6 (by omega) i hi, decide_eq_false (by omega), Bool.false_and]
/-- the component's 'all' is the reference's -/
theorem sb_pq (tg : Nat → Int32) (ht : ∀ s, sb_6 (tg s)) (Z : Int32) : 63 &&& (sb_p tg (63 &&& (Z ^^^ (-1))) 6 ^^^ (-1)) = sb_q tg Z 6 := b_ext fun i hi => by
  have e : (tg i &&& (63 &&& (Z ^^^ (-1)))) = (tg i &&& (Z ^^^ (-1))) := b_ext fun j hj => by
    rw [b_and, b_and, b_and, sb_63b j hj]
    by_cases k : j < 6
    · rw [decide_eq_true k, Bool.true_and]
    · rw [ht i j (by omega) hj, Bool.false_and, Bool.false_and]
  rw [b_and, b_xor, b_m1 i hi, sb_pb tg _ 6 (by omega) i hi, sb_qb tg _ 6 (by omega) i hi, sb_63b i hi, e]
  by_cases k : i < 6
  · by_cases z : (tg i &&& (Z ^^^ (-1))) = 0
    · rw [decide_eq_true k, decide_eq_true z, decide_eq_false (show ¬ ¬ (tg i &&& (Z ^^^ (-1))) = 0 from fun n => n z)]; rfl
    · rw [decide_eq_true k, decide_eq_false z, decide_eq_true z]; rfl
  · rw [decide_eq_false k]; rfl
