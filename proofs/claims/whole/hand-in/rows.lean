section
theorem pk_us {f : Nat → Int32} {k : Nat} {x : Int32} : upd f k x k = x := if_pos rfl
theorem pk_un {f : Nat → Int32} {k j : Nat} {x : Int32} (h : j ≠ k) : upd f k x j = f j := if_neg h
theorem pk_sub {a b : Nat} (h : b ≤ a) : nI a - nI b = nI (a - b) := by
  obtain ⟨c, rfl⟩ : ∃ c, a = c + b := ⟨a - b, by omega⟩
  rw [← nI_add, Int32.add_sub_cancel, Nat.add_sub_cancel]
theorem pk_m1 (n : Nat) : nI (n + 1) + (-1) = nI n := by
  rw [← nI_1, Int32.add_assoc, show (1 : Int32) + (-1) = 0 from rfl, Int32.add_zero]
theorem pk_mul (a b : Nat) : nI a * nI b = nI (a * b) := (Int32.ofNat_mul a b).symm
theorem pk_div {a d : Nat} (ha : a < 2 ^ 31) (h0 : 0 < d) (hd : d < 2 ^ 31) : nI a / nI d = nI (a / d) := by
  apply Int32.toInt_inj.mp
  rw [lg_idiv_nonneg (by rw [nI_toInt ha]; omega) (by rw [nI_toInt hd]; omega), nI_toInt ha, nI_toInt hd, nI_toInt (Nat.lt_of_le_of_lt (Nat.div_le_self a d) ha)]
  first | rfl | exact (Int.natCast_ediv _ _).symm
theorem pk_rem {a d : Nat} (ha : a < 2 ^ 31) (h0 : 0 < d) (hd : d < 2 ^ 31) : nI a - nI a / nI d * nI d = nI (a % d) := by
  rw [pk_div ha h0 hd, pk_mul, pk_sub (Nat.div_mul_le_self a d)]
  exact congrArg nI (by have := Nat.div_add_mod' a d; omega)
theorem pk_ix (x : Int32) {n : Nat} (hn : n < 2 ^ 31) : x < 0 ∨ nI n ≤ x ∨ ∃ j : Nat, j < n ∧ x = nI j := by
  by_cases h : x < 0
  · exact Or.inl h
  · obtain ⟨j, hj, rfl⟩ := nI_of h
    by_cases h2 : j < n
    · exact Or.inr (Or.inr ⟨j, h2, rfl⟩)
    · exact Or.inr (Or.inl (nI_le (by omega) hj))
theorem pk_le {x y : Int32} {A B : Prop} (a b : Nat) (f : a ≤ b → A) (g : b < a → B) (hx : x = nI a := by rfl) (hy : y = nI b := by rfl) (ha : a < 2 ^ 31 := by omega) (hb : b < 2 ^ 31 := by omega) : (x ≤ y → A) ∧ (¬ x ≤ y → B) := by
  subst hx hy
  rw [nI_leI ha hb]
  exact ⟨f, fun z => g (by omega)⟩
theorem pk_lt {x y : Int32} {A B : Prop} (a b : Nat) (f : a < b → A) (g : b ≤ a → B) (hx : x = nI a := by rfl) (hy : y = nI b := by rfl) (ha : a < 2 ^ 31 := by omega) (hb : b < 2 ^ 31 := by omega) : (x < y → A) ∧ (¬ x < y → B) := by
  subst hx hy
  rw [nI_ltI ha hb]
  exact ⟨f, fun z => g (by omega)⟩
theorem pk_eq {x y : Int32} {A B : Prop} (a b : Nat) (f : a = b → A) (g : a ≠ b → B) (hx : x = nI a := by rfl) (hy : y = nI b := by rfl) (ha : a < 2 ^ 31 := by omega) (hb : b < 2 ^ 31 := by omega) : (x = y → A) ∧ (¬ x = y → B) := by
  subst hx hy
  rw [nI_eq ha hb]
  exact ⟨f, g⟩
theorem pk_in {x : Int32} (n N : Nat) (h : n < N) (hx : x = nI n := by rfl) (hN : N < 2 ^ 31 := by omega) : vp_in x N := by
  subst hx
  exact vp_in_nI h hN
theorem pk_cl {x : Int32} (n : Nat) (hx : x = nI n := by rfl) (h : n < 2 ^ 31 := by omega) : x.toNatClampNeg = n := by
  subst hx
  exact nI_clamp h
theorem pk_tn {n : Nat} (h : n < 2 ^ 32) : (nI n).toBitVec.toNat = n := Nat.mod_eq_of_lt h
def bt (x : Int32) (i : Nat) : Bool := x.toBitVec.getLsbD i
theorem b_ext {x y : Int32} (h : ∀ i, i < 32 → bt x i = bt y i) : x = y := Int32.toBitVec_inj.mp (BitVec.eq_of_getLsbD_eq (fun i hi => h i hi))
theorem b_or (x y : Int32) (i : Nat) : bt (x ||| y) i = (bt x i || bt y i) := by unfold bt; rw [Int32.toBitVec_or, BitVec.getLsbD_or]
theorem b_and (x y : Int32) (i : Nat) : bt (x &&& y) i = (bt x i && bt y i) := by unfold bt; rw [Int32.toBitVec_and, BitVec.getLsbD_and]
theorem b_xor (x y : Int32) (i : Nat) : bt (x ^^^ y) i = (bt x i ^^ bt y i) := by unfold bt; rw [Int32.toBitVec_xor, BitVec.getLsbD_xor]
theorem b_big {x : Int32} {i : Nat} (h : 32 ≤ i) : bt x i = false := BitVec.getLsbD_of_ge _ _ h
theorem b_m1 : ∀ i, i < 32 → bt (-1) i = true := by decide +kernel
theorem b_0 (i : Nat) : bt 0 i = false := BitVec.getLsbD_zero
theorem s_l : ∀ n, n < 32 → ((nI n &&& 31).toBitVec.smod 32).toNat = n := by decide +kernel
theorem b_sshr (n : Nat) (hn : n < 32) (x : Int32) {i : Nat} (hi : i < 32) : bt (x >>> (nI n &&& 31)) i = if n + i < 32 then bt x (n + i) else bt x 31 := by
  unfold bt
  rw [Int32.toBitVec_shiftRight]
  show (x.toBitVec.sshiftRight ((nI n &&& 31).toBitVec.smod 32).toNat).getLsbD i = _
  rw [s_l n hn, BitVec.getLsbD_sshiftRight, BitVec.msb_eq_getLsbD_last]
  simp [hi]
end
section
/-- sets of states as ints: a lies within b -/
def sb_s (a b : Int32) : Prop := ∀ i, i < 32 → bt a i = true → bt b i = true
/-- a set of the six states -/
def sb_6 (a : Int32) : Prop := ∀ i, 6 ≤ i → i < 32 → bt a i = false
theorem sb_rf (a : Int32) : sb_s a a := fun _ _ h => h
theorem sb_tr {a b c : Int32} (h : sb_s a b) (k : sb_s b c) : sb_s a c := fun i hi x => k i hi (h i hi x)
theorem sb_63b : ∀ i, i < 32 → bt 63 i = decide (i < 6) := by decide +kernel
theorem sb_bit : ∀ s, s < 6 → ∀ i, i < 32 → bt ((1 : Int32) <<< (nI s &&& 31)) i = decide (i = s) := by decide +kernel
theorem sb_and {a a' b b' : Int32} (h : sb_s a a') (k : sb_s b b') : sb_s (a &&& b) (a' &&& b') := fun i hi x => by
  rw [b_and, Bool.and_eq_true] at x ⊢
  exact ⟨h i hi x.1, k i hi x.2⟩
theorem sb_or {a a' b b' : Int32} (h : sb_s a a') (k : sb_s b b') : sb_s (a ||| b) (a' ||| b') := fun i hi x => by
  rw [b_or, Bool.or_eq_true] at x ⊢
  exact x.elim (fun y => Or.inl (h i hi y)) (fun y => Or.inr (k i hi y))
theorem sb_0 (b : Int32) : sb_s 0 b := fun i hi x => by rw [b_0] at x; exact absurd x (by decide)
theorem sb_63 {a : Int32} (h : sb_6 a) : sb_s a 63 := fun i hi x => by
  rw [sb_63b i hi, decide_eq_true_eq]
  refine Nat.lt_of_not_le fun z => ?_
  rw [h i z hi] at x
  exact absurd x (by decide)
theorem sb_nc {a b : Int32} (h : sb_s a b) : sb_s (63 &&& (b ^^^ (-1))) (63 &&& (a ^^^ (-1))) := fun i hi x => by
  rw [b_and, b_xor, b_m1 i hi] at x ⊢
  have := h i hi
  revert x this
  cases bt 63 i <;> cases bt a i <;> cases bt b i <;> decide
theorem sb_60 : sb_6 0 := fun i _ _ => b_0 i
theorem sb_663 : sb_6 63 := fun i h hi => by rw [sb_63b i hi, decide_eq_false_iff_not]; omega
theorem sb_6and {a b : Int32} (h : sb_6 a) : sb_6 (a &&& b) := fun i k hi => by rw [b_and, h i k hi]; rfl
theorem sb_6or {a b : Int32} (h : sb_6 a) (h' : sb_6 b) : sb_6 (a ||| b) := fun i k hi => by rw [b_or, h i k hi, h' i k hi]; rfl
theorem sb_6bit {s : Nat} (hs : s < 6) : sb_6 ((1 : Int32) <<< (nI s &&& 31)) := fun i k hi => by
  rw [sb_bit s hs i hi, decide_eq_false_iff_not]; omega
theorem sb_6n {m : Nat} (h : m < 64) : sb_6 (nI m) := by
  have : ∀ m, m < 64 → ∀ i, i < 32 → 6 ≤ i → bt (nI m) i = false := by decide +kernel
  exact fun i k hi => this m h i hi k
/-- how many states a set has -/
def sb_c (a : Int32) : Nat := (bt a 0).toNat + (bt a 1).toNat + (bt a 2).toNat + (bt a 3).toNat + (bt a 4).toNat + (bt a 5).toNat
theorem sb_c6 (a : Int32) : sb_c a ≤ 6 := by
  unfold sb_c
  have h := fun i => Bool.toNat_le (bt a i)
  have h0 := h 0; have h1 := h 1; have h2 := h 2; have h3 := h 3; have h4 := h 4; have h5 := h 5
  omega
theorem sb_b {x y : Bool} (h : x = true → y = true) : x.toNat ≤ y.toNat := by
  cases x <;> cases y <;> revert h <;> decide
theorem sb_bi {x y : Bool} (h : x.toNat = y.toNat) : x = y := by
  cases x <;> cases y <;> revert h <;> decide
theorem sb_cs {a b : Int32} (h : sb_s a b) (hb : sb_6 b) (ha : sb_6 a) (hn : ¬ a = b) : sb_c a < sb_c b := by
  refine Nat.lt_of_not_le fun z => hn ?_
  have h0 := sb_b (h 0 (by omega)); have h1 := sb_b (h 1 (by omega)); have h2 := sb_b (h 2 (by omega))
  have h3 := sb_b (h 3 (by omega)); have h4 := sb_b (h 4 (by omega)); have h5 := sb_b (h 5 (by omega))
  unfold sb_c at z
  refine b_ext fun i hi => ?_
  have : i = 0 ∨ i = 1 ∨ i = 2 ∨ i = 3 ∨ i = 4 ∨ i = 5 ∨ 6 ≤ i := by omega
  rcases this with e | e | e | e | e | e | e
  · rw [e]; exact sb_bi (by omega)
  · rw [e]; exact sb_bi (by omega)
  · rw [e]; exact sb_bi (by omega)
  · rw [e]; exact sb_bi (by omega)
  · rw [e]; exact sb_bi (by omega)
  · rw [e]; exact sb_bi (by omega)
  · rw [ha i e hi, hb i e hi]
/-- the states below k with a step into Z -/
def sb_p (tg : Nat → Int32) (Z : Int32) : Nat → Int32
  | 0 => 0
  | s + 1 => if (tg s &&& Z) = 0 then sb_p tg Z s else sb_p tg Z s ||| ((1 : Int32) <<< (nI s &&& 31))
/-- the states below k all of whose steps lead into Z -/
def sb_q (tg : Nat → Int32) (Z : Int32) : Nat → Int32
  | 0 => 0
  | s + 1 => if (tg s &&& (Z ^^^ (-1))) = 0 then sb_q tg Z s ||| ((1 : Int32) <<< (nI s &&& 31)) else sb_q tg Z s
theorem sb_pb (tg : Nat → Int32) (Z : Int32) : ∀ s, s ≤ 6 → ∀ i, i < 32 → bt (sb_p tg Z s) i = (decide (i < s) && decide (¬ (tg i &&& Z) = 0)) := by
  intro s
  induction s with
  | zero => intro _ i _; rw [sb_p, b_0, decide_eq_false (by omega), Bool.false_and]
  | succ s ih =>
    intro hs i hi
    have := ih (by omega) i hi
    rw [sb_p]
    by_cases z : (tg s &&& Z) = 0
    · rw [if_pos z, this]
      by_cases e : i = s
      · rw [e, decide_eq_false (show ¬ s < s by omega), decide_eq_false (show ¬ ¬ (tg s &&& Z) = 0 from fun n => n z), Bool.and_false, Bool.and_false]
      · rw [show decide (i < s + 1) = decide (i < s) from decide_eq_decide.mpr (by omega)]
    · rw [if_neg z, b_or, this, sb_bit s (by omega) i hi]
      by_cases e : i = s
      · rw [e, decide_eq_true (rfl : s = s), decide_eq_true (show s < s + 1 by omega), decide_eq_true z, Bool.or_true, Bool.and_true]
      · rw [decide_eq_false e, Bool.or_false, show decide (i < s + 1) = decide (i < s) from decide_eq_decide.mpr (by omega)]
theorem sb_qb (tg : Nat → Int32) (Z : Int32) : ∀ s, s ≤ 6 → ∀ i, i < 32 → bt (sb_q tg Z s) i = (decide (i < s) && decide ((tg i &&& (Z ^^^ (-1))) = 0)) := by
  intro s
  induction s with
  | zero => intro _ i _; rw [sb_q, b_0, decide_eq_false (by omega), Bool.false_and]
  | succ s ih =>
    intro hs i hi
    have := ih (by omega) i hi
    rw [sb_q]
    by_cases z : (tg s &&& (Z ^^^ (-1))) = 0
    · rw [if_pos z, b_or, this, sb_bit s (by omega) i hi]
      by_cases e : i = s
      · rw [e, decide_eq_true (rfl : s = s), decide_eq_true (show s < s + 1 by omega), decide_eq_true z, Bool.or_true, Bool.and_true]
      · rw [decide_eq_false e, Bool.or_false, show decide (i < s + 1) = decide (i < s) from decide_eq_decide.mpr (by omega)]
    · rw [if_neg z, this]
      by_cases e : i = s
      · rw [e, decide_eq_false (show ¬ s < s by omega), decide_eq_false z, Bool.and_false, Bool.and_false]
      · rw [show decide (i < s + 1) = decide (i < s) from decide_eq_decide.mpr (by omega)]
theorem sb_z {a b : Int32} (h : sb_s a b) (k : b = 0) : a = 0 := b_ext fun i hi => by
  rw [b_0]
  cases e : bt a i
  · rfl
  · have := h i hi e
    rw [k, b_0] at this
    exact absurd this (by decide)
theorem sb_pm (tg : Nat → Int32) {Z Z' : Int32} (h : sb_s Z Z') : sb_s (sb_p tg Z 6) (sb_p tg Z' 6) := fun i hi x => by
  rw [sb_pb tg _ 6 (by omega) i hi, Bool.and_eq_true, decide_eq_true_eq, decide_eq_true_eq] at x ⊢
  exact ⟨x.1, fun z => x.2 (sb_z (sb_and (sb_rf _) h) z)⟩
theorem sb_p6 (tg : Nat → Int32) (Z : Int32) : sb_6 (sb_p tg Z 6) := fun i k hi => by
  rw [sb_pb tg _ 6 (by omega) i hi, decide_eq_false (by omega), Bool.false_and]
/-- the component's 'all' is the reference's -/
theorem sb_pq (tg : Nat → Int32) (ht : ∀ s, sb_6 (tg s)) (Z : Int32) : 63 &&& (sb_p tg (63 &&& (Z ^^^ (-1))) 6 ^^^ (-1)) = sb_q tg Z 6 := b_ext fun i hi => by
  have e : (tg i &&& (63 &&& (Z ^^^ (-1)))) = (tg i &&& (Z ^^^ (-1))) := b_ext fun j hj => by
    rw [b_and, b_and, b_and, sb_63b j hj]
    by_cases k : j < 6
    · rw [decide_eq_true k, Bool.true_and]
    · rw [ht i j (by omega) hj, Bool.false_and, Bool.false_and]
  rw [b_and, b_xor, b_m1 i hi, sb_pb tg _ 6 (by omega) i hi, sb_qb tg _ 6 (by omega) i hi, sb_63b i hi, e]
  by_cases k : i < 6
  · by_cases z : (tg i &&& (Z ^^^ (-1))) = 0
    · rw [decide_eq_true k, decide_eq_true z, decide_eq_false (show ¬ ¬ (tg i &&& (Z ^^^ (-1))) = 0 from fun n => n z)]; rfl
    · rw [decide_eq_true k, decide_eq_false z, decide_eq_true z]; rfl
  · rw [decide_eq_false k]; rfl
end
section
/-! The formula: T its tokens, c their number, E the ends of the terms -/
def fm_2 (t : Nat) : Prop := t = 6 ∨ t = 7
def fm_1 (t : Nat) : Prop := 8 ≤ t ∧ t ≤ 15
def fm_x (t : Nat) : Prop := 10 ≤ t ∧ t ≤ 15
theorem fm_x1 {t : Nat} (h : fm_x t) : fm_1 t := ⟨by have := h.1; omega, h.2⟩
/-- what the end of the term at p must be -/
def fm_R (T E : Nat → Nat) (p e : Nat) : Prop := (fm_2 (T p) → e = E (E (p + 1))) ∧ (fm_1 (T p) → e = E (p + 1)) ∧ (¬ fm_2 (T p) → ¬ fm_1 (T p) → e = p + 1)
def fm_E (T : Nat → Nat) (c : Nat) (E : Nat → Nat) : Prop := (∀ p, c ≤ p → E p = 13) ∧ ∀ p, p < c → fm_R T E p (E p)
theorem fm_Rx (T E : Nat → Nat) (p : Nat) : ∃ e, fm_R T E p e := by
  unfold fm_R fm_2 fm_1
  by_cases h2 : T p = 6 ∨ T p = 7
  · exact ⟨E (E (p + 1)), fun _ => rfl, fun h => by omega, fun h => absurd h2 h⟩
  · by_cases h1 : 8 ≤ T p ∧ T p ≤ 15
    · exact ⟨E (p + 1), fun h => absurd h h2, fun _ => rfl, fun _ h => absurd h1 h⟩
    · exact ⟨p + 1, fun h => absurd h h2, fun h => absurd h h1, fun _ _ => rfl⟩
theorem fm_Rk {T E : Nat → Nat} {p e : Nat} (h : fm_R T E p e) : e = E (E (p + 1)) ∨ e = E (p + 1) ∨ e = p + 1 := by
  by_cases h2 : fm_2 (T p)
  · exact Or.inl (h.1 h2)
  · by_cases h1 : fm_1 (T p)
    · exact Or.inr (Or.inl (h.2.1 h1))
    · exact Or.inr (Or.inr (h.2.2 h2 h1))
theorem fm_Rc {T E E' : Nat → Nat} {p e : Nat} (h : fm_R T E p e) (h1 : E' (p + 1) = E (p + 1)) (h2 : E' (E (p + 1)) = E (E (p + 1))) : fm_R T E' p e :=
  ⟨fun a => by rw [h1, h2]; exact h.1 a, fun a => by rw [h1]; exact h.2.1 a, h.2.2⟩
theorem fm_ex1 (T : Nat → Nat) (c : Nat) (hc : c ≤ 12) : ∀ k, k ≤ c → ∃ E : Nat → Nat, (∀ p, c ≤ p → E p = 13) ∧ (∀ p, c - k ≤ p → p ≤ 12 → p < E p) ∧ ∀ p, c - k ≤ p → p < c → fm_R T E p (E p) := by
  intro k
  induction k with
  | zero => exact fun _ => ⟨fun _ => 13, fun _ _ => rfl, fun p _ h => show p < 13 by omega, fun p h h' => by omega⟩
  | succ k ih =>
    intro hk
    obtain ⟨E, h0, h1, h2⟩ := ih (by omega)
    obtain ⟨m, hm⟩ : ∃ m, c - (k + 1) = m := ⟨_, rfl⟩
    obtain ⟨e, he⟩ := fm_Rx T E m
    have m1 : m < E (m + 1) := by
      by_cases z : m + 1 ≤ 12
      · have := h1 (m + 1) (by omega) z; omega
      · have := h0 (m + 1) (by omega); omega
    have me : m < e := by
      rcases fm_Rk he with q | q | q
      · by_cases z : E (m + 1) ≤ 12
        · have := h1 (E (m + 1)) (by omega) z; omega
        · have := h0 (E (m + 1)) (by omega); omega
      · omega
      · omega
    have hE : ∀ p, p ≠ m → (if p = m then e else E p) = E p := fun p hp => if_neg hp
    refine ⟨fun p => if p = m then e else E p, fun p hp => ?_, fun p hp h12 => ?_, fun p hp hpc => ?_⟩
    · show (if p = m then e else E p) = 13
      rw [hE p (by omega)]; exact h0 p hp
    · show p < (if p = m then e else E p)
      by_cases z : p = m
      · rw [if_pos z]; omega
      · rw [if_neg z]; exact h1 p (by omega) h12
    · by_cases z : p = m
      · rw [z]
        have : (if m = m then e else E m) = e := if_pos rfl
        show fm_R T _ m (if m = m then e else E m)
        rw [this]
        exact fm_Rc he (hE _ (by omega)) (hE _ (by omega))
      · show fm_R T _ p (if p = m then e else E p)
        rw [if_neg z]
        have hp1 : p < E (p + 1) := by
          by_cases y : p + 1 ≤ 12
          · have := h1 (p + 1) (by omega) y; omega
          · have := h0 (p + 1) (by omega); omega
        exact fm_Rc (h2 p (by omega) hpc) (hE _ (by omega)) (hE _ (by omega))
theorem fm_ex (T : Nat → Nat) (c : Nat) (hc : c ≤ 12) : ∃ E, fm_E T c E := by
  obtain ⟨E, h0, _, h2⟩ := fm_ex1 T c hc c (Nat.le_refl c)
  exact ⟨E, h0, fun p hp => h2 p (by omega) hp⟩
theorem fm_gt1 {T : Nat → Nat} {c : Nat} {E : Nat → Nat} (hc : c ≤ 12) (h : fm_E T c E) : ∀ k p, 13 - p ≤ k → p ≤ 12 → p < E p ∧ E p ≤ 13 := by
  intro k
  induction k with
  | zero => intro p h1 h2; omega
  | succ k ih =>
    intro p h1 h2
    by_cases z : c ≤ p
    · rw [h.1 p z]; omega
    · have a : p + 1 ≤ 12 := by omega
      have b := ih (p + 1) (by omega) a
      rcases fm_Rk (h.2 p (by omega)) with q | q | q
      · by_cases y : E (p + 1) ≤ 12
        · have := ih (E (p + 1)) (by omega) y; omega
        · have := h.1 (E (p + 1)) (by omega); omega
      · omega
      · omega
theorem fm_gt {T : Nat → Nat} {c : Nat} {E : Nat → Nat} (hc : c ≤ 12) (h : fm_E T c E) {p : Nat} (hp : p ≤ 12) : p < E p ∧ E p ≤ 13 := fm_gt1 hc h (13 - p) p (Nat.le_refl _) hp
theorem fm_nest {T : Nat → Nat} {c : Nat} {E : Nat → Nat} (hc : c ≤ 12) (h : fm_E T c E) : ∀ k p, c - p ≤ k → p < c → E p ≤ c → ∀ q, p ≤ q → q < E p → E q ≤ E p := by
  intro k
  induction k with
  | zero => intro p h1 h2; omega
  | succ k ih =>
    intro p h1 hp he q hq hqe
    by_cases z : q = p
    · rw [z]; exact Nat.le_refl _
    · have g1 := fm_gt hc h (p := p + 1) (by omega)
      rcases fm_Rk (h.2 p hp) with e | e | e
      · have m : E (p + 1) < c := by
          refine Nat.lt_of_not_le fun y => ?_
          have := h.1 _ y; omega
        have g2 := fm_gt hc h (p := E (p + 1)) (by omega)
        by_cases y : q < E (p + 1)
        · have := ih (p + 1) (by omega) (by omega) (by omega) q (by omega) y; omega
        · rw [e]; exact ih (E (p + 1)) (by omega) m (by omega) q (by omega) (by omega)
      · by_cases y : p + 1 < c
        · rw [e]; exact ih (p + 1) (by omega) y (by omega) q (by omega) (by omega)
        · have := h.1 (p + 1) (by omega); omega
      · omega
/-- a formula that is just one term -/
def fm_S (T : Nat → Nat) (c : Nat) (E : Nat → Nat) : Prop :=
  c ≤ 12 ∧ 0 < c ∧ (∀ q, q < c → q < E q ∧ E q ≤ c) ∧ (∀ q, q < c → fm_2 (T q) → q + 1 < E (q + 1) ∧ E (q + 1) < c ∧ E q = E (E (q + 1))) ∧ (∀ q, q < c → fm_1 (T q) → q + 1 < c ∧ E q = E (q + 1)) ∧ (∀ q, q < c → ¬ fm_2 (T q) → ¬ fm_1 (T q) → E q = q + 1) ∧ (∀ p q, p < c → p ≤ q → q < E p → E q ≤ E p)
theorem fm_mk {T : Nat → Nat} {c : Nat} {E : Nat → Nat} (hc : c ≤ 12) (h : fm_E T c E) (h0 : E 0 = c) : fm_S T c E := by
  have c0 : 0 < c := by
    refine Nat.lt_of_not_le fun z => ?_
    have := h.1 0 z; omega
  have ne := fun p => fm_nest hc h c p (by omega)
  have le : ∀ q, q < c → E q ≤ c := fun q hq => by
    have := ne 0 c0 (by omega) q (by omega) (by omega); omega
  refine ⟨hc, c0, fun q hq => ⟨(fm_gt hc h (by omega)).1, le q hq⟩, fun q hq h2 => ?_, fun q hq h1 => ?_, fun q hq => (h.2 q hq).2.2, fun p q hp a b => ne p hp (le p hp) q a b⟩
  · have e := (h.2 q hq).1 h2
    have l := le q hq
    refine ⟨(fm_gt hc h (by omega)).1, Nat.lt_of_not_le fun y => ?_, e⟩
    have := h.1 _ y; omega
  · have e := (h.2 q hq).2.1 h1
    have l := le q hq
    refine ⟨Nat.lt_of_not_le fun y => ?_, e⟩
    have := h.1 _ y; omega
/-- a broken place: the formula isn't just one term -/
theorem fm_no {T : Nat → Nat} {c : Nat} {E : Nat → Nat} (hc : c ≤ 12) (h : fm_E T c E) {i : Nat} (hi : i < c) (hb : E i = 13) : ¬ E 0 = c := fun h0 => by
  have := ((fm_mk hc h h0).2.2.1 i hi).2; omega
/-- the search for the token that binds the X at p -/
def fm_b (T E : Nat → Nat) (p : Nat) : Nat → Option Nat
  | 0 => none
  | k + 1 => if (T k = T p - 6 ∨ T k = T p - 3) ∧ p < E k then some k else fm_b T E p k
def fm_I : Option Nat → Int32
  | none => -1
  | some q => nI q
theorem fm_bs {T E : Nat → Nat} {p q : Nat} : ∀ k, fm_b T E p k = some q → q < k ∧ (T q = T p - 6 ∨ T q = T p - 3) ∧ p < E q := by
  intro k
  induction k with
  | zero => intro h; exact nomatch h
  | succ k ih =>
    intro h
    rw [fm_b] at h
    by_cases z : (T k = T p - 6 ∨ T k = T p - 3) ∧ p < E k
    · rw [if_pos z] at h
      cases h
      exact ⟨by omega, z⟩
    · rw [if_neg z] at h
      have := ih h
      exact ⟨by omega, this.2⟩
/-- every X below k is bound -/
def fm_v (T E : Nat → Nat) : Nat → Bool
  | 0 => true
  | k + 1 => fm_v T E k && (decide (T k < 16) || (fm_b T E k k).isSome)
/-- the fixed points below k -/
def fm_f (T : Nat → Nat) : Nat → Nat
  | 0 => 0
  | k + 1 => fm_f T k + if 10 ≤ T k ∧ T k ≤ 15 then 1 else 0
theorem fm_vm {T E : Nat → Nat} {c : Nat} (h : fm_v T E c = true) : ∀ p, p < c → 16 ≤ T p → ∃ q, fm_b T E p p = some q := by
  induction c with
  | zero => intro p hp; omega
  | succ k ih =>
    intro p hp ht
    rw [fm_v, Bool.and_eq_true, Bool.or_eq_true, decide_eq_true_eq] at h
    by_cases z : p = k
    · subst z
      rcases h.2 with a | a
      · omega
      · exact Option.isSome_iff_exists.mp a
    · exact ih h.1 p (by omega) ht
theorem fm_vf {T E : Nat → Nat} {k : Nat} (hk : 16 ≤ T k) (hb : fm_b T E k k = none) : ∀ c, k < c → fm_v T E c = false := by
  intro c
  induction c with
  | zero => intro h; omega
  | succ c ih =>
    intro h
    rw [fm_v]
    by_cases z : k = c
    · subst z
      rw [hb, decide_eq_false (by omega)]
      exact Bool.and_false _
    · rw [ih (by omega)]; exact Bool.false_and _
/-- the whole of 'sound' -/
def fm_ok (T : Nat → Nat) (c : Nat) (E : Nat → Nat) : Prop := E 0 = c ∧ fm_f T c ≤ 4 ∧ fm_v T E c = true
def fm_B (T E : Nat → Nat) (p : Nat) : Nat := (fm_b T E p p).getD 0
theorem fm_Bs {T E : Nat → Nat} {c : Nat} (hT : ∀ p, T p ≤ 18) (h : fm_v T E c = true) {p : Nat} (hp : p < c) (ht : 16 ≤ T p) : fm_b T E p p = some (fm_B T E p) ∧ fm_B T E p < p ∧ fm_x (T (fm_B T E p)) ∧ p < E (fm_B T E p) := by
  obtain ⟨q, hq⟩ := fm_vm h p hp ht
  have e : fm_B T E p = q := by unfold fm_B; rw [hq]; rfl
  rw [e]
  have := fm_bs p hq
  have l := hT p
  exact ⟨hq, this.1, ⟨by omega, by omega⟩, this.2.2⟩
/-- fixed points below k around p -/
def fm_a (T E : Nat → Nat) (p : Nat) : Nat → Nat
  | 0 => 0
  | k + 1 => fm_a T E p k + if (10 ≤ T k ∧ T k ≤ 15) ∧ p < E k then 1 else 0
theorem fm_al (T E : Nat → Nat) (p : Nat) : ∀ k, fm_a T E p k ≤ k := by
  intro k
  induction k with
  | zero => exact Nat.le_refl _
  | succ k ih =>
    rw [fm_a]
    split
    · omega
    · omega
theorem fm_fl (T : Nat → Nat) : ∀ k, fm_f T k ≤ k := by
  intro k
  induction k with
  | zero => exact Nat.le_refl _
  | succ k ih =>
    rw [fm_f]
    split
    · omega
    · omega
/-- the depth, of the tokens below k -/
def fm_d (T E : Nat → Nat) : Nat → Nat
  | 0 => 0
  | k + 1 => max (fm_d T E k) (if 10 ≤ T k ∧ T k ≤ 15 then 1 + fm_a T E k k else 0)
theorem fm_dl (T E : Nat → Nat) : ∀ k, fm_d T E k ≤ k := by
  intro k
  induction k with
  | zero => exact Nat.le_refl _
  | succ k ih =>
    rw [fm_d]
    have := fm_al T E k k
    split
    · omega
    · omega
end
section
/-! Values of terms: one pass (fixed points as given), and the nested rounds; the machine that both sides run, and that it ends -/
/-- the value at a token t: a the term behind it, b the second, f a fixed point's, v an X's -/
def vo_p (tg mk : Nat → Int32) (t : Nat) (a b f v : Int32) : Int32 :=
  if t < 3 then mk t else if t < 6 then 63 &&& (mk (t - 3) ^^^ (-1)) else if t = 6 then a &&& b else if t = 7 then a ||| b else if t = 8 then sb_p tg a 6 else if t = 9 then 63 &&& (sb_p tg (63 &&& (a ^^^ (-1))) 6 ^^^ (-1)) else if t < 16 then f else v
section
variable (tg mk : Nat → Int32)
theorem vo_cases (t : Nat) : t < 3 ∨ (3 ≤ t ∧ t < 6) ∨ t = 6 ∨ t = 7 ∨ t = 8 ∨ t = 9 ∨ (10 ≤ t ∧ t ≤ 15) ∨ 16 ≤ t := by omega
theorem vo_m {t : Nat} {a b f v : Int32} (h : t < 3) : vo_p tg mk t a b f v = mk t := by unfold vo_p; rw [if_pos h]
theorem vo_n {t : Nat} {a b f v : Int32} (h : 3 ≤ t) (h6 : t < 6) : vo_p tg mk t a b f v = 63 &&& (mk (t - 3) ^^^ (-1)) := by unfold vo_p; rw [if_neg (by omega), if_pos h6]
theorem vo_6 {t : Nat} {a b f v : Int32} (h : t = 6) : vo_p tg mk t a b f v = a &&& b := by unfold vo_p; rw [if_neg (by omega), if_neg (by omega), if_pos h]
theorem vo_7 {t : Nat} {a b f v : Int32} (h : t = 7) : vo_p tg mk t a b f v = a ||| b := by unfold vo_p; rw [if_neg (by omega), if_neg (by omega), if_neg (by omega), if_pos h]
theorem vo_8 {t : Nat} {a b f v : Int32} (h : t = 8) : vo_p tg mk t a b f v = sb_p tg a 6 := by unfold vo_p; rw [if_neg (by omega), if_neg (by omega), if_neg (by omega), if_neg (by omega), if_pos h]
theorem vo_9 {t : Nat} {a b f v : Int32} (h : t = 9) : vo_p tg mk t a b f v = 63 &&& (sb_p tg (63 &&& (a ^^^ (-1))) 6 ^^^ (-1)) := by unfold vo_p; rw [if_neg (by omega), if_neg (by omega), if_neg (by omega), if_neg (by omega), if_neg (by omega), if_pos h]
theorem vo_f {t : Nat} {a b f v : Int32} (h : fm_x t) : vo_p tg mk t a b f v = f := by
  have h1 := h.1; have h2 := h.2
  unfold vo_p; rw [if_neg (by omega), if_neg (by omega), if_neg (by omega), if_neg (by omega), if_neg (by omega), if_neg (by omega), if_pos (by omega)]
theorem vo_v {t : Nat} {a b f v : Int32} (h : 16 ≤ t) : vo_p tg mk t a b f v = v := by
  unfold vo_p; rw [if_neg (by omega), if_neg (by omega), if_neg (by omega), if_neg (by omega), if_neg (by omega), if_neg (by omega), if_neg (by omega)]
/-- one law for both 'the same' and 'within' -/
theorem vo_rel {t : Nat} {a b f v a' b' f' v' : Int32} (h1 : fm_2 t ∨ fm_1 t → ¬ fm_x t → sb_s a a') (h2 : fm_2 t → sb_s b b') (h3 : fm_x t → sb_s f f') (h4 : 16 ≤ t → sb_s v v') : sb_s (vo_p tg mk t a b f v) (vo_p tg mk t a' b' f' v') := by
  rcases vo_cases t with h | h | h | h | h | h | h | h
  · rw [vo_m tg mk h, vo_m tg mk h]; exact sb_rf _
  · rw [vo_n tg mk h.1 h.2, vo_n tg mk h.1 h.2]; exact sb_rf _
  · rw [vo_6 tg mk h, vo_6 tg mk h]; exact sb_and (h1 (Or.inl (Or.inl h)) (fun z => by have := z.1; omega)) (h2 (Or.inl h))
  · rw [vo_7 tg mk h, vo_7 tg mk h]; exact sb_or (h1 (Or.inl (Or.inr h)) (fun z => by have := z.1; omega)) (h2 (Or.inr h))
  · rw [vo_8 tg mk h, vo_8 tg mk h]; exact sb_pm tg (h1 (Or.inr ⟨by omega, by omega⟩) (fun z => by have := z.1; omega))
  · rw [vo_9 tg mk h, vo_9 tg mk h]; exact sb_nc (sb_pm tg (sb_nc (h1 (Or.inr ⟨by omega, by omega⟩) (fun z => by have := z.1; omega))))
  · rw [vo_f tg mk h, vo_f tg mk h]; exact h3 h
  · rw [vo_v tg mk h, vo_v tg mk h]; exact h4 h
theorem vo_eq {t : Nat} {a b f v a' b' f' v' : Int32} (h1 : fm_2 t ∨ fm_1 t → ¬ fm_x t → a = a') (h2 : fm_2 t → b = b') (h3 : fm_x t → f = f') (h4 : 16 ≤ t → v = v') : vo_p tg mk t a b f v = vo_p tg mk t a' b' f' v' := by
  rcases vo_cases t with h | h | h | h | h | h | h | h
  · rw [vo_m tg mk h, vo_m tg mk h]
  · rw [vo_n tg mk h.1 h.2, vo_n tg mk h.1 h.2]
  · rw [vo_6 tg mk h, vo_6 tg mk h, h1 (Or.inl (Or.inl h)) (fun z => by have := z.1; omega), h2 (Or.inl h)]
  · rw [vo_7 tg mk h, vo_7 tg mk h, h1 (Or.inl (Or.inr h)) (fun z => by have := z.1; omega), h2 (Or.inr h)]
  · rw [vo_8 tg mk h, vo_8 tg mk h, h1 (Or.inr ⟨by omega, by omega⟩) (fun z => by have := z.1; omega)]
  · rw [vo_9 tg mk h, vo_9 tg mk h, h1 (Or.inr ⟨by omega, by omega⟩) (fun z => by have := z.1; omega)]
  · rw [vo_f tg mk h, vo_f tg mk h]; exact h3 h
  · rw [vo_v tg mk h, vo_v tg mk h]; exact h4 h
theorem vo_s6 (hm : ∀ i, sb_6 (mk i)) {t : Nat} {a b f v : Int32} (h1 : fm_2 t → sb_6 a) (h2 : fm_2 t → sb_6 b) (h3 : fm_x t → sb_6 f) (h4 : 16 ≤ t → sb_6 v) : sb_6 (vo_p tg mk t a b f v) := by
  rcases vo_cases t with h | h | h | h | h | h | h | h
  · rw [vo_m tg mk h]; exact hm _
  · rw [vo_n tg mk h.1 h.2]; exact sb_6and sb_663
  · rw [vo_6 tg mk h]; exact sb_6and (h1 (Or.inl h))
  · rw [vo_7 tg mk h]; exact sb_6or (h1 (Or.inr h)) (h2 (Or.inr h))
  · rw [vo_8 tg mk h]; exact sb_p6 _ _
  · rw [vo_9 tg mk h]; exact sb_6and sb_663
  · rw [vo_f tg mk h]; exact h3 h
  · rw [vo_v tg mk h]; exact h4 h
end
abbrev vEnv : Type := Nat → Int32
section
variable (tg mk : Nat → Int32) (T E : Nat → Nat)
/-- the value of the term at p, under e; fx: what a fixed point does with its body -/
def ve_l (fx : Nat → (vEnv → Int32) → vEnv → Int32) : Nat → Nat → vEnv → Int32
  | 0, _, _ => 0
  | f + 1, p, e => vo_p tg mk (T p) (ve_l fx f (p + 1) e) (ve_l fx f (E (p + 1)) e) (fx p (ve_l fx f (p + 1)) e) (e (fm_B T E p))
theorem ve_st {c : Nat} (hS : fm_S T c E) (fx : Nat → (vEnv → Int32) → vEnv → Int32) : ∀ f f' p, p < c → c - p ≤ f → c - p ≤ f' → ve_l tg mk T E fx f p = ve_l tg mk T E fx f' p := by
  intro f
  induction f with
  | zero => intro f' p h1 h2; omega
  | succ f ih =>
    intro f' p hp h1 h2
    cases f' with
    | zero => omega
    | succ f' =>
      have k1 : ∀ q, p < q → q < c → ve_l tg mk T E fx f q = ve_l tg mk T E fx f' q := fun q a b => ih f' q b (by omega) (by omega)
      have g2 := hS.2.2.2.1 p hp
      have g1 := hS.2.2.2.2.1 p hp
      funext e
      show vo_p _ _ _ _ _ _ _ = vo_p _ _ _ _ _ _ _
      refine vo_eq tg mk (fun z _ => ?_) (fun z => ?_) (fun z => ?_) (fun _ => rfl)
      · rw [k1 (p + 1) (by omega) (z.elim (fun y => by have := g2 y; omega) (fun y => (g1 y).1))]
      · rw [k1 (E (p + 1)) (by have := g2 z; omega) (g2 z).2.1]
      · rw [k1 (p + 1) (by omega) (g1 (fm_x1 z)).1]
def ve_v (fx : Nat → (vEnv → Int32) → vEnv → Int32) (p : Nat) (e : vEnv) : Int32 := ve_l tg mk T E fx 13 p e
theorem ve_eq {c : Nat} (hS : fm_S T c E) (fx : Nat → (vEnv → Int32) → vEnv → Int32) {p : Nat} (hp : p < c) (e : vEnv) : ve_v tg mk T E fx p e = vo_p tg mk (T p) (ve_v tg mk T E fx (p + 1) e) (ve_v tg mk T E fx (E (p + 1)) e) (fx p (ve_v tg mk T E fx (p + 1)) e) (e (fm_B T E p)) := by
  have c12 := hS.1
  have k1 : ∀ q, p < q → q < c → ve_l tg mk T E fx 12 q = ve_l tg mk T E fx 13 q := fun q a b => ve_st tg mk T E hS fx 12 13 q b (by omega) (by omega)
  have g2 := hS.2.2.2.1 p hp
  have g1 := hS.2.2.2.2.1 p hp
  show vo_p tg mk (T p) (ve_l tg mk T E fx 12 (p + 1) e) (ve_l tg mk T E fx 12 (E (p + 1)) e) (fx p (ve_l tg mk T E fx 12 (p + 1)) e) (e (fm_B T E p)) = vo_p tg mk (T p) (ve_l tg mk T E fx 13 (p + 1) e) (ve_l tg mk T E fx 13 (E (p + 1)) e) (fx p (ve_l tg mk T E fx 13 (p + 1)) e) (e (fm_B T E p))
  refine vo_eq tg mk (fun z _ => ?_) (fun z => ?_) (fun z => ?_) (fun _ => rfl)
  · rw [k1 (p + 1) (by omega) (z.elim (fun y => by have := g2 y; omega) (fun y => (g1 y).1))]
  · rw [k1 (E (p + 1)) (by have := g2 z; omega) (g2 z).2.1]
  · rw [k1 (p + 1) (by omega) (g1 (fm_x1 z)).1]
/-- one pass -/
def ve_p (g : vEnv) (p : Nat) : Int32 := ve_v tg mk T E (fun q _ e => e q) p g
theorem ve_pe {c : Nat} (hS : fm_S T c E) (g : vEnv) {p : Nat} (hp : p < c) : ve_p tg mk T E g p = vo_p tg mk (T p) (ve_p tg mk T E g (p + 1)) (ve_p tg mk T E g (E (p + 1))) (g p) (g (fm_B T E p)) := ve_eq tg mk T E hS _ hp g
def ve_i (F : Int32 → Int32) (z : Int32) : Nat → Int32
  | 0 => z
  | k + 1 => F (ve_i F z k)
/-- where a fixed point starts -/
def ve_n (p : Nat) : Int32 := if T p < 13 then 0 else 63
/-- the nested rounds -/
def ve_s (p : Nat) (e : vEnv) : Int32 := ve_v tg mk T E (fun q b e => ve_i (fun Z => b (upd e q Z)) (ve_n T q) 6) p e
theorem ve_se {c : Nat} (hS : fm_S T c E) (e : vEnv) {p : Nat} (hp : p < c) : ve_s tg mk T E p e = vo_p tg mk (T p) (ve_s tg mk T E (p + 1) e) (ve_s tg mk T E (E (p + 1)) e) (ve_i (fun Z => ve_s tg mk T E (p + 1) (upd e p Z)) (ve_n T p) 6) (e (fm_B T E p)) := ve_eq tg mk T E hS _ hp e
theorem ve_im {F F' : Int32 → Int32} {z : Int32} (h : ∀ Z Z', sb_s Z Z' → sb_s (F Z) (F' Z')) : ∀ k, sb_s (ve_i F z k) (ve_i F' z k) := by
  intro k
  induction k with
  | zero => exact sb_rf _
  | succ k ih => exact h _ _ ih
theorem ve_um {e e' : vEnv} (h : ∀ q, sb_s (e q) (e' q)) (p : Nat) {Z Z' : Int32} (hz : sb_s Z Z') : ∀ q, sb_s (upd e p Z q) (upd e' p Z' q) := by
  intro q
  by_cases z : q = p
  · rw [z, pk_us, pk_us]; exact hz
  · rw [pk_un z, pk_un z]; exact h q
theorem ve_sm {c : Nat} (hS : fm_S T c E) : ∀ k p, p < c → c - p ≤ k → ∀ e e' : vEnv, (∀ q, sb_s (e q) (e' q)) → sb_s (ve_s tg mk T E p e) (ve_s tg mk T E p e') := by
  intro k
  induction k with
  | zero => intro p h1 h2; omega
  | succ k ih =>
    intro p hp hk e e' he
    have g2 := hS.2.2.2.1 p hp
    have g1 := hS.2.2.2.2.1 p hp
    rw [ve_se tg mk T E hS e hp, ve_se tg mk T E hS e' hp]
    refine vo_rel tg mk (fun z _ => ?_) (fun z => ?_) (fun z => ?_) (fun _ => he _)
    · exact ih (p + 1) (z.elim (fun y => by have := g2 y; omega) (fun y => (g1 y).1)) (by omega) e e' he
    · exact ih (E (p + 1)) (g2 z).2.1 (by have := g2 z; omega) e e' he
    · exact ve_im (fun Z Z' hz => ih (p + 1) (g1 (fm_x1 z)).1 (by omega) _ _ (ve_um he p hz)) 6
theorem ve_i6 {F : Int32 → Int32} {z : Int32} (hz : sb_6 z) (h : ∀ Z, sb_6 Z → sb_6 (F Z)) : ∀ k, sb_6 (ve_i F z k) := by
  intro k
  induction k with
  | zero => exact hz
  | succ k ih => exact h _ ih
theorem ve_n6 (p : Nat) : sb_6 (ve_n T p) := by
  unfold ve_n
  split
  · exact sb_60
  · exact sb_663
theorem ve_u6 {e : vEnv} (h : ∀ q, sb_6 (e q)) (p : Nat) {Z : Int32} (hz : sb_6 Z) : ∀ q, sb_6 (upd e p Z q) := by
  intro q
  by_cases z : q = p
  · rw [z, pk_us]; exact hz
  · rw [pk_un z]; exact h q
theorem ve_s6 (hm : ∀ i, sb_6 (mk i)) {c : Nat} (hS : fm_S T c E) : ∀ k p, p < c → c - p ≤ k → ∀ e : vEnv, (∀ q, sb_6 (e q)) → sb_6 (ve_s tg mk T E p e) := by
  intro k
  induction k with
  | zero => intro p h1 h2; omega
  | succ k ih =>
    intro p hp hk e he
    have g2 := hS.2.2.2.1 p hp
    have g1 := hS.2.2.2.2.1 p hp
    rw [ve_se tg mk T E hS e hp]
    refine vo_s6 tg mk hm (fun z => ?_) (fun z => ?_) (fun z => ?_) (fun _ => he _)
    · exact ih (p + 1) (by have := g2 z; omega) (by omega) e he
    · exact ih (E (p + 1)) (g2 z).2.1 (by have := g2 z; omega) e he
    · exact ve_i6 (ve_n6 T p) (fun Z hz => ih (p + 1) (g1 (fm_x1 z)).1 (by omega) _ (ve_u6 he p hz)) 6
/-- a term's value hangs on the fixed points around it alone -/
theorem ve_sl {c : Nat} (hT : ∀ p, T p ≤ 18) (hS : fm_S T c E) (hv : fm_v T E c = true) : ∀ k p, p < c → c - p ≤ k → ∀ e e' : vEnv, (∀ b, b < p → fm_x (T b) → p < E b → e b = e' b) → ve_s tg mk T E p e = ve_s tg mk T E p e' := by
  intro k
  induction k with
  | zero => intro p h1 h2; omega
  | succ k ih =>
    intro p hp hk e e' he
    have g2 := hS.2.2.2.1 p hp
    have g1 := hS.2.2.2.2.1 p hp
    rw [ve_se tg mk T E hS e hp, ve_se tg mk T E hS e' hp]
    refine vo_eq tg mk (fun z zx => ?_) (fun z => ?_) (fun z => ?_) (fun z => ?_)
    · refine ih (p + 1) (z.elim (fun y => by have := g2 y; omega) (fun y => (g1 y).1)) (by omega) e e' (fun b hb hx hE => ?_)
      have : b ≠ p := fun q => zx (q ▸ hx)
      exact he b (by omega) hx (by omega)
    · refine ih (E (p + 1)) (g2 z).2.1 (by have := g2 z; omega) e e' (fun b hb hx hE => ?_)
      have n1 : b ≠ p := fun q => by
        subst q
        rcases z with z | z
        · have := hx.1; omega
        · have := hx.1; omega
      have a := g2 z
      have n2 : ¬ p < b := fun q => by
        have := hS.2.2.2.2.2.2 (p + 1) b (by omega) (by omega) hb
        omega
      exact he b (by omega) hx (by omega)
    · have q : (fun Z => ve_s tg mk T E (p + 1) (upd e p Z)) = fun Z => ve_s tg mk T E (p + 1) (upd e' p Z) := by
        funext Z
        refine ih (p + 1) (g1 (fm_x1 z)).1 (by omega) _ _ (fun b hb hx hE => ?_)
        by_cases y : b = p
        · rw [y, pk_us, pk_us]
        · rw [pk_un y, pk_un y]; exact he b (by omega) hx (by omega)
      rw [q]
    · have := fm_Bs hT hv hp z
      exact he _ this.2.1 this.2.2.1 this.2.2.2
/-- the search for the last fixed point that is not met -/
def ve_o (g : vEnv) : Nat → Option Nat
  | 0 => none
  | k + 1 => if (10 ≤ T k ∧ T k ≤ 15) ∧ ¬ ve_p tg mk T E g (k + 1) = g k then some k else ve_o g k
theorem ve_os {g : vEnv} {p : Nat} : ∀ k, ve_o tg mk T E g k = some p → p < k ∧ fm_x (T p) ∧ ¬ ve_p tg mk T E g (p + 1) = g p ∧ ∀ q, p < q → q < k → fm_x (T q) → ve_p tg mk T E g (q + 1) = g q := by
  intro k
  induction k with
  | zero => intro h; exact nomatch h
  | succ k ih =>
    intro h
    rw [ve_o] at h
    by_cases z : (10 ≤ T k ∧ T k ≤ 15) ∧ ¬ ve_p tg mk T E g (k + 1) = g k
    · rw [if_pos z] at h
      cases h
      exact ⟨by omega, z.1, z.2, fun q a b => by omega⟩
    · rw [if_neg z] at h
      have := ih h
      refine ⟨by omega, this.2.1, this.2.2.1, fun q a b hx => ?_⟩
      by_cases y : q = k
      · subst y
        exact Decidable.byContradiction fun n => z ⟨hx, n⟩
      · exact this.2.2.2 q a (by omega) hx
/-- one round: the last unmet fixed point takes its body's value, those within start afresh -/
def ve_x (g : vEnv) (p : Nat) : vEnv := fun q => if q = p then ve_p tg mk T E g (p + 1) else if p < q ∧ q < E p then ve_n T q else g q
theorem ve_xp (g : vEnv) (p : Nat) : ve_x tg mk T E g p p = ve_p tg mk T E g (p + 1) := if_pos rfl
theorem ve_xi (g : vEnv) {p q : Nat} (h : p < q) (h' : q < E p) : ve_x tg mk T E g p q = ve_n T q := by
  unfold ve_x; rw [if_neg (by omega), if_pos ⟨h, h'⟩]
theorem ve_xo (g : vEnv) {p q : Nat} (h : q < p ∨ E p ≤ q) (hp : p < E p) : ve_x tg mk T E g p q = g q := by
  unfold ve_x; rw [if_neg (by omega), if_neg (by omega)]
/-- all rounds -/
def ve_r (c : Nat) : Nat → vEnv → vEnv
  | 0, g => g
  | k + 1, g => match ve_o tg mk T E g c with
    | none => g
    | some p => ve_r c k (ve_x tg mk T E g p)
/-- how far a fixed point has come -/
def ve_c (p : Nat) (x : Int32) : Nat := if T p < 13 then sb_c x else 6 - sb_c x
theorem ve_c6 (p : Nat) (x : Int32) : ve_c T p x ≤ 6 := by
  have := sb_c6 x
  unfold ve_c
  split
  · exact this
  · omega
/-- the function whose rounds a fixed point does -/
def ve_F (g : vEnv) (q : Nat) (Z : Int32) : Int32 := ve_s tg mk T E (q + 1) (upd g q Z)
/-- what holds in all rounds -/
def ve_I (c : Nat) (g : vEnv) : Prop := (∀ q, sb_6 (g q)) ∧ ∀ q, q < c → fm_x (T q) → ∃ i, i ≤ ve_c T q (g q) ∧ g q = ve_i (ve_F tg mk T E g q) (ve_n T q) i
theorem ve_ist {F : Int32 → Int32} {z : Int32} {i : Nat} (h : F (ve_i F z i) = ve_i F z i) : ∀ k, ve_i F z (i + k) = ve_i F z i := by
  intro k
  induction k with
  | zero => rfl
  | succ k ih =>
    show F (ve_i F z (i + k)) = _
    rw [ih, h]
theorem ve_ug (g : vEnv) (q : Nat) : upd g q (g q) = g := by
  funext j
  by_cases z : j = q
  · rw [z, pk_us]
  · rw [pk_un z]
/-- behind the last unmet fixed point one pass gives the nested rounds' values -/
theorem ve_ps {c : Nat} (hS : fm_S T c E) {g : vEnv} (hI : ve_I tg mk T E c g) {p : Nat} (hc : ∀ q, p < q → q < c → fm_x (T q) → ve_p tg mk T E g (q + 1) = g q) : ∀ k q, p < q → q < c → c - q ≤ k → ve_p tg mk T E g q = ve_s tg mk T E q g := by
  intro k
  induction k with
  | zero => intro q h1 h2 h3; omega
  | succ k ih =>
    intro q hpq hq hk
    have g2 := hS.2.2.2.1 q hq
    have g1 := hS.2.2.2.2.1 q hq
    rw [ve_pe tg mk T E hS g hq, ve_se tg mk T E hS g hq]
    refine vo_eq tg mk (fun z _ => ?_) (fun z => ?_) (fun z => ?_) (fun _ => rfl)
    · exact ih (q + 1) (by omega) (z.elim (fun y => by have := g2 y; omega) (fun y => (g1 y).1)) (by omega)
    · exact ih (E (q + 1)) (by have := g2 z; omega) (g2 z).2.1 (by have := g2 z; omega)
    · obtain ⟨i, hi, e⟩ := hI.2 q hq z
      have h6 := ve_c6 T q (g q)
      have a := ih (q + 1) (by omega) (g1 (fm_x1 z)).1 (by omega)
      have b := hc q hpq hq z
      have st : ve_F tg mk T E g q (ve_i (ve_F tg mk T E g q) (ve_n T q) i) = ve_i (ve_F tg mk T E g q) (ve_n T q) i := by
        rw [← e]
        unfold ve_F
        rw [ve_ug, ← a, b]
      have := ve_ist st (6 - i)
      rw [show i + (6 - i) = 6 by omega] at this
      show g q = ve_i (ve_F tg mk T E g q) (ve_n T q) 6
      rw [this, ← e]
theorem ve_Fm {c : Nat} (hS : fm_S T c E) (g : vEnv) {q : Nat} (hq : q + 1 < c) (Z Z' : Int32) (h : sb_s Z Z') : sb_s (ve_F tg mk T E g q Z) (ve_F tg mk T E g q Z') :=
  ve_sm tg mk T E hS c (q + 1) hq (by omega) _ _ (ve_um (fun _ => sb_rf _) q h)
theorem ve_F6 (hm : ∀ i, sb_6 (mk i)) {c : Nat} (hS : fm_S T c E) {g : vEnv} (hg : ∀ q, sb_6 (g q)) {q : Nat} (hq : q + 1 < c) (Z : Int32) (h : sb_6 Z) : sb_6 (ve_F tg mk T E g q Z) :=
  ve_s6 tg mk T E hm hS c (q + 1) hq (by omega) _ (ve_u6 hg q h)
theorem ve_up {F : Int32 → Int32} (h : ∀ Z Z', sb_s Z Z' → sb_s (F Z) (F Z')) : ∀ i, sb_s (ve_i F 0 i) (ve_i F 0 (i + 1)) := by
  intro i
  induction i with
  | zero => exact sb_0 _
  | succ i ih => exact h _ _ ih
theorem ve_dn {F : Int32 → Int32} (h : ∀ Z Z', sb_s Z Z' → sb_s (F Z) (F Z')) (h6 : ∀ Z, sb_6 Z → sb_6 (F Z)) : ∀ i, sb_s (ve_i F 63 (i + 1)) (ve_i F 63 i) := by
  intro i
  induction i with
  | zero => exact sb_63 (h6 _ sb_663)
  | succ i ih => exact h _ _ ih
theorem ve_on {F : Int32 → Int32} (h : ∀ Z Z', sb_s Z Z' → sb_s (F Z) (F Z')) (h6 : ∀ Z, sb_6 Z → sb_6 (F Z)) (p i : Nat) (hn : ¬ ve_i F (ve_n T p) (i + 1) = ve_i F (ve_n T p) i) : ve_c T p (ve_i F (ve_n T p) i) < ve_c T p (ve_i F (ve_n T p) (i + 1)) := by
  have s := ve_i6 (ve_n6 T p) h6
  unfold ve_c
  by_cases z : T p < 13
  · rw [if_pos z, if_pos z]
    refine sb_cs ?_ (s _) (s _) (fun q => hn q.symm)
    have e : ve_n T p = 0 := if_pos z
    rw [e]; exact ve_up h i
  · rw [if_neg z, if_neg z]
    have e : ve_n T p = 63 := if_neg z
    have a := sb_cs (a := ve_i F (ve_n T p) (i + 1)) (b := ve_i F (ve_n T p) i) (by rw [e]; exact ve_dn h h6 i) (s _) (s _) hn
    have := sb_c6 (ve_i F (ve_n T p) i)
    omega
theorem ve_step (hm : ∀ i, sb_6 (mk i)) (hT : ∀ p, T p ≤ 18) {c : Nat} (hS : fm_S T c E) (hv : fm_v T E c = true) {g : vEnv} (hI : ve_I tg mk T E c g) {p : Nat} (ho : ve_o tg mk T E g c = some p) : ve_I tg mk T E c (ve_x tg mk T E g p) ∧ ve_c T p (g p) < ve_c T p (ve_x tg mk T E g p p) := by
  obtain ⟨hp, hx, hn, hc⟩ := ve_os tg mk T E c ho
  have p1 := (hS.2.2.2.2.1 p hp (fm_x1 hx)).1
  have pE := (hS.2.2.1 p hp).1
  obtain ⟨i, hi, e⟩ := hI.2 p hp hx
  have a := ve_ps tg mk T E hS hI hc c (p + 1) (by omega) p1 (by omega)
  have b : ve_p tg mk T E g (p + 1) = ve_i (ve_F tg mk T E g p) (ve_n T p) (i + 1) := by
    show _ = ve_F tg mk T E g p (ve_i (ve_F tg mk T E g p) (ve_n T p) i)
    rw [← e, a]
    unfold ve_F
    rw [ve_ug]
  have f6 := ve_F6 tg mk T E hm hS hI.1 p1
  have fm := ve_Fm tg mk T E hS g p1
  have lt : ve_c T p (g p) < ve_c T p (ve_p tg mk T E g (p + 1)) := by
    have q := ve_on T fm f6 p i (by rw [← b, ← e]; exact hn)
    rw [← b, ← e] at q
    exact q
  refine ⟨⟨fun q => ?_, fun q hq hqx => ?_⟩, by rw [ve_xp]; exact lt⟩
  · by_cases z : q = p
    · rw [z, ve_xp, b]; exact ve_i6 (ve_n6 T p) f6 _
    · by_cases y : p < q ∧ q < E p
      · rw [ve_xi tg mk T E g y.1 y.2]; exact ve_n6 T q
      · rw [ve_xo tg mk T E g (by omega) pE]; exact hI.1 q
  · have q1 := (hS.2.2.2.2.1 q hq (fm_x1 hqx)).1
    have sameF : (q = p ∨ q < p ∨ E p ≤ q) → ve_F tg mk T E (ve_x tg mk T E g p) q = ve_F tg mk T E g q := fun w => by
      funext Z
      unfold ve_F
      refine ve_sl tg mk T E hT hS hv c (q + 1) q1 (by omega) _ _ (fun d hd hdx hdE => ?_)
      by_cases z : d = q
      · rw [z, pk_us, pk_us]
      · rw [pk_un z, pk_un z]
        refine ve_xo tg mk T E g ?_ pE
        refine Decidable.byContradiction fun n => ?_
        have := hS.2.2.2.2.2.2 p d hp (by omega) (by omega)
        omega
    by_cases z : q = p
    · subst z
      refine ⟨i + 1, ?_, ?_⟩
      · rw [ve_xp]; omega
      · rw [ve_xp, b, sameF (Or.inl rfl)]
    · by_cases y : p < q ∧ q < E p
      · exact ⟨0, Nat.zero_le _, ve_xi tg mk T E g y.1 y.2⟩
      · have w : q < p ∨ E p ≤ q := by omega
        obtain ⟨j, hj, ej⟩ := hI.2 q hq hqx
        refine ⟨j, ?_, ?_⟩
        · rw [ve_xo tg mk T E g w pE]; exact hj
        · rw [ve_xo tg mk T E g w pE, sameF (Or.inr w)]; exact ej
/-- what is left to do: a number of base 7, the first fixed point the highest digit -/
def ve_m (g : vEnv) : Nat → Nat
  | 0 => 0
  | k + 1 => if 10 ≤ T k ∧ T k ≤ 15 then 7 * ve_m g k + (6 - ve_c T k (g k)) else ve_m g k
theorem ve_mb (g : vEnv) : ∀ k, ve_m T g k + 1 ≤ 7 ^ fm_f T k := by
  intro k
  induction k with
  | zero => exact Nat.le_refl _
  | succ k ih =>
    rw [ve_m, fm_f]
    by_cases z : 10 ≤ T k ∧ T k ≤ 15
    · rw [if_pos z, if_pos z, Nat.pow_succ]; omega
    · rw [if_neg z, if_neg z]; exact ih
theorem ve_ms {g g' : vEnv} {p : Nat} (h : ∀ q, q < p → g' q = g q) : ∀ k, k ≤ p → ve_m T g' k = ve_m T g k := by
  intro k
  induction k with
  | zero => intro _; rfl
  | succ k ih =>
    intro hk
    rw [ve_m, ve_m, ih (by omega), h k (by omega)]
theorem ve_md {g g' : vEnv} {p : Nat} (h : ∀ q, q < p → g' q = g q) (hx : fm_x (T p)) (hc : ve_c T p (g p) < ve_c T p (g' p)) : ∀ k, p < k → ve_m T g' k < ve_m T g k := by
  intro k
  induction k with
  | zero => intro hk; omega
  | succ k ih =>
    intro hk
    by_cases e : k = p
    · subst e
      have hx' : 10 ≤ T k ∧ T k ≤ 15 := hx
      rw [ve_m, ve_m, if_pos hx', if_pos hx', ve_ms T h k (Nat.le_refl _)]
      have := ve_c6 T k (g' k)
      omega
    · have := ih (by omega)
      rw [ve_m, ve_m]
      by_cases z : 10 ≤ T k ∧ T k ≤ 15
      · rw [if_pos z, if_pos z]; omega
      · rw [if_neg z, if_neg z]; exact this
theorem ve_end (hm : ∀ i, sb_6 (mk i)) (hT : ∀ p, T p ≤ 18) {c : Nat} (hS : fm_S T c E) (hv : fm_v T E c = true) : ∀ k g, ve_I tg mk T E c g → ve_m T g c ≤ k → ve_o tg mk T E (ve_r tg mk T E c k g) c = none := by
  intro k
  induction k with
  | zero =>
    intro g hI hk
    show ve_o tg mk T E g c = none
    cases ho : ve_o tg mk T E g c with
    | none => rfl
    | some p =>
      obtain ⟨hp, hx, hn, hc⟩ := ve_os tg mk T E c ho
      have s := ve_step tg mk T E hm hT hS hv hI ho
      have := ve_md T (g := g) (g' := ve_x tg mk T E g p) (fun q hq => ve_xo tg mk T E g (Or.inl hq) (hS.2.2.1 p hp).1) hx s.2 c hp
      omega
  | succ k ih =>
    intro g hI hk
    rw [ve_r]
    cases ho : ve_o tg mk T E g c with
    | none => exact ho
    | some p =>
      obtain ⟨hp, hx, hn, hc⟩ := ve_os tg mk T E c ho
      have s := ve_step tg mk T E hm hT hS hv hI ho
      have := ve_md T (g := g) (g' := ve_x tg mk T E g p) (fun q hq => ve_xo tg mk T E g (Or.inl hq) (hS.2.2.1 p hp).1) hx s.2 c hp
      exact ih _ s.1 (by omega)
theorem ve_2400 (hm : ∀ i, sb_6 (mk i)) (hT : ∀ p, T p ≤ 18) {c : Nat} (hS : fm_S T c E) (hv : fm_v T E c = true) (hf : fm_f T c ≤ 4) : ∃ K, K ≤ 2400 ∧ ve_o tg mk T E (ve_r tg mk T E c K (ve_n T)) c = none := by
  refine ⟨ve_m T (ve_n T) c, ?_, ve_end tg mk T E hm hT hS hv _ _ ⟨ve_n6 T, fun q _ _ => ⟨0, Nat.zero_le _, rfl⟩⟩ (Nat.le_refl _)⟩
  have a := ve_mb T (ve_n T) c
  have b : 7 ^ fm_f T c ≤ 7 ^ 4 := Nat.pow_le_pow_right (by decide) hf
  exact Nat.le_of_succ_le_succ (Nat.le_trans a b)
end
end
section
/-! The component's walks: classes of tokens, ends, binders, sound -/
theorem dn_0 : nI 0 - 1 < 0 := by decide
theorem dn_m (j : Nat) : nI j + (-1) = nI j - 1 := (Int32.sub_eq_add_neg (nI j) 1).symm
theorem xw_fix {post : Int32 → Prop} {x : Int32} (t : Nat) (hx : x = nI t) (ht : t ≤ 18) (h1 : fm_x t → post 1) (h0 : ¬ fm_x t → post 0) : wpX_isFixed post x :=
  pk_lt t 10 (fun z => h0 (fun y => by have := y.1; omega)) (fun z => pk_le 16 t (fun y => h0 (fun w => by have := w.2; omega)) (fun y => h1 ⟨z, by omega⟩) rfl hx) hx
theorem xw_lst {post : Int32 → Prop} {x : Int32} (t : Nat) (hx : x = nI t) (ht : t ≤ 18) (h1 : 10 ≤ t → t < 13 → post 1) (h0 : (t < 10 ∨ 13 ≤ t) → post 0) : wpX_isLeast post x :=
  pk_lt t 10 (fun z => h0 (Or.inl z)) (fun z => pk_le 13 t (fun y => h0 (Or.inr y)) (fun y => h1 z y) rfl hx) hx
theorem xw_var {post : Int32 → Prop} {x : Int32} (t : Nat) (hx : x = nI t) (ht : t ≤ 18) (h1 : 16 ≤ t → post 1) (h0 : t < 16 → post 0) : wpX_isVariable post x :=
  pk_lt t 16 h0 h1 hx
theorem xw_two {post : Int32 → Prop} {x : Int32} (t : Nat) (hx : x = nI t) (ht : t ≤ 18) (h1 : fm_2 t → post 1) (h0 : ¬ fm_2 t → post 0) : wpX_hasTwoTerms post x :=
  pk_eq t 6 (fun z => h1 (Or.inl z)) (fun z => pk_eq t 7 (fun y => h1 (Or.inr y)) (fun y => h0 (fun w => w.elim z y)) hx) hx
theorem xw_one {post : Int32 → Prop} {x : Int32} (t : Nat) (hx : x = nI t) (ht : t ≤ 18) (h1 : fm_1 t → post 1) (h0 : ¬ fm_1 t → post 0) : wpX_hasOneTerm post x :=
  pk_eq t 8 (fun z => h1 ⟨by omega, by omega⟩) (fun z => pk_eq t 9 (fun y => h1 ⟨by omega, by omega⟩) (fun y => xw_fix t hx ht (fun w => br_f (by decide) (h1 (fm_x1 w))) (fun w => br_t rfl (h0 (fun q => w ⟨by have := q.1; omega, q.2⟩)))) hx) hx
theorem fm_cl1 {T : Nat → Nat} {c : Nat} {E : Nat → Nat} (hc : c ≤ 12) (h : fm_E T c E) : ∀ k p, 13 - p ≤ k → p ≤ 12 → E p ≤ c ∨ E p = 13 := by
  intro k
  induction k with
  | zero => intro p h1 h2; omega
  | succ k ih =>
    intro p h1 h2
    by_cases z : c ≤ p
    · exact Or.inr (h.1 p z)
    · have g := fm_gt hc h (p := p + 1) (by omega)
      rcases fm_Rk (h.2 p (by omega)) with q | q | q
      · by_cases y : E (p + 1) ≤ 12
        · rw [q]; exact ih (E (p + 1)) (by omega) y
        · have := h.1 (E (p + 1)) (by omega); omega
      · rw [q]; exact ih (p + 1) (by omega) (by omega)
      · omega
theorem fm_cl {T : Nat → Nat} {c : Nat} {E : Nat → Nat} (hc : c ≤ 12) (h : fm_E T c E) {p : Nat} (hp : p ≤ 12) : E p ≤ c ∨ E p = 13 := fm_cl1 hc h 13 p (by omega) hp
section
variable (tg mk tk va gi : Nat → Int32) (T E : Nat → Nat) (c : Nat)
theorem tk_at (htk : ∀ i, tk i = nI (T i)) {j : Nat} (hj : j < 100) : tk (nI j).toNatClampNeg = nI (T j) := by
  rw [nI_clamp (by omega)]; exact htk j
theorem xe_loop {post : SX → Prop} (hc : c ≤ 12) (hE : fm_E T c E) (htk : ∀ i, tk i = nI (T i)) (hT : ∀ i, T i ≤ 18) (h : ∀ e', (∀ p, p ≤ c → e' p = nI (E p)) → post (nI c, tg, mk, tk, e', va, gi)) : ∀ j, j ≤ c → ∀ e, (∀ p, j ≤ p → (p ≤ c ∨ p = 13) → e p = nI (E p)) → ∀ n, j < n → wX_findEnds_27 post (nI c) n (nI j - 1) tg mk tk e va gi := by
  intro j
  induction j with
  | zero =>
    intro _ e he n hn
    cases n with
    | zero => omega
    | succ n => exact br_t dn_0 (h e (fun p hp => he p (by omega) (Or.inl hp)))
  | succ j ih =>
    intro hj e he n hn
    cases n with
    | zero => omega
    | succ n =>
      rw [nI_pred]
      have tj := tk_at tk T htk (j := j) (by omega)
      have g1 := fm_gt hc hE (p := j + 1) (by omega)
      have g2 := fm_cl hc hE (p := j + 1) (by omega)
      have e1 : e (nI j + 1).toNatClampNeg = nI (E (j + 1)) := by rw [nI_1, nI_clamp (by omega)]; exact he (j + 1) (by omega) (by omega)
      have e2 : e (e (nI j + 1).toNatClampNeg).toNatClampNeg = nI (E (E (j + 1))) := by rw [e1, nI_clamp (by omega)]; exact he _ (by omega) (by omega)
      have r := hE.2 j (by omega)
      have fin : ∀ a, a = upd e (nI j).toNatClampNeg (nI (E j)) → ∀ x, x = nI j + (-1) → wX_findEnds_27 post (nI c) n x tg mk tk a va gi := by
        intro a ea x ex
        rw [ex, dn_m]
        refine ih (by omega) a (fun p hp hp' => ?_) n (by omega)
        rw [ea, nI_clamp (by omega)]
        by_cases z : p = j
        · rw [z, pk_us]
        · rw [pk_un z]; exact he p (by omega) hp'
      refine br_f (nI_pos (by omega)) ⟨pk_in j 12 (by omega), xw_two (T j) tj (hT j) (fun h2 => br_f (by decide) ?_) (fun h2 => br_t rfl ⟨pk_in j 12 (by omega), xw_one (T j) tj (hT j) (fun h1 => br_f (by decide) ?_) (fun h1 => br_t rfl ?_)⟩)⟩
      · exact ⟨pk_in (j + 1) 14 (by omega) (nI_1 j), pk_in (E (j + 1)) 14 (by omega) e1, pk_in j 14 (by omega), fun a ea => fin a (by rw [ea, e2, ← r.1 h2])⟩
      · exact ⟨pk_in (j + 1) 14 (by omega) (nI_1 j), pk_in j 14 (by omega), fun a ea => fin a (by rw [ea, e1, ← r.2.1 h1])⟩
      · exact ⟨pk_in j 14 (by omega), fun a ea => fin a (by rw [ea, nI_1, ← r.2.2 h2 h1])⟩
theorem xe_find {post : SX → Prop} (en : Nat → Int32) (hc : c ≤ 12) (hE : fm_E T c E) (htk : ∀ i, tk i = nI (T i)) (hT : ∀ i, T i ≤ 18) (h : ∀ e', (∀ p, p ≤ c → e' p = nI (E p)) → post (nI c, tg, mk, tk, e', va, gi)) : wpX_findEnds post (nI c, tg, mk, tk, en, va, gi) := by
  intro a ea
  refine ⟨pk_in c 14 (by omega), fun b eb x ex => ⟨c + 1, ?_⟩⟩
  rw [ex]
  refine xe_loop tg mk tk va gi T E c hc hE htk hT h c (Nat.le_refl _) b (fun p hp hp' => ?_) (c + 1) (by omega)
  rw [hE.1 p hp, eb, nI_clamp (by omega)]
  by_cases z : p = c
  · rw [z, pk_us]; rfl
  · rw [pk_un z, ea, show p = 13 by omega, pk_us]; rfl
/-- the component's search for a binder -/
theorem xb_loop {post : Int32 → Prop} (e : Nat → Int32) (hc : c ≤ 12) (he : ∀ p, p ≤ c → e p = nI (E p)) (hle : ∀ p, p < c → E p ≤ 13) (htk : ∀ i, tk i = nI (T i)) (hT : ∀ i, T i ≤ 18) {p : Nat} (hp : p < c) : ∀ k, k ≤ p → post (fm_I (fm_b T E p k)) → ∀ n, k < n → wX_binderOf_31 post (nI p) (nI (T p - 6)) (nI (T p - 3)) (nI c) tg mk tk e va gi n (nI k - 1) := by
  intro k
  induction k with
  | zero =>
    intro _ h n hn
    cases n with
    | zero => omega
    | succ n => exact br_t dn_0 h
  | succ k ih =>
    intro hk h n hn
    cases n with
    | zero => omega
    | succ n =>
      rw [nI_pred]
      have tj := tk_at tk T htk (j := k) (by omega)
      have ek : e (nI k).toNatClampNeg = nI (E k) := by rw [nI_clamp (by omega)]; exact he k (by omega)
      have l := hle k (by omega)
      have l1 := hT k
      have l2 := hT p
      have no : ¬ ((T k = T p - 6 ∨ T k = T p - 3) ∧ p < E k) → ∀ x, x = nI k + (-1) → wX_binderOf_31 post (nI p) (nI (T p - 6)) (nI (T p - 3)) (nI c) tg mk tk e va gi n x := by
        intro z x ex
        rw [fm_b, if_neg z] at h
        rw [ex, dn_m]
        exact ih (by omega) h n (by omega)
      have yes : (T k = T p - 6 ∨ T k = T p - 3) → wX_binderOf_58 post (wX_binderOf_31 post (nI p) (nI (T p - 6)) (nI (T p - 3)) (nI c) tg mk tk e va gi n) (nI p) (nI (T p - 6)) (nI (T p - 3)) (nI k) (nI c) tg mk tk e va gi := fun y =>
        ⟨pk_in k 14 (by omega), pk_le (E k) p (fun z => no (fun w => by have := w.2; omega)) (fun z => by rw [fm_b, if_pos ⟨y, z⟩] at h; exact h) ek⟩
      exact br_f (nI_pos (by omega)) ⟨pk_in k 12 (by omega), pk_eq (T k) (T p - 6) (fun y => yes (Or.inl y)) (fun y => ⟨pk_in k 12 (by omega), pk_eq (T k) (T p - 3) (fun w => yes (Or.inr w)) (fun w => no (fun q => q.1.elim y w)) tj⟩) tj⟩
theorem xb_6 : ∀ t, t < 19 → 16 ≤ t → (nI t - 16) + 10 = nI (t - 6) := by decide +kernel
theorem xb_3 : ∀ t, t < 19 → 16 ≤ t → (nI t - 16) + 13 = nI (t - 3) := by decide +kernel
theorem xb_of {post : Int32 → Prop} (e : Nat → Int32) (hc : c ≤ 12) (he : ∀ p, p ≤ c → e p = nI (E p)) (hle : ∀ p, p < c → E p ≤ 13) (htk : ∀ i, tk i = nI (T i)) (hT : ∀ i, T i ≤ 18) {p : Nat} (hp : p < c) (h16 : 16 ≤ T p) (h : post (fm_I (fm_b T E p p))) : wpX_binderOf post (nI c, tg, mk, tk, e, va, gi) (nI p) := by
  have tj := tk_at tk T htk (j := p) (by omega)
  have l := hT p
  refine ⟨pk_in p 12 (by omega), fun x ex => ⟨pk_in p 12 (by omega), fun y ey z ez => ⟨p + 1, ?_⟩⟩⟩
  rw [ex, ey, ez, tj, xb_6 _ (by omega) h16, xb_3 _ (by omega) h16]
  exact xb_loop tg mk tk va gi T E c e hc he hle htk hT hp p (Nat.le_refl _) h (p + 1) (by omega)
theorem xc_loop {post : Int32 → Prop} (e : Nat → Int32) (hc : c ≤ 12) (htk : ∀ i, tk i = nI (T i)) (hT : ∀ i, T i ≤ 18) (h : post (nI (fm_f T c))) : ∀ d k, k + d = c → ∀ n, d < n → wX_countFixed_4 post (nI c) tg mk tk e va gi n (nI (fm_f T k)) (nI k) := by
  intro d
  induction d with
  | zero =>
    intro k hk n hn
    cases n with
    | zero => omega
    | succ n =>
      have : k = c := by omega
      subst this
      exact br_t (nI_le (by omega) (by omega)) h
  | succ d ih =>
    intro k hk n hn
    cases n with
    | zero => omega
    | succ n =>
      have tj := tk_at tk T htk (j := k) (by omega)
      have a := ih (k + 1) (by omega) n (by omega)
      rw [fm_f] at a
      refine br_f (nI_ge (by omega) (by omega)) ⟨pk_in k 12 (by omega), xw_fix (T k) tj (hT k) (fun z => br_f (by decide) ?_) (fun z => br_t rfl ?_)⟩
      · intro x ex y ey
        have z' : 10 ≤ T k ∧ T k ≤ 15 := z
        rw [if_pos z'] at a
        rw [ex, ey, nI_1, nI_1]
        exact a
      · intro y ey
        have z' : ¬ (10 ≤ T k ∧ T k ≤ 15) := z
        rw [if_neg z'] at a
        rw [ey, nI_1]
        exact a
theorem xv_loop {post : Int32 → Prop} (e : Nat → Int32) (hc : c ≤ 12) (he : ∀ p, p ≤ c → e p = nI (E p)) (hle : ∀ p, p < c → E p ≤ 13) (htk : ∀ i, tk i = nI (T i)) (hT : ∀ i, T i ≤ 18) (h1 : fm_v T E c = true → post 1) (h0 : fm_v T E c = false → post 0) : ∀ d k, k + d = c → fm_v T E k = true → ∀ n, d < n → wX_everyVariableIsBound_2 post (nI c) tg mk tk e va gi n (nI k) := by
  intro d
  induction d with
  | zero =>
    intro k hk hv n hn
    cases n with
    | zero => omega
    | succ n =>
      have : k = c := by omega
      subst this
      exact br_t (nI_le (by omega) (by omega)) (h1 hv)
  | succ d ih =>
    intro k hk hv n hn
    cases n with
    | zero => omega
    | succ n =>
      have tj := tk_at tk T htk (j := k) (by omega)
      have a := ih (k + 1) (by omega)
      have go : fm_v T E (k + 1) = true → ∀ y, y = nI k + 1 → wX_everyVariableIsBound_2 post (nI c) tg mk tk e va gi n y := fun w y ey => by
        rw [ey, nI_1]
        exact a w n (by omega)
      refine br_f (nI_ge (by omega) (by omega)) ⟨pk_in k 12 (by omega), xw_var (T k) tj (hT k) (fun z => br_f (by decide) ?_) (fun z => br_t rfl ?_)⟩
      · refine xb_of tg mk tk va gi T E c e hc he hle htk hT (by omega) z ?_
        cases q : fm_b T E k k with
        | none => exact br_t rfl (h0 (fm_vf z q c (by omega)))
        | some r =>
          have := fm_bs k q
          refine br_f (fun w => ?_) (go ?_)
          · have w' : nI r = -1 := w
            have : ¬ nI r < 0 := nI_pos (by omega)
            rw [w'] at this
            exact this (by decide)
          · rw [fm_v, hv, q]; exact Bool.or_true _
      · refine go ?_
        rw [fm_v, hv, decide_eq_true z]; rfl
theorem xs_sound {post : Int32 → SX → Prop} (en : Nat → Int32) (hc : c ≤ 12) (hE : fm_E T c E) (htk : ∀ i, tk i = nI (T i)) (hT : ∀ i, T i ≤ 18) (h1 : fm_ok T c E → ∀ e', (∀ p, p ≤ c → e' p = nI (E p)) → post 1 (nI c, tg, mk, tk, e', va, gi)) (h0 : ¬ fm_ok T c E → ∀ e', (∀ p, p ≤ c → e' p = nI (E p)) → post 0 (nI c, tg, mk, tk, e', va, gi)) : wpX_isSound post (nI c, tg, mk, tk, en, va, gi) := by
  have hle : ∀ p, p < c → E p ≤ 13 := fun p hp => (fm_gt hc hE (by omega)).2
  refine xe_find tg mk tk va gi T E c en hc hE htk hT (fun e he => ?_)
  have l0 := (fm_gt hc hE (p := 0) (by omega)).2
  have l1 := fm_fl T c
  refine pk_eq (E 0) c (fun z => ?_) (fun z => ?_) (he 0 (by omega))
  · refine ⟨c + 1, xc_loop tg mk tk va gi T c e hc htk hT ?_ c 0 (by omega) (c + 1) (by omega)⟩
    refine pk_lt 4 (fm_f T c) (fun y => ?_) (fun y => ?_)
    · exact h0 (fun w => by have := w.2.1; omega) e he
    · refine ⟨c + 1, xv_loop tg mk tk va gi T E c e hc he hle htk hT (fun v => ?_) (fun v => ?_) c 0 (by omega) rfl (c + 1) (by omega)⟩
      · exact br_f (by decide) (h1 ⟨z, y, v⟩ e he)
      · refine br_t rfl (h0 (fun w => ?_) e he)
        rw [w.2.2] at v
        exact absurd v (by decide)
  · exact h0 (fun w => z w.1) e he
end
end
section
/-! The component's walks: depth, the rounds' starts, the value at a token, judge -/
section
variable (tg mk tk : Nat → Int32) (T E : Nat → Nat) (c : Nat)
theorem xa_loop {post : Int32 → Prop} (e va gi : Nat → Int32) (hc : c ≤ 12) (he : ∀ p, p ≤ c → e p = nI (E p)) (hle : ∀ p, p < c → E p ≤ 13) (htk : ∀ i, tk i = nI (T i)) (hT : ∀ i, T i ≤ 18) {p : Nat} (hp : p < c) (h : post (nI (fm_a T E p p))) : ∀ d k, k + d = p → ∀ n, d < n → wX_fixedAround_4 post (nI p) (nI c) tg mk tk e va gi n (nI (fm_a T E p k)) (nI k) := by
  intro d
  induction d with
  | zero =>
    intro k hk n hn
    cases n with
    | zero => omega
    | succ n =>
      have : k = p := by omega
      subst this
      exact br_t (nI_le (by omega) (by omega)) h
  | succ d ih =>
    intro k hk n hn
    cases n with
    | zero => omega
    | succ n =>
      have tj := tk_at tk T htk (j := k) (by omega)
      have ek : e (nI k).toNatClampNeg = nI (E k) := by rw [nI_clamp (by omega)]; exact he k (by omega)
      have l := hle k (by omega)
      have a := ih (k + 1) (by omega) n (by omega)
      rw [fm_a] at a
      have no : ¬ ((10 ≤ T k ∧ T k ≤ 15) ∧ p < E k) → ∀ y, y = nI k + 1 → wX_fixedAround_4 post (nI p) (nI c) tg mk tk e va gi n (nI (fm_a T E p k)) y := fun z y ey => by
        rw [if_neg z] at a
        rw [ey, nI_1]
        exact a
      refine br_f (nI_ge (by omega) (by omega)) ⟨pk_in k 12 (by omega), xw_fix (T k) tj (hT k) (fun z => br_f (by decide) ⟨pk_in k 14 (by omega), pk_le (E k) p (fun y => no (fun w => by have := w.2; omega)) (fun y => ?_) ek⟩) (fun z => br_t rfl (no (fun w => z w.1)))⟩
      intro x ex y' ey
      have z' : (10 ≤ T k ∧ T k ≤ 15) ∧ p < E k := ⟨z, y⟩
      rw [if_pos z'] at a
      rw [ex, ey, nI_1, nI_1]
      exact a
theorem xd_loop {post : Int32 → Prop} (e va gi : Nat → Int32) (hc : c ≤ 12) (he : ∀ p, p ≤ c → e p = nI (E p)) (hle : ∀ p, p < c → E p ≤ 13) (htk : ∀ i, tk i = nI (T i)) (hT : ∀ i, T i ≤ 18) (h : post (nI (fm_d T E c))) : ∀ d k, k + d = c → ∀ n, d < n → wX_deepestNesting_4 post (nI c) tg mk tk e va gi n (nI (fm_d T E k)) (nI k) := by
  intro d
  induction d with
  | zero =>
    intro k hk n hn
    cases n with
    | zero => omega
    | succ n =>
      have : k = c := by omega
      subst this
      exact br_t (nI_le (by omega) (by omega)) h
  | succ d ih =>
    intro k hk n hn
    cases n with
    | zero => omega
    | succ n =>
      have tj := tk_at tk T htk (j := k) (by omega)
      have a := ih (k + 1) (by omega) n (by omega)
      rw [fm_d] at a
      have ld := fm_dl T E k
      have la := fm_al T E k k
      have go : ∀ (m : Nat) (x : Int32), x = nI m → m ≤ 13 → (if 10 ≤ T k ∧ T k ≤ 15 then 1 + fm_a T E k k else 0) = m → wX_deepestNesting_35 post (wX_deepestNesting_4 post (nI c) tg mk tk e va gi n) (nI (fm_d T E k)) (nI k) x (nI c) tg mk tk e va gi := by
        intro m x hx hm em
        rw [em] at a
        refine pk_le m (fm_d T E k) (fun z y ey => ?_) (fun z y ey => ?_) hx
        · rw [show max (fm_d T E k) m = fm_d T E k by omega] at a
          rw [ey, nI_1]; exact a
        · rw [show max (fm_d T E k) m = m by omega] at a
          rw [ey, nI_1, hx]; exact a
      refine br_f (nI_ge (by omega) (by omega)) ⟨pk_in k 12 (by omega), xw_fix (T k) tj (hT k) (fun z => br_f (by decide) ⟨k + 1, xa_loop tg mk tk T E c e va gi hc he hle htk hT (by omega) ?_ k 0 (by omega) (k + 1) (by omega)⟩) (fun z => br_t rfl (go 0 0 rfl (by omega) (if_neg z)))⟩
      exact go (1 + fm_a T E k k) _ (nI_add 1 _) (by omega) (if_pos z)
theorem xd_deep {post : Int32 → Prop} (e va gi : Nat → Int32) (hc : c ≤ 12) (he : ∀ p, p ≤ c → e p = nI (E p)) (hle : ∀ p, p < c → E p ≤ 13) (htk : ∀ i, tk i = nI (T i)) (hT : ∀ i, T i ≤ 18) (h : post (nI (fm_d T E c))) : wpX_deepestNesting post (nI c, tg, mk, tk, e, va, gi) :=
  ⟨c + 1, xd_loop tg mk tk T E c e va gi hc he hle htk hT h c 0 (by omega) (c + 1) (by omega)⟩
theorem xi_loop {post : SX → Prop} (e va gi : Nat → Int32) (htk : ∀ i, tk i = nI (T i)) (hT : ∀ i, T i ≤ 18) (fr to : Nat) (ht : to ≤ 12) (h : ∀ g', (∀ p, fr ≤ p → p < to → fm_x (T p) → g' p = ve_n T p) → (∀ p, p < fr ∨ to ≤ p → g' p = gi p) → post (nI c, tg, mk, tk, e, va, g')) : ∀ d k, k + d = to → fr ≤ k → ∀ a, (∀ p, fr ≤ p → p < k → fm_x (T p) → a p = ve_n T p) → (∀ p, p < fr ∨ k ≤ p → a p = gi p) → ∀ n, d < n → wX_startFixedPoints_2 post (nI to) (nI c) n (nI k) tg mk tk e va a := by
  intro d
  induction d with
  | zero =>
    intro k hk hf a h1 h2 n hn
    cases n with
    | zero => omega
    | succ n =>
      have : k = to := by omega
      subst this
      exact br_t (nI_le (by omega) (by omega)) (h a h1 h2)
  | succ d ih =>
    intro k hk hf a h1 h2 n hn
    cases n with
    | zero => omega
    | succ n =>
      have tj := tk_at tk T htk (j := k) (by omega)
      have go : ∀ v : Int32, (fm_x (T k) → v = ve_n T k) → ∀ b, b = upd a (nI k).toNatClampNeg v → ∀ y, y = nI k + 1 → wX_startFixedPoints_2 post (nI to) (nI c) n y tg mk tk e va b := by
        intro v hv b eb y ey
        rw [ey, nI_1]
        rw [nI_clamp (by omega)] at eb
        refine ih (k + 1) (by omega) (by omega) b (fun p hp hp' hx => ?_) (fun p hp => ?_) n (by omega)
        · rw [eb]
          by_cases z : p = k
          · subst z; rw [pk_us]; exact hv hx
          · rw [pk_un z]; exact h1 p hp (by omega) hx
        · rw [eb, pk_un (by omega)]; exact h2 p (by omega)
      refine br_f (nI_ge (by omega) (by omega)) ⟨pk_in k 12 (by omega), xw_lst (T k) tj (hT k) (fun y z => br_f (by decide) ⟨pk_in k 14 (by omega), go 0 (fun _ => (if_pos z).symm)⟩) (fun y => br_t rfl ⟨pk_in k 14 (by omega), go 63 (fun z => (if_neg (by have := z.1; omega)).symm)⟩)⟩
theorem xi_start {post : SX → Prop} (e va gi : Nat → Int32) (htk : ∀ i, tk i = nI (T i)) (hT : ∀ i, T i ≤ 18) (fr to : Nat) (ht : to ≤ 12) (hf : fr ≤ to) {x y : Int32} (hx : x = nI fr) (hy : y = nI to) (h : ∀ g', (∀ p, fr ≤ p → p < to → fm_x (T p) → g' p = ve_n T p) → (∀ p, p < fr ∨ to ≤ p → g' p = gi p) → post (nI c, tg, mk, tk, e, va, g')) : wpX_startFixedPoints post (nI c, tg, mk, tk, e, va, gi) x y := by
  subst hx hy
  exact ⟨to - fr + 1, xi_loop tg mk tk T c e va gi htk hT fr to ht h (to - fr) fr (by omega) (Nat.le_refl _) gi (fun p a b => by omega) (fun _ _ => rfl) _ (by omega)⟩
theorem xp_loop {post : Int32 → Prop} (n0 : Int32) (e va gi : Nat → Int32) (Z : Int32) (h : post (sb_p tg Z 6)) : ∀ d k, k + d = 6 → ∀ n, d < n → wX_statesWithStepInto_4 post Z n0 tg mk tk e va gi n (sb_p tg Z k) (nI k) := by
  intro d
  induction d with
  | zero =>
    intro k hk n hn
    cases n with
    | zero => omega
    | succ n =>
      have : k = 6 := by omega
      subst this
      exact br_t (by decide) h
  | succ d ih =>
    intro k hk n hn
    cases n with
    | zero => omega
    | succ n =>
      have a := ih (k + 1) (by omega) n (by omega)
      rw [sb_p] at a
      refine br_f (nI_ge (b := 6) (by omega) (by omega)) ⟨pk_in k 6 (by omega), ?_⟩
      rw [nI_clamp (by omega)]
      refine br_c (fun z y ey => ?_) (fun z x ex y ey => ?_)
      · rw [if_pos z] at a
        rw [ey, nI_1]; exact a
      · rw [if_neg z] at a
        rw [ex, ey, nI_1]; exact a
theorem xp_into {post : Int32 → Prop} (n0 : Int32) (e va gi : Nat → Int32) (Z : Int32) (h : post (sb_p tg Z 6)) : wpX_statesWithStepInto post (n0, tg, mk, tk, e, va, gi) Z :=
  ⟨7, xp_loop tg mk tk n0 e va gi Z h 6 0 rfl 7 (by omega)⟩
theorem xv_at {post : Int32 → Prop} (e va gi : Nat → Int32) (he : ∀ p, p ≤ c → e p = nI (E p)) (htk : ∀ i, tk i = nI (T i)) (hT : ∀ i, T i ≤ 18) (hS : fm_S T c E) (hv : fm_v T E c = true) {p : Nat} (hp : p < c) (h : post (vo_p tg mk (T p) (va (p + 1)) (va (E (p + 1))) (va (p + 1)) (gi (fm_B T E p)))) : wpX_valueAt post (nI c, tg, mk, tk, e, va, gi) (nI p) := by
  have hc := hS.1
  have tj := tk_at tk T htk (j := p) (by omega)
  have hle : ∀ q, q < c → E q ≤ 13 := fun q hq => by have := (hS.2.2.1 q hq).2; omega
  have g2 := hS.2.2.2.1 p hp
  have g1 := hS.2.2.2.2.1 p hp
  have e1 : e (nI p + 1).toNatClampNeg = nI (E (p + 1)) := by rw [nI_1, nI_clamp (by omega)]; exact he (p + 1) (by omega)
  have v1 : va (nI p + 1).toNatClampNeg = va (p + 1) := by rw [nI_1, nI_clamp (by omega)]
  have ht := hT p
  obtain ⟨t, et⟩ : ∃ t, T p = t := ⟨_, rfl⟩
  rw [et] at h tj g2 g1 ht
  refine ⟨pk_in p 12 (by omega), fun x ex => ?_⟩
  have ex' : x = nI t := ex.trans tj
  subst ex'
  refine pk_le 3 t (fun h3 => pk_le 6 t (fun h6 => xw_var t rfl ht (fun hw => br_f (by decide) ?_) (fun hw => br_t rfl ⟨pk_in (p + 1) 14 (by omega) (nI_1 p), fun y ey => ?_⟩)) (fun h6 => ⟨pk_in (t - 3) 3 (by omega) (pk_sub h3), ?_⟩)) (fun h3 => ⟨pk_in t 3 h3, ?_⟩)
  · have b := fm_Bs hT hv hp (by omega)
    rw [vo_v tg mk hw] at h
    refine xb_of tg mk tk va gi T E c e hc he hle htk hT hp (by omega) ?_
    rw [b.1]
    refine br_f (fun w => ?_) ⟨pk_in (fm_B T E p) 14 (by omega), ?_⟩
    · have w' : nI (fm_B T E p) = -1 := w
      have : ¬ nI (fm_B T E p) < 0 := nI_pos (by omega)
      rw [w'] at this
      exact this (by decide)
    · show post (gi (nI (fm_B T E p)).toNatClampNeg)
      rw [nI_clamp (by omega)]; exact h
  · have ey' : y = va (p + 1) := ey.trans v1
    subst ey'
    refine pk_lt t 6 (fun z => absurd h6 (by omega)) (fun _ => pk_lt 9 t (fun h9 => ?_) (fun h9 => pk_eq t 6 (fun z => ?_) (fun z6 => pk_eq t 7 (fun z => ?_) (fun z7 => pk_eq t 8 (fun z => ?_) (fun z8 => pk_eq t 9 (fun z => ?_) (fun z9 => trivial))))))
    · rw [vo_f tg mk ⟨by omega, by omega⟩] at h; exact h
    · have q := g2 (Or.inl z)
      rw [vo_6 tg mk z] at h
      refine ⟨pk_in (p + 1) 14 (by omega) (nI_1 p), pk_in (E (p + 1)) 14 (by omega) e1, ?_⟩
      rw [e1, nI_clamp (by omega)]; exact h
    · have q := g2 (Or.inr z)
      rw [vo_7 tg mk z] at h
      refine ⟨pk_in (p + 1) 14 (by omega) (nI_1 p), pk_in (E (p + 1)) 14 (by omega) e1, ?_⟩
      rw [e1, nI_clamp (by omega)]; exact h
    · rw [vo_8 tg mk z] at h
      exact xp_into tg mk tk (nI c) e va gi _ h
    · rw [vo_9 tg mk z] at h
      exact xp_into tg mk tk (nI c) e va gi _ h
  · rw [vo_n tg mk h3 h6] at h
    have : nI t - 3 = nI (t - 3) := pk_sub h3
    rw [this, nI_clamp (by omega)]; exact h
  · rw [vo_m tg mk h3] at h
    rw [nI_clamp (by omega)]; exact h
end
end
section
/-! The component's judge runs the rounds -/
section
variable (tg mk : Nat → Int32) (T E : Nat → Nat) (c : Nat)
/-- one pass at q hangs on the fixed points whose terms end behind q -/
theorem ve_pl (hT : ∀ p, T p ≤ 18) (hS : fm_S T c E) (hv : fm_v T E c = true) (g g' : vEnv) : ∀ k q, q < c → c - q ≤ k → (∀ b, b < c → fm_x (T b) → q < E b → g b = g' b) → ve_p tg mk T E g q = ve_p tg mk T E g' q := by
  intro k
  induction k with
  | zero => intro q h1 h2; omega
  | succ k ih =>
    intro q hq hk h
    have g2 := hS.2.2.2.1 q hq
    have g1 := hS.2.2.2.2.1 q hq
    rw [ve_pe tg mk T E hS g hq, ve_pe tg mk T E hS g' hq]
    refine vo_eq tg mk (fun z _ => ?_) (fun z => ?_) (fun z => ?_) (fun z => ?_)
    · exact ih (q + 1) (z.elim (fun y => by have := g2 y; omega) (fun y => (g1 y).1)) (by omega) (fun b hb hx hE => h b hb hx (by omega))
    · exact ih (E (q + 1)) (g2 z).2.1 (by have := g2 z; omega) (fun b hb hx hE => h b hb hx (by have := g2 z; omega))
    · exact h q hq z (hS.2.2.1 q hq).1
    · have b := fm_Bs hT hv hq z
      exact h _ (by omega) b.2.2.1 b.2.2.2
theorem ve_on0 {g : vEnv} : ∀ k, (∀ q, q < k → fm_x (T q) → ve_p tg mk T E g (q + 1) = g q) → ve_o tg mk T E g k = none := by
  intro k
  induction k with
  | zero => intro _; rfl
  | succ k ih =>
    intro h
    rw [ve_o, if_neg (fun z => z.2 (h k (by omega) z.1))]
    exact ih (fun q hq => h q (by omega))
theorem ve_on1 {g : vEnv} {p : Nat} (hx : fm_x (T p)) (ho : ¬ ve_p tg mk T E g (p + 1) = g p) : ∀ k, p < k → (∀ q, p < q → q < k → fm_x (T q) → ve_p tg mk T E g (q + 1) = g q) → ve_o tg mk T E g k = some p := by
  intro k
  induction k with
  | zero => intro h; omega
  | succ k ih =>
    intro hk h
    rw [ve_o]
    by_cases z : k = p
    · subst z; rw [if_pos ⟨hx, ho⟩]
    · rw [if_neg (fun w => w.2 (h k (by omega) (by omega) w.1))]
      exact ih (by omega) (fun q a b => h q a (by omega))
theorem ve_r0 {g : vEnv} (h : ve_o tg mk T E g c = none) : ∀ k, ve_r tg mk T E c k g = g := by
  intro k
  cases k with
  | zero => rfl
  | succ k => rw [ve_r, h]
theorem ve_r1 {g : vEnv} {p : Nat} (h : ve_o tg mk T E g c = some p) (k : Nat) : ve_r tg mk T E c (k + 1) g = ve_r tg mk T E c k (ve_x tg mk T E g p) := by
  rw [ve_r, h]
theorem xj_loop {post : Int32 → SX → Prop} (tk e : Nat → Int32) (he : ∀ p, p ≤ c → e p = nI (E p)) (htk : ∀ i, tk i = nI (T i)) (hT : ∀ i, T i ≤ 18) (hS : fm_S T c E) (hv : fm_v T E c = true) : ∀ k (g : vEnv), ve_o tg mk T E (ve_r tg mk T E c k g) c = none → (∀ va' gi', post (ve_p tg mk T E (ve_r tg mk T E c k g) 0) (nI c, tg, mk, tk, e, va', gi')) → ∀ j, j ≤ c → ∀ va gi : Nat → Int32, (∀ q, q < c → fm_x (T q) → gi q = g q) → (∀ q, j ≤ q → q < c → va q = ve_p tg mk T E g q) → (∀ q, j ≤ q → q < c → fm_x (T q) → ve_p tg mk T E g (q + 1) = g q) → ∀ L, L + 13 * k + j < 900000 → ∀ n, 13 * k + j < n → wX_judge_18 post n (nI j - 1) (nI L) (nI c) tg mk tk e va gi := by
  have hc := hS.1
  intro k
  induction k using Nat.strongRecOn with
  | _ k ihk =>
  intro g hr h j
  induction j with
  | zero =>
    intro _ va gi hg hva hcl L hL n hn
    cases n with
    | zero => omega
    | succ n =>
      refine br_f (nI_ge (b := 1000000) (by omega) (by omega)) (br_t dn_0 ?_)
      have o := ve_on0 tg mk T E c (g := g) (fun q hq => hcl q (by omega) hq)
      rw [ve_r0 tg mk T E c o k] at h
      rw [hva 0 (by omega) hS.2.1]
      exact h va gi
  | succ j ihj =>
    intro hj va gi hg hva hcl L hL n hn
    cases n with
    | zero => omega
    | succ n =>
      rw [nI_pred]
      have tj := tk_at tk T htk (j := j) (by omega)
      have g2 := hS.2.2.2.1 j (by omega)
      have g1 := hS.2.2.2.2.1 j (by omega)
      have gE := hS.2.2.1 j (by omega)
      refine br_f (nI_ge (b := 1000000) (by omega) (by omega)) (br_f (nI_pos (by omega)) (xv_at tg mk tk T E c e va gi he htk hT hS hv (by omega) ⟨pk_in j 14 (by omega), fun a ea => ⟨pk_in j 12 (by omega), xw_fix (T j) tj (hT j) (fun z => br_f (by decide) ?_) (fun z => br_t rfl ?_)⟩⟩))
      · rw [nI_clamp (by omega), vo_f tg mk z] at ea
        have p1 := (g1 (fm_x1 z)).1
        rw [hva (j + 1) (by omega) p1] at ea
        have aj : a j = ve_p tg mk T E g (j + 1) := by rw [ea, pk_us]
        have gj := hg j (by omega) z
        refine ⟨pk_in j 14 (by omega), pk_in j 14 (by omega), ?_⟩
        rw [nI_clamp (by omega), aj, gj]
        refine br_c (fun w x ex y ey => ?_) (fun w => ⟨pk_in j 14 (by omega), pk_in j 14 (by omega), fun b eb => ⟨pk_in j 14 (by omega), ?_⟩⟩)
        · rw [ex, ey, nI_1, dn_m]
          refine ihj (by omega) a gi hg (fun q hq hqc => ?_) (fun q hq hqc hx => ?_) (L + 1) (by omega) n (by omega)
          · by_cases u : q = j
            · subst u
              rw [aj, w, ve_pe tg mk T E hS g hqc, vo_f tg mk z]
            · rw [ea, pk_un u]; exact hva q (by omega) hqc
          · by_cases u : q = j
            · subst u; exact w
            · exact hcl q (by omega) hqc hx
        · have o := ve_on1 tg mk T E z w c (by omega) (fun q hq hqc => hcl q (by omega) hqc)
          have ej : e j = nI (E j) := he j (by omega)
          refine xi_start tg mk tk T c e a b htk hT (j + 1) (E j) (by omega) (by omega) (nI_1 j) ej (fun b' hb1 hb2 => ⟨pk_in j 14 (by omega), fun x ex y ey => ?_⟩)
          rw [ex, ey, nI_1, ej]
          cases k with
          | zero =>
            have hr' : ve_o tg mk T E g c = none := hr
            rw [o] at hr'
            exact nomatch hr'
          | succ k =>
            rw [ve_r1 tg mk T E c o] at hr h
            have xo : ∀ q, q < j ∨ E j ≤ q → ve_x tg mk T E g j q = g q := fun q w => ve_xo tg mk T E g w gE.1
            have pl : ∀ q, E j ≤ q → q < c → ve_p tg mk T E (ve_x tg mk T E g j) q = ve_p tg mk T E g q := fun q hq hqc => ve_pl tg mk T E c hT hS hv _ _ c q hqc (by omega) (fun d hd hdx hdE => by
              refine xo d (Decidable.byContradiction fun nn => ?_)
              have := hS.2.2.2.2.2.2 j d (by omega) (by omega) (by omega)
              omega)
            refine ihk k (by omega) _ hr h (E j) gE.2 a b' (fun q hq hx => ?_) (fun q hq hqc => ?_) (fun q hq hqc hx => ?_) (L + 1) (by omega) n (by omega)
            · by_cases u : q = j
              · subst u
                rw [hb2 q (by omega), eb, pk_us, ve_xp]
              · by_cases u2 : j < q ∧ q < E j
                · rw [hb1 q (by omega) (by omega) hx, ve_xi tg mk T E g u2.1 u2.2]
                · rw [hb2 q (by omega), eb, pk_un u, xo q (by omega)]; exact hg q hq hx
            · rw [ea, pk_un (by omega), pl q hq hqc]; exact hva q (by omega) hqc
            · rw [xo q (by omega), pl (q + 1) (by omega) (hS.2.2.2.2.1 q hqc (fm_x1 hx)).1]; exact hcl q (by omega) hqc hx
      · intro x ex y ey
        rw [ex, ey, nI_1, dn_m]
        rw [nI_clamp (by omega)] at ea
        have vj : vo_p tg mk (T j) (va (j + 1)) (va (E (j + 1))) (va (j + 1)) (gi (fm_B T E j)) = ve_p tg mk T E g j := by
          rw [ve_pe tg mk T E hS g (by omega)]
          refine vo_eq tg mk (fun w _ => ?_) (fun w => ?_) (fun w => absurd w z) (fun w => ?_)
          · exact hva (j + 1) (by omega) (w.elim (fun y => by have := g2 y; omega) (fun y => (g1 y).1))
          · exact hva (E (j + 1)) (by have := g2 w; omega) (g2 w).2.1
          · have b := fm_Bs hT hv (by omega) w
            exact hg _ (by omega) b.2.2.1
        rw [vj] at ea
        refine ihj (by omega) a gi hg (fun q hq hqc => ?_) (fun q hq hqc hx => ?_) (L + 1) (by omega) n (by omega)
        · by_cases u : q = j
          · subst u; rw [ea, pk_us]
          · rw [ea, pk_un u]; exact hva q (by omega) hqc
        · by_cases u : q = j
          · subst u; exact absurd hx z
          · exact hcl q (by omega) hqc hx
theorem xj_judge {post : Int32 → SX → Prop} (tk e va gi : Nat → Int32) (he : ∀ p, p ≤ c → e p = nI (E p)) (htk : ∀ i, tk i = nI (T i)) (hT : ∀ i, T i ≤ 18) (hS : fm_S T c E) (hv : fm_v T E c = true) (K : Nat) (hK : K ≤ 2400) (hr : ve_o tg mk T E (ve_r tg mk T E c K (ve_n T)) c = none) (h : ∀ va' gi', post (ve_p tg mk T E (ve_r tg mk T E c K (ve_n T)) 0) (nI c, tg, mk, tk, e, va', gi')) : wpX_judge post (nI c, tg, mk, tk, e, va, gi) := by
  have hc := hS.1
  refine xi_start tg mk tk T c e va gi htk hT 0 c hc (by omega) rfl rfl (fun g' h1 h2 x ex => ⟨13 * K + c + 1, ?_⟩)
  rw [ex]
  exact xj_loop tg mk T E c tk e he htk hT hS hv K (ve_n T) hr h c (Nat.le_refl _) va g' (fun q hq hx => h1 q (by omega) hq hx) (fun q a b => by omega) (fun q a b => by omega) 0 (by omega) _ (by omega)
end
end
section
/-! The reference's walks: ends, binders, sound, depth -/
theorem yw_binds {post : Int32 → Prop} (u : SY) {x : Int32} (t : Nat) (hx : x = nI t) (ht : t ≤ 18) (h1 : fm_x t → post 1) (h0 : ¬ fm_x t → post 0) : wpY_binds post u x := by
  obtain ⟨a, b, c, d, e, f, g, h, i⟩ := u
  exact pk_lt t 10 (fun z => h0 (fun y => by have := y.1; omega)) (fun z => pk_lt 15 t (fun y => h0 (fun w => by have := w.2; omega)) (fun y => h1 ⟨z, y⟩) rfl hx) hx
theorem yw_arity {post : Int32 → Prop} (u : SY) {x : Int32} (t : Nat) (hx : x = nI t) (ht : t ≤ 18) (h2 : fm_2 t → post 2) (h1 : fm_1 t → post 1) (h0 : ¬ fm_2 t → ¬ fm_1 t → post 0) : wpY_arity post u x := by
  obtain ⟨a, b, c, d, e, f, g, h, i⟩ := u
  exact pk_eq t 6 (fun z => h2 (Or.inl z)) (fun z6 => pk_eq t 7 (fun z => h2 (Or.inr z)) (fun z7 => pk_lt t 8 (fun z => h0 (fun y => y.elim z6 z7) (fun y => by have := y.1; omega)) (fun z8 => pk_lt 15 t (fun z => h0 (fun y => y.elim z6 z7) (fun y => by have := y.2; omega)) (fun z => h1 ⟨z8, z⟩) rfl hx) hx) hx) hx
section
variable (tg mk tk : Nat → Int32) (T E : Nat → Nat) (c : Nat)
theorem yf_loop {post : Int32 → SY → Prop} (bi fi bo st : Nat → Int32) (hc : c ≤ 12) (hE : fm_E T c E) (htk : ∀ i, tk i = nI (T i)) (hT : ∀ i, T i ≤ 18) (h1 : E 0 = c → ∀ e', (∀ p, p < c → e' p = nI (E p)) → post 1 (nI c, tg, mk, tk, e', bi, fi, bo, st)) (h0 : ¬ E 0 = c → ∀ e', post 0 (nI c, tg, mk, tk, e', bi, fi, bo, st)) : ∀ j, j ≤ c → ∀ e, (∀ p, j ≤ p → p < c → e p = nI (E p) ∧ E p ≤ c) → ∀ n, j < n → wY_findEnds_7 post (nI c) n (nI j - 1) tg mk tk e bi fi bo st := by
  intro j
  induction j with
  | zero =>
    intro _ e he n hn
    cases n with
    | zero => omega
    | succ n =>
      refine br_t dn_0 (pk_le c 0 (fun z => h0 (fun w => ?_) e) (fun z => ?_))
      · have := hE.1 0 z; omega
      · have := he 0 (by omega) z
        exact pk_eq (E 0) c (fun w => h1 w e (fun p hp => (he p (by omega) hp).1)) (fun w => h0 w e) this.1
  | succ j ih =>
    intro hj e he n hn
    cases n with
    | zero => omega
    | succ n =>
      rw [nI_pred]
      have tj := tk_at tk T htk (j := j) (by omega)
      have g1 := fm_gt hc hE (p := j + 1) (by omega)
      have r := hE.2 j (by omega)
      have fin : E j ≤ c → ∀ a, a = upd e (nI j).toNatClampNeg (nI (E j)) → ∀ x, x = nI j + (-1) → wY_findEnds_7 post (nI c) n x tg mk tk a bi fi bo st := by
        intro hle a ea x ex
        rw [ex, dn_m]
        refine ih (by omega) a (fun p hp hp' => ?_) n (by omega)
        rw [ea, nI_clamp (by omega)]
        by_cases z : p = j
        · rw [z, pk_us]; exact ⟨rfl, hle⟩
        · rw [pk_un z]; exact he p (by omega) hp'
      have bad : E j = 13 → post 0 (nI c, tg, mk, tk, e, bi, fi, bo, st) := fun z => h0 (fm_no hc hE (by omega) z) e
      refine br_f (nI_pos (by omega)) (fun x ex => ⟨3, ?_⟩)
      rw [ex, nI_1]
      refine ⟨pk_in j 12 (by omega), yw_arity _ (T j) tj (hT j) (fun h2 => br_f (by decide) ?_) (fun h1 => br_f (by decide) ?_) (fun h2 h1 => br_t (by decide) ⟨pk_in j 13 (by omega), ?_⟩)⟩
      · have q := r.1 h2
        refine pk_lt (j + 1) c (fun z => ⟨pk_in (j + 1) 13 (by omega), fun y ey w ew => ?_⟩) (fun z => ?_)
        · have e1 := he (j + 1) (by omega) z
          rw [nI_clamp (by omega), e1.1] at ey
          rw [ey, ew]
          refine ⟨pk_in j 12 (by omega), yw_arity _ (T j) tj (hT j) (fun _ => br_f (by decide) ?_) (fun h1 => ?_) (fun h _ => absurd h2 h)⟩
          · refine pk_lt (E (j + 1)) c (fun z' => ⟨pk_in (E (j + 1)) 13 (by omega), fun y' ey' w' ew' => ?_⟩) (fun z' => bad (by rw [q]; exact hE.1 _ z'))
            have e2 := he (E (j + 1)) (by omega) z'
            rw [nI_clamp (by omega), e2.1] at ey'
            rw [ey', ew']
            refine ⟨pk_in j 12 (by omega), yw_arity _ (T j) tj (hT j) (fun _ => br_t (by decide) ⟨pk_in j 13 (by omega), ?_⟩) (fun h1 => ?_) (fun h _ => absurd h2 h)⟩
            · rw [← q]; exact fin (by rw [q]; exact e2.2)
            · rcases h2 with h2 | h2
              · have := h1.1; omega
              · have := h1.1; omega
          · rcases h2 with h2 | h2
            · have := h1.1; omega
            · have := h1.1; omega
        · refine bad ?_
          rw [q, hE.1 (j + 1) z]; exact hE.1 13 (by omega)
      · have q := r.2.1 h1
        refine pk_lt (j + 1) c (fun z => ⟨pk_in (j + 1) 13 (by omega), fun y ey w ew => ?_⟩) (fun z => bad (by rw [q]; exact hE.1 _ z))
        have e1 := he (j + 1) (by omega) z
        rw [nI_clamp (by omega), e1.1] at ey
        rw [ey, ew]
        refine ⟨pk_in j 12 (by omega), yw_arity _ (T j) tj (hT j) (fun h2 => ?_) (fun _ => br_t (by decide) ⟨pk_in j 13 (by omega), ?_⟩) (fun _ h => absurd h1 h)⟩
        · rcases h2 with h2 | h2
          · have := h1.1; omega
          · have := h1.1; omega
        · rw [← q]; exact fin (by rw [q]; exact e1.2)
      · have q := r.2.2 h2 h1
        rw [← q]; exact fin (by omega)
theorem yf_find {post : Int32 → SY → Prop} (e bi fi bo st : Nat → Int32) (hc : c ≤ 12) (hE : fm_E T c E) (htk : ∀ i, tk i = nI (T i)) (hT : ∀ i, T i ≤ 18) (h1 : E 0 = c → ∀ e', (∀ p, p < c → e' p = nI (E p)) → post 1 (nI c, tg, mk, tk, e', bi, fi, bo, st)) (h0 : ¬ E 0 = c → ∀ e', post 0 (nI c, tg, mk, tk, e', bi, fi, bo, st)) : wpY_findEnds post (nI c, tg, mk, tk, e, bi, fi, bo, st) := by
  intro x ex
  rw [ex]
  exact ⟨c + 1, yf_loop tg mk tk T E c bi fi bo st hc hE htk hT h1 h0 c (Nat.le_refl _) e (fun p a b => by omega) (c + 1) (by omega)⟩
theorem yb_m : ∀ t, t < 19 → 10 ≤ t → (nI t - 10) - (nI t - 10) / 3 * 3 = nI ((t - 10) % 3) := by decide +kernel
theorem yb_loop {post : Int32 → Prop} (e bi fi bo st : Nat → Int32) (hc : c ≤ 12) (he : ∀ p, p < c → e p = nI (E p)) (hle : ∀ p, p < c → E p ≤ 13) (htk : ∀ i, tk i = nI (T i)) (hT : ∀ i, T i ≤ 18) {p : Nat} (hp : p < c) (h16 : 16 ≤ T p) : ∀ k, k ≤ p → post (fm_I (fm_b T E p k)) → ∀ n, k < n → wY_binderOf_4 post (nI p) (nI c) tg mk tk e bi fi bo st n (nI k - 1) := by
  intro k
  induction k with
  | zero =>
    intro _ h n hn
    cases n with
    | zero => omega
    | succ n => exact br_t dn_0 h
  | succ k ih =>
    intro hk h n hn
    cases n with
    | zero => omega
    | succ n =>
      rw [nI_pred]
      have tj := tk_at tk T htk (j := k) (by omega)
      have tp := tk_at tk T htk (j := p) (by omega)
      have ek : e (nI k).toNatClampNeg = nI (E k) := by rw [nI_clamp (by omega)]; exact he k (by omega)
      have l := hle k (by omega)
      have l1 := hT k
      have l2 := hT p
      have no : ¬ ((T k = T p - 6 ∨ T k = T p - 3) ∧ p < E k) → ∀ x, x = nI k + (-1) → wY_binderOf_4 post (nI p) (nI c) tg mk tk e bi fi bo st n x := by
        intro z x ex
        rw [fm_b, if_neg z] at h
        rw [ex, dn_m]
        exact ih (by omega) h n (by omega)
      refine br_f (nI_pos (by omega)) ⟨pk_in k 12 (by omega), yw_binds _ (T k) tj (hT k) (fun z => br_f (by decide) ⟨pk_in k 12 (by omega), by decide, pk_in p 12 (by omega), ?_⟩) (fun z => br_t rfl (no (fun w => z ⟨by omega, by omega⟩)))⟩
      have zz := z.1
      have zy := z.2
      rw [tj, tp, yb_m _ (by omega) z.1]
      refine pk_eq ((T k - 10) % 3) (T p - 16) (fun y => ⟨pk_in k 13 (by omega), pk_le (E k) p (fun w => no (fun q => by have := q.2; omega)) (fun w => ?_) ek⟩) (fun y => no (fun w => ?_)) rfl (pk_sub h16)
      · rw [fm_b, if_pos ⟨by omega, w⟩] at h; exact h
      · omega
theorem yb_of {post : Int32 → Prop} (e bi fi bo st : Nat → Int32) (hc : c ≤ 12) (he : ∀ p, p < c → e p = nI (E p)) (hle : ∀ p, p < c → E p ≤ 13) (htk : ∀ i, tk i = nI (T i)) (hT : ∀ i, T i ≤ 18) {p : Nat} (hp : p < c) (h16 : 16 ≤ T p) (h : post (fm_I (fm_b T E p p))) : wpY_binderOf post (nI c, tg, mk, tk, e, bi, fi, bo, st) (nI p) := by
  intro x ex
  rw [ex]
  exact ⟨p + 1, yb_loop tg mk tk T E c e bi fi bo st hc he hle htk hT hp h16 p (Nat.le_refl _) h (p + 1) (by omega)⟩
theorem ys_loop {post : Int32 → SY → Prop} (e fi bo st : Nat → Int32) (hc : c ≤ 12) (he : ∀ p, p < c → e p = nI (E p)) (hle : ∀ p, p < c → E p ≤ 13) (htk : ∀ i, tk i = nI (T i)) (hT : ∀ i, T i ≤ 18) (h1 : fm_f T c ≤ 4 → fm_v T E c = true → ∀ b', (∀ p, p < c → 16 ≤ T p → b' p = fm_I (fm_b T E p p)) → post 1 (nI c, tg, mk, tk, e, b', fi, bo, st)) (h0 : ¬ (fm_f T c ≤ 4 ∧ fm_v T E c = true) → ∀ b', post 0 (nI c, tg, mk, tk, e, b', fi, bo, st)) : ∀ d k, k + d = c → fm_v T E k = true → ∀ b, (∀ p, p < k → 16 ≤ T p → b p = fm_I (fm_b T E p p)) → ∀ n, d < n → wY_sound_13 post (nI c) n (nI (fm_f T k)) (nI k) tg mk tk e b fi bo st := by
  intro d
  induction d with
  | zero =>
    intro k hk hv b hb n hn
    cases n with
    | zero => omega
    | succ n =>
      have : k = c := by omega
      subst this
      have l1 := fm_fl T k
      exact br_t (nI_le (by omega) (by omega)) (pk_lt 4 (fm_f T k) (fun z => h0 (fun w => by have := w.1; omega) b) (fun z => h1 z hv b hb))
  | succ d ih =>
    intro k hk hv b hb n hn
    cases n with
    | zero => omega
    | succ n =>
      have tj := tk_at tk T htk (j := k) (by omega)
      have key : ∀ x, x = nI (fm_f T (k + 1)) → wY_sound_37 post (wY_sound_13 post (nI c) n) x (nI k) (nI c) tg mk tk e b fi bo st := by
        intro x ex
        refine ⟨pk_in k 12 (by omega), pk_lt (T k) 16 (fun z y ey => ?_) (fun z => ?_) tj rfl (by have := hT k; omega)⟩
        · rw [ex, ey, nI_1]
          refine ih (k + 1) (by omega) (by rw [fm_v, hv, decide_eq_true z]; rfl) b (fun p hp ht => ?_) n (by omega)
          by_cases w : p = k
          · subst w; omega
          · exact hb p (by omega) ht
        · refine yb_of tg mk tk T E c e b fi bo st hc he hle htk hT (by omega) z ⟨pk_in k 12 (by omega), fun b' eb => ⟨pk_in k 12 (by omega), ?_⟩⟩
          rw [nI_clamp (by omega)] at eb
          have bk : b' (nI k).toNatClampNeg = fm_I (fm_b T E k k) := by rw [nI_clamp (by omega), eb, pk_us]
          rw [bk]
          cases q : fm_b T E k k with
          | none =>
            refine br_f (by show ¬ (0 : Int32) ≤ -1; decide) (h0 (fun w => ?_) b')
            have := fm_vf z q c (by omega)
            rw [w.2] at this
            exact absurd this (by decide)
          | some r =>
            have := fm_bs k q
            refine br_t (show (0 : Int32) ≤ nI r from nI_pos' (by omega)) (fun y ey => ?_)
            rw [ex, ey, nI_1]
            refine ih (k + 1) (by omega) (by rw [fm_v, hv, q]; exact Bool.or_true _) b' (fun p hp ht => ?_) n (by omega)
            by_cases w : p = k
            · subst w; rw [eb, pk_us]
            · rw [eb, pk_un w]; exact hb p (by omega) ht
      refine br_f (nI_ge (by omega) (by omega)) ⟨pk_in k 12 (by omega), yw_binds _ (T k) tj (hT k) (fun z => br_f (by decide) (fun x ex => key x ?_)) (fun z => br_t rfl (key _ ?_))⟩
      · have z' : 10 ≤ T k ∧ T k ≤ 15 := z
        rw [ex, nI_1, fm_f, if_pos z']
      · have z' : ¬ (10 ≤ T k ∧ T k ≤ 15) := z
        rw [fm_f, if_neg z']; rfl
theorem ys_sound {post : Int32 → SY → Prop} (en bi fi bo st : Nat → Int32) (hc : c ≤ 12) (hE : fm_E T c E) (htk : ∀ i, tk i = nI (T i)) (hT : ∀ i, T i ≤ 18) (h1 : fm_ok T c E → ∀ e' b', (∀ p, p < c → e' p = nI (E p)) → (∀ p, p < c → 16 ≤ T p → b' p = fm_I (fm_b T E p p)) → post 1 (nI c, tg, mk, tk, e', b', fi, bo, st)) (h0 : ¬ fm_ok T c E → ∀ e' b', post 0 (nI c, tg, mk, tk, e', b', fi, bo, st)) : wpY_sound post (nI c, tg, mk, tk, en, bi, fi, bo, st) := by
  have hle : ∀ p, p < c → E p ≤ 13 := fun p hp => (fm_gt hc hE (by omega)).2
  refine yf_find tg mk tk T E c en bi fi bo st hc hE htk hT (fun z e he => br_f (by decide) ⟨c + 1, ?_⟩) (fun z e => br_t rfl (h0 (fun w => z w.1) e bi))
  exact ys_loop tg mk tk T E c e fi bo st hc he hle htk hT (fun a b b' hb => h1 ⟨z, a, b⟩ e b' he hb) (fun w b' => h0 (fun q => w ⟨q.2.1, q.2.2⟩) e b') c 0 (by omega) rfl bi (fun p hp => by omega) (c + 1) (by omega)
/-- the reference's count of the fixed points around p, from those below k -/
def yd_a (T E : Nat → Nat) (p k : Nat) : Nat := if 10 ≤ T p ∧ T p ≤ 15 then fm_a T E p k else 0
theorem yd_in {post : Int32 → SY → Prop} {J : Int32 → Int32 → Prop} (e bi fi bo st : Nat → Int32) (hc : c ≤ 12) (he : ∀ p, p < c → e p = nI (E p)) (hle : ∀ p, p < c → E p ≤ 13) (htk : ∀ i, tk i = nI (T i)) (hT : ∀ i, T i ≤ 18) {p m : Nat} (hp : p < c) (hm : m ≤ 12) (h : J (nI (max m (yd_a T E p (p + 1)))) (nI (p + 1))) : ∀ d k, k + d = p + 1 → ∀ n, d < n → wY_depth_27 post J (nI m) (nI p) (nI c) tg mk tk e bi fi bo st n (nI (yd_a T E p k)) (nI k) := by
  have la := fm_al T E p (p + 1)
  intro d
  induction d with
  | zero =>
    intro k hk n hn
    cases n with
    | zero => omega
    | succ n =>
      have : k = p + 1 := by omega
      subst this
      have ly : yd_a T E p (p + 1) ≤ 13 := by unfold yd_a; split <;> omega
      refine br_t (nI_lt (by omega) (by omega)) (pk_le (yd_a T E p (p + 1)) m (fun z x ex => ?_) (fun z x ex => ?_))
      · rw [show max m (yd_a T E p (p + 1)) = m by omega] at h
        rw [ex, nI_1]; exact h
      · rw [show max m (yd_a T E p (p + 1)) = yd_a T E p (p + 1) by omega] at h
        rw [ex, nI_1]; exact h
  | succ d ih =>
    intro k hk n hn
    cases n with
    | zero => omega
    | succ n =>
      have tj := tk_at tk T htk (j := k) (by omega)
      have tp := tk_at tk T htk (j := p) (by omega)
      have ek : e (nI k).toNatClampNeg = nI (E k) := by rw [nI_clamp (by omega)]; exact he k (by omega)
      have l := hle k (by omega)
      have a := ih (k + 1) (by omega) n (by omega)
      have no : ¬ ((10 ≤ T p ∧ T p ≤ 15) ∧ (10 ≤ T k ∧ T k ≤ 15) ∧ p < E k) → ∀ y, y = nI k + 1 → wY_depth_27 post J (nI m) (nI p) (nI c) tg mk tk e bi fi bo st n (nI (yd_a T E p k)) y := fun z y ey => by
        have q : yd_a T E p (k + 1) = yd_a T E p k := by
          unfold yd_a
          by_cases w : 10 ≤ T p ∧ T p ≤ 15
          · rw [if_pos w, if_pos w, fm_a, if_neg (fun v => z ⟨w, v⟩)]; rfl
          · rw [if_neg w, if_neg w]
        rw [q] at a
        rw [ey, nI_1]; exact a
      refine br_f (nI_nlt (by omega) (by omega)) ⟨pk_in k 12 (by omega), yw_binds _ (T k) tj (hT k) (fun zk => br_f (by decide) ⟨pk_in p 12 (by omega), yw_binds _ (T p) tp (hT p) (fun zp => br_f (by decide) ⟨pk_in k 13 (by omega), pk_le (E k) p (fun w => no (fun v => by have := v.2.2; omega)) (fun w x ex y ey => ?_) ek⟩) (fun zp => br_t rfl (no (fun v => zp v.1)))⟩) (fun zk => br_t rfl (no (fun v => zk v.2.1)))⟩
      have zp' : 10 ≤ T p ∧ T p ≤ 15 := zp
      have q : yd_a T E p (k + 1) = yd_a T E p k + 1 := by
        unfold yd_a
        rw [if_pos zp', if_pos zp', fm_a, if_pos ⟨zk, w⟩]
      rw [q] at a
      rw [ex, ey, nI_1, nI_1]; exact a
theorem yd_loop {post : Int32 → SY → Prop} (e bi fi bo st : Nat → Int32) (hc : c ≤ 12) (he : ∀ p, p < c → e p = nI (E p)) (hle : ∀ p, p < c → p < E p ∧ E p ≤ 13) (htk : ∀ i, tk i = nI (T i)) (hT : ∀ i, T i ≤ 18) (h : post (nI (fm_d T E c)) (nI c, tg, mk, tk, e, bi, fi, bo, st)) : ∀ d k, k + d = c → ∀ n, d < n → wY_depth_14 post (nI c) tg mk tk e bi fi bo st n (nI (fm_d T E k)) (nI k) := by
  intro d
  induction d with
  | zero =>
    intro k hk n hn
    cases n with
    | zero => omega
    | succ n =>
      have : k = c := by omega
      subst this
      exact br_t (nI_le (by omega) (by omega)) h
  | succ d ih =>
    intro k hk n hn
    cases n with
    | zero => omega
    | succ n =>
      have a := ih (k + 1) (by omega) n (by omega)
      have ld := fm_dl T E k
      have q : fm_d T E (k + 1) = max (fm_d T E k) (yd_a T E k (k + 1)) := by
        rw [fm_d]
        unfold yd_a
        by_cases w : 10 ≤ T k ∧ T k ≤ 15
        · rw [if_pos w, if_pos w, fm_a, if_pos ⟨w, (hle k (by omega)).1⟩, Nat.add_comm]
        · rw [if_neg w, if_neg w]
      rw [q] at a
      have z0 : yd_a T E k 0 = 0 := by unfold yd_a; split <;> rfl
      have r := yd_in tg mk tk T E c (post := post) e bi fi bo st hc he (fun p hp => (hle p hp).2) htk hT (p := k) (by omega) (by omega) a (k + 1) 0 (by omega) (k + 2) (by omega)
      rw [z0] at r
      exact br_f (nI_ge (by omega) (by omega)) ⟨k + 2, r⟩
end
end
section
/-! The reference's walks: value over a stack, the last unmet fixed point, find runs the rounds -/
section
variable (tg mk tk : Nat → Int32) (T E : Nat → Nat) (c : Nat)
theorem yp_loop {post : Int32 → Prop} (n0 : Int32) (e bi fi bo st : Nat → Int32) (Z : Int32) (h : post (sb_p tg Z 6)) : ∀ d k, k + d = 6 → ∀ n, d < n → wY_stepsInto_5 post Z 0 n0 tg mk tk e bi fi bo st n (sb_p tg Z k) (nI k) := by
  intro d
  induction d with
  | zero =>
    intro k hk n hn
    cases n with
    | zero => omega
    | succ n =>
      have : k = 6 := by omega
      subst this
      exact br_t (by decide) h
  | succ d ih =>
    intro k hk n hn
    cases n with
    | zero => omega
    | succ n =>
      have a := ih (k + 1) (by omega) n (by omega)
      rw [sb_p] at a
      refine br_f (nI_ge (b := 6) (by omega) (by omega)) (br_t rfl ⟨pk_in k 6 (by omega), ?_⟩)
      rw [nI_clamp (by omega)]
      refine br_c (fun z => br_t rfl (fun y ey => ?_)) (fun z => br_f (by decide) (fun x ex y ey => ?_))
      · rw [if_pos z] at a
        rw [ey, nI_1]; exact a
      · rw [if_neg z] at a
        rw [ex, ey, nI_1]; exact a
theorem yq_loop {post : Int32 → Prop} (n0 : Int32) (e bi fi bo st : Nat → Int32) (Z : Int32) (h : post (sb_q tg Z 6)) : ∀ d k, k + d = 6 → ∀ n, d < n → wY_stepsInto_5 post Z 1 n0 tg mk tk e bi fi bo st n (sb_q tg Z k) (nI k) := by
  intro d
  induction d with
  | zero =>
    intro k hk n hn
    cases n with
    | zero => omega
    | succ n =>
      have : k = 6 := by omega
      subst this
      exact br_t (by decide) h
  | succ d ih =>
    intro k hk n hn
    cases n with
    | zero => omega
    | succ n =>
      have a := ih (k + 1) (by omega) n (by omega)
      rw [sb_q] at a
      refine br_f (nI_ge (b := 6) (by omega) (by omega)) (br_f (by decide) ⟨pk_in k 6 (by omega), ?_⟩)
      rw [nI_clamp (by omega)]
      refine br_c (fun z => br_f (by decide) (fun x ex y ey => ?_)) (fun z => br_t rfl (fun y ey => ?_))
      · rw [if_pos z] at a
        rw [ex, ey, nI_1]; exact a
      · rw [if_neg z] at a
        rw [ey, nI_1]; exact a
/-- the stack: n terms, the first of them at j -/
def ys_k (g : vEnv) (st : Nat → Int32) : Nat → Nat → Prop
  | 0, j => j = c
  | n + 1, j => j < c ∧ st n = ve_p tg mk T E g j ∧ ys_k g st n (E j)
theorem ys_ku {g : vEnv} {st : Nat → Int32} {s : Nat} {x : Int32} : ∀ n j, n ≤ s → ys_k tg mk T E c g st n j → ys_k tg mk T E c g (upd st s x) n j := by
  intro n
  induction n with
  | zero => intro j _ h; exact h
  | succ n ih =>
    intro j hn h
    exact ⟨h.1, by rw [pk_un (by omega)]; exact h.2.1, ih _ (by omega) h.2.2⟩
theorem ys_kl (hS : fm_S T c E) {g : vEnv} {st : Nat → Int32} : ∀ n j, ys_k tg mk T E c g st n j → n + j ≤ c := by
  intro n
  induction n with
  | zero => intro j h; have h' : j = c := h; omega
  | succ n ih =>
    intro j h
    have a := ih _ h.2.2
    have b := (hS.2.2.1 j h.1).1
    omega
theorem ys_kc {g : vEnv} {st : Nat → Int32} {n : Nat} (h : ys_k tg mk T E c g st n c) : n = 0 := by
  cases n with
  | zero => rfl
  | succ n => have := h.1; omega
theorem ys_kp {g : vEnv} {st : Nat → Int32} {n j : Nat} (h : ys_k tg mk T E c g st n j) (hj : j < c) : ∃ s, n = s + 1 ∧ st s = ve_p tg mk T E g j ∧ ys_k tg mk T E c g st s (E j) := by
  cases n with
  | zero => have h' : j = c := h; omega
  | succ n => exact ⟨n, rfl, h.2.1, h.2.2⟩
theorem yv_209 {post : Int32 → SY → Prop} {J : Int32 → Int32 → (Nat → Int32) → (Nat → Int32) → (Nat → Int32) → (Nat → Int32) → (Nat → Int32) → (Nat → Int32) → (Nat → Int32) → (Nat → Int32) → Prop} (hT : ∀ i, T i ≤ 18) (hS : fm_S T c E) (g : vEnv) (e bi fi bo st : Nat → Int32) {j top : Nat} (hj : j < c) (hk : ys_k tg mk T E c g st top (j + 1)) (hJ : ∀ top' st', ys_k tg mk T E c g st' top' j → J (nI top') (nI j - 1) tg mk tk e bi fi bo st') {x : Int32} (hx : x = ve_p tg mk T E g j) : wY_value_209 post J (nI top) (nI j) (nI (T j)) x (nI c) tg mk tk e bi fi bo st := by
  have hc := hS.1
  have lk := ys_kl tg mk T E c hS _ _ hk
  have g2 := hS.2.2.2.1 j hj
  have g1 := hS.2.2.2.2.1 j hj
  have key : ∀ s, ys_k tg mk T E c g st s (E j) → ∀ y, y = nI (s + 1) → (1 ≤ y → (vp_in (y - 1) 13 ∧ ∀ st', st' = upd st (y - 1).toNatClampNeg x → ∀ z, z = nI j + (-1) → J y z tg mk tk e bi fi bo st')) ∧ (¬ 1 ≤ y → ∀ st', st' = upd st 0 x → ∀ z, z = nI j + (-1) → J y z tg mk tk e bi fi bo st') := by
    intro s hs y ey
    have ls := ys_kl tg mk T E c hS _ _ hs
    rw [ey, nI_pred]
    refine br_t (nI_le (a := 1) (by omega) (by omega)) ⟨pk_in s 13 (by omega), fun st' es z ez => ?_⟩
    rw [nI_clamp (by omega)] at es
    rw [ez, dn_m]
    refine hJ (s + 1) st' ⟨hj, ?_, ?_⟩
    · rw [es, pk_us]; exact hx
    · rw [es]; exact ys_ku tg mk T E c _ _ (Nat.le_refl _) hs
  refine yw_arity _ (T j) rfl (hT j) (fun z y ey => ?_) (fun z y ey => ?_) (fun z2 z1 y ey => ?_)
  · have q := g2 z
    obtain ⟨s, rfl, _, h1⟩ := ys_kp tg mk T E c hk (by omega)
    obtain ⟨s, rfl, _, h2⟩ := ys_kp tg mk T E c h1 q.2.1
    refine key s (by rw [q.2.2]; exact h2) y ?_
    have a : nI (s + 1 + 1) - 2 = nI (s + 1 + 1 - 2) := pk_sub (a := s + 1 + 1) (b := 2) (by omega)
    rw [ey, a, nI_1]; rfl
  · have q := g1 z
    obtain ⟨s, rfl, _, h1⟩ := ys_kp tg mk T E c hk q.1
    refine key s (by rw [q.2]; exact h1) y ?_
    rw [ey, nI_pred, nI_1]
  · have q := hS.2.2.2.2.2.1 j hj z2 z1
    refine key top (by rw [q]; exact hk) y ?_
    have a : nI top - 0 = nI (top - 0) := pk_sub (b := 0) (by omega)
    rw [ey, a, nI_1]; rfl
theorem yv_55 {post : Int32 → SY → Prop} {J : Int32 → Int32 → (Nat → Int32) → (Nat → Int32) → (Nat → Int32) → (Nat → Int32) → (Nat → Int32) → (Nat → Int32) → (Nat → Int32) → (Nat → Int32) → Prop} (hg6 : ∀ s, sb_6 (tg s)) (hT : ∀ i, T i ≤ 18) (hS : fm_S T c E) (hv : fm_v T E c = true) (g : vEnv) (e bi fi bo st : Nat → Int32) (hbi : ∀ p, p < c → 16 ≤ T p → bi p = fm_I (fm_b T E p p)) (hfi : ∀ q, q < c → fm_x (T q) → fi q = g q) {j top : Nat} (hj : j < c) (hk : ys_k tg mk T E c g st top (j + 1)) (hbo : ∀ q, j + 1 ≤ q → q < c → fm_x (T q) → bo q = ve_p tg mk T E g (q + 1)) (hJ : ∀ top' bo' st', ys_k tg mk T E c g st' top' j → (∀ q, j ≤ q → q < c → fm_x (T q) → bo' q = ve_p tg mk T E g (q + 1)) → J (nI top') (nI j - 1) tg mk tk e bi fi bo' st') {a b : Int32} (ha : fm_2 (T j) ∨ fm_1 (T j) → a = ve_p tg mk T E g (j + 1)) (hb : fm_2 (T j) → b = ve_p tg mk T E g (E (j + 1))) : wY_value_55 post J (nI top) (nI j) (nI (T j)) a b (nI c) tg mk tk e bi fi bo st := by
  have hc := hS.1
  have ht := hT j
  have pe := ve_pe tg mk T E hS g hj
  have w9 : ¬ fm_x (T j) → ∀ x, x = ve_p tg mk T E g j → wY_value_209 post J (nI top) (nI j) (nI (T j)) x (nI c) tg mk tk e bi fi bo st := fun nx x hx => yv_209 tg mk tk T E c hT hS g e bi fi bo st hj hk (fun top' st' h' => hJ top' bo st' h' (fun q hq hqc hqx => by
    by_cases z : q = j
    · subst z; exact absurd hqx nx
    · exact hbo q (by omega) hqc hqx)) hx
  refine pk_le 3 (T j) (fun h3 => pk_le 6 (T j) (fun h6 => pk_le 8 (T j) (fun h8 => pk_le 10 (T j) (fun h10 => pk_le 16 (T j) (fun h16 => ⟨pk_in j 12 (by omega), ?_⟩) (fun h16 => ⟨pk_in j 12 (by omega), fun bo' eb => ⟨pk_in j 12 (by omega), fun x ex => ?_⟩⟩)) (fun h10 => pk_eq (T j) 9 (fun z => ?_) (fun z => ?_))) (fun h8 => pk_eq (T j) 6 (fun z => ?_) (fun z => ?_))) (fun h6 => ⟨pk_in (T j - 3) 3 (by omega) (pk_sub h3), fun x ex => ?_⟩)) (fun h3 => ⟨pk_in (T j) 3 h3, fun x ex => ?_⟩)
  · have B := fm_Bs hT hv hj h16
    have bj : bi (nI j).toNatClampNeg = nI (fm_B T E j) := by rw [nI_clamp (by omega), hbi j hj h16, B.1]; rfl
    rw [bj]
    refine br_t (nI_pos' (by omega)) ⟨pk_in j 12 (by omega), pk_in (fm_B T E j) 12 (by omega), fun x ex => w9 (fun z => by have := z.2; omega) x ?_⟩
    rw [ex, nI_clamp (by omega), pe, vo_v tg mk h16]
    exact hfi _ (by omega) B.2.2.1
  · have hx : fm_x (T j) := ⟨h10, by omega⟩
    rw [nI_clamp (by omega)] at eb ex
    refine yv_209 tg mk tk T E c hT hS g e bi fi bo' st hj hk (fun top' st' h' => hJ top' bo' st' h' (fun q hq hqc hqx => ?_)) ?_
    · by_cases z : q = j
      · subst z; rw [eb, pk_us]; exact ha (Or.inr (fm_x1 hx))
      · rw [eb, pk_un z]; exact hbo q (by omega) hqc hqx
    · rw [ex, pe, vo_f tg mk hx]; exact hfi j hj hx
  · refine ⟨7, yq_loop tg mk tk (nI c) e bi fi bo st a ?_ 6 0 rfl 7 (by omega)⟩
    refine w9 (fun z => by have := z.1; omega) _ ?_
    rw [pe, vo_9 tg mk z, sb_pq tg hg6, ha (Or.inr ⟨h8, by omega⟩)]
  · refine ⟨7, yp_loop tg mk tk (nI c) e bi fi bo st a ?_ 6 0 rfl 7 (by omega)⟩
    refine w9 (fun z => by have := z.1; omega) _ ?_
    rw [pe, vo_8 tg mk (by omega), ha (Or.inr ⟨h8, by omega⟩)]
  · refine w9 (fun z => by have := z.1; omega) _ ?_
    rw [pe, vo_6 tg mk z, ha (Or.inl (Or.inl z)), hb (Or.inl z)]
  · have z7 : T j = 7 := by omega
    refine w9 (fun z => by have := z.1; omega) _ ?_
    rw [pe, vo_7 tg mk z7, ha (Or.inl (Or.inr z7)), hb (Or.inr z7)]
  · have q : nI (T j) - 3 = nI (T j - 3) := pk_sub h3
    rw [q, nI_clamp (by omega)] at ex
    refine w9 (fun z => by have := z.1; omega) _ ?_
    rw [pe, vo_n tg mk h3 h6, ex]
  · rw [nI_clamp (by omega)] at ex
    refine w9 (fun z => by have := z.1; omega) _ ?_
    rw [pe, vo_m tg mk h3, ex]
theorem yv_loop {post : Int32 → SY → Prop} (h0c : E 0 = c) (hg6 : ∀ s, sb_6 (tg s)) (htk : ∀ i, tk i = nI (T i)) (hT : ∀ i, T i ≤ 18) (hS : fm_S T c E) (hv : fm_v T E c = true) (g : vEnv) (e bi fi : Nat → Int32) (hbi : ∀ p, p < c → 16 ≤ T p → bi p = fm_I (fm_b T E p p)) (hfi : ∀ q, q < c → fm_x (T q) → fi q = g q) (h : ∀ bo' st', (∀ q, q < c → fm_x (T q) → bo' q = ve_p tg mk T E g (q + 1)) → post (ve_p tg mk T E g 0) (nI c, tg, mk, tk, e, bi, fi, bo', st')) : ∀ j, j ≤ c → ∀ top bo st, ys_k tg mk T E c g st top j → (∀ q, j ≤ q → q < c → fm_x (T q) → bo q = ve_p tg mk T E g (q + 1)) → ∀ n, j < n → wY_value_9 post (nI c) n (nI top) (nI j - 1) tg mk tk e bi fi bo st := by
  have hc := hS.1
  intro j
  induction j with
  | zero =>
    intro _ top bo st hk hbo n hn
    cases n with
    | zero => omega
    | succ n =>
      refine br_t dn_0 ?_
      obtain ⟨s, rfl, h1, h2⟩ := ys_kp tg mk T E c hk hS.2.1
      have l := ys_kl tg mk T E c hS _ _ h2
      rw [h0c] at h2
      have e0 : s = 0 := ys_kc tg mk T E c h2
      subst e0
      rw [h1]
      exact h bo st (fun q hq => hbo q (by omega) hq)
  | succ j ih =>
    intro hj top bo st hk hbo n hn
    cases n with
    | zero => omega
    | succ n =>
      rw [nI_pred]
      have tj := tk_at tk T htk (j := j) (by omega)
      have g2 := hS.2.2.2.1 j (by omega)
      have g1 := hS.2.2.2.2.1 j (by omega)
      have lk := ys_kl tg mk T E c hS _ _ hk
      refine br_f (nI_pos (by omega)) ⟨pk_in j 12 (by omega), fun x ex => ?_⟩
      rw [tj] at ex
      subst ex
      have fin : ∀ a b : Int32, (fm_2 (T j) ∨ fm_1 (T j) → a = ve_p tg mk T E g (j + 1)) → (fm_2 (T j) → b = ve_p tg mk T E g (E (j + 1))) → wY_value_55 post (wY_value_9 post (nI c) n) (nI top) (nI j) (nI (T j)) a b (nI c) tg mk tk e bi fi bo st := fun a b ha hb =>
        yv_55 tg mk tk T E c hg6 hT hS hv g e bi fi bo st hbi hfi (by omega) hk hbo (fun top' bo' st' hk' hbo' => ih (by omega) top' bo' st' hk' hbo' n (by omega)) ha hb
      have l1 : fm_2 (T j) ∨ fm_1 (T j) → j + 1 < c := fun z => z.elim (fun y => by have := g2 y; omega) (fun y => (g1 y).1)
      cases top with
      | zero =>
        have k0 : j + 1 = c := hk
        exact br_t (by decide) (br_t (by decide) (fin 0 0 (fun z => by have := l1 z; omega) (fun z => by have := l1 (Or.inl z); omega)))
      | succ s =>
        refine br_f (nI_nle (by omega) (by omega)) ⟨pk_in s 13 (by omega) (nI_pred s), ?_⟩
        rw [nI_pred, nI_clamp (by omega)]
        have ha : fm_2 (T j) ∨ fm_1 (T j) → st s = ve_p tg mk T E g (j + 1) := fun _ => hk.2.1
        cases s with
        | zero =>
          have k0 : E (j + 1) = c := hk.2.2
          exact br_t (by decide) (fin _ 0 ha (fun z => by have := (g2 z).2.1; omega))
        | succ s =>
          have e2 : nI (s + 1 + 1) - 2 = nI s := pk_sub (a := s + 1 + 1) (b := 2) (by omega)
          refine br_f (nI_ge (a := 1) (by omega) (by omega)) ⟨pk_in s 13 (by omega) e2, ?_⟩
          rw [e2, nI_clamp (by omega)]
          exact fin _ _ ha (fun _ => hk.2.2.2.1)
theorem yv_val {post : Int32 → SY → Prop} (h0c : E 0 = c) (hg6 : ∀ s, sb_6 (tg s)) (htk : ∀ i, tk i = nI (T i)) (hT : ∀ i, T i ≤ 18) (hS : fm_S T c E) (hv : fm_v T E c = true) (g : vEnv) (e bi fi bo st : Nat → Int32) (hbi : ∀ p, p < c → 16 ≤ T p → bi p = fm_I (fm_b T E p p)) (hfi : ∀ q, q < c → fm_x (T q) → fi q = g q) (h : ∀ bo' st', (∀ q, q < c → fm_x (T q) → bo' q = ve_p tg mk T E g (q + 1)) → post (ve_p tg mk T E g 0) (nI c, tg, mk, tk, e, bi, fi, bo', st')) : wpY_value post (nI c, tg, mk, tk, e, bi, fi, bo, st) := by
  intro x ex
  rw [ex]
  exact ⟨c + 1, yv_loop tg mk tk T E c h0c hg6 htk hT hS hv g e bi fi hbi hfi h c (Nat.le_refl _) 0 bo st rfl (fun q a b => by omega) (c + 1) (by omega)⟩
theorem yo_loop {post : Int32 → Prop} (hc : c ≤ 12) (htk : ∀ i, tk i = nI (T i)) (hT : ∀ i, T i ≤ 18) (g : vEnv) (e bi fi bo st : Nat → Int32) (hfi : ∀ q, q < c → fm_x (T q) → fi q = g q) (hbo : ∀ q, q < c → fm_x (T q) → bo q = ve_p tg mk T E g (q + 1)) : ∀ k, k ≤ c → post (fm_I (ve_o tg mk T E g k)) → ∀ n, k < n → wY_lastOpen_7 post (nI c) tg mk tk e bi fi bo st n (nI k - 1) := by
  intro k
  induction k with
  | zero =>
    intro _ h n hn
    cases n with
    | zero => omega
    | succ n => exact br_t dn_0 h
  | succ k ih =>
    intro hk h n hn
    cases n with
    | zero => omega
    | succ n =>
      rw [nI_pred]
      have tj := tk_at tk T htk (j := k) (by omega)
      have no : ¬ ((10 ≤ T k ∧ T k ≤ 15) ∧ ¬ ve_p tg mk T E g (k + 1) = g k) → ∀ x, x = nI k + (-1) → wY_lastOpen_7 post (nI c) tg mk tk e bi fi bo st n x := by
        intro z x ex
        rw [ve_o, if_neg z] at h
        rw [ex, dn_m]
        exact ih (by omega) h n (by omega)
      refine br_f (nI_pos (by omega)) ⟨pk_in k 12 (by omega), yw_binds _ (T k) tj (hT k) (fun z => br_f (by decide) ⟨pk_in k 12 (by omega), pk_in k 12 (by omega), ?_⟩) (fun z => br_t rfl (no (fun w => z w.1)))⟩
      rw [nI_clamp (by omega), hfi k (by omega) z, hbo k (by omega) z]
      refine br_c (fun w => no (fun q => q.2 w)) (fun w => ?_)
      rw [ve_o, if_pos ⟨z, w⟩] at h
      exact h
theorem yo_last {post : Int32 → Prop} (hc : c ≤ 12) (htk : ∀ i, tk i = nI (T i)) (hT : ∀ i, T i ≤ 18) (g : vEnv) (e bi fi bo st : Nat → Int32) (hfi : ∀ q, q < c → fm_x (T q) → fi q = g q) (hbo : ∀ q, q < c → fm_x (T q) → bo q = ve_p tg mk T E g (q + 1)) (h : post (fm_I (ve_o tg mk T E g c))) : wpY_lastOpen post (nI c, tg, mk, tk, e, bi, fi, bo, st) := by
  intro x ex
  rw [ex]
  exact ⟨c + 1, yo_loop tg mk tk T E c hc htk hT g e bi fi bo st hfi hbo c (Nat.le_refl _) h (c + 1) (by omega)⟩
theorem yi_first {post : Int32 → Prop} (e bi fi bo st : Nat → Int32) (htk : ∀ i, tk i = nI (T i)) (hT : ∀ i, T i ≤ 18) {p : Nat} (hp : p < 12) (h : post (ve_n T p)) : wpY_first post (nI c, tg, mk, tk, e, bi, fi, bo, st) (nI p) := by
  have tj := tk_at tk T htk (j := p) (by omega)
  refine ⟨pk_in p 12 hp, pk_le 13 (T p) (fun z => ?_) (fun z => ?_) rfl tj (by omega) (by have := hT p; omega)⟩
  · unfold ve_n at h; rw [if_neg (by omega)] at h; exact h
  · unfold ve_n at h; rw [if_pos z] at h; exact h
theorem yr_loop {post : Int32 → SY → Prop} {J : Int32 → Int32 → Int32 → Int32 → (Nat → Int32) → (Nat → Int32) → (Nat → Int32) → (Nat → Int32) → (Nat → Int32) → (Nat → Int32) → (Nat → Int32) → (Nat → Int32) → Prop} (h0c : E 0 = c) (hg6 : ∀ s, sb_6 (tg s)) (htk : ∀ i, tk i = nI (T i)) (hT : ∀ i, T i ≤ 18) (hS : fm_S T c E) (hv : fm_v T E c = true) (g' : vEnv) (e bi f1 bo st : Nat → Int32) (he : ∀ p, p < c → e p = nI (E p)) (hbi : ∀ p, p < c → 16 ≤ T p → bi p = fm_I (fm_b T E p p)) {p r : Nat} (hp : p < c) (h1 : ∀ q, q < c → fm_x (T q) → q ≤ p ∨ E p ≤ q → f1 q = g' q) (h2 : ∀ q, q < c → fm_x (T q) → p < q → q < E p → ve_n T q = g' q) (hJ : ∀ fi' bo' st', (∀ q, q < c → fm_x (T q) → fi' q = g' q) → (∀ q, q < c → fm_x (T q) → bo' q = ve_p tg mk T E g' (q + 1)) → J (ve_p tg mk T E g' 0) (fm_I (ve_o tg mk T E g' c)) (nI (r + 1)) (nI c) tg mk tk e bi fi' bo' st') : ∀ d k, k + d = E p → p < k → ∀ a, (∀ q, q < c → fm_x (T q) → q ≤ p ∨ k ≤ q → a q = f1 q) → (∀ q, p < q → q < k → a q = ve_n T q) → ∀ n, d < n → wY_find_67 post J (nI p) (nI r) (nI c) n (nI k) tg mk tk e bi a bo st := by
  have hc := hS.1
  have gE := hS.2.2.1 p hp
  have ep : e (nI p).toNatClampNeg = nI (E p) := by rw [nI_clamp (by omega)]; exact he p hp
  intro d
  induction d with
  | zero =>
    intro k hk hpk a ha1 ha2 n hn
    cases n with
    | zero => omega
    | succ n =>
      have hfi : ∀ q, q < c → fm_x (T q) → a q = g' q := fun q hq hx => by
        by_cases z : q ≤ p ∨ E p ≤ q
        · rw [ha1 q hq hx (by omega)]; exact h1 q hq hx z
        · rw [ha2 q (by omega) (by omega)]; exact h2 q hq hx (by omega) (by omega)
      refine ⟨pk_in p 13 (by omega), pk_le (E p) k (fun _ => ?_) (fun z => absurd hk (by omega)) ep⟩
      refine yv_val tg mk tk T E c h0c hg6 htk hT hS hv g' e bi a bo st hbi hfi (fun bo' st' hbo => ?_)
      refine yo_last tg mk tk T E c hc htk hT g' e bi a bo' st' hfi hbo (fun x ex => ?_)
      rw [ex, nI_1]
      exact hJ a bo' st' hfi hbo
  | succ d ih =>
    intro k hk hpk a ha1 ha2 n hn
    cases n with
    | zero => omega
    | succ n =>
      refine ⟨pk_in p 13 (by omega), pk_le (E p) k (fun z => absurd hk (by omega)) (fun _ => ?_) ep⟩
      refine yi_first tg mk tk T c e bi a bo st htk hT (by omega) ⟨pk_in k 12 (by omega), fun b eb x ex => ?_⟩
      rw [nI_clamp (by omega)] at eb
      rw [ex, nI_1]
      refine ih (k + 1) (by omega) (by omega) b (fun q hq hx hh => ?_) (fun q hq hqk => ?_) n (by omega)
      · rw [eb, pk_un (by omega)]; exact ha1 q hq hx (by omega)
      · rw [eb]
        by_cases z : q = k
        · rw [z, pk_us]
        · rw [pk_un z]; exact ha2 q hq (by omega)
theorem yn_loop {post : Int32 → SY → Prop} (h0c : E 0 = c) (hg6 : ∀ s, sb_6 (tg s)) (htk : ∀ i, tk i = nI (T i)) (hT : ∀ i, T i ≤ 18) (hS : fm_S T c E) (hv : fm_v T E c = true) (e bi : Nat → Int32) (he : ∀ p, p < c → e p = nI (E p)) (hbi : ∀ p, p < c → 16 ≤ T p → bi p = fm_I (fm_b T E p p)) : ∀ k (g : vEnv), ve_o tg mk T E (ve_r tg mk T E c k g) c = none → (∀ fi' bo' st', post (ve_p tg mk T E (ve_r tg mk T E c k g) 0) (nI c, tg, mk, tk, e, bi, fi', bo', st')) → ∀ fi bo st, (∀ q, q < c → fm_x (T q) → fi q = g q) → (∀ q, q < c → fm_x (T q) → bo q = ve_p tg mk T E g (q + 1)) → ∀ r, r + k ≤ 2401 → ∀ n, k < n → wY_find_39 post n (ve_p tg mk T E g 0) (fm_I (ve_o tg mk T E g c)) (nI r) (nI c) tg mk tk e bi fi bo st := by
  have hc := hS.1
  intro k
  induction k with
  | zero =>
    intro g hr h fi bo st hfi hbo r hk n hn
    cases n with
    | zero => omega
    | succ n =>
      have o : ve_o tg mk T E g c = none := hr
      rw [o]
      exact br_c (fun _ => h fi bo st) (fun _ => br_t (by decide) (h fi bo st))
  | succ k ih =>
    intro g hr h fi bo st hfi hbo r hk n hn
    cases n with
    | zero => omega
    | succ n =>
      cases o : ve_o tg mk T E g c with
      | none =>
        rw [ve_r0 tg mk T E c o] at h
        exact br_c (fun _ => h fi bo st) (fun _ => br_t (by decide) (h fi bo st))
      | some p =>
        rw [ve_r1 tg mk T E c o] at hr h
        obtain ⟨hp, hx, hn', hcl⟩ := ve_os tg mk T E c o
        have gE := hS.2.2.1 p hp
        refine br_f (nI_ge (b := 2401) (by omega) (by omega)) (br_f (nI_pos (n := p) (by omega)) ⟨pk_in p 12 (by omega), pk_in p 12 (by omega), fun f1 ef x ex => ⟨E p - (p + 1) + 1, ?_⟩⟩)
        have ef' : f1 = upd fi p (ve_p tg mk T E g (p + 1)) := by
          rw [ef]
          show upd fi (nI p).toNatClampNeg (bo (nI p).toNatClampNeg) = _
          rw [nI_clamp (by omega), hbo p hp hx]
        have ex' : x = nI (p + 1) := by rw [ex]; exact nI_1 p
        rw [ex']
        refine yr_loop tg mk tk T E c h0c hg6 htk hT hS hv (ve_x tg mk T E g p) e bi f1 bo st he hbi (r := r) hp (fun q hq hqx z => ?_) (fun q hq hqx a b => (ve_xi tg mk T E g a b).symm) (fun fi' bo' st' a b => ih _ hr h fi' bo' st' a b (r + 1) (by omega) n (by omega)) (E p - (p + 1)) (p + 1) (by omega) (by omega) f1 (fun _ _ _ _ => rfl) (fun q a b => by omega) _ (by omega)
        rw [ef']
        by_cases w : q = p
        · rw [w, pk_us, ve_xp]
        · rw [pk_un w, ve_xo tg mk T E g (by omega) gE.1]; exact hfi q hq hqx
theorem yg_loop {post : Int32 → SY → Prop} (h0c : E 0 = c) (hg6 : ∀ s, sb_6 (tg s)) (htk : ∀ i, tk i = nI (T i)) (hT : ∀ i, T i ≤ 18) (hS : fm_S T c E) (hv : fm_v T E c = true) (e bi bo st : Nat → Int32) (he : ∀ p, p < c → e p = nI (E p)) (hbi : ∀ p, p < c → 16 ≤ T p → bi p = fm_I (fm_b T E p p)) (K : Nat) (hK : K ≤ 2400) (hr : ve_o tg mk T E (ve_r tg mk T E c K (ve_n T)) c = none) (h : ∀ fi' bo' st', post (ve_p tg mk T E (ve_r tg mk T E c K (ve_n T)) 0) (nI c, tg, mk, tk, e, bi, fi', bo', st')) : ∀ d k, k + d = c → ∀ a, (∀ q, q < k → a q = ve_n T q) → ∀ n, d < n → wY_find_2 post (nI c) n (nI k) tg mk tk e bi a bo st := by
  have hc := hS.1
  intro d
  induction d with
  | zero =>
    intro k hk a ha n hn
    cases n with
    | zero => omega
    | succ n =>
      have : k = c := by omega
      subst this
      have hfi : ∀ q, q < k → fm_x (T q) → a q = ve_n T q := fun q hq _ => ha q hq
      refine br_t (nI_le (by omega) (by omega)) ?_
      refine yv_val tg mk tk T E k h0c hg6 htk hT hS hv (ve_n T) e bi a bo st hbi hfi (fun bo' st' hbo => ?_)
      refine yo_last tg mk tk T E k hc htk hT (ve_n T) e bi a bo' st' hfi hbo ⟨K + 1, ?_⟩
      exact yn_loop tg mk tk T E k h0c hg6 htk hT hS hv e bi he hbi K (ve_n T) hr h a bo' st' hfi hbo 0 (by omega) (K + 1) (by omega)
  | succ d ih =>
    intro k hk a ha n hn
    cases n with
    | zero => omega
    | succ n =>
      refine br_f (nI_ge (by omega) (by omega)) ?_
      refine yi_first tg mk tk T c e bi a bo st htk hT (by omega) ⟨pk_in k 12 (by omega), fun b eb x ex => ?_⟩
      rw [nI_clamp (by omega)] at eb
      rw [ex, nI_1]
      refine ih (k + 1) (by omega) b (fun q hq => ?_) n (by omega)
      rw [eb]
      by_cases z : q = k
      · rw [z, pk_us]
      · rw [pk_un z]; exact ha q (by omega)
theorem yg_find {post : Int32 → SY → Prop} (h0c : E 0 = c) (hg6 : ∀ s, sb_6 (tg s)) (htk : ∀ i, tk i = nI (T i)) (hT : ∀ i, T i ≤ 18) (hS : fm_S T c E) (hv : fm_v T E c = true) (e bi fi bo st : Nat → Int32) (he : ∀ p, p < c → e p = nI (E p)) (hbi : ∀ p, p < c → 16 ≤ T p → bi p = fm_I (fm_b T E p p)) (K : Nat) (hK : K ≤ 2400) (hr : ve_o tg mk T E (ve_r tg mk T E c K (ve_n T)) c = none) (h : ∀ fi' bo' st', post (ve_p tg mk T E (ve_r tg mk T E c K (ve_n T)) 0) (nI c, tg, mk, tk, e, bi, fi', bo', st')) : wpY_find post (nI c, tg, mk, tk, e, bi, fi, bo, st) :=
  ⟨c + 1, yg_loop tg mk tk T E c h0c hg6 htk hT hS hv e bi bo st he hbi K hK hr h c 0 (by omega) fi (fun q hq => by omega) (c + 1) (by omega)⟩
end
end
section
/-! turn, and states as arguments -/
/-- a token's counterpart -/
def tn_c (t : Nat) : Nat := if 16 ≤ t then t else if 13 ≤ t then t - 3 else if 10 ≤ t then t + 3 else if t = 9 then 8 else if t = 8 then 9 else if t = 7 then 6 else if t = 6 then 7 else if 3 ≤ t then t - 3 else t + 3
theorem tn_a : ∀ t, t < 19 → ((3 ≤ t ∧ t < 6) ∨ (13 ≤ t ∧ t < 16)) → nI t - 3 = nI (tn_c t) := by decide +kernel
theorem tn_b : ∀ t, t < 19 → (t < 3 ∨ (10 ≤ t ∧ t < 13)) → nI t + 3 = nI (tn_c t) := by decide +kernel
theorem tn_v : ∀ t, t < 19 → 16 ≤ t → nI t = nI (tn_c t) := by decide +kernel
theorem tn_e : ∀ t, t < 19 → 6 ≤ t → t ≤ 9 → nI t - nI t / 2 * 2 = 0 → nI t + 1 = nI (tn_c t) := by decide +kernel
theorem tn_o : ∀ t, t < 19 → 6 ≤ t → t ≤ 9 → ¬ nI t - nI t / 2 * 2 = 0 → nI t - 1 = nI (tn_c t) := by decide +kernel
theorem tn_l : ∀ t, t < 19 → tn_c t ≤ 18 := by decide +kernel
theorem xw_cp {post : Int32 → Prop} {x : Int32} (t : Nat) (hx : x = nI t) (ht : t ≤ 18) (h : post (nI (tn_c t))) : wpX_counterpart post x := by
  subst hx
  refine xw_var t rfl ht (fun z => br_f (by decide) ?_) (fun z => br_t rfl (pk_lt t 10 (fun z10 => pk_lt t 8 (fun z8 => pk_lt t 6 (fun z6 => pk_le 3 t (fun z3 => ?_) (fun z3 => ?_)) (fun z6 => pk_eq t 6 (fun w => ?_) (fun w => ?_))) (fun z8 => pk_eq t 8 (fun w => ?_) (fun w => ?_))) (fun z10 => xw_lst t rfl ht (fun a b => br_f (by decide) ?_) (fun a => br_t rfl ?_))))
  · rw [tn_v t (by omega) z]; exact h
  · rw [tn_a t (by omega) (by omega)]; exact h
  · rw [tn_b t (by omega) (by omega)]; exact h
  · subst w; exact h
  · have w7 : t = 7 := by omega
    subst w7; exact h
  · subst w; exact h
  · have w9 : t = 9 := by omega
    subst w9; exact h
  · rw [tn_b t (by omega) (by omega)]; exact h
  · rw [tn_a t (by omega) (by omega)]; exact h
theorem yw_cp {post : Int32 → Prop} (u : SY) {x : Int32} (t : Nat) (hx : x = nI t) (ht : t ≤ 18) (h : post (nI (tn_c t))) : wpY_counterpart post u x := by
  subst hx
  obtain ⟨a, b, c, d, e, f, g, h', i⟩ := u
  refine pk_lt 5 t (fun z5 => pk_lt 9 t (fun z9 => pk_lt 15 t (fun z => ?_) (fun z => pk_le 13 t (fun w => ?_) (fun w => ?_))) (fun z9 => ⟨by decide, br_c (fun w => ?_) (fun w => ?_)⟩)) (fun z5 => pk_le 3 t (fun z3 => ?_) (fun z3 => ?_))
  · rw [tn_v t (by omega) (by omega)]; exact h
  · rw [tn_a t (by omega) (by omega)]; exact h
  · rw [tn_b t (by omega) (by omega)]; exact h
  · rw [tn_e t (by omega) (by omega) (by omega) w]; exact h
  · rw [tn_o t (by omega) (by omega) (by omega) w]; exact h
  · rw [tn_a t (by omega) (by omega)]; exact h
  · rw [tn_b t (by omega) (by omega)]; exact h
/-- the tokens when those below k are turned -/
def tn_t (T : Nat → Nat) (k : Nat) : Nat → Nat := fun i => if i < k then tn_c (T i) else T i
/-- how many of those below k changed -/
def tn_n (T : Nat → Nat) : Nat → Nat
  | 0 => 0
  | k + 1 => tn_n T k + if tn_c (T k) = T k then 0 else 1
theorem tn_nl (T : Nat → Nat) : ∀ k, tn_n T k ≤ k := by
  intro k
  induction k with
  | zero => exact Nat.le_refl _
  | succ k ih =>
    rw [tn_n]
    split
    · omega
    · omega
theorem tn_k (T : Nat → Nat) (k : Nat) : tn_t T k k = T k := if_neg (by omega)
theorem tn_s (T : Nat → Nat) (k : Nat) : upd (fun i => nI (tn_t T k i)) k (nI (tn_c (T k))) = fun i => nI (tn_t T (k + 1) i) := by
  funext i
  by_cases z : i = k
  · subst z
    rw [pk_us]
    show _ = nI (if i < i + 1 then tn_c (T i) else T i)
    rw [if_pos (by omega)]
  · rw [pk_un z]
    show nI (if i < k then tn_c (T i) else T i) = nI (if i < k + 1 then tn_c (T i) else T i)
    by_cases w : i < k
    · rw [if_pos w, if_pos (by omega)]
    · rw [if_neg w, if_neg (by omega)]
theorem tn_q {T : Nat → Nat} {k : Nat} (h : tn_c (T k) = T k) : (fun i => nI (tn_t T k i)) = fun i => nI (tn_t T (k + 1) i) := by
  rw [← tn_s T k, h]
  funext i
  by_cases z : i = k
  · subst z; rw [pk_us, tn_k]
  · rw [pk_un z]
theorem xt_loop {post : Int32 → SX → Prop} (tg mk e va gi : Nat → Int32) (T : Nat → Nat) (c : Nat) (hc : c ≤ 12) (hT : ∀ i, T i ≤ 18) (h : post (nI (tn_n T c)) (nI c, tg, mk, fun i => nI (tn_t T c i), e, va, gi)) : ∀ d k, k + d = c → ∀ n, d < n → wX_turn_4 post (nI c) n (nI (tn_n T k)) (nI k) tg mk (fun i => nI (tn_t T k i)) e va gi := by
  intro d
  induction d with
  | zero =>
    intro k hk n hn
    cases n with
    | zero => omega
    | succ n =>
      have : k = c := by omega
      subst this
      exact br_t (nI_le (by omega) (by omega)) h
  | succ d ih =>
    intro k hk n hn
    cases n with
    | zero => omega
    | succ n =>
      have a := ih (k + 1) (by omega) n (by omega)
      have tj : (fun i => nI (tn_t T k i)) (nI k).toNatClampNeg = nI (T k) := by
        rw [nI_clamp (by omega)]
        show nI (tn_t T k k) = _
        rw [tn_k]
      have l := hT k
      have l2 := tn_l (T k) (by omega)
      refine br_f (nI_ge (by omega) (by omega)) ⟨pk_in k 12 (by omega), xw_cp (T k) tj l ⟨pk_in k 12 (by omega), pk_eq (tn_c (T k)) (T k) (fun z y ey => ?_) (fun z => ⟨pk_in k 12 (by omega), fun b eb x ex y ey => ?_⟩) rfl tj⟩⟩
      · rw [tn_n, if_pos z, ← tn_q z] at a
        rw [ey, nI_1]; exact a
      · rw [tn_n, if_neg z] at a
        rw [nI_clamp (by omega), tn_s] at eb
        rw [ex, ey, eb, nI_1, nI_1]; exact a
theorem yt_loop {post : Int32 → SY → Prop} (tg mk e bi fi bo st : Nat → Int32) (T : Nat → Nat) (c : Nat) (hc : c ≤ 12) (hT : ∀ i, T i ≤ 18) (h : post (nI (tn_n T c)) (nI c, tg, mk, fun i => nI (tn_t T c i), e, bi, fi, bo, st)) : ∀ d k, k + d = c → ∀ n, d < n → wY_turn_4 post (nI c) n (nI (tn_n T k)) (nI k) tg mk (fun i => nI (tn_t T k i)) e bi fi bo st := by
  intro d
  induction d with
  | zero =>
    intro k hk n hn
    cases n with
    | zero => omega
    | succ n =>
      have : k = c := by omega
      subst this
      exact br_t (nI_le (by omega) (by omega)) h
  | succ d ih =>
    intro k hk n hn
    cases n with
    | zero => omega
    | succ n =>
      have a := ih (k + 1) (by omega) n (by omega)
      have tj : (fun i => nI (tn_t T k i)) (nI k).toNatClampNeg = nI (T k) := by
        rw [nI_clamp (by omega)]
        show nI (tn_t T k k) = _
        rw [tn_k]
      have l := hT k
      have l2 := tn_l (T k) (by omega)
      refine br_f (nI_ge (by omega) (by omega)) ⟨pk_in k 12 (by omega), yw_cp _ (T k) tj l ⟨pk_in k 12 (by omega), pk_eq (tn_c (T k)) (T k) (fun z => ⟨pk_in k 12 (by omega), fun b eb y ey => ?_⟩) (fun z x ex => ⟨pk_in k 12 (by omega), fun b eb y ey => ?_⟩) rfl tj⟩⟩
      · rw [tn_n, if_pos z] at a
        rw [nI_clamp (by omega), tn_s] at eb
        rw [ey, eb, nI_1]; exact a
      · rw [tn_n, if_neg z] at a
        rw [nI_clamp (by omega), tn_s] at eb
        rw [ex, ey, eb, nI_1, nI_1]; exact a
/-- a state's number -/
def st_p (x : Int32) : Prop := ∃ j, j < 6 ∧ x = nI j
theorem xw_state {post : Int32 → Prop} {x : Int32} (h1 : st_p x → post 1) (h0 : ¬ st_p x → post 0) : wpX_isState post x := by
  rcases pk_ix x (n := 6) (by omega) with z | z | ⟨j, hj, e⟩
  · refine br_t z (h0 fun ⟨j, hj, e⟩ => ?_)
    rw [e] at z
    exact nI_pos (by omega) z
  · have z6 : (6 : Int32) ≤ x := z
    refine br_f (Int32.not_lt.mpr (Int32.le_trans (by decide) z6)) (br_t z6 (h0 fun ⟨j, hj, e⟩ => ?_))
    rw [e] at z
    exact nI_ge hj (by omega) z
  · have h := h1 ⟨j, hj, e⟩
    subst e
    exact br_f (nI_pos (by omega)) (br_f (nI_ge (b := 6) hj (by omega)) h)
theorem yw_state {post : Int32 → Prop} (u : SY) {x : Int32} (h1 : st_p x → post 1) (h0 : ¬ st_p x → post 0) : wpY_isState post u x := by
  obtain ⟨a, b, c, d, e, f, g, h', i⟩ := u
  rcases pk_ix x (n := 6) (by omega) with z | z | ⟨j, hj, e⟩
  · refine br_t z (h0 fun ⟨j, hj, e⟩ => ?_)
    rw [e] at z
    exact nI_pos (by omega) z
  · have z6 : (6 : Int32) ≤ x := z
    refine br_f (Int32.not_lt.mpr (Int32.le_trans (by decide) z6)) (br_t (Int32.lt_of_lt_of_le (by decide) z6) (h0 fun ⟨j, hj, e⟩ => ?_))
    rw [e] at z
    exact nI_ge hj (by omega) z
  · have h := h1 ⟨j, hj, e⟩
    subst e
    exact br_f (nI_pos (by omega)) (br_f (nI_nlt (a := 5) (by omega) (by omega)) h)
end
section
/-- both hold the same system and the same formula; all else is worked out anew by each question -/
def i_Rel (_ : Nat) (u : SX) (v : SY) : Prop := ∃ (c : Nat) (T : Nat → Nat) (tg mk e va gi e' bi fi bo st : Nat → Int32), u = (nI c, tg, mk, (fun i => nI (T i)), e, va, gi) ∧ v = (nI c, tg, mk, (fun i => nI (T i)), e', bi, fi, bo, st) ∧ c ≤ 12 ∧ (∀ s, sb_6 (tg s)) ∧ (∀ i, sb_6 (mk i)) ∧ ∀ i, T i ≤ 18
theorem ir_mk {k c : Nat} {T : Nat → Nat} {tg mk e va gi e' bi fi bo st : Nat → Int32} (hc : c ≤ 12) (ht : ∀ s, sb_6 (tg s)) (hm : ∀ i, sb_6 (mk i)) (hT : ∀ i, T i ≤ 18) : i_Rel k (nI c, tg, mk, (fun i => nI (T i)), e, va, gi) (nI c, tg, mk, (fun i => nI (T i)), e', bi, fi, bo, st) := ⟨c, T, tg, mk, e, va, gi, e', bi, fi, bo, st, rfl, rfl, hc, ht, hm, hT⟩
theorem i_up {k : Nat} {u : SX} {v : SY} (h : i_Rel k u v) : i_Rel (k + 4) u v := h
theorem i_vc0 : wpX_init (fun u => wpY_init (fun v => i_Rel 0 u v)) :=
  ir_mk (k := 0) (c := 0) (T := fun _ => 0) (by omega) (fun _ => sb_60) (fun _ => sb_60) (fun _ => by omega)
theorem i_vc_step {k : Nat} {u : SX} {v : SY} (I : i_Rel k u v) (hk : k + 4 ≤ 2048) (v1 : Int32) (v2 : Int32) (v3 : Int32) : wpX_step (fun r u' => wpY_step (fun r' v' => r' = r ∧ i_Rel (k + 4) u' v') v v1 v2 (lw_bz v3)) u v1 v2 (lw_bz v3) := by
  obtain ⟨c, T, tg, mk, e, va, gi, e', bi, fi, bo, st, rfl, rfl, hc, ht, hm, hT⟩ := I
  unfold wpX_step wpY_step
  dsimp only
  refine xw_state (fun z1 => ?_) (fun z1 => ?_)
  · refine br_f (by decide) ?_
    refine xw_state (fun z2 => ?_) (fun z2 => ?_)
    rotate_left
    · refine br_t rfl ?_
      refine yw_state _ (fun _ => ?_) (fun n => absurd z1 n)
      refine br_f (by decide) ?_
      refine yw_state _ (fun n => absurd n z2) (fun _ => ?_)
      exact br_t rfl ⟨rfl, ir_mk hc ht hm hT⟩
    refine br_f (by decide) ?_
    obtain ⟨s, hs, rfl⟩ := z1
    obtain ⟨t, h6, rfl⟩ := z2
    have hv : vp_in (nI s) 6 := vp_in_nI hs (by omega)
    have upd6 : ∀ x : Int32, sb_6 x → ∀ q, sb_6 (upd tg (nI s).toNatClampNeg x q) := fun x hx q => ve_u6 ht _ hx q
    refine br_c (fun w => ⟨hv, hv, fun a ea => ?_⟩) (fun w => ⟨hv, hv, fun a ea => ?_⟩)
    · refine yw_state _ (fun _ => ?_) (fun n => absurd ⟨s, hs, rfl⟩ n)
      refine br_f (by decide) ?_
      refine yw_state _ (fun _ => ?_) (fun n => absurd ⟨t, h6, rfl⟩ n)
      refine br_f (by decide) ?_
      refine br_t w ⟨hv, hv, fun b eb => ⟨rfl, ?_⟩⟩
      rw [ea, eb]
      exact ir_mk hc (upd6 _ (sb_6and (ht _))) hm hT
    · refine yw_state _ (fun _ => ?_) (fun n => absurd ⟨s, hs, rfl⟩ n)
      refine br_f (by decide) ?_
      refine yw_state _ (fun _ => ?_) (fun n => absurd ⟨t, h6, rfl⟩ n)
      refine br_f (by decide) ?_
      refine br_f w ⟨hv, hv, fun b eb => ⟨rfl, ?_⟩⟩
      rw [ea, eb]
      exact ir_mk hc (upd6 _ (sb_6or (ht _) (sb_6bit h6))) hm hT
  · refine br_t rfl ?_
    refine yw_state _ (fun n => absurd n z1) (fun _ => ?_)
    exact br_t rfl ⟨rfl, ir_mk hc ht hm hT⟩
theorem i_vc_mark {k : Nat} {u : SX} {v : SY} (I : i_Rel k u v) (hk : k + 4 ≤ 2048) (v1 : Int32) (v2 : Int32) : wpX_mark (fun r u' => wpY_mark (fun r' v' => r' = r ∧ i_Rel (k + 4) u' v') v v1 v2) u v1 v2 := by
  obtain ⟨c, T, tg, mk, e, va, gi, e', bi, fi, bo, st, rfl, rfl, hc, ht, hm, hT⟩ := I
  have same : ∀ r : Int32, r = r ∧ i_Rel (k + 4) (nI c, tg, mk, (fun i => nI (T i)), e, va, gi) (nI c, tg, mk, (fun i => nI (T i)), e', bi, fi, bo, st) := fun r => ⟨rfl, ir_mk hc ht hm hT⟩
  rcases pk_ix v1 (n := 3) (by omega) with z | z | ⟨j, hj, rfl⟩
  · exact br_t z (br_t z (same 0))
  · have z3 : (3 : Int32) ≤ v1 := z
    have z0 : ¬ v1 < 0 := Int32.not_lt.mpr (Int32.le_trans (by decide) z3)
    exact br_f z0 (br_t z3 (br_f z0 (br_t (Int32.lt_of_lt_of_le (by decide) z3) (same 0))))
  · have z0 : ¬ nI j < 0 := nI_pos (by omega)
    have z3 : ¬ (3 : Int32) ≤ nI j := nI_ge (b := 3) hj (by omega)
    have z2 : ¬ (2 : Int32) < nI j := nI_nlt (a := 2) (by omega) (by omega)
    have hv : vp_in (nI j) 3 := vp_in_nI hj (by omega)
    by_cases w : v2 < 0
    · exact br_f z0 (br_f z3 (br_t w (br_f z0 (br_f z2 (br_t w (same 0))))))
    · by_cases y : v2 ≤ 63
      · obtain ⟨m, hm', rfl⟩ := nI_of2 (M := 63) (n := 63) (by decide) w y
        refine br_f z0 (br_f z3 (br_f w (br_t y ⟨hv, fun a ea => br_f z0 (br_f z2 (br_f w (br_t y ⟨hv, fun b eb => ⟨rfl, ?_⟩⟩)))⟩)))
        rw [ea, eb]
        exact ir_mk hc ht (ve_u6 hm _ (sb_6n (by omega))) hT
      · exact br_f z0 (br_f z3 (br_f w (br_f y (br_f z0 (br_f z2 (br_f w (br_f y (same 0))))))))
theorem ir_tok (T : Nat → Nat) (c t : Nat) : upd (fun i => nI (T i)) c (nI t) = fun i => nI (if i = c then t else T i) := by
  funext i
  by_cases z : i = c
  · rw [z, pk_us, if_pos rfl]
  · rw [pk_un z, if_neg z]
theorem i_vc_token {k : Nat} {u : SX} {v : SY} (I : i_Rel k u v) (hk : k + 4 ≤ 2048) (v1 : Int32) : wpX_token (fun r u' => wpY_token (fun r' v' => r' = r ∧ i_Rel (k + 4) u' v') v v1) u v1 := by
  obtain ⟨c, T, tg, mk, e, va, gi, e', bi, fi, bo, st, rfl, rfl, hc, ht, hm, hT⟩ := I
  have same : ∀ r : Int32, r = r ∧ i_Rel (k + 4) (nI c, tg, mk, (fun i => nI (T i)), e, va, gi) (nI c, tg, mk, (fun i => nI (T i)), e', bi, fi, bo, st) := fun r => ⟨rfl, ir_mk hc ht hm hT⟩
  refine pk_lt c 12 (fun z => ?_) (fun z => ?_)
  · have n12 : ¬ nI c = 12 := fun q => by
      have := (nI_eq (a := c) (b := 12) (by omega) (by omega)).mp q
      omega
    by_cases w : v1 < 0
    · exact br_t w (br_f n12 (br_t w (same _)))
    · by_cases y : v1 ≤ 18
      · obtain ⟨t, ht', rfl⟩ := nI_of2 (M := 18) (n := 18) (by decide) w y
        refine br_f w (br_t y ⟨pk_in c 12 z, fun a ea x ex => br_f n12 (br_f w (br_t y ⟨pk_in c 12 z, fun b eb x' ex' => ⟨ex'.trans ex.symm, ?_⟩⟩))⟩)
        rw [nI_clamp (by omega), ir_tok] at ea eb
        rw [ea, eb, ex, ex', nI_1]
        refine ir_mk (by omega) ht hm (fun i => ?_)
        show (if i = c then t else T i) ≤ 18
        split
        · exact ht'
        · exact hT i
      · exact br_f w (br_f y (br_f n12 (br_f w (br_f y (same _)))))
  · have e12 : c = 12 := by omega
    subst e12
    exact br_t rfl (same _)
theorem i_vc_wipe {k : Nat} {u : SX} {v : SY} (I : i_Rel k u v) (hk : k + 4 ≤ 2048) : wpX_wipe (fun r u' => wpY_wipe (fun r' v' => r' = r ∧ i_Rel (k + 4) u' v') v) u := by
  obtain ⟨c, T, tg, mk, e, va, gi, e', bi, fi, bo, st, rfl, rfl, hc, ht, hm, hT⟩ := I
  exact ⟨rfl, ir_mk (c := 0) (by omega) ht hm hT⟩
theorem i_vc_turn {k : Nat} {u : SX} {v : SY} (I : i_Rel k u v) (hk : k + 4 ≤ 2048) : wpX_turn (fun r u' => wpY_turn (fun r' v' => r' = r ∧ i_Rel (k + 4) u' v') v) u := by
  obtain ⟨c, T, tg, mk, e, va, gi, e', bi, fi, bo, st, rfl, rfl, hc, ht, hm, hT⟩ := I
  refine ⟨c + 1, xt_loop tg mk e va gi T c hc hT ⟨c + 1, yt_loop tg mk e' bi fi bo st T c hc hT ⟨rfl, ?_⟩ c 0 (by omega) (c + 1) (by omega)⟩ c 0 (by omega) (c + 1) (by omega)⟩
  refine ir_mk hc ht hm (fun i => ?_)
  unfold tn_t
  have := hT i
  split
  · exact tn_l _ (by omega)
  · exact hT i
theorem i_vc_sound {k : Nat} {u : SX} {v : SY} (I : i_Rel k u v) (hk : k + 4 ≤ 2048) : wpX_sound (fun r u' => wpY_sound (fun r' v' => r' = r ∧ i_Rel (k + 4) u' v') v) u := by
  obtain ⟨c, T, tg, mk, e, va, gi, e', bi, fi, bo, st, rfl, rfl, hc, ht, hm, hT⟩ := I
  obtain ⟨E, hE⟩ := fm_ex T c hc
  unfold wpX_sound
  dsimp only
  refine xs_sound tg mk _ va gi T E c e hc hE (fun _ => rfl) hT (fun ok e1 he => ?_) (fun ok e1 he => ?_)
  · refine ⟨rfl, ?_⟩
    exact ys_sound tg mk _ T E c e' bi fi bo st hc hE (fun _ => rfl) hT (fun _ e2 b2 _ _ => ⟨rfl, ir_mk hc ht hm hT⟩) (fun n => absurd ok n)
  · refine ⟨rfl, ?_⟩
    exact ys_sound tg mk _ T E c e' bi fi bo st hc hE (fun _ => rfl) hT (fun n => absurd n ok) (fun _ e2 b2 => ⟨rfl, ir_mk hc ht hm hT⟩)
theorem i_vc_depth {k : Nat} {u : SX} {v : SY} (I : i_Rel k u v) (hk : k + 4 ≤ 2048) : wpX_depth (fun r u' => wpY_depth (fun r' v' => r' = r ∧ i_Rel (k + 4) u' v') v) u := by
  obtain ⟨c, T, tg, mk, e, va, gi, e', bi, fi, bo, st, rfl, rfl, hc, ht, hm, hT⟩ := I
  obtain ⟨E, hE⟩ := fm_ex T c hc
  have hle : ∀ p, p < c → p < E p ∧ E p ≤ 13 := fun p hp => fm_gt hc hE (by omega)
  unfold wpX_depth wpY_depth
  dsimp only
  refine xs_sound tg mk _ va gi T E c e hc hE (fun _ => rfl) hT (fun ok e1 he => ?_) (fun ok e1 he => ?_)
  · refine br_f (by decide) ?_
    refine xd_deep tg mk _ T E c e1 va gi hc he (fun p hp => (hle p hp).2) (fun _ => rfl) hT ?_
    refine ys_sound tg mk _ T E c e' bi fi bo st hc hE (fun _ => rfl) hT (fun _ e2 b2 he2 _ => ?_) (fun n => absurd ok n)
    refine br_f (by decide) ⟨c + 1, ?_⟩
    exact yd_loop tg mk _ T E c e2 b2 fi bo st hc he2 hle (fun _ => rfl) hT ⟨rfl, ir_mk hc ht hm hT⟩ c 0 (by omega) (c + 1) (by omega)
  · refine br_t rfl ?_
    refine ys_sound tg mk _ T E c e' bi fi bo st hc hE (fun _ => rfl) hT (fun n => absurd n ok) (fun _ e2 b2 => ?_)
    exact br_t rfl ⟨rfl, ir_mk hc ht hm hT⟩
theorem i_vc_set {k : Nat} {u : SX} {v : SY} (I : i_Rel k u v) (hk : k + 4 ≤ 2048) : wpX_set (fun r u' => wpY_set (fun r' v' => r' = r ∧ i_Rel (k + 4) u' v') v) u := by
  obtain ⟨c, T, tg, mk, e, va, gi, e', bi, fi, bo, st, rfl, rfl, hc, ht, hm, hT⟩ := I
  obtain ⟨E, hE⟩ := fm_ex T c hc
  unfold wpX_set wpY_set
  dsimp only
  refine xs_sound tg mk _ va gi T E c e hc hE (fun _ => rfl) hT (fun ok e1 he => ?_) (fun ok e1 he => ?_)
  · refine br_f (by decide) ?_
    have hS := fm_mk hc hE ok.1
    obtain ⟨K, hK, hr⟩ := ve_2400 tg mk T E hm hT hS ok.2.2 ok.2.1
    refine xj_judge tg mk T E c _ e1 va gi he (fun _ => rfl) hT hS ok.2.2 K hK hr (fun va1 gi1 => ?_)
    refine ys_sound tg mk _ T E c e' bi fi bo st hc hE (fun _ => rfl) hT (fun _ e2 b2 he2 hb2 => ?_) (fun n => absurd ok n)
    refine br_f (by decide) ?_
    exact yg_find tg mk _ T E c ok.1 ht (fun _ => rfl) hT hS ok.2.2 e2 b2 fi bo st he2 hb2 K hK hr (fun f2 o2 s2 => ⟨rfl, ir_mk hc ht hm hT⟩)
  · refine br_t rfl ?_
    refine ys_sound tg mk _ T E c e' bi fi bo st hc hE (fun _ => rfl) hT (fun n => absurd n ok) (fun _ e2 b2 => ?_)
    exact br_t rfl ⟨rfl, ir_mk hc ht hm hT⟩
theorem i_vc_holds {k : Nat} {u : SX} {v : SY} (I : i_Rel k u v) (hk : k + 4 ≤ 2048) (v1 : Int32) : wpX_holds (fun r u' => wpY_holds (fun r' v' => r' = r ∧ i_Rel (k + 4) u' v') v v1) u v1 := by
  obtain ⟨c, T, tg, mk, e, va, gi, e', bi, fi, bo, st, rfl, rfl, hc, ht, hm, hT⟩ := I
  obtain ⟨E, hE⟩ := fm_ex T c hc
  unfold wpX_holds wpY_holds
  dsimp only
  refine xw_state (fun z => ?_) (fun z => ?_)
  · refine br_f (by decide) ?_
    refine xs_sound tg mk _ va gi T E c e hc hE (fun _ => rfl) hT (fun ok e1 he => ?_) (fun ok e1 he => ?_)
    · refine br_f (by decide) ?_
      have hS := fm_mk hc hE ok.1
      obtain ⟨K, hK, hr⟩ := ve_2400 tg mk T E hm hT hS ok.2.2 ok.2.1
      refine xj_judge tg mk T E c _ e1 va gi he (fun _ => rfl) hT hS ok.2.2 K hK hr (fun va1 gi1 => ?_)
      refine br_c (fun w => ?_) (fun w => ?_)
      · refine ys_sound tg mk _ T E c e' bi fi bo st hc hE (fun _ => rfl) hT (fun _ e2 b2 he2 hb2 => ?_) (fun n => absurd ok n)
        refine br_f (by decide) ?_
        refine yw_state _ (fun _ => ?_) (fun n => absurd z n)
        refine br_f (by decide) ?_
        refine yg_find tg mk _ T E c ok.1 ht (fun _ => rfl) hT hS ok.2.2 e2 b2 fi bo st he2 hb2 K hK hr (fun f2 o2 s2 => ?_)
        exact br_t w ⟨rfl, rfl, ir_mk hc ht hm hT⟩
      · refine ys_sound tg mk _ T E c e' bi fi bo st hc hE (fun _ => rfl) hT (fun _ e2 b2 he2 hb2 => ?_) (fun n => absurd ok n)
        refine br_f (by decide) ?_
        refine yw_state _ (fun _ => ?_) (fun n => absurd z n)
        refine br_f (by decide) ?_
        refine yg_find tg mk _ T E c ok.1 ht (fun _ => rfl) hT hS ok.2.2 e2 b2 fi bo st he2 hb2 K hK hr (fun f2 o2 s2 => ?_)
        exact br_f w ⟨rfl, rfl, ir_mk hc ht hm hT⟩
    · refine br_t rfl ?_
      refine ys_sound tg mk _ T E c e' bi fi bo st hc hE (fun _ => rfl) hT (fun n => absurd n ok) (fun _ e2 b2 => ?_)
      exact br_t rfl ⟨rfl, ir_mk hc ht hm hT⟩
  · refine br_t rfl ?_
    refine ys_sound tg mk _ T E c e' bi fi bo st hc hE (fun _ => rfl) hT (fun _ e2 b2 _ _ => ?_) (fun _ e2 b2 => ?_)
    · refine br_f (by decide) ?_
      refine yw_state _ (fun n => absurd n z) (fun _ => ?_)
      exact br_t rfl ⟨rfl, ir_mk hc ht hm hT⟩
    · exact br_t rfl ⟨rfl, ir_mk hc ht hm hT⟩
theorem i_vc_steps {k : Nat} {u : SX} {v : SY} (I : i_Rel k u v) (hk : k + 4 ≤ 2048) (v1 : Int32) : wpX_steps (fun r => wpY_steps (fun r' => r' = r ∧ i_Rel (k + 4) u v) v v1) u v1 := by
  obtain ⟨c, T, tg, mk, e, va, gi, e', bi, fi, bo, st, rfl, rfl, hc, ht, hm, hT⟩ := I
  unfold wpX_steps wpY_steps
  dsimp only
  refine xw_state (fun z => ?_) (fun z => ?_)
  · obtain ⟨j, hj, rfl⟩ := z
    have hv : vp_in (nI j) 6 := vp_in_nI hj (by omega)
    refine br_f (by decide) ⟨hv, ?_⟩
    refine yw_state _ (fun _ => ?_) (fun n => absurd ⟨j, hj, rfl⟩ n)
    exact br_f (by decide) ⟨hv, rfl, ir_mk hc ht hm hT⟩
  · refine br_t rfl ?_
    refine yw_state _ (fun n => absurd n z) (fun _ => ?_)
    exact br_t rfl ⟨rfl, ir_mk hc ht hm hT⟩
end
