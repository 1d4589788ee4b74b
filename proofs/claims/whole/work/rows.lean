section
theorem pk_us {f : Nat → Int32} {k : Nat} {x : Int32} : upd f k x k = x := if_pos rfl
theorem pk_un {f : Nat → Int32} {k j : Nat} {x : Int32} (h : j ≠ k) : upd f k x j = f j := if_neg h
theorem pk_sub {a b : Nat} (h : b ≤ a) : nI a - nI b = nI (a - b) := by
  obtain ⟨c, rfl⟩ : ∃ c, a = c + b := ⟨a - b, by omega⟩
  rw [← nI_add, Int32.add_sub_cancel, Nat.add_sub_cancel]
theorem pk_m1 (n : Nat) : nI (n + 1) + (-1) = nI n := by
  rw [← nI_1, Int32.add_assoc, show (1 : Int32) + (-1) = 0 from rfl, Int32.add_zero]
theorem pk_mul (a b : Nat) : nI a * nI b = nI (a * b) := (Int32.ofNat_mul a b).symm
theorem pk_div {a d : Nat} (ha : a < 2 ^ 31) (h0 : 0 < d) (hd : d < 2 ^ 31) : nI a / nI d = nI (a / d) := by
  apply Int32.toInt_inj.mp
  rw [lg_idiv_nonneg (by rw [nI_toInt ha]; omega) (by rw [nI_toInt hd]; omega), nI_toInt ha, nI_toInt hd, nI_toInt (Nat.lt_of_le_of_lt (Nat.div_le_self a d) ha)]
  first | rfl | exact (Int.natCast_ediv _ _).symm
theorem pk_rem {a d : Nat} (ha : a < 2 ^ 31) (h0 : 0 < d) (hd : d < 2 ^ 31) : nI a - nI a / nI d * nI d = nI (a % d) := by
  rw [pk_div ha h0 hd, pk_mul, pk_sub (Nat.div_mul_le_self a d)]
  exact congrArg nI (by have := Nat.div_add_mod' a d; omega)
theorem pk_ix (x : Int32) {n : Nat} (hn : n < 2 ^ 31) : x < 0 ∨ nI n ≤ x ∨ ∃ j : Nat, j < n ∧ x = nI j := by
  by_cases h : x < 0
  · exact Or.inl h
  · obtain ⟨j, hj, rfl⟩ := nI_of h
    by_cases h2 : j < n
    · exact Or.inr (Or.inr ⟨j, h2, rfl⟩)
    · exact Or.inr (Or.inl (nI_le (by omega) hj))
theorem pk_le {x y : Int32} {A B : Prop} (a b : Nat) (f : a ≤ b → A) (g : b < a → B) (hx : x = nI a := by rfl) (hy : y = nI b := by rfl) (ha : a < 2 ^ 31 := by omega) (hb : b < 2 ^ 31 := by omega) : (x ≤ y → A) ∧ (¬ x ≤ y → B) := by
  subst hx hy
  rw [nI_leI ha hb]
  exact ⟨f, fun z => g (by omega)⟩
theorem pk_lt {x y : Int32} {A B : Prop} (a b : Nat) (f : a < b → A) (g : b ≤ a → B) (hx : x = nI a := by rfl) (hy : y = nI b := by rfl) (ha : a < 2 ^ 31 := by omega) (hb : b < 2 ^ 31 := by omega) : (x < y → A) ∧ (¬ x < y → B) := by
  subst hx hy
  rw [nI_ltI ha hb]
  exact ⟨f, fun z => g (by omega)⟩
theorem pk_eq {x y : Int32} {A B : Prop} (a b : Nat) (f : a = b → A) (g : a ≠ b → B) (hx : x = nI a := by rfl) (hy : y = nI b := by rfl) (ha : a < 2 ^ 31 := by omega) (hb : b < 2 ^ 31 := by omega) : (x = y → A) ∧ (¬ x = y → B) := by
  subst hx hy
  rw [nI_eq ha hb]
  exact ⟨f, g⟩
theorem pk_in {x : Int32} (n N : Nat) (h : n < N) (hx : x = nI n := by rfl) (hN : N < 2 ^ 31 := by omega) : vp_in x N := by
  subst hx
  exact vp_in_nI h hN
theorem pk_cl {x : Int32} (n : Nat) (hx : x = nI n := by rfl) (h : n < 2 ^ 31 := by omega) : x.toNatClampNeg = n := by
  subst hx
  exact nI_clamp h
theorem pk_tn {n : Nat} (h : n < 2 ^ 32) : (nI n).toBitVec.toNat = n := Nat.mod_eq_of_lt h
def bt (x : Int32) (i : Nat) : Bool := x.toBitVec.getLsbD i
theorem b_ext {x y : Int32} (h : ∀ i, i < 32 → bt x i = bt y i) : x = y := Int32.toBitVec_inj.mp (BitVec.eq_of_getLsbD_eq (fun i hi => h i hi))
theorem b_or (x y : Int32) (i : Nat) : bt (x ||| y) i = (bt x i || bt y i) := by unfold bt; rw [Int32.toBitVec_or, BitVec.getLsbD_or]
theorem b_and (x y : Int32) (i : Nat) : bt (x &&& y) i = (bt x i && bt y i) := by unfold bt; rw [Int32.toBitVec_and, BitVec.getLsbD_and]
theorem b_xor (x y : Int32) (i : Nat) : bt (x ^^^ y) i = (bt x i ^^ bt y i) := by unfold bt; rw [Int32.toBitVec_xor, BitVec.getLsbD_xor]
theorem b_big {x : Int32} {i : Nat} (h : 32 ≤ i) : bt x i = false := BitVec.getLsbD_of_ge _ _ h
theorem b_m1 : ∀ i, i < 32 → bt (-1) i = true := by decide +kernel
theorem b_0 (i : Nat) : bt 0 i = false := BitVec.getLsbD_zero
theorem s_l : ∀ n, n < 32 → ((nI n &&& 31).toBitVec.smod 32).toNat = n := by decide +kernel
theorem b_sshr (n : Nat) (hn : n < 32) (x : Int32) {i : Nat} (hi : i < 32) : bt (x >>> (nI n &&& 31)) i = if n + i < 32 then bt x (n + i) else bt x 31 := by
  unfold bt
  rw [Int32.toBitVec_shiftRight]
  show (x.toBitVec.sshiftRight ((nI n &&& 31).toBitVec.smod 32).toNat).getLsbD i = _
  rw [s_l n hn, BitVec.getLsbD_sshiftRight, BitVec.msb_eq_getLsbD_last]
  simp [hi]
end
section
/-- sets of states as ints: a lies within b -/
def sb_s (a b : Int32) : Prop := ∀ i, i < 32 → bt a i = true → bt b i = true
/-- a set of the six states -/
def sb_6 (a : Int32) : Prop := ∀ i, 6 ≤ i → i < 32 → bt a i = false
theorem sb_rf (a : Int32) : sb_s a a := fun _ _ h => h
theorem sb_tr {a b c : Int32} (h : sb_s a b) (k : sb_s b c) : sb_s a c := fun i hi x => k i hi (h i hi x)
theorem sb_63b : ∀ i, i < 32 → bt 63 i = decide (i < 6) := by decide +kernel
theorem sb_bit : ∀ s, s < 6 → ∀ i, i < 32 → bt ((1 : Int32) <<< (nI s &&& 31)) i = decide (i = s) := by decide +kernel
theorem sb_and {a a' b b' : Int32} (h : sb_s a a') (k : sb_s b b') : sb_s (a &&& b) (a' &&& b') := fun i hi x => by
  rw [b_and, Bool.and_eq_true] at x ⊢
  exact ⟨h i hi x.1, k i hi x.2⟩
theorem sb_or {a a' b b' : Int32} (h : sb_s a a') (k : sb_s b b') : sb_s (a ||| b) (a' ||| b') := fun i hi x => by
  rw [b_or, Bool.or_eq_true] at x ⊢
  exact x.elim (fun y => Or.inl (h i hi y)) (fun y => Or.inr (k i hi y))
theorem sb_0 (b : Int32) : sb_s 0 b := fun i hi x => by rw [b_0] at x; exact absurd x (by decide)
theorem sb_63 {a : Int32} (h : sb_6 a) : sb_s a 63 := fun i hi x => by
  rw [sb_63b i hi, decide_eq_true_eq]
  refine Nat.lt_of_not_le fun z => ?_
  rw [h i z hi] at x
  exact absurd x (by decide)
theorem sb_nc {a b : Int32} (h : sb_s a b) : sb_s (63 &&& (b ^^^ (-1))) (63 &&& (a ^^^ (-1))) := fun i hi x => by
  rw [b_and, b_xor, b_m1 i hi] at x ⊢
  have := h i hi
  revert x this
  cases bt 63 i <;> cases bt a i <;> cases bt b i <;> decide
theorem sb_60 : sb_6 0 := fun i _ _ => b_0 i
theorem sb_663 : sb_6 63 := fun i h hi => by rw [sb_63b i hi, decide_eq_false_iff_not]; omega
theorem sb_6and {a b : Int32} (h : sb_6 a) : sb_6 (a &&& b) := fun i k hi => by rw [b_and, h i k hi]; rfl
theorem sb_6or {a b : Int32} (h : sb_6 a) (h' : sb_6 b) : sb_6 (a ||| b) := fun i k hi => by rw [b_or, h i k hi, h' i k hi]; rfl
theorem sb_6bit {s : Nat} (hs : s < 6) : sb_6 ((1 : Int32) <<< (nI s &&& 31)) := fun i k hi => by
  rw [sb_bit s hs i hi, decide_eq_false_iff_not]; omega
theorem sb_6n {m : Nat} (h : m < 64) : sb_6 (nI m) := by
  have : ∀ m, m < 64 → ∀ i, i < 32 → 6 ≤ i → bt (nI m) i = false := by decide +kernel
  exact fun i k hi => this m h i hi k
/-- how many states a set has -/
def sb_c (a : Int32) : Nat := (bt a 0).toNat + (bt a 1).toNat + (bt a 2).toNat + (bt a 3).toNat + (bt a 4).toNat + (bt a 5).toNat
theorem sb_c6 (a : Int32) : sb_c a ≤ 6 := by
  unfold sb_c
  have h := fun i => Bool.toNat_le (bt a i)
  have h0 := h 0; have h1 := h 1; have h2 := h 2; have h3 := h 3; have h4 := h 4; have h5 := h 5
  omega
theorem sb_b {x y : Bool} (h : x = true → y = true) : x.toNat ≤ y.toNat := by
  cases x <;> cases y <;> revert h <;> decide
theorem sb_bi {x y : Bool} (h : x.toNat = y.toNat) : x = y := by
  cases x <;> cases y <;> revert h <;> decide
theorem sb_cs {a b : Int32} (h : sb_s a b) (hb : sb_6 b) (ha : sb_6 a) (hn : ¬ a = b) : sb_c a < sb_c b := by
  refine Nat.lt_of_not_le fun z => hn ?_
  have h0 := sb_b (h 0 (by omega)); have h1 := sb_b (h 1 (by omega)); have h2 := sb_b (h 2 (by omega))
  have h3 := sb_b (h 3 (by omega)); have h4 := sb_b (h 4 (by omega)); have h5 := sb_b (h 5 (by omega))
  unfold sb_c at z
  refine b_ext fun i hi => ?_
  have : i = 0 ∨ i = 1 ∨ i = 2 ∨ i = 3 ∨ i = 4 ∨ i = 5 ∨ 6 ≤ i := by omega
  rcases this with e | e | e | e | e | e | e
  · rw [e]; exact sb_bi (by omega)
  · rw [e]; exact sb_bi (by omega)
  · rw [e]; exact sb_bi (by omega)
  · rw [e]; exact sb_bi (by omega)
  · rw [e]; exact sb_bi (by omega)
  · rw [e]; exact sb_bi (by omega)
  · rw [ha i e hi, hb i e hi]
/-- the states below k with a step into Z -/
def sb_p (tg : Nat → Int32) (Z : Int32) : Nat → Int32
  | 0 => 0
  | s + 1 => if (tg s &&& Z) = 0 then sb_p tg Z s else sb_p tg Z s ||| ((1 : Int32) <<< (nI s &&& 31))
/-- the states below k all of whose steps lead into Z -/
def sb_q (tg : Nat → Int32) (Z : Int32) : Nat → Int32
  | 0 => 0
  | s + 1 => if (tg s &&& (Z ^^^ (-1))) = 0 then sb_q tg Z s ||| ((1 : Int32) <<< (nI s &&& 31)) else sb_q tg Z s
theorem sb_pb (tg : Nat → Int32) (Z : Int32) : ∀ s, s ≤ 6 → ∀ i, i < 32 → bt (sb_p tg Z s) i = (decide (i < s) && decide (¬ (tg i &&& Z) = 0)) := by
  intro s
  induction s with
  | zero => intro _ i _; rw [sb_p, b_0, decide_eq_false (by omega), Bool.false_and]
  | succ s ih =>
    intro hs i hi
    have := ih (by omega) i hi
    rw [sb_p]
    by_cases z : (tg s &&& Z) = 0
    · rw [if_pos z, this]
      by_cases e : i = s
      · rw [e, decide_eq_false (show ¬ s < s by omega), decide_eq_false (show ¬ ¬ (tg s &&& Z) = 0 from fun n => n z), Bool.and_false, Bool.and_false]
      · rw [show decide (i < s + 1) = decide (i < s) from decide_eq_decide.mpr (by omega)]
    · rw [if_neg z, b_or, this, sb_bit s (by omega) i hi]
      by_cases e : i = s
      · rw [e, decide_eq_true (rfl : s = s), decide_eq_true (show s < s + 1 by omega), decide_eq_true z, Bool.or_true, Bool.and_true]
      · rw [decide_eq_false e, Bool.or_false, show decide (i < s + 1) = decide (i < s) from decide_eq_decide.mpr (by omega)]
theorem sb_qb (tg : Nat → Int32) (Z : Int32) : ∀ s, s ≤ 6 → ∀ i, i < 32 → bt (sb_q tg Z s) i = (decide (i < s) && decide ((tg i &&& (Z ^^^ (-1))) = 0)) := by
  intro s
  induction s with
  | zero => intro _ i _; rw [sb_q, b_0, decide_eq_false (by omega), Bool.false_and]
  | succ s ih =>
    intro hs i hi
    have := ih (by omega) i hi
    rw [sb_q]
    by_cases z : (tg s &&& (Z ^^^ (-1))) = 0
    · rw [if_pos z, b_or, this, sb_bit s (by omega) i hi]
      by_cases e : i = s
      · rw [e, decide_eq_true (rfl : s = s), decide_eq_true (show s < s + 1 by omega), decide_eq_true z, Bool.or_true, Bool.and_true]
      · rw [decide_eq_false e, Bool.or_false, show decide (i < s + 1) = decide (i < s) from decide_eq_decide.mpr (by omega)]
    · rw [if_neg z, this]
      by_cases e : i = s
      · rw [e, decide_eq_false (show ¬ s < s by omega), decide_eq_false z, Bool.and_false, Bool.and_false]
      · rw [show decide (i < s + 1) = decide (i < s) from decide_eq_decide.mpr (by omega)]
theorem sb_z {a b : Int32} (h : sb_s a b) (k : b = 0) : a = 0 := b_ext fun i hi => by
  rw [b_0]
  cases e : bt a i
  · rfl
  · have := h i hi e
    rw [k, b_0] at this
    exact absurd this (by decide)
theorem sb_pm (tg : Nat → Int32) {Z Z' : Int32} (h : sb_s Z Z') : sb_s (sb_p tg Z 6) (sb_p tg Z' 6) := fun i hi x => by
  rw [sb_pb tg _ 6 (by omega) i hi, Bool.and_eq_true, decide_eq_true_eq, decide_eq_true_eq] at x ⊢
  exact ⟨x.1, fun z => x.2 (sb_z (sb_and (sb_rf _) h) z)⟩
theorem sb_p6 (tg : Nat → Int32) (Z : Int32) : sb_6 (sb_p tg Z 6) := fun i k hi => by
  rw [sb_pb tg _ 6 (by omega) i hi, decide_eq_false (by omega), Bool.false_and]
/-- the component's 'all' is the reference's -/
theorem sb_pq (tg : Nat → Int32) (ht : ∀ s, sb_6 (tg s)) (Z : Int32) : 63 &&& (sb_p tg (63 &&& (Z ^^^ (-1))) 6 ^^^ (-1)) = sb_q tg Z 6 := b_ext fun i hi => by
  have e : (tg i &&& (63 &&& (Z ^^^ (-1)))) = (tg i &&& (Z ^^^ (-1))) := b_ext fun j hj => by
    rw [b_and, b_and, b_and, sb_63b j hj]
    by_cases k : j < 6
    · rw [decide_eq_true k, Bool.true_and]
    · rw [ht i j (by omega) hj, Bool.false_and, Bool.false_and]
  rw [b_and, b_xor, b_m1 i hi, sb_pb tg _ 6 (by omega) i hi, sb_qb tg _ 6 (by omega) i hi, sb_63b i hi, e]
  by_cases k : i < 6
  · by_cases z : (tg i &&& (Z ^^^ (-1))) = 0
    · rw [decide_eq_true k, decide_eq_true z, decide_eq_false (show ¬ ¬ (tg i &&& (Z ^^^ (-1))) = 0 from fun n => n z)]; rfl
    · rw [decide_eq_true k, decide_eq_false z, decide_eq_true z]; rfl
  · rw [decide_eq_false k]; rfl
end
section
/-! The formula: T its tokens, c their number, E the ends of the terms -/
def fm_2 (t : Nat) : Prop := t = 6 ∨ t = 7
def fm_1 (t : Nat) : Prop := 8 ≤ t ∧ t ≤ 15
def fm_x (t : Nat) : Prop := 10 ≤ t ∧ t ≤ 15
theorem fm_x1 {t : Nat} (h : fm_x t) : fm_1 t := ⟨by have := h.1; omega, h.2⟩
/-- what the end of the term at p must be -/
def fm_R (T E : Nat → Nat) (p e : Nat) : Prop := (fm_2 (T p) → e = E (E (p + 1))) ∧ (fm_1 (T p) → e = E (p + 1)) ∧ (¬ fm_2 (T p) → ¬ fm_1 (T p) → e = p + 1)
def fm_E (T : Nat → Nat) (c : Nat) (E : Nat → Nat) : Prop := (∀ p, c ≤ p → E p = 13) ∧ ∀ p, p < c → fm_R T E p (E p)
theorem fm_Rx (T E : Nat → Nat) (p : Nat) : ∃ e, fm_R T E p e := by
  unfold fm_R fm_2 fm_1
  by_cases h2 : T p = 6 ∨ T p = 7
  · exact ⟨E (E (p + 1)), fun _ => rfl, fun h => by omega, fun h => absurd h2 h⟩
  · by_cases h1 : 8 ≤ T p ∧ T p ≤ 15
    · exact ⟨E (p + 1), fun h => absurd h h2, fun _ => rfl, fun _ h => absurd h1 h⟩
    · exact ⟨p + 1, fun h => absurd h h2, fun h => absurd h h1, fun _ _ => rfl⟩
theorem fm_Rk {T E : Nat → Nat} {p e : Nat} (h : fm_R T E p e) : e = E (E (p + 1)) ∨ e = E (p + 1) ∨ e = p + 1 := by
  by_cases h2 : fm_2 (T p)
  · exact Or.inl (h.1 h2)
  · by_cases h1 : fm_1 (T p)
    · exact Or.inr (Or.inl (h.2.1 h1))
    · exact Or.inr (Or.inr (h.2.2 h2 h1))
theorem fm_Rc {T E E' : Nat → Nat} {p e : Nat} (h : fm_R T E p e) (h1 : E' (p + 1) = E (p + 1)) (h2 : E' (E (p + 1)) = E (E (p + 1))) : fm_R T E' p e :=
  ⟨fun a => by rw [h1, h2]; exact h.1 a, fun a => by rw [h1]; exact h.2.1 a, h.2.2⟩
theorem fm_ex1 (T : Nat → Nat) (c : Nat) (hc : c ≤ 12) : ∀ k, k ≤ c → ∃ E : Nat → Nat, (∀ p, c ≤ p → E p = 13) ∧ (∀ p, c - k ≤ p → p ≤ 12 → p < E p) ∧ ∀ p, c - k ≤ p → p < c → fm_R T E p (E p) := by
  intro k
  induction k with
  | zero => exact fun _ => ⟨fun _ => 13, fun _ _ => rfl, fun p _ h => show p < 13 by omega, fun p h h' => by omega⟩
  | succ k ih =>
    intro hk
    obtain ⟨E, h0, h1, h2⟩ := ih (by omega)
    obtain ⟨m, hm⟩ : ∃ m, c - (k + 1) = m := ⟨_, rfl⟩
    obtain ⟨e, he⟩ := fm_Rx T E m
    have m1 : m < E (m + 1) := by
      by_cases z : m + 1 ≤ 12
      · have := h1 (m + 1) (by omega) z; omega
      · have := h0 (m + 1) (by omega); omega
    have me : m < e := by
      rcases fm_Rk he with q | q | q
      · by_cases z : E (m + 1) ≤ 12
        · have := h1 (E (m + 1)) (by omega) z; omega
        · have := h0 (E (m + 1)) (by omega); omega
      · omega
      · omega
    have hE : ∀ p, p ≠ m → (if p = m then e else E p) = E p := fun p hp => if_neg hp
    refine ⟨fun p => if p = m then e else E p, fun p hp => ?_, fun p hp h12 => ?_, fun p hp hpc => ?_⟩
    · show (if p = m then e else E p) = 13
      rw [hE p (by omega)]; exact h0 p hp
    · show p < (if p = m then e else E p)
      by_cases z : p = m
      · rw [if_pos z]; omega
      · rw [if_neg z]; exact h1 p (by omega) h12
    · by_cases z : p = m
      · rw [z]
        have : (if m = m then e else E m) = e := if_pos rfl
        show fm_R T _ m (if m = m then e else E m)
        rw [this]
        exact fm_Rc he (hE _ (by omega)) (hE _ (by omega))
      · show fm_R T _ p (if p = m then e else E p)
        rw [if_neg z]
        have hp1 : p < E (p + 1) := by
          by_cases y : p + 1 ≤ 12
          · have := h1 (p + 1) (by omega) y; omega
          · have := h0 (p + 1) (by omega); omega
        exact fm_Rc (h2 p (by omega) hpc) (hE _ (by omega)) (hE _ (by omega))
theorem fm_ex (T : Nat → Nat) (c : Nat) (hc : c ≤ 12) : ∃ E, fm_E T c E := by
  obtain ⟨E, h0, _, h2⟩ := fm_ex1 T c hc c (Nat.le_refl c)
  exact ⟨E, h0, fun p hp => h2 p (by omega) hp⟩
theorem fm_gt1 {T : Nat → Nat} {c : Nat} {E : Nat → Nat} (hc : c ≤ 12) (h : fm_E T c E) : ∀ k p, 13 - p ≤ k → p ≤ 12 → p < E p ∧ E p ≤ 13 := by
  intro k
  induction k with
  | zero => intro p h1 h2; omega
  | succ k ih =>
    intro p h1 h2
    by_cases z : c ≤ p
    · rw [h.1 p z]; omega
    · have a : p + 1 ≤ 12 := by omega
      have b := ih (p + 1) (by omega) a
      rcases fm_Rk (h.2 p (by omega)) with q | q | q
      · by_cases y : E (p + 1) ≤ 12
        · have := ih (E (p + 1)) (by omega) y; omega
        · have := h.1 (E (p + 1)) (by omega); omega
      · omega
      · omega
theorem fm_gt {T : Nat → Nat} {c : Nat} {E : Nat → Nat} (hc : c ≤ 12) (h : fm_E T c E) {p : Nat} (hp : p ≤ 12) : p < E p ∧ E p ≤ 13 := fm_gt1 hc h (13 - p) p (Nat.le_refl _) hp
theorem fm_nest {T : Nat → Nat} {c : Nat} {E : Nat → Nat} (hc : c ≤ 12) (h : fm_E T c E) : ∀ k p, c - p ≤ k → p < c → E p ≤ c → ∀ q, p ≤ q → q < E p → E q ≤ E p := by
  intro k
  induction k with
  | zero => intro p h1 h2; omega
  | succ k ih =>
    intro p h1 hp he q hq hqe
    by_cases z : q = p
    · rw [z]; exact Nat.le_refl _
    · have g1 := fm_gt hc h (p := p + 1) (by omega)
      rcases fm_Rk (h.2 p hp) with e | e | e
      · have m : E (p + 1) < c := by
          refine Nat.lt_of_not_le fun y => ?_
          have := h.1 _ y; omega
        have g2 := fm_gt hc h (p := E (p + 1)) (by omega)
        by_cases y : q < E (p + 1)
        · have := ih (p + 1) (by omega) (by omega) (by omega) q (by omega) y; omega
        · rw [e]; exact ih (E (p + 1)) (by omega) m (by omega) q (by omega) (by omega)
      · by_cases y : p + 1 < c
        · rw [e]; exact ih (p + 1) (by omega) y (by omega) q (by omega) (by omega)
        · have := h.1 (p + 1) (by omega); omega
      · omega
/-- a formula that is just one term -/
def fm_S (T : Nat → Nat) (c : Nat) (E : Nat → Nat) : Prop :=
  c ≤ 12 ∧ 0 < c ∧ (∀ q, q < c → q < E q ∧ E q ≤ c) ∧ (∀ q, q < c → fm_2 (T q) → q + 1 < E (q + 1) ∧ E (q + 1) < c ∧ E q = E (E (q + 1))) ∧ (∀ q, q < c → fm_1 (T q) → q + 1 < c ∧ E q = E (q + 1)) ∧ (∀ q, q < c → ¬ fm_2 (T q) → ¬ fm_1 (T q) → E q = q + 1) ∧ (∀ p q, p < c → p ≤ q → q < E p → E q ≤ E p)
theorem fm_mk {T : Nat → Nat} {c : Nat} {E : Nat → Nat} (hc : c ≤ 12) (h : fm_E T c E) (h0 : E 0 = c) : fm_S T c E := by
  have c0 : 0 < c := by
    refine Nat.lt_of_not_le fun z => ?_
    have := h.1 0 z; omega
  have ne := fun p => fm_nest hc h c p (by omega)
  have le : ∀ q, q < c → E q ≤ c := fun q hq => by
    have := ne 0 c0 (by omega) q (by omega) (by omega); omega
  refine ⟨hc, c0, fun q hq => ⟨(fm_gt hc h (by omega)).1, le q hq⟩, fun q hq h2 => ?_, fun q hq h1 => ?_, fun q hq => (h.2 q hq).2.2, fun p q hp a b => ne p hp (le p hp) q a b⟩
  · have e := (h.2 q hq).1 h2
    have l := le q hq
    refine ⟨(fm_gt hc h (by omega)).1, Nat.lt_of_not_le fun y => ?_, e⟩
    have := h.1 _ y; omega
  · have e := (h.2 q hq).2.1 h1
    have l := le q hq
    refine ⟨Nat.lt_of_not_le fun y => ?_, e⟩
    have := h.1 _ y; omega
/-- a broken place: the formula isn't just one term -/
theorem fm_no {T : Nat → Nat} {c : Nat} {E : Nat → Nat} (hc : c ≤ 12) (h : fm_E T c E) {i : Nat} (hi : i < c) (hb : E i = 13) : ¬ E 0 = c := fun h0 => by
  have := ((fm_mk hc h h0).2.2.1 i hi).2; omega
/-- the search for the token that binds the X at p -/
def fm_b (T E : Nat → Nat) (p : Nat) : Nat → Option Nat
  | 0 => none
  | k + 1 => if (T k = T p - 6 ∨ T k = T p - 3) ∧ p < E k then some k else fm_b T E p k
def fm_I : Option Nat → Int32
  | none => -1
  | some q => nI q
theorem fm_bs {T E : Nat → Nat} {p q : Nat} : ∀ k, fm_b T E p k = some q → q < k ∧ (T q = T p - 6 ∨ T q = T p - 3) ∧ p < E q := by
  intro k
  induction k with
  | zero => intro h; exact nomatch h
  | succ k ih =>
    intro h
    rw [fm_b] at h
    by_cases z : (T k = T p - 6 ∨ T k = T p - 3) ∧ p < E k
    · rw [if_pos z] at h
      cases h
      exact ⟨by omega, z⟩
    · rw [if_neg z] at h
      have := ih h
      exact ⟨by omega, this.2⟩
/-- every X below k is bound -/
def fm_v (T E : Nat → Nat) : Nat → Bool
  | 0 => true
  | k + 1 => fm_v T E k && (decide (T k < 16) || (fm_b T E k k).isSome)
/-- the fixed points below k -/
def fm_f (T : Nat → Nat) : Nat → Nat
  | 0 => 0
  | k + 1 => fm_f T k + if 10 ≤ T k ∧ T k ≤ 15 then 1 else 0
theorem fm_vm {T E : Nat → Nat} {c : Nat} (h : fm_v T E c = true) : ∀ p, p < c → 16 ≤ T p → ∃ q, fm_b T E p p = some q := by
  induction c with
  | zero => intro p hp; omega
  | succ k ih =>
    intro p hp ht
    rw [fm_v, Bool.and_eq_true, Bool.or_eq_true, decide_eq_true_eq] at h
    by_cases z : p = k
    · subst z
      rcases h.2 with a | a
      · omega
      · exact Option.isSome_iff_exists.mp a
    · exact ih h.1 p (by omega) ht
theorem fm_vf {T E : Nat → Nat} {k : Nat} (hk : 16 ≤ T k) (hb : fm_b T E k k = none) : ∀ c, k < c → fm_v T E c = false := by
  intro c
  induction c with
  | zero => intro h; omega
  | succ c ih =>
    intro h
    rw [fm_v]
    by_cases z : k = c
    · subst z
      rw [hb, decide_eq_false (by omega)]
      exact Bool.and_false _
    · rw [ih (by omega)]; exact Bool.false_and _
/-- the whole of 'sound' -/
def fm_ok (T : Nat → Nat) (c : Nat) (E : Nat → Nat) : Prop := E 0 = c ∧ fm_f T c ≤ 4 ∧ fm_v T E c = true
def fm_B (T E : Nat → Nat) (p : Nat) : Nat := (fm_b T E p p).getD 0
theorem fm_Bs {T E : Nat → Nat} {c : Nat} (hT : ∀ p, T p ≤ 18) (h : fm_v T E c = true) {p : Nat} (hp : p < c) (ht : 16 ≤ T p) : fm_b T E p p = some (fm_B T E p) ∧ fm_B T E p < p ∧ fm_x (T (fm_B T E p)) ∧ p < E (fm_B T E p) := by
  obtain ⟨q, hq⟩ := fm_vm h p hp ht
  have e : fm_B T E p = q := by unfold fm_B; rw [hq]; rfl
  rw [e]
  have := fm_bs p hq
  have l := hT p
  exact ⟨hq, this.1, ⟨by omega, by omega⟩, this.2.2⟩
/-- fixed points below k around p -/
def fm_a (T E : Nat → Nat) (p : Nat) : Nat → Nat
  | 0 => 0
  | k + 1 => fm_a T E p k + if (10 ≤ T k ∧ T k ≤ 15) ∧ p < E k then 1 else 0
theorem fm_al (T E : Nat → Nat) (p : Nat) : ∀ k, fm_a T E p k ≤ k := by
  intro k
  induction k with
  | zero => exact Nat.le_refl _
  | succ k ih =>
    rw [fm_a]
    split
    · omega
    · omega
theorem fm_fl (T : Nat → Nat) : ∀ k, fm_f T k ≤ k := by
  intro k
  induction k with
  | zero => exact Nat.le_refl _
  | succ k ih =>
    rw [fm_f]
    split
    · omega
    · omega
/-- the depth, of the tokens below k -/
def fm_d (T E : Nat → Nat) : Nat → Nat
  | 0 => 0
  | k + 1 => max (fm_d T E k) (if 10 ≤ T k ∧ T k ≤ 15 then 1 + fm_a T E k k else 0)
theorem fm_dl (T E : Nat → Nat) : ∀ k, fm_d T E k ≤ k := by
  intro k
  induction k with
  | zero => exact Nat.le_refl _
  | succ k ih =>
    rw [fm_d]
    have := fm_al T E k k
    split
    · omega
    · omega
end
