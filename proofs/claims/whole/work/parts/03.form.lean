/-! The formula: T its tokens, c their number, E the ends of the terms -/
def fm_2 (t : Nat) : Prop := t = 6 ∨ t = 7
def fm_1 (t : Nat) : Prop := 8 ≤ t ∧ t ≤ 15
def fm_x (t : Nat) : Prop := 10 ≤ t ∧ t ≤ 15
theorem fm_x1 {t : Nat} (h : fm_x t) : fm_1 t := ⟨by have := h.1; omega, h.2⟩
/-- what the end of the term at p must be -/
def fm_R (T E : Nat → Nat) (p e : Nat) : Prop := (fm_2 (T p) → e = E (E (p + 1))) ∧ (fm_1 (T p) → e = E (p + 1)) ∧ (¬ fm_2 (T p) → ¬ fm_1 (T p) → e = p + 1)
def fm_E (T : Nat → Nat) (c : Nat) (E : Nat → Nat) : Prop := (∀ p, c ≤ p → E p = 13) ∧ ∀ p, p < c → fm_R T E p (E p)
theorem fm_Rx (T E : Nat → Nat) (p : Nat) : ∃ e, fm_R T E p e := by
  unfold fm_R fm_2 fm_1
  by_cases h2 : T p = 6 ∨ T p = 7
  · exact ⟨E (E (p + 1)), fun _ => rfl, fun h => by omega, fun h => absurd h2 h⟩
  · by_cases h1 : 8 ≤ T p ∧ T p ≤ 15
    · exact ⟨E (p + 1), fun h => absurd h h2, fun _ => rfl, fun _ h => absurd h1 h⟩
    · exact ⟨p + 1, fun h => absurd h h2, fun h => absurd h h1, fun _ _ => rfl⟩
theorem fm_Rk {T E : Nat → Nat} {p e : Nat} (h : fm_R T E p e) : e = E (E (p + 1)) ∨ e = E (p + 1) ∨ e = p + 1 := by
  by_cases h2 : fm_2 (T p)
  · exact Or.inl (h.1 h2)
  · by_cases h1 : fm_1 (T p)
    · exact Or.inr (Or.inl (h.2.1 h1))
    · exact Or.inr (Or.inr (h.2.2 h2 h1))
theorem fm_Rc {T E E' : Nat → Nat} {p e : Nat} (h : fm_R T E p e) (h1 : E' (p + 1) = E (p + 1)) (h2 : E' (E (p + 1)) = E (E (p + 1))) : fm_R T E' p e :=
  ⟨fun a => by rw [h1, h2]; exact h.1 a, fun a => by rw [h1]; exact h.2.1 a, h.2.2⟩
theorem fm_ex1 (T : Nat → Nat) (c : Nat) (hc : c ≤ 12) : ∀ k, k ≤ c → ∃ E : Nat → Nat, (∀ p, c ≤ p → E p = 13) ∧ (∀ p, c - k ≤ p → p ≤ 12 → p < E p) ∧ ∀ p, c - k ≤ p → p < c → fm_R T E p (E p) := by
  intro k
  induction k with
  | zero => exact fun _ => ⟨fun _ => 13, fun _ _ => rfl, fun p _ h => show p < 13 by omega, fun p h h' => by omega⟩
  | succ k ih =>
    intro hk
    obtain ⟨E, h0, h1, h2⟩ := ih (by omega)
    obtain ⟨m, hm⟩ : ∃ m, c - (k + 1) = m := ⟨_, rfl⟩
    obtain ⟨e, he⟩ := fm_Rx T E m
    have m1 : m < E (m + 1) := by
      by_cases z : m + 1 ≤ 12
      · have := h1 (m + 1) (by omega) z; omega
      · have := h0 (m + 1) (by omega); omega
    have me : m < e := by
      rcases fm_Rk he with q | q | q
      · by_cases z : E (m + 1) ≤ 12
        · have := h1 (E (m + 1)) (by omega) z; omega
        · have := h0 (E (m + 1)) (by omega); omega
      · omega
      · omega
    have hE : ∀ p, p ≠ m → (if p = m then e else E p) = E p := fun p hp => if_neg hp
    refine ⟨fun p => if p = m then e else E p, fun p hp => ?_, fun p hp h12 => ?_, fun p hp hpc => ?_⟩
    · show (if p = m then e else E p) = 13
      rw [hE p (by omega)]; exact h0 p hp
    · show p < (if p = m then e else E p)
      by_cases z : p = m
      · rw [if_pos z]; omega
      · rw [if_neg z]; exact h1 p (by omega) h12
    · by_cases z : p = m
      · rw [z]
        have : (if m = m then e else E m) = e := if_pos rfl
        show fm_R T _ m (if m = m then e else E m)
        rw [this]
        exact fm_Rc he (hE _ (by omega)) (hE _ (by omega))
      · show fm_R T _ p (if p = m then e else E p)
        rw [if_neg z]
        have hp1 : p < E (p + 1) := by
          by_cases y : p + 1 ≤ 12
          · have := h1 (p + 1) (by omega) y; omega
          · have := h0 (p + 1) (by omega); omega
        exact fm_Rc (h2 p (by omega) hpc) (hE _ (by omega)) (hE _ (by omega))
theorem fm_ex (T : Nat → Nat) (c : Nat) (hc : c ≤ 12) : ∃ E, fm_E T c E := by
  obtain ⟨E, h0, _, h2⟩ := fm_ex1 T c hc c (Nat.le_refl c)
  exact ⟨E, h0, fun p hp => h2 p (by omega) hp⟩
theorem fm_gt1 {T : Nat → Nat} {c : Nat} {E : Nat → Nat} (hc : c ≤ 12) (h : fm_E T c E) : ∀ k p, 13 - p ≤ k → p ≤ 12 → p < E p ∧ E p ≤ 13 := by
  intro k
  induction k with
  | zero => intro p h1 h2; omega
  | succ k ih =>
    intro p h1 h2
    by_cases z : c ≤ p
    · rw [h.1 p z]; omega
    · have a : p + 1 ≤ 12 := by omega
      have b := ih (p + 1) (by omega) a
      rcases fm_Rk (h.2 p (by omega)) with q | q | q
      · by_cases y : E (p + 1) ≤ 12
        · have := ih (E (p + 1)) (by omega) y; omega
        · have := h.1 (E (p + 1)) (by omega); omega
      · omega
      · omega
theorem fm_gt {T : Nat → Nat} {c : Nat} {E : Nat → Nat} (hc : c ≤ 12) (h : fm_E T c E) {p : Nat} (hp : p ≤ 12) : p < E p ∧ E p ≤ 13 := fm_gt1 hc h (13 - p) p (Nat.le_refl _) hp
theorem fm_nest {T : Nat → Nat} {c : Nat} {E : Nat → Nat} (hc : c ≤ 12) (h : fm_E T c E) : ∀ k p, c - p ≤ k → p < c → E p ≤ c → ∀ q, p ≤ q → q < E p → E q ≤ E p := by
  intro k
  induction k with
  | zero => intro p h1 h2; omega
  | succ k ih =>
    intro p h1 hp he q hq hqe
    by_cases z : q = p
    · rw [z]; exact Nat.le_refl _
    · have g1 := fm_gt hc h (p := p + 1) (by omega)
      rcases fm_Rk (h.2 p hp) with e | e | e
      · have m : E (p + 1) < c := by
          refine Nat.lt_of_not_le fun y => ?_
          have := h.1 _ y; omega
        have g2 := fm_gt hc h (p := E (p + 1)) (by omega)
        by_cases y : q < E (p + 1)
        · have := ih (p + 1) (by omega) (by omega) (by omega) q (by omega) y; omega
        · rw [e]; exact ih (E (p + 1)) (by omega) m (by omega) q (by omega) (by omega)
      · by_cases y : p + 1 < c
        · rw [e]; exact ih (p + 1) (by omega) y (by omega) q (by omega) (by omega)
        · have := h.1 (p + 1) (by omega); omega
      · omega
/-- a formula that is just one term -/
def fm_S (T : Nat → Nat) (c : Nat) (E : Nat → Nat) : Prop :=
  c ≤ 12 ∧ 0 < c ∧ (∀ q, q < c → q < E q ∧ E q ≤ c) ∧ (∀ q, q < c → fm_2 (T q) → q + 1 < E (q + 1) ∧ E (q + 1) < c ∧ E q = E (E (q + 1))) ∧ (∀ q, q < c → fm_1 (T q) → q + 1 < c ∧ E q = E (q + 1)) ∧ (∀ q, q < c → ¬ fm_2 (T q) → ¬ fm_1 (T q) → E q = q + 1) ∧ (∀ p q, p < c → p ≤ q → q < E p → E q ≤ E p)
theorem fm_mk {T : Nat → Nat} {c : Nat} {E : Nat → Nat} (hc : c ≤ 12) (h : fm_E T c E) (h0 : E 0 = c) : fm_S T c E := by
  have c0 : 0 < c := by
    refine Nat.lt_of_not_le fun z => ?_
    have := h.1 0 z; omega
  have ne := fun p => fm_nest hc h c p (by omega)
  have le : ∀ q, q < c → E q ≤ c := fun q hq => by
    have := ne 0 c0 (by omega) q (by omega) (by omega); omega
  refine ⟨hc, c0, fun q hq => ⟨(fm_gt hc h (by omega)).1, le q hq⟩, fun q hq h2 => ?_, fun q hq h1 => ?_, fun q hq => (h.2 q hq).2.2, fun p q hp a b => ne p hp (le p hp) q a b⟩
  · have e := (h.2 q hq).1 h2
    have l := le q hq
    refine ⟨(fm_gt hc h (by omega)).1, Nat.lt_of_not_le fun y => ?_, e⟩
    have := h.1 _ y; omega
  · have e := (h.2 q hq).2.1 h1
    have l := le q hq
    refine ⟨Nat.lt_of_not_le fun y => ?_, e⟩
    have := h.1 _ y; omega
/-- a broken place: the formula isn't just one term -/
theorem fm_no {T : Nat → Nat} {c : Nat} {E : Nat → Nat} (hc : c ≤ 12) (h : fm_E T c E) {i : Nat} (hi : i < c) (hb : E i = 13) : ¬ E 0 = c := fun h0 => by
  have := ((fm_mk hc h h0).2.2.1 i hi).2; omega
/-- the search for the token that binds the X at p -/
def fm_b (T E : Nat → Nat) (p : Nat) : Nat → Option Nat
  | 0 => none
  | k + 1 => if (T k = T p - 6 ∨ T k = T p - 3) ∧ p < E k then some k else fm_b T E p k
def fm_I : Option Nat → Int32
  | none => -1
  | some q => nI q
theorem fm_bs {T E : Nat → Nat} {p q : Nat} : ∀ k, fm_b T E p k = some q → q < k ∧ (T q = T p - 6 ∨ T q = T p - 3) ∧ p < E q := by
  intro k
  induction k with
  | zero => intro h; exact nomatch h
  | succ k ih =>
    intro h
    rw [fm_b] at h
    by_cases z : (T k = T p - 6 ∨ T k = T p - 3) ∧ p < E k
    · rw [if_pos z] at h
      cases h
      exact ⟨by omega, z⟩
    · rw [if_neg z] at h
      have := ih h
      exact ⟨by omega, this.2⟩
/-- every X below k is bound -/
def fm_v (T E : Nat → Nat) : Nat → Bool
  | 0 => true
  | k + 1 => fm_v T E k && (decide (T k < 16) || (fm_b T E k k).isSome)
/-- the fixed points below k -/
def fm_f (T : Nat → Nat) : Nat → Nat
  | 0 => 0
  | k + 1 => fm_f T k + if 10 ≤ T k ∧ T k ≤ 15 then 1 else 0
theorem fm_vm {T E : Nat → Nat} {c : Nat} (h : fm_v T E c = true) : ∀ p, p < c → 16 ≤ T p → ∃ q, fm_b T E p p = some q := by
  induction c with
  | zero => intro p hp; omega
  | succ k ih =>
    intro p hp ht
    rw [fm_v, Bool.and_eq_true, Bool.or_eq_true, decide_eq_true_eq] at h
    by_cases z : p = k
    · subst z
      rcases h.2 with a | a
      · omega
      · exact Option.isSome_iff_exists.mp a
    · exact ih h.1 p (by omega) ht
theorem fm_vf {T E : Nat → Nat} {k : Nat} (hk : 16 ≤ T k) (hb : fm_b T E k k = none) : ∀ c, k < c → fm_v T E c = false := by
  intro c
  induction c with
  | zero => intro h; omega
  | succ c ih =>
    intro h
    rw [fm_v]
    by_cases z : k = c
    · subst z
      rw [hb, decide_eq_false (by omega)]
      exact Bool.and_false _
    · rw [ih (by omega)]; exact Bool.false_and _
/-- the whole of 'sound' -/
def fm_ok (T : Nat → Nat) (c : Nat) (E : Nat → Nat) : Prop := E 0 = c ∧ fm_f T c ≤ 4 ∧ fm_v T E c = true
def fm_B (T E : Nat → Nat) (p : Nat) : Nat := (fm_b T E p p).getD 0
theorem fm_Bs {T E : Nat → Nat} {c : Nat} (hT : ∀ p, T p ≤ 18) (h : fm_v T E c = true) {p : Nat} (hp : p < c) (ht : 16 ≤ T p) : fm_b T E p p = some (fm_B T E p) ∧ fm_B T E p < p ∧ fm_x (T (fm_B T E p)) ∧ p < E (fm_B T E p) := by
  obtain ⟨q, hq⟩ := fm_vm h p hp ht
  have e : fm_B T E p = q := by unfold fm_B; rw [hq]; rfl
  rw [e]
  have := fm_bs p hq
  have l := hT p
  exact ⟨hq, this.1, ⟨by omega, by omega⟩, this.2.2⟩
/-- fixed points below k around p -/
def fm_a (T E : Nat → Nat) (p : Nat) : Nat → Nat
  | 0 => 0
  | k + 1 => fm_a T E p k + if (10 ≤ T k ∧ T k ≤ 15) ∧ p < E k then 1 else 0
theorem fm_al (T E : Nat → Nat) (p : Nat) : ∀ k, fm_a T E p k ≤ k := by
  intro k
  induction k with
  | zero => exact Nat.le_refl _
  | succ k ih =>
    rw [fm_a]
    split
    · omega
    · omega
theorem fm_fl (T : Nat → Nat) : ∀ k, fm_f T k ≤ k := by
  intro k
  induction k with
  | zero => exact Nat.le_refl _
  | succ k ih =>
    rw [fm_f]
    split
    · omega
    · omega
/-- the depth, of the tokens below k -/
def fm_d (T E : Nat → Nat) : Nat → Nat
  | 0 => 0
  | k + 1 => max (fm_d T E k) (if 10 ≤ T k ∧ T k ≤ 15 then 1 + fm_a T E k k else 0)
theorem fm_dl (T E : Nat → Nat) : ∀ k, fm_d T E k ≤ k := by
  intro k
  induction k with
  | zero => exact Nat.le_refl _
  | succ k ih =>
    rw [fm_d]
    have := fm_al T E k k
    split
    · omega
    · omega
