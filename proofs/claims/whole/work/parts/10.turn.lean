/-! turn, and states as arguments -/
/-- a token's counterpart -/
def tn_c (t : Nat) : Nat := if 16 ≤ t then t else if 13 ≤ t then t - 3 else if 10 ≤ t then t + 3 else if t = 9 then 8 else if t = 8 then 9 else if t = 7 then 6 else if t = 6 then 7 else if 3 ≤ t then t - 3 else t + 3
theorem tn_a : ∀ t, t < 19 → ((3 ≤ t ∧ t < 6) ∨ (13 ≤ t ∧ t < 16)) → nI t - 3 = nI (tn_c t) := by decide +kernel
theorem tn_b : ∀ t, t < 19 → (t < 3 ∨ (10 ≤ t ∧ t < 13)) → nI t + 3 = nI (tn_c t) := by decide +kernel
theorem tn_v : ∀ t, t < 19 → 16 ≤ t → nI t = nI (tn_c t) := by decide +kernel
theorem tn_e : ∀ t, t < 19 → 6 ≤ t → t ≤ 9 → nI t - nI t / 2 * 2 = 0 → nI t + 1 = nI (tn_c t) := by decide +kernel
theorem tn_o : ∀ t, t < 19 → 6 ≤ t → t ≤ 9 → ¬ nI t - nI t / 2 * 2 = 0 → nI t - 1 = nI (tn_c t) := by decide +kernel
theorem tn_l : ∀ t, t < 19 → tn_c t ≤ 18 := by decide +kernel
theorem xw_cp {post : Int32 → Prop} {x : Int32} (t : Nat) (hx : x = nI t) (ht : t ≤ 18) (h : post (nI (tn_c t))) : wpX_counterpart post x := by
  subst hx
  refine xw_var t rfl ht (fun z => br_f (by decide) ?_) (fun z => br_t rfl (pk_lt t 10 (fun z10 => pk_lt t 8 (fun z8 => pk_lt t 6 (fun z6 => pk_le 3 t (fun z3 => ?_) (fun z3 => ?_)) (fun z6 => pk_eq t 6 (fun w => ?_) (fun w => ?_))) (fun z8 => pk_eq t 8 (fun w => ?_) (fun w => ?_))) (fun z10 => xw_lst t rfl ht (fun a b => br_f (by decide) ?_) (fun a => br_t rfl ?_))))
  · rw [tn_v t (by omega) z]; exact h
  · rw [tn_a t (by omega) (by omega)]; exact h
  · rw [tn_b t (by omega) (by omega)]; exact h
  · subst w; exact h
  · have w7 : t = 7 := by omega
    subst w7; exact h
  · subst w; exact h
  · have w9 : t = 9 := by omega
    subst w9; exact h
  · rw [tn_b t (by omega) (by omega)]; exact h
  · rw [tn_a t (by omega) (by omega)]; exact h
theorem yw_cp {post : Int32 → Prop} (u : SY) {x : Int32} (t : Nat) (hx : x = nI t) (ht : t ≤ 18) (h : post (nI (tn_c t))) : wpY_counterpart post u x := by
  subst hx
  obtain ⟨a, b, c, d, e, f, g, h', i⟩ := u
  refine pk_lt 5 t (fun z5 => pk_lt 9 t (fun z9 => pk_lt 15 t (fun z => ?_) (fun z => pk_le 13 t (fun w => ?_) (fun w => ?_))) (fun z9 => ⟨by decide, br_c (fun w => ?_) (fun w => ?_)⟩)) (fun z5 => pk_le 3 t (fun z3 => ?_) (fun z3 => ?_))
  · rw [tn_v t (by omega) (by omega)]; exact h
  · rw [tn_a t (by omega) (by omega)]; exact h
  · rw [tn_b t (by omega) (by omega)]; exact h
  · rw [tn_e t (by omega) (by omega) (by omega) w]; exact h
  · rw [tn_o t (by omega) (by omega) (by omega) w]; exact h
  · rw [tn_a t (by omega) (by omega)]; exact h
  · rw [tn_b t (by omega) (by omega)]; exact h
/-- the tokens when those below k are turned -/
def tn_t (T : Nat → Nat) (k : Nat) : Nat → Nat := fun i => if i < k then tn_c (T i) else T i
/-- how many of those below k changed -/
def tn_n (T : Nat → Nat) : Nat → Nat
  | 0 => 0
  | k + 1 => tn_n T k + if tn_c (T k) = T k then 0 else 1
theorem tn_nl (T : Nat → Nat) : ∀ k, tn_n T k ≤ k := by
  intro k
  induction k with
  | zero => exact Nat.le_refl _
  | succ k ih =>
    rw [tn_n]
    split
    · omega
    · omega
theorem tn_k (T : Nat → Nat) (k : Nat) : tn_t T k k = T k := if_neg (by omega)
theorem tn_s (T : Nat → Nat) (k : Nat) : upd (fun i => nI (tn_t T k i)) k (nI (tn_c (T k))) = fun i => nI (tn_t T (k + 1) i) := by
  funext i
  by_cases z : i = k
  · subst z
    rw [pk_us]
    show _ = nI (if i < i + 1 then tn_c (T i) else T i)
    rw [if_pos (by omega)]
  · rw [pk_un z]
    show nI (if i < k then tn_c (T i) else T i) = nI (if i < k + 1 then tn_c (T i) else T i)
    by_cases w : i < k
    · rw [if_pos w, if_pos (by omega)]
    · rw [if_neg w, if_neg (by omega)]
theorem tn_q {T : Nat → Nat} {k : Nat} (h : tn_c (T k) = T k) : (fun i => nI (tn_t T k i)) = fun i => nI (tn_t T (k + 1) i) := by
  rw [← tn_s T k, h]
  funext i
  by_cases z : i = k
  · subst z; rw [pk_us, tn_k]
  · rw [pk_un z]
theorem xt_loop {post : Int32 → SX → Prop} (tg mk e va gi : Nat → Int32) (T : Nat → Nat) (c : Nat) (hc : c ≤ 12) (hT : ∀ i, T i ≤ 18) (h : post (nI (tn_n T c)) (nI c, tg, mk, fun i => nI (tn_t T c i), e, va, gi)) : ∀ d k, k + d = c → ∀ n, d < n → wX_turn_4 post (nI c) n (nI (tn_n T k)) (nI k) tg mk (fun i => nI (tn_t T k i)) e va gi := by
  intro d
  induction d with
  | zero =>
    intro k hk n hn
    cases n with
    | zero => omega
    | succ n =>
      have : k = c := by omega
      subst this
      exact br_t (nI_le (by omega) (by omega)) h
  | succ d ih =>
    intro k hk n hn
    cases n with
    | zero => omega
    | succ n =>
      have a := ih (k + 1) (by omega) n (by omega)
      have tj : (fun i => nI (tn_t T k i)) (nI k).toNatClampNeg = nI (T k) := by
        rw [nI_clamp (by omega)]
        show nI (tn_t T k k) = _
        rw [tn_k]
      have l := hT k
      have l2 := tn_l (T k) (by omega)
      refine br_f (nI_ge (by omega) (by omega)) ⟨pk_in k 12 (by omega), xw_cp (T k) tj l ⟨pk_in k 12 (by omega), pk_eq (tn_c (T k)) (T k) (fun z y ey => ?_) (fun z => ⟨pk_in k 12 (by omega), fun b eb x ex y ey => ?_⟩) rfl tj⟩⟩
      · rw [tn_n, if_pos z, ← tn_q z] at a
        rw [ey, nI_1]; exact a
      · rw [tn_n, if_neg z] at a
        rw [nI_clamp (by omega), tn_s] at eb
        rw [ex, ey, eb, nI_1, nI_1]; exact a
theorem yt_loop {post : Int32 → SY → Prop} (tg mk e bi fi bo st : Nat → Int32) (T : Nat → Nat) (c : Nat) (hc : c ≤ 12) (hT : ∀ i, T i ≤ 18) (h : post (nI (tn_n T c)) (nI c, tg, mk, fun i => nI (tn_t T c i), e, bi, fi, bo, st)) : ∀ d k, k + d = c → ∀ n, d < n → wY_turn_4 post (nI c) n (nI (tn_n T k)) (nI k) tg mk (fun i => nI (tn_t T k i)) e bi fi bo st := by
  intro d
  induction d with
  | zero =>
    intro k hk n hn
    cases n with
    | zero => omega
    | succ n =>
      have : k = c := by omega
      subst this
      exact br_t (nI_le (by omega) (by omega)) h
  | succ d ih =>
    intro k hk n hn
    cases n with
    | zero => omega
    | succ n =>
      have a := ih (k + 1) (by omega) n (by omega)
      have tj : (fun i => nI (tn_t T k i)) (nI k).toNatClampNeg = nI (T k) := by
        rw [nI_clamp (by omega)]
        show nI (tn_t T k k) = _
        rw [tn_k]
      have l := hT k
      have l2 := tn_l (T k) (by omega)
      refine br_f (nI_ge (by omega) (by omega)) ⟨pk_in k 12 (by omega), yw_cp _ (T k) tj l ⟨pk_in k 12 (by omega), pk_eq (tn_c (T k)) (T k) (fun z => ⟨pk_in k 12 (by omega), fun b eb y ey => ?_⟩) (fun z x ex => ⟨pk_in k 12 (by omega), fun b eb y ey => ?_⟩) rfl tj⟩⟩
      · rw [tn_n, if_pos z] at a
        rw [nI_clamp (by omega), tn_s] at eb
        rw [ey, eb, nI_1]; exact a
      · rw [tn_n, if_neg z] at a
        rw [nI_clamp (by omega), tn_s] at eb
        rw [ex, ey, eb, nI_1, nI_1]; exact a
/-- a state's number -/
def st_p (x : Int32) : Prop := ∃ j, j < 6 ∧ x = nI j
theorem xw_state {post : Int32 → Prop} {x : Int32} (h1 : st_p x → post 1) (h0 : ¬ st_p x → post 0) : wpX_isState post x := by
  rcases pk_ix x (n := 6) (by omega) with z | z | ⟨j, hj, e⟩
  · refine br_t z (h0 fun ⟨j, hj, e⟩ => ?_)
    rw [e] at z
    exact nI_pos (by omega) z
  · have z6 : (6 : Int32) ≤ x := z
    refine br_f (Int32.not_lt.mpr (Int32.le_trans (by decide) z6)) (br_t z6 (h0 fun ⟨j, hj, e⟩ => ?_))
    rw [e] at z
    exact nI_ge hj (by omega) z
  · have h := h1 ⟨j, hj, e⟩
    subst e
    exact br_f (nI_pos (by omega)) (br_f (nI_ge (b := 6) hj (by omega)) h)
theorem yw_state {post : Int32 → Prop} (u : SY) {x : Int32} (h1 : st_p x → post 1) (h0 : ¬ st_p x → post 0) : wpY_isState post u x := by
  obtain ⟨a, b, c, d, e, f, g, h', i⟩ := u
  rcases pk_ix x (n := 6) (by omega) with z | z | ⟨j, hj, e⟩
  · refine br_t z (h0 fun ⟨j, hj, e⟩ => ?_)
    rw [e] at z
    exact nI_pos (by omega) z
  · have z6 : (6 : Int32) ≤ x := z
    refine br_f (Int32.not_lt.mpr (Int32.le_trans (by decide) z6)) (br_t (Int32.lt_of_lt_of_le (by decide) z6) (h0 fun ⟨j, hj, e⟩ => ?_))
    rw [e] at z
    exact nI_ge hj (by omega) z
  · have h := h1 ⟨j, hj, e⟩
    subst e
    exact br_f (nI_pos (by omega)) (br_f (nI_nlt (a := 5) (by omega) (by omega)) h)
