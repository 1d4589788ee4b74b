/-! The component's walks: depth, the rounds' starts, the value at a token, judge -/
section
variable (tg mk tk : Nat → Int32) (T E : Nat → Nat) (c : Nat)
theorem xa_loop {post : Int32 → Prop} (e va gi : Nat → Int32) (hc : c ≤ 12) (he : ∀ p, p ≤ c → e p = nI (E p)) (hle : ∀ p, p < c → E p ≤ 13) (htk : ∀ i, tk i = nI (T i)) (hT : ∀ i, T i ≤ 18) {p : Nat} (hp : p < c) (h : post (nI (fm_a T E p p))) : ∀ d k, k + d = p → ∀ n, d < n → wX_fixedAround_4 post (nI p) (nI c) tg mk tk e va gi n (nI (fm_a T E p k)) (nI k) := by
  intro d
  induction d with
  | zero =>
    intro k hk n hn
    cases n with
    | zero => omega
    | succ n =>
      have : k = p := by omega
      subst this
      exact br_t (nI_le (by omega) (by omega)) h
  | succ d ih =>
    intro k hk n hn
    cases n with
    | zero => omega
    | succ n =>
      have tj := tk_at tk T htk (j := k) (by omega)
      have ek : e (nI k).toNatClampNeg = nI (E k) := by rw [nI_clamp (by omega)]; exact he k (by omega)
      have l := hle k (by omega)
      have a := ih (k + 1) (by omega) n (by omega)
      rw [fm_a] at a
      have no : ¬ ((10 ≤ T k ∧ T k ≤ 15) ∧ p < E k) → ∀ y, y = nI k + 1 → wX_fixedAround_4 post (nI p) (nI c) tg mk tk e va gi n (nI (fm_a T E p k)) y := fun z y ey => by
        rw [if_neg z] at a
        rw [ey, nI_1]
        exact a
      refine br_f (nI_ge (by omega) (by omega)) ⟨pk_in k 12 (by omega), xw_fix (T k) tj (hT k) (fun z => br_f (by decide) ⟨pk_in k 14 (by omega), pk_le (E k) p (fun y => no (fun w => by have := w.2; omega)) (fun y => ?_) ek⟩) (fun z => br_t rfl (no (fun w => z w.1)))⟩
      intro x ex y' ey
      have z' : (10 ≤ T k ∧ T k ≤ 15) ∧ p < E k := ⟨z, y⟩
      rw [if_pos z'] at a
      rw [ex, ey, nI_1, nI_1]
      exact a
theorem xd_loop {post : Int32 → Prop} (e va gi : Nat → Int32) (hc : c ≤ 12) (he : ∀ p, p ≤ c → e p = nI (E p)) (hle : ∀ p, p < c → E p ≤ 13) (htk : ∀ i, tk i = nI (T i)) (hT : ∀ i, T i ≤ 18) (h : post (nI (fm_d T E c))) : ∀ d k, k + d = c → ∀ n, d < n → wX_deepestNesting_4 post (nI c) tg mk tk e va gi n (nI (fm_d T E k)) (nI k) := by
  intro d
  induction d with
  | zero =>
    intro k hk n hn
    cases n with
    | zero => omega
    | succ n =>
      have : k = c := by omega
      subst this
      exact br_t (nI_le (by omega) (by omega)) h
  | succ d ih =>
    intro k hk n hn
    cases n with
    | zero => omega
    | succ n =>
      have tj := tk_at tk T htk (j := k) (by omega)
      have a := ih (k + 1) (by omega) n (by omega)
      rw [fm_d] at a
      have ld := fm_dl T E k
      have la := fm_al T E k k
      have go : ∀ (m : Nat) (x : Int32), x = nI m → m ≤ 13 → (if 10 ≤ T k ∧ T k ≤ 15 then 1 + fm_a T E k k else 0) = m → wX_deepestNesting_35 post (wX_deepestNesting_4 post (nI c) tg mk tk e va gi n) (nI (fm_d T E k)) (nI k) x (nI c) tg mk tk e va gi := by
        intro m x hx hm em
        rw [em] at a
        refine pk_le m (fm_d T E k) (fun z y ey => ?_) (fun z y ey => ?_) hx
        · rw [show max (fm_d T E k) m = fm_d T E k by omega] at a
          rw [ey, nI_1]; exact a
        · rw [show max (fm_d T E k) m = m by omega] at a
          rw [ey, nI_1, hx]; exact a
      refine br_f (nI_ge (by omega) (by omega)) ⟨pk_in k 12 (by omega), xw_fix (T k) tj (hT k) (fun z => br_f (by decide) ⟨k + 1, xa_loop tg mk tk T E c e va gi hc he hle htk hT (by omega) ?_ k 0 (by omega) (k + 1) (by omega)⟩) (fun z => br_t rfl (go 0 0 rfl (by omega) (if_neg z)))⟩
      exact go (1 + fm_a T E k k) _ (nI_add 1 _) (by omega) (if_pos z)
theorem xd_deep {post : Int32 → Prop} (e va gi : Nat → Int32) (hc : c ≤ 12) (he : ∀ p, p ≤ c → e p = nI (E p)) (hle : ∀ p, p < c → E p ≤ 13) (htk : ∀ i, tk i = nI (T i)) (hT : ∀ i, T i ≤ 18) (h : post (nI (fm_d T E c))) : wpX_deepestNesting post (nI c, tg, mk, tk, e, va, gi) :=
  ⟨c + 1, xd_loop tg mk tk T E c e va gi hc he hle htk hT h c 0 (by omega) (c + 1) (by omega)⟩
theorem xi_loop {post : SX → Prop} (e va gi : Nat → Int32) (htk : ∀ i, tk i = nI (T i)) (hT : ∀ i, T i ≤ 18) (fr to : Nat) (ht : to ≤ 12) (h : ∀ g', (∀ p, fr ≤ p → p < to → fm_x (T p) → g' p = ve_n T p) → (∀ p, p < fr ∨ to ≤ p → g' p = gi p) → post (nI c, tg, mk, tk, e, va, g')) : ∀ d k, k + d = to → fr ≤ k → ∀ a, (∀ p, fr ≤ p → p < k → fm_x (T p) → a p = ve_n T p) → (∀ p, p < fr ∨ k ≤ p → a p = gi p) → ∀ n, d < n → wX_startFixedPoints_2 post (nI to) (nI c) n (nI k) tg mk tk e va a := by
  intro d
  induction d with
  | zero =>
    intro k hk hf a h1 h2 n hn
    cases n with
    | zero => omega
    | succ n =>
      have : k = to := by omega
      subst this
      exact br_t (nI_le (by omega) (by omega)) (h a h1 h2)
  | succ d ih =>
    intro k hk hf a h1 h2 n hn
    cases n with
    | zero => omega
    | succ n =>
      have tj := tk_at tk T htk (j := k) (by omega)
      have go : ∀ v : Int32, (fm_x (T k) → v = ve_n T k) → ∀ b, b = upd a (nI k).toNatClampNeg v → ∀ y, y = nI k + 1 → wX_startFixedPoints_2 post (nI to) (nI c) n y tg mk tk e va b := by
        intro v hv b eb y ey
        rw [ey, nI_1]
        rw [nI_clamp (by omega)] at eb
        refine ih (k + 1) (by omega) (by omega) b (fun p hp hp' hx => ?_) (fun p hp => ?_) n (by omega)
        · rw [eb]
          by_cases z : p = k
          · subst z; rw [pk_us]; exact hv hx
          · rw [pk_un z]; exact h1 p hp (by omega) hx
        · rw [eb, pk_un (by omega)]; exact h2 p (by omega)
      refine br_f (nI_ge (by omega) (by omega)) ⟨pk_in k 12 (by omega), xw_lst (T k) tj (hT k) (fun y z => br_f (by decide) ⟨pk_in k 14 (by omega), go 0 (fun _ => (if_pos z).symm)⟩) (fun y => br_t rfl ⟨pk_in k 14 (by omega), go 63 (fun z => (if_neg (by have := z.1; omega)).symm)⟩)⟩
theorem xi_start {post : SX → Prop} (e va gi : Nat → Int32) (htk : ∀ i, tk i = nI (T i)) (hT : ∀ i, T i ≤ 18) (fr to : Nat) (ht : to ≤ 12) (hf : fr ≤ to) {x y : Int32} (hx : x = nI fr) (hy : y = nI to) (h : ∀ g', (∀ p, fr ≤ p → p < to → fm_x (T p) → g' p = ve_n T p) → (∀ p, p < fr ∨ to ≤ p → g' p = gi p) → post (nI c, tg, mk, tk, e, va, g')) : wpX_startFixedPoints post (nI c, tg, mk, tk, e, va, gi) x y := by
  subst hx hy
  exact ⟨to - fr + 1, xi_loop tg mk tk T c e va gi htk hT fr to ht h (to - fr) fr (by omega) (Nat.le_refl _) gi (fun p a b => by omega) (fun _ _ => rfl) _ (by omega)⟩
theorem xp_loop {post : Int32 → Prop} (n0 : Int32) (e va gi : Nat → Int32) (Z : Int32) (h : post (sb_p tg Z 6)) : ∀ d k, k + d = 6 → ∀ n, d < n → wX_statesWithStepInto_4 post Z n0 tg mk tk e va gi n (sb_p tg Z k) (nI k) := by
  intro d
  induction d with
  | zero =>
    intro k hk n hn
    cases n with
    | zero => omega
    | succ n =>
      have : k = 6 := by omega
      subst this
      exact br_t (by decide) h
  | succ d ih =>
    intro k hk n hn
    cases n with
    | zero => omega
    | succ n =>
      have a := ih (k + 1) (by omega) n (by omega)
      rw [sb_p] at a
      refine br_f (nI_ge (b := 6) (by omega) (by omega)) ⟨pk_in k 6 (by omega), ?_⟩
      rw [nI_clamp (by omega)]
      refine br_c (fun z y ey => ?_) (fun z x ex y ey => ?_)
      · rw [if_pos z] at a
        rw [ey, nI_1]; exact a
      · rw [if_neg z] at a
        rw [ex, ey, nI_1]; exact a
theorem xp_into {post : Int32 → Prop} (n0 : Int32) (e va gi : Nat → Int32) (Z : Int32) (h : post (sb_p tg Z 6)) : wpX_statesWithStepInto post (n0, tg, mk, tk, e, va, gi) Z :=
  ⟨7, xp_loop tg mk tk n0 e va gi Z h 6 0 rfl 7 (by omega)⟩
theorem xv_at {post : Int32 → Prop} (e va gi : Nat → Int32) (he : ∀ p, p ≤ c → e p = nI (E p)) (htk : ∀ i, tk i = nI (T i)) (hT : ∀ i, T i ≤ 18) (hS : fm_S T c E) (hv : fm_v T E c = true) {p : Nat} (hp : p < c) (h : post (vo_p tg mk (T p) (va (p + 1)) (va (E (p + 1))) (va (p + 1)) (gi (fm_B T E p)))) : wpX_valueAt post (nI c, tg, mk, tk, e, va, gi) (nI p) := by
  have hc := hS.1
  have tj := tk_at tk T htk (j := p) (by omega)
  have hle : ∀ q, q < c → E q ≤ 13 := fun q hq => by have := (hS.2.2.1 q hq).2; omega
  have g2 := hS.2.2.2.1 p hp
  have g1 := hS.2.2.2.2.1 p hp
  have e1 : e (nI p + 1).toNatClampNeg = nI (E (p + 1)) := by rw [nI_1, nI_clamp (by omega)]; exact he (p + 1) (by omega)
  have v1 : va (nI p + 1).toNatClampNeg = va (p + 1) := by rw [nI_1, nI_clamp (by omega)]
  have ht := hT p
  obtain ⟨t, et⟩ : ∃ t, T p = t := ⟨_, rfl⟩
  rw [et] at h tj g2 g1 ht
  refine ⟨pk_in p 12 (by omega), fun x ex => ?_⟩
  have ex' : x = nI t := ex.trans tj
  subst ex'
  refine pk_le 3 t (fun h3 => pk_le 6 t (fun h6 => xw_var t rfl ht (fun hw => br_f (by decide) ?_) (fun hw => br_t rfl ⟨pk_in (p + 1) 14 (by omega) (nI_1 p), fun y ey => ?_⟩)) (fun h6 => ⟨pk_in (t - 3) 3 (by omega) (pk_sub h3), ?_⟩)) (fun h3 => ⟨pk_in t 3 h3, ?_⟩)
  · have b := fm_Bs hT hv hp (by omega)
    rw [vo_v tg mk hw] at h
    refine xb_of tg mk tk va gi T E c e hc he hle htk hT hp (by omega) ?_
    rw [b.1]
    refine br_f (fun w => ?_) ⟨pk_in (fm_B T E p) 14 (by omega), ?_⟩
    · have w' : nI (fm_B T E p) = -1 := w
      have : ¬ nI (fm_B T E p) < 0 := nI_pos (by omega)
      rw [w'] at this
      exact this (by decide)
    · show post (gi (nI (fm_B T E p)).toNatClampNeg)
      rw [nI_clamp (by omega)]; exact h
  · have ey' : y = va (p + 1) := ey.trans v1
    subst ey'
    refine pk_lt t 6 (fun z => absurd h6 (by omega)) (fun _ => pk_lt 9 t (fun h9 => ?_) (fun h9 => pk_eq t 6 (fun z => ?_) (fun z6 => pk_eq t 7 (fun z => ?_) (fun z7 => pk_eq t 8 (fun z => ?_) (fun z8 => pk_eq t 9 (fun z => ?_) (fun z9 => trivial))))))
    · rw [vo_f tg mk ⟨by omega, by omega⟩] at h; exact h
    · have q := g2 (Or.inl z)
      rw [vo_6 tg mk z] at h
      refine ⟨pk_in (p + 1) 14 (by omega) (nI_1 p), pk_in (E (p + 1)) 14 (by omega) e1, ?_⟩
      rw [e1, nI_clamp (by omega)]; exact h
    · have q := g2 (Or.inr z)
      rw [vo_7 tg mk z] at h
      refine ⟨pk_in (p + 1) 14 (by omega) (nI_1 p), pk_in (E (p + 1)) 14 (by omega) e1, ?_⟩
      rw [e1, nI_clamp (by omega)]; exact h
    · rw [vo_8 tg mk z] at h
      exact xp_into tg mk tk (nI c) e va gi _ h
    · rw [vo_9 tg mk z] at h
      exact xp_into tg mk tk (nI c) e va gi _ h
  · rw [vo_n tg mk h3 h6] at h
    have : nI t - 3 = nI (t - 3) := pk_sub h3
    rw [this, nI_clamp (by omega)]; exact h
  · rw [vo_m tg mk h3] at h
    rw [nI_clamp (by omega)]; exact h
end
