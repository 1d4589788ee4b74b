/-! The component's walks: classes of tokens, ends, binders, sound -/
theorem dn_0 : nI 0 - 1 < 0 := by decide
theorem dn_m (j : Nat) : nI j + (-1) = nI j - 1 := (Int32.sub_eq_add_neg (nI j) 1).symm
theorem xw_fix {post : Int32 → Prop} {x : Int32} (t : Nat) (hx : x = nI t) (ht : t ≤ 18) (h1 : fm_x t → post 1) (h0 : ¬ fm_x t → post 0) : wpX_isFixed post x :=
  pk_lt t 10 (fun z => h0 (fun y => by have := y.1; omega)) (fun z => pk_le 16 t (fun y => h0 (fun w => by have := w.2; omega)) (fun y => h1 ⟨z, by omega⟩) rfl hx) hx
theorem xw_lst {post : Int32 → Prop} {x : Int32} (t : Nat) (hx : x = nI t) (ht : t ≤ 18) (h1 : 10 ≤ t → t < 13 → post 1) (h0 : (t < 10 ∨ 13 ≤ t) → post 0) : wpX_isLeast post x :=
  pk_lt t 10 (fun z => h0 (Or.inl z)) (fun z => pk_le 13 t (fun y => h0 (Or.inr y)) (fun y => h1 z y) rfl hx) hx
theorem xw_var {post : Int32 → Prop} {x : Int32} (t : Nat) (hx : x = nI t) (ht : t ≤ 18) (h1 : 16 ≤ t → post 1) (h0 : t < 16 → post 0) : wpX_isVariable post x :=
  pk_lt t 16 h0 h1 hx
theorem xw_two {post : Int32 → Prop} {x : Int32} (t : Nat) (hx : x = nI t) (ht : t ≤ 18) (h1 : fm_2 t → post 1) (h0 : ¬ fm_2 t → post 0) : wpX_hasTwoTerms post x :=
  pk_eq t 6 (fun z => h1 (Or.inl z)) (fun z => pk_eq t 7 (fun y => h1 (Or.inr y)) (fun y => h0 (fun w => w.elim z y)) hx) hx
theorem xw_one {post : Int32 → Prop} {x : Int32} (t : Nat) (hx : x = nI t) (ht : t ≤ 18) (h1 : fm_1 t → post 1) (h0 : ¬ fm_1 t → post 0) : wpX_hasOneTerm post x :=
  pk_eq t 8 (fun z => h1 ⟨by omega, by omega⟩) (fun z => pk_eq t 9 (fun y => h1 ⟨by omega, by omega⟩) (fun y => xw_fix t hx ht (fun w => br_f (by decide) (h1 (fm_x1 w))) (fun w => br_t rfl (h0 (fun q => w ⟨by have := q.1; omega, q.2⟩)))) hx) hx
theorem fm_cl1 {T : Nat → Nat} {c : Nat} {E : Nat → Nat} (hc : c ≤ 12) (h : fm_E T c E) : ∀ k p, 13 - p ≤ k → p ≤ 12 → E p ≤ c ∨ E p = 13 := by
  intro k
  induction k with
  | zero => intro p h1 h2; omega
  | succ k ih =>
    intro p h1 h2
    by_cases z : c ≤ p
    · exact Or.inr (h.1 p z)
    · have g := fm_gt hc h (p := p + 1) (by omega)
      rcases fm_Rk (h.2 p (by omega)) with q | q | q
      · by_cases y : E (p + 1) ≤ 12
        · rw [q]; exact ih (E (p + 1)) (by omega) y
        · have := h.1 (E (p + 1)) (by omega); omega
      · rw [q]; exact ih (p + 1) (by omega) (by omega)
      · omega
theorem fm_cl {T : Nat → Nat} {c : Nat} {E : Nat → Nat} (hc : c ≤ 12) (h : fm_E T c E) {p : Nat} (hp : p ≤ 12) : E p ≤ c ∨ E p = 13 := fm_cl1 hc h 13 p (by omega) hp
section
variable (tg mk tk va gi : Nat → Int32) (T E : Nat → Nat) (c : Nat)
theorem tk_at (htk : ∀ i, tk i = nI (T i)) {j : Nat} (hj : j < 100) : tk (nI j).toNatClampNeg = nI (T j) := by
  rw [nI_clamp (by omega)]; exact htk j
theorem xe_loop {post : SX → Prop} (hc : c ≤ 12) (hE : fm_E T c E) (htk : ∀ i, tk i = nI (T i)) (hT : ∀ i, T i ≤ 18) (h : ∀ e', (∀ p, p ≤ c → e' p = nI (E p)) → post (nI c, tg, mk, tk, e', va, gi)) : ∀ j, j ≤ c → ∀ e, (∀ p, j ≤ p → (p ≤ c ∨ p = 13) → e p = nI (E p)) → ∀ n, j < n → wX_findEnds_27 post (nI c) n (nI j - 1) tg mk tk e va gi := by
  intro j
  induction j with
  | zero =>
    intro _ e he n hn
    cases n with
    | zero => omega
    | succ n => exact br_t dn_0 (h e (fun p hp => he p (by omega) (Or.inl hp)))
  | succ j ih =>
    intro hj e he n hn
    cases n with
    | zero => omega
    | succ n =>
      rw [nI_pred]
      have tj := tk_at tk T htk (j := j) (by omega)
      have g1 := fm_gt hc hE (p := j + 1) (by omega)
      have g2 := fm_cl hc hE (p := j + 1) (by omega)
      have e1 : e (nI j + 1).toNatClampNeg = nI (E (j + 1)) := by rw [nI_1, nI_clamp (by omega)]; exact he (j + 1) (by omega) (by omega)
      have e2 : e (e (nI j + 1).toNatClampNeg).toNatClampNeg = nI (E (E (j + 1))) := by rw [e1, nI_clamp (by omega)]; exact he _ (by omega) (by omega)
      have r := hE.2 j (by omega)
      have fin : ∀ a, a = upd e (nI j).toNatClampNeg (nI (E j)) → ∀ x, x = nI j + (-1) → wX_findEnds_27 post (nI c) n x tg mk tk a va gi := by
        intro a ea x ex
        rw [ex, dn_m]
        refine ih (by omega) a (fun p hp hp' => ?_) n (by omega)
        rw [ea, nI_clamp (by omega)]
        by_cases z : p = j
        · rw [z, pk_us]
        · rw [pk_un z]; exact he p (by omega) hp'
      refine br_f (nI_pos (by omega)) ⟨pk_in j 12 (by omega), xw_two (T j) tj (hT j) (fun h2 => br_f (by decide) ?_) (fun h2 => br_t rfl ⟨pk_in j 12 (by omega), xw_one (T j) tj (hT j) (fun h1 => br_f (by decide) ?_) (fun h1 => br_t rfl ?_)⟩)⟩
      · exact ⟨pk_in (j + 1) 14 (by omega) (nI_1 j), pk_in (E (j + 1)) 14 (by omega) e1, pk_in j 14 (by omega), fun a ea => fin a (by rw [ea, e2, ← r.1 h2])⟩
      · exact ⟨pk_in (j + 1) 14 (by omega) (nI_1 j), pk_in j 14 (by omega), fun a ea => fin a (by rw [ea, e1, ← r.2.1 h1])⟩
      · exact ⟨pk_in j 14 (by omega), fun a ea => fin a (by rw [ea, nI_1, ← r.2.2 h2 h1])⟩
theorem xe_find {post : SX → Prop} (en : Nat → Int32) (hc : c ≤ 12) (hE : fm_E T c E) (htk : ∀ i, tk i = nI (T i)) (hT : ∀ i, T i ≤ 18) (h : ∀ e', (∀ p, p ≤ c → e' p = nI (E p)) → post (nI c, tg, mk, tk, e', va, gi)) : wpX_findEnds post (nI c, tg, mk, tk, en, va, gi) := by
  intro a ea
  refine ⟨pk_in c 14 (by omega), fun b eb x ex => ⟨c + 1, ?_⟩⟩
  rw [ex]
  refine xe_loop tg mk tk va gi T E c hc hE htk hT h c (Nat.le_refl _) b (fun p hp hp' => ?_) (c + 1) (by omega)
  rw [hE.1 p hp, eb, nI_clamp (by omega)]
  by_cases z : p = c
  · rw [z, pk_us]; rfl
  · rw [pk_un z, ea, show p = 13 by omega, pk_us]; rfl
/-- the component's search for a binder -/
theorem xb_loop {post : Int32 → Prop} (e : Nat → Int32) (hc : c ≤ 12) (he : ∀ p, p ≤ c → e p = nI (E p)) (hle : ∀ p, p < c → E p ≤ 13) (htk : ∀ i, tk i = nI (T i)) (hT : ∀ i, T i ≤ 18) {p : Nat} (hp : p < c) : ∀ k, k ≤ p → post (fm_I (fm_b T E p k)) → ∀ n, k < n → wX_binderOf_31 post (nI p) (nI (T p - 6)) (nI (T p - 3)) (nI c) tg mk tk e va gi n (nI k - 1) := by
  intro k
  induction k with
  | zero =>
    intro _ h n hn
    cases n with
    | zero => omega
    | succ n => exact br_t dn_0 h
  | succ k ih =>
    intro hk h n hn
    cases n with
    | zero => omega
    | succ n =>
      rw [nI_pred]
      have tj := tk_at tk T htk (j := k) (by omega)
      have ek : e (nI k).toNatClampNeg = nI (E k) := by rw [nI_clamp (by omega)]; exact he k (by omega)
      have l := hle k (by omega)
      have l1 := hT k
      have l2 := hT p
      have no : ¬ ((T k = T p - 6 ∨ T k = T p - 3) ∧ p < E k) → ∀ x, x = nI k + (-1) → wX_binderOf_31 post (nI p) (nI (T p - 6)) (nI (T p - 3)) (nI c) tg mk tk e va gi n x := by
        intro z x ex
        rw [fm_b, if_neg z] at h
        rw [ex, dn_m]
        exact ih (by omega) h n (by omega)
      have yes : (T k = T p - 6 ∨ T k = T p - 3) → wX_binderOf_58 post (wX_binderOf_31 post (nI p) (nI (T p - 6)) (nI (T p - 3)) (nI c) tg mk tk e va gi n) (nI p) (nI (T p - 6)) (nI (T p - 3)) (nI k) (nI c) tg mk tk e va gi := fun y =>
        ⟨pk_in k 14 (by omega), pk_le (E k) p (fun z => no (fun w => by have := w.2; omega)) (fun z => by rw [fm_b, if_pos ⟨y, z⟩] at h; exact h) ek⟩
      exact br_f (nI_pos (by omega)) ⟨pk_in k 12 (by omega), pk_eq (T k) (T p - 6) (fun y => yes (Or.inl y)) (fun y => ⟨pk_in k 12 (by omega), pk_eq (T k) (T p - 3) (fun w => yes (Or.inr w)) (fun w => no (fun q => q.1.elim y w)) tj⟩) tj⟩
theorem xb_6 : ∀ t, t < 19 → 16 ≤ t → (nI t - 16) + 10 = nI (t - 6) := by decide +kernel
theorem xb_3 : ∀ t, t < 19 → 16 ≤ t → (nI t - 16) + 13 = nI (t - 3) := by decide +kernel
theorem xb_of {post : Int32 → Prop} (e : Nat → Int32) (hc : c ≤ 12) (he : ∀ p, p ≤ c → e p = nI (E p)) (hle : ∀ p, p < c → E p ≤ 13) (htk : ∀ i, tk i = nI (T i)) (hT : ∀ i, T i ≤ 18) {p : Nat} (hp : p < c) (h16 : 16 ≤ T p) (h : post (fm_I (fm_b T E p p))) : wpX_binderOf post (nI c, tg, mk, tk, e, va, gi) (nI p) := by
  have tj := tk_at tk T htk (j := p) (by omega)
  have l := hT p
  refine ⟨pk_in p 12 (by omega), fun x ex => ⟨pk_in p 12 (by omega), fun y ey z ez => ⟨p + 1, ?_⟩⟩⟩
  rw [ex, ey, ez, tj, xb_6 _ (by omega) h16, xb_3 _ (by omega) h16]
  exact xb_loop tg mk tk va gi T E c e hc he hle htk hT hp p (Nat.le_refl _) h (p + 1) (by omega)
theorem xc_loop {post : Int32 → Prop} (e : Nat → Int32) (hc : c ≤ 12) (htk : ∀ i, tk i = nI (T i)) (hT : ∀ i, T i ≤ 18) (h : post (nI (fm_f T c))) : ∀ d k, k + d = c → ∀ n, d < n → wX_countFixed_4 post (nI c) tg mk tk e va gi n (nI (fm_f T k)) (nI k) := by
  intro d
  induction d with
  | zero =>
    intro k hk n hn
    cases n with
    | zero => omega
    | succ n =>
      have : k = c := by omega
      subst this
      exact br_t (nI_le (by omega) (by omega)) h
  | succ d ih =>
    intro k hk n hn
    cases n with
    | zero => omega
    | succ n =>
      have tj := tk_at tk T htk (j := k) (by omega)
      have a := ih (k + 1) (by omega) n (by omega)
      rw [fm_f] at a
      refine br_f (nI_ge (by omega) (by omega)) ⟨pk_in k 12 (by omega), xw_fix (T k) tj (hT k) (fun z => br_f (by decide) ?_) (fun z => br_t rfl ?_)⟩
      · intro x ex y ey
        have z' : 10 ≤ T k ∧ T k ≤ 15 := z
        rw [if_pos z'] at a
        rw [ex, ey, nI_1, nI_1]
        exact a
      · intro y ey
        have z' : ¬ (10 ≤ T k ∧ T k ≤ 15) := z
        rw [if_neg z'] at a
        rw [ey, nI_1]
        exact a
theorem xv_loop {post : Int32 → Prop} (e : Nat → Int32) (hc : c ≤ 12) (he : ∀ p, p ≤ c → e p = nI (E p)) (hle : ∀ p, p < c → E p ≤ 13) (htk : ∀ i, tk i = nI (T i)) (hT : ∀ i, T i ≤ 18) (h1 : fm_v T E c = true → post 1) (h0 : fm_v T E c = false → post 0) : ∀ d k, k + d = c → fm_v T E k = true → ∀ n, d < n → wX_everyVariableIsBound_2 post (nI c) tg mk tk e va gi n (nI k) := by
  intro d
  induction d with
  | zero =>
    intro k hk hv n hn
    cases n with
    | zero => omega
    | succ n =>
      have : k = c := by omega
      subst this
      exact br_t (nI_le (by omega) (by omega)) (h1 hv)
  | succ d ih =>
    intro k hk hv n hn
    cases n with
    | zero => omega
    | succ n =>
      have tj := tk_at tk T htk (j := k) (by omega)
      have a := ih (k + 1) (by omega)
      have go : fm_v T E (k + 1) = true → ∀ y, y = nI k + 1 → wX_everyVariableIsBound_2 post (nI c) tg mk tk e va gi n y := fun w y ey => by
        rw [ey, nI_1]
        exact a w n (by omega)
      refine br_f (nI_ge (by omega) (by omega)) ⟨pk_in k 12 (by omega), xw_var (T k) tj (hT k) (fun z => br_f (by decide) ?_) (fun z => br_t rfl ?_)⟩
      · refine xb_of tg mk tk va gi T E c e hc he hle htk hT (by omega) z ?_
        cases q : fm_b T E k k with
        | none => exact br_t rfl (h0 (fm_vf z q c (by omega)))
        | some r =>
          have := fm_bs k q
          refine br_f (fun w => ?_) (go ?_)
          · have w' : nI r = -1 := w
            have : ¬ nI r < 0 := nI_pos (by omega)
            rw [w'] at this
            exact this (by decide)
          · rw [fm_v, hv, q]; exact Bool.or_true _
      · refine go ?_
        rw [fm_v, hv, decide_eq_true z]; rfl
theorem xs_sound {post : Int32 → SX → Prop} (en : Nat → Int32) (hc : c ≤ 12) (hE : fm_E T c E) (htk : ∀ i, tk i = nI (T i)) (hT : ∀ i, T i ≤ 18) (h1 : fm_ok T c E → ∀ e', (∀ p, p ≤ c → e' p = nI (E p)) → post 1 (nI c, tg, mk, tk, e', va, gi)) (h0 : ¬ fm_ok T c E → ∀ e', (∀ p, p ≤ c → e' p = nI (E p)) → post 0 (nI c, tg, mk, tk, e', va, gi)) : wpX_isSound post (nI c, tg, mk, tk, en, va, gi) := by
  have hle : ∀ p, p < c → E p ≤ 13 := fun p hp => (fm_gt hc hE (by omega)).2
  refine xe_find tg mk tk va gi T E c en hc hE htk hT (fun e he => ?_)
  have l0 := (fm_gt hc hE (p := 0) (by omega)).2
  have l1 := fm_fl T c
  refine pk_eq (E 0) c (fun z => ?_) (fun z => ?_) (he 0 (by omega))
  · refine ⟨c + 1, xc_loop tg mk tk va gi T c e hc htk hT ?_ c 0 (by omega) (c + 1) (by omega)⟩
    refine pk_lt 4 (fm_f T c) (fun y => ?_) (fun y => ?_)
    · exact h0 (fun w => by have := w.2.1; omega) e he
    · refine ⟨c + 1, xv_loop tg mk tk va gi T E c e hc he hle htk hT (fun v => ?_) (fun v => ?_) c 0 (by omega) rfl (c + 1) (by omega)⟩
      · exact br_f (by decide) (h1 ⟨z, y, v⟩ e he)
      · refine br_t rfl (h0 (fun w => ?_) e he)
        rw [w.2.2] at v
        exact absurd v (by decide)
  · exact h0 (fun w => z w.1) e he
end
