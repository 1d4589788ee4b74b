/-! The reference's walks: value over a stack, the last unmet fixed point, find runs the rounds -/
section
variable (tg mk tk : Nat → Int32) (T E : Nat → Nat) (c : Nat)
theorem yp_loop {post : Int32 → Prop} (n0 : Int32) (e bi fi bo st : Nat → Int32) (Z : Int32) (h : post (sb_p tg Z 6)) : ∀ d k, k + d = 6 → ∀ n, d < n → wY_stepsInto_5 post Z 0 n0 tg mk tk e bi fi bo st n (sb_p tg Z k) (nI k) := by
  intro d
  induction d with
  | zero =>
    intro k hk n hn
    cases n with
    | zero => omega
    | succ n =>
      have : k = 6 := by omega
      subst this
      exact br_t (by decide) h
  | succ d ih =>
    intro k hk n hn
    cases n with
    | zero => omega
    | succ n =>
      have a := ih (k + 1) (by omega) n (by omega)
      rw [sb_p] at a
      refine br_f (nI_ge (b := 6) (by omega) (by omega)) (br_t rfl ⟨pk_in k 6 (by omega), ?_⟩)
      rw [nI_clamp (by omega)]
      refine br_c (fun z => br_t rfl (fun y ey => ?_)) (fun z => br_f (by decide) (fun x ex y ey => ?_))
      · rw [if_pos z] at a
        rw [ey, nI_1]; exact a
      · rw [if_neg z] at a
        rw [ex, ey, nI_1]; exact a
theorem yq_loop {post : Int32 → Prop} (n0 : Int32) (e bi fi bo st : Nat → Int32) (Z : Int32) (h : post (sb_q tg Z 6)) : ∀ d k, k + d = 6 → ∀ n, d < n → wY_stepsInto_5 post Z 1 n0 tg mk tk e bi fi bo st n (sb_q tg Z k) (nI k) := by
  intro d
  induction d with
  | zero =>
    intro k hk n hn
    cases n with
    | zero => omega
    | succ n =>
      have : k = 6 := by omega
      subst this
      exact br_t (by decide) h
  | succ d ih =>
    intro k hk n hn
    cases n with
    | zero => omega
    | succ n =>
      have a := ih (k + 1) (by omega) n (by omega)
      rw [sb_q] at a
      refine br_f (nI_ge (b := 6) (by omega) (by omega)) (br_f (by decide) ⟨pk_in k 6 (by omega), ?_⟩)
      rw [nI_clamp (by omega)]
      refine br_c (fun z => br_f (by decide) (fun x ex y ey => ?_)) (fun z => br_t rfl (fun y ey => ?_))
      · rw [if_pos z] at a
        rw [ex, ey, nI_1]; exact a
      · rw [if_neg z] at a
        rw [ey, nI_1]; exact a
/-- the stack: n terms, the first of them at j -/
def ys_k (g : vEnv) (st : Nat → Int32) : Nat → Nat → Prop
  | 0, j => j = c
  | n + 1, j => j < c ∧ st n = ve_p tg mk T E g j ∧ ys_k g st n (E j)
theorem ys_ku {g : vEnv} {st : Nat → Int32} {s : Nat} {x : Int32} : ∀ n j, n ≤ s → ys_k tg mk T E c g st n j → ys_k tg mk T E c g (upd st s x) n j := by
  intro n
  induction n with
  | zero => intro j _ h; exact h
  | succ n ih =>
    intro j hn h
    exact ⟨h.1, by rw [pk_un (by omega)]; exact h.2.1, ih _ (by omega) h.2.2⟩
theorem ys_kl (hS : fm_S T c E) {g : vEnv} {st : Nat → Int32} : ∀ n j, ys_k tg mk T E c g st n j → n + j ≤ c := by
  intro n
  induction n with
  | zero => intro j h; have h' : j = c := h; omega
  | succ n ih =>
    intro j h
    have a := ih _ h.2.2
    have b := (hS.2.2.1 j h.1).1
    omega
theorem ys_kc {g : vEnv} {st : Nat → Int32} {n : Nat} (h : ys_k tg mk T E c g st n c) : n = 0 := by
  cases n with
  | zero => rfl
  | succ n => have := h.1; omega
theorem ys_kp {g : vEnv} {st : Nat → Int32} {n j : Nat} (h : ys_k tg mk T E c g st n j) (hj : j < c) : ∃ s, n = s + 1 ∧ st s = ve_p tg mk T E g j ∧ ys_k tg mk T E c g st s (E j) := by
  cases n with
  | zero => have h' : j = c := h; omega
  | succ n => exact ⟨n, rfl, h.2.1, h.2.2⟩
theorem yv_209 {post : Int32 → SY → Prop} {J : Int32 → Int32 → (Nat → Int32) → (Nat → Int32) → (Nat → Int32) → (Nat → Int32) → (Nat → Int32) → (Nat → Int32) → (Nat → Int32) → (Nat → Int32) → Prop} (hT : ∀ i, T i ≤ 18) (hS : fm_S T c E) (g : vEnv) (e bi fi bo st : Nat → Int32) {j top : Nat} (hj : j < c) (hk : ys_k tg mk T E c g st top (j + 1)) (hJ : ∀ top' st', ys_k tg mk T E c g st' top' j → J (nI top') (nI j - 1) tg mk tk e bi fi bo st') {x : Int32} (hx : x = ve_p tg mk T E g j) : wY_value_209 post J (nI top) (nI j) (nI (T j)) x (nI c) tg mk tk e bi fi bo st := by
  have hc := hS.1
  have lk := ys_kl tg mk T E c hS _ _ hk
  have g2 := hS.2.2.2.1 j hj
  have g1 := hS.2.2.2.2.1 j hj
  have key : ∀ s, ys_k tg mk T E c g st s (E j) → ∀ y, y = nI (s + 1) → (1 ≤ y → (vp_in (y - 1) 13 ∧ ∀ st', st' = upd st (y - 1).toNatClampNeg x → ∀ z, z = nI j + (-1) → J y z tg mk tk e bi fi bo st')) ∧ (¬ 1 ≤ y → ∀ st', st' = upd st 0 x → ∀ z, z = nI j + (-1) → J y z tg mk tk e bi fi bo st') := by
    intro s hs y ey
    have ls := ys_kl tg mk T E c hS _ _ hs
    rw [ey, nI_pred]
    refine br_t (nI_le (a := 1) (by omega) (by omega)) ⟨pk_in s 13 (by omega), fun st' es z ez => ?_⟩
    rw [nI_clamp (by omega)] at es
    rw [ez, dn_m]
    refine hJ (s + 1) st' ⟨hj, ?_, ?_⟩
    · rw [es, pk_us]; exact hx
    · rw [es]; exact ys_ku tg mk T E c _ _ (Nat.le_refl _) hs
  refine yw_arity _ (T j) rfl (hT j) (fun z y ey => ?_) (fun z y ey => ?_) (fun z2 z1 y ey => ?_)
  · have q := g2 z
    obtain ⟨s, rfl, _, h1⟩ := ys_kp tg mk T E c hk (by omega)
    obtain ⟨s, rfl, _, h2⟩ := ys_kp tg mk T E c h1 q.2.1
    refine key s (by rw [q.2.2]; exact h2) y ?_
    have a : nI (s + 1 + 1) - 2 = nI (s + 1 + 1 - 2) := pk_sub (a := s + 1 + 1) (b := 2) (by omega)
    rw [ey, a, nI_1]; rfl
  · have q := g1 z
    obtain ⟨s, rfl, _, h1⟩ := ys_kp tg mk T E c hk q.1
    refine key s (by rw [q.2]; exact h1) y ?_
    rw [ey, nI_pred, nI_1]
  · have q := hS.2.2.2.2.2.1 j hj z2 z1
    refine key top (by rw [q]; exact hk) y ?_
    have a : nI top - 0 = nI (top - 0) := pk_sub (b := 0) (by omega)
    rw [ey, a, nI_1]; rfl
theorem yv_55 {post : Int32 → SY → Prop} {J : Int32 → Int32 → (Nat → Int32) → (Nat → Int32) → (Nat → Int32) → (Nat → Int32) → (Nat → Int32) → (Nat → Int32) → (Nat → Int32) → (Nat → Int32) → Prop} (hg6 : ∀ s, sb_6 (tg s)) (hT : ∀ i, T i ≤ 18) (hS : fm_S T c E) (hv : fm_v T E c = true) (g : vEnv) (e bi fi bo st : Nat → Int32) (hbi : ∀ p, p < c → 16 ≤ T p → bi p = fm_I (fm_b T E p p)) (hfi : ∀ q, q < c → fm_x (T q) → fi q = g q) {j top : Nat} (hj : j < c) (hk : ys_k tg mk T E c g st top (j + 1)) (hbo : ∀ q, j + 1 ≤ q → q < c → fm_x (T q) → bo q = ve_p tg mk T E g (q + 1)) (hJ : ∀ top' bo' st', ys_k tg mk T E c g st' top' j → (∀ q, j ≤ q → q < c → fm_x (T q) → bo' q = ve_p tg mk T E g (q + 1)) → J (nI top') (nI j - 1) tg mk tk e bi fi bo' st') {a b : Int32} (ha : fm_2 (T j) ∨ fm_1 (T j) → a = ve_p tg mk T E g (j + 1)) (hb : fm_2 (T j) → b = ve_p tg mk T E g (E (j + 1))) : wY_value_55 post J (nI top) (nI j) (nI (T j)) a b (nI c) tg mk tk e bi fi bo st := by
  have hc := hS.1
  have ht := hT j
  have pe := ve_pe tg mk T E hS g hj
  have w9 : ¬ fm_x (T j) → ∀ x, x = ve_p tg mk T E g j → wY_value_209 post J (nI top) (nI j) (nI (T j)) x (nI c) tg mk tk e bi fi bo st := fun nx x hx => yv_209 tg mk tk T E c hT hS g e bi fi bo st hj hk (fun top' st' h' => hJ top' bo st' h' (fun q hq hqc hqx => by
    by_cases z : q = j
    · subst z; exact absurd hqx nx
    · exact hbo q (by omega) hqc hqx)) hx
  refine pk_le 3 (T j) (fun h3 => pk_le 6 (T j) (fun h6 => pk_le 8 (T j) (fun h8 => pk_le 10 (T j) (fun h10 => pk_le 16 (T j) (fun h16 => ⟨pk_in j 12 (by omega), ?_⟩) (fun h16 => ⟨pk_in j 12 (by omega), fun bo' eb => ⟨pk_in j 12 (by omega), fun x ex => ?_⟩⟩)) (fun h10 => pk_eq (T j) 9 (fun z => ?_) (fun z => ?_))) (fun h8 => pk_eq (T j) 6 (fun z => ?_) (fun z => ?_))) (fun h6 => ⟨pk_in (T j - 3) 3 (by omega) (pk_sub h3), fun x ex => ?_⟩)) (fun h3 => ⟨pk_in (T j) 3 h3, fun x ex => ?_⟩)
  · have B := fm_Bs hT hv hj h16
    have bj : bi (nI j).toNatClampNeg = nI (fm_B T E j) := by rw [nI_clamp (by omega), hbi j hj h16, B.1]; rfl
    rw [bj]
    refine br_t (nI_pos' (by omega)) ⟨pk_in j 12 (by omega), pk_in (fm_B T E j) 12 (by omega), fun x ex => w9 (fun z => by have := z.2; omega) x ?_⟩
    rw [ex, nI_clamp (by omega), pe, vo_v tg mk h16]
    exact hfi _ (by omega) B.2.2.1
  · have hx : fm_x (T j) := ⟨h10, by omega⟩
    rw [nI_clamp (by omega)] at eb ex
    refine yv_209 tg mk tk T E c hT hS g e bi fi bo' st hj hk (fun top' st' h' => hJ top' bo' st' h' (fun q hq hqc hqx => ?_)) ?_
    · by_cases z : q = j
      · subst z; rw [eb, pk_us]; exact ha (Or.inr (fm_x1 hx))
      · rw [eb, pk_un z]; exact hbo q (by omega) hqc hqx
    · rw [ex, pe, vo_f tg mk hx]; exact hfi j hj hx
  · refine ⟨7, yq_loop tg mk tk (nI c) e bi fi bo st a ?_ 6 0 rfl 7 (by omega)⟩
    refine w9 (fun z => by have := z.1; omega) _ ?_
    rw [pe, vo_9 tg mk z, sb_pq tg hg6, ha (Or.inr ⟨h8, by omega⟩)]
  · refine ⟨7, yp_loop tg mk tk (nI c) e bi fi bo st a ?_ 6 0 rfl 7 (by omega)⟩
    refine w9 (fun z => by have := z.1; omega) _ ?_
    rw [pe, vo_8 tg mk (by omega), ha (Or.inr ⟨h8, by omega⟩)]
  · refine w9 (fun z => by have := z.1; omega) _ ?_
    rw [pe, vo_6 tg mk z, ha (Or.inl (Or.inl z)), hb (Or.inl z)]
  · have z7 : T j = 7 := by omega
    refine w9 (fun z => by have := z.1; omega) _ ?_
    rw [pe, vo_7 tg mk z7, ha (Or.inl (Or.inr z7)), hb (Or.inr z7)]
  · have q : nI (T j) - 3 = nI (T j - 3) := pk_sub h3
    rw [q, nI_clamp (by omega)] at ex
    refine w9 (fun z => by have := z.1; omega) _ ?_
    rw [pe, vo_n tg mk h3 h6, ex]
  · rw [nI_clamp (by omega)] at ex
    refine w9 (fun z => by have := z.1; omega) _ ?_
    rw [pe, vo_m tg mk h3, ex]
theorem yv_loop {post : Int32 → SY → Prop} (h0c : E 0 = c) (hg6 : ∀ s, sb_6 (tg s)) (htk : ∀ i, tk i = nI (T i)) (hT : ∀ i, T i ≤ 18) (hS : fm_S T c E) (hv : fm_v T E c = true) (g : vEnv) (e bi fi : Nat → Int32) (hbi : ∀ p, p < c → 16 ≤ T p → bi p = fm_I (fm_b T E p p)) (hfi : ∀ q, q < c → fm_x (T q) → fi q = g q) (h : ∀ bo' st', (∀ q, q < c → fm_x (T q) → bo' q = ve_p tg mk T E g (q + 1)) → post (ve_p tg mk T E g 0) (nI c, tg, mk, tk, e, bi, fi, bo', st')) : ∀ j, j ≤ c → ∀ top bo st, ys_k tg mk T E c g st top j → (∀ q, j ≤ q → q < c → fm_x (T q) → bo q = ve_p tg mk T E g (q + 1)) → ∀ n, j < n → wY_value_9 post (nI c) n (nI top) (nI j - 1) tg mk tk e bi fi bo st := by
  have hc := hS.1
  intro j
  induction j with
  | zero =>
    intro _ top bo st hk hbo n hn
    cases n with
    | zero => omega
    | succ n =>
      refine br_t dn_0 ?_
      obtain ⟨s, rfl, h1, h2⟩ := ys_kp tg mk T E c hk hS.2.1
      have l := ys_kl tg mk T E c hS _ _ h2
      rw [h0c] at h2
      have e0 : s = 0 := ys_kc tg mk T E c h2
      subst e0
      rw [h1]
      exact h bo st (fun q hq => hbo q (by omega) hq)
  | succ j ih =>
    intro hj top bo st hk hbo n hn
    cases n with
    | zero => omega
    | succ n =>
      rw [nI_pred]
      have tj := tk_at tk T htk (j := j) (by omega)
      have g2 := hS.2.2.2.1 j (by omega)
      have g1 := hS.2.2.2.2.1 j (by omega)
      have lk := ys_kl tg mk T E c hS _ _ hk
      refine br_f (nI_pos (by omega)) ⟨pk_in j 12 (by omega), fun x ex => ?_⟩
      rw [tj] at ex
      subst ex
      have fin : ∀ a b : Int32, (fm_2 (T j) ∨ fm_1 (T j) → a = ve_p tg mk T E g (j + 1)) → (fm_2 (T j) → b = ve_p tg mk T E g (E (j + 1))) → wY_value_55 post (wY_value_9 post (nI c) n) (nI top) (nI j) (nI (T j)) a b (nI c) tg mk tk e bi fi bo st := fun a b ha hb =>
        yv_55 tg mk tk T E c hg6 hT hS hv g e bi fi bo st hbi hfi (by omega) hk hbo (fun top' bo' st' hk' hbo' => ih (by omega) top' bo' st' hk' hbo' n (by omega)) ha hb
      have l1 : fm_2 (T j) ∨ fm_1 (T j) → j + 1 < c := fun z => z.elim (fun y => by have := g2 y; omega) (fun y => (g1 y).1)
      cases top with
      | zero =>
        have k0 : j + 1 = c := hk
        exact br_t (by decide) (br_t (by decide) (fin 0 0 (fun z => by have := l1 z; omega) (fun z => by have := l1 (Or.inl z); omega)))
      | succ s =>
        refine br_f (nI_nle (by omega) (by omega)) ⟨pk_in s 13 (by omega) (nI_pred s), ?_⟩
        rw [nI_pred, nI_clamp (by omega)]
        have ha : fm_2 (T j) ∨ fm_1 (T j) → st s = ve_p tg mk T E g (j + 1) := fun _ => hk.2.1
        cases s with
        | zero =>
          have k0 : E (j + 1) = c := hk.2.2
          exact br_t (by decide) (fin _ 0 ha (fun z => by have := (g2 z).2.1; omega))
        | succ s =>
          have e2 : nI (s + 1 + 1) - 2 = nI s := pk_sub (a := s + 1 + 1) (b := 2) (by omega)
          refine br_f (nI_ge (a := 1) (by omega) (by omega)) ⟨pk_in s 13 (by omega) e2, ?_⟩
          rw [e2, nI_clamp (by omega)]
          exact fin _ _ ha (fun _ => hk.2.2.2.1)
theorem yv_val {post : Int32 → SY → Prop} (h0c : E 0 = c) (hg6 : ∀ s, sb_6 (tg s)) (htk : ∀ i, tk i = nI (T i)) (hT : ∀ i, T i ≤ 18) (hS : fm_S T c E) (hv : fm_v T E c = true) (g : vEnv) (e bi fi bo st : Nat → Int32) (hbi : ∀ p, p < c → 16 ≤ T p → bi p = fm_I (fm_b T E p p)) (hfi : ∀ q, q < c → fm_x (T q) → fi q = g q) (h : ∀ bo' st', (∀ q, q < c → fm_x (T q) → bo' q = ve_p tg mk T E g (q + 1)) → post (ve_p tg mk T E g 0) (nI c, tg, mk, tk, e, bi, fi, bo', st')) : wpY_value post (nI c, tg, mk, tk, e, bi, fi, bo, st) := by
  intro x ex
  rw [ex]
  exact ⟨c + 1, yv_loop tg mk tk T E c h0c hg6 htk hT hS hv g e bi fi hbi hfi h c (Nat.le_refl _) 0 bo st rfl (fun q a b => by omega) (c + 1) (by omega)⟩
theorem yo_loop {post : Int32 → Prop} (hc : c ≤ 12) (htk : ∀ i, tk i = nI (T i)) (hT : ∀ i, T i ≤ 18) (g : vEnv) (e bi fi bo st : Nat → Int32) (hfi : ∀ q, q < c → fm_x (T q) → fi q = g q) (hbo : ∀ q, q < c → fm_x (T q) → bo q = ve_p tg mk T E g (q + 1)) : ∀ k, k ≤ c → post (fm_I (ve_o tg mk T E g k)) → ∀ n, k < n → wY_lastOpen_7 post (nI c) tg mk tk e bi fi bo st n (nI k - 1) := by
  intro k
  induction k with
  | zero =>
    intro _ h n hn
    cases n with
    | zero => omega
    | succ n => exact br_t dn_0 h
  | succ k ih =>
    intro hk h n hn
    cases n with
    | zero => omega
    | succ n =>
      rw [nI_pred]
      have tj := tk_at tk T htk (j := k) (by omega)
      have no : ¬ ((10 ≤ T k ∧ T k ≤ 15) ∧ ¬ ve_p tg mk T E g (k + 1) = g k) → ∀ x, x = nI k + (-1) → wY_lastOpen_7 post (nI c) tg mk tk e bi fi bo st n x := by
        intro z x ex
        rw [ve_o, if_neg z] at h
        rw [ex, dn_m]
        exact ih (by omega) h n (by omega)
      refine br_f (nI_pos (by omega)) ⟨pk_in k 12 (by omega), yw_binds _ (T k) tj (hT k) (fun z => br_f (by decide) ⟨pk_in k 12 (by omega), pk_in k 12 (by omega), ?_⟩) (fun z => br_t rfl (no (fun w => z w.1)))⟩
      rw [nI_clamp (by omega), hfi k (by omega) z, hbo k (by omega) z]
      refine br_c (fun w => no (fun q => q.2 w)) (fun w => ?_)
      rw [ve_o, if_pos ⟨z, w⟩] at h
      exact h
theorem yo_last {post : Int32 → Prop} (hc : c ≤ 12) (htk : ∀ i, tk i = nI (T i)) (hT : ∀ i, T i ≤ 18) (g : vEnv) (e bi fi bo st : Nat → Int32) (hfi : ∀ q, q < c → fm_x (T q) → fi q = g q) (hbo : ∀ q, q < c → fm_x (T q) → bo q = ve_p tg mk T E g (q + 1)) (h : post (fm_I (ve_o tg mk T E g c))) : wpY_lastOpen post (nI c, tg, mk, tk, e, bi, fi, bo, st) := by
  intro x ex
  rw [ex]
  exact ⟨c + 1, yo_loop tg mk tk T E c hc htk hT g e bi fi bo st hfi hbo c (Nat.le_refl _) h (c + 1) (by omega)⟩
theorem yi_first {post : Int32 → Prop} (e bi fi bo st : Nat → Int32) (htk : ∀ i, tk i = nI (T i)) (hT : ∀ i, T i ≤ 18) {p : Nat} (hp : p < 12) (h : post (ve_n T p)) : wpY_first post (nI c, tg, mk, tk, e, bi, fi, bo, st) (nI p) := by
  have tj := tk_at tk T htk (j := p) (by omega)
  refine ⟨pk_in p 12 hp, pk_le 13 (T p) (fun z => ?_) (fun z => ?_) rfl tj (by omega) (by have := hT p; omega)⟩
  · unfold ve_n at h; rw [if_neg (by omega)] at h; exact h
  · unfold ve_n at h; rw [if_pos z] at h; exact h
theorem yr_loop {post : Int32 → SY → Prop} {J : Int32 → Int32 → Int32 → Int32 → (Nat → Int32) → (Nat → Int32) → (Nat → Int32) → (Nat → Int32) → (Nat → Int32) → (Nat → Int32) → (Nat → Int32) → (Nat → Int32) → Prop} (h0c : E 0 = c) (hg6 : ∀ s, sb_6 (tg s)) (htk : ∀ i, tk i = nI (T i)) (hT : ∀ i, T i ≤ 18) (hS : fm_S T c E) (hv : fm_v T E c = true) (g' : vEnv) (e bi f1 bo st : Nat → Int32) (he : ∀ p, p < c → e p = nI (E p)) (hbi : ∀ p, p < c → 16 ≤ T p → bi p = fm_I (fm_b T E p p)) {p r : Nat} (hp : p < c) (h1 : ∀ q, q < c → fm_x (T q) → q ≤ p ∨ E p ≤ q → f1 q = g' q) (h2 : ∀ q, q < c → fm_x (T q) → p < q → q < E p → ve_n T q = g' q) (hJ : ∀ fi' bo' st', (∀ q, q < c → fm_x (T q) → fi' q = g' q) → (∀ q, q < c → fm_x (T q) → bo' q = ve_p tg mk T E g' (q + 1)) → J (ve_p tg mk T E g' 0) (fm_I (ve_o tg mk T E g' c)) (nI (r + 1)) (nI c) tg mk tk e bi fi' bo' st') : ∀ d k, k + d = E p → p < k → ∀ a, (∀ q, q < c → fm_x (T q) → q ≤ p ∨ k ≤ q → a q = f1 q) → (∀ q, p < q → q < k → a q = ve_n T q) → ∀ n, d < n → wY_find_67 post J (nI p) (nI r) (nI c) n (nI k) tg mk tk e bi a bo st := by
  have hc := hS.1
  have gE := hS.2.2.1 p hp
  have ep : e (nI p).toNatClampNeg = nI (E p) := by rw [nI_clamp (by omega)]; exact he p hp
  intro d
  induction d with
  | zero =>
    intro k hk hpk a ha1 ha2 n hn
    cases n with
    | zero => omega
    | succ n =>
      have hfi : ∀ q, q < c → fm_x (T q) → a q = g' q := fun q hq hx => by
        by_cases z : q ≤ p ∨ E p ≤ q
        · rw [ha1 q hq hx (by omega)]; exact h1 q hq hx z
        · rw [ha2 q (by omega) (by omega)]; exact h2 q hq hx (by omega) (by omega)
      refine ⟨pk_in p 13 (by omega), pk_le (E p) k (fun _ => ?_) (fun z => absurd hk (by omega)) ep⟩
      refine yv_val tg mk tk T E c h0c hg6 htk hT hS hv g' e bi a bo st hbi hfi (fun bo' st' hbo => ?_)
      refine yo_last tg mk tk T E c hc htk hT g' e bi a bo' st' hfi hbo (fun x ex => ?_)
      rw [ex, nI_1]
      exact hJ a bo' st' hfi hbo
  | succ d ih =>
    intro k hk hpk a ha1 ha2 n hn
    cases n with
    | zero => omega
    | succ n =>
      refine ⟨pk_in p 13 (by omega), pk_le (E p) k (fun z => absurd hk (by omega)) (fun _ => ?_) ep⟩
      refine yi_first tg mk tk T c e bi a bo st htk hT (by omega) ⟨pk_in k 12 (by omega), fun b eb x ex => ?_⟩
      rw [nI_clamp (by omega)] at eb
      rw [ex, nI_1]
      refine ih (k + 1) (by omega) (by omega) b (fun q hq hx hh => ?_) (fun q hq hqk => ?_) n (by omega)
      · rw [eb, pk_un (by omega)]; exact ha1 q hq hx (by omega)
      · rw [eb]
        by_cases z : q = k
        · rw [z, pk_us]
        · rw [pk_un z]; exact ha2 q hq (by omega)
theorem yn_loop {post : Int32 → SY → Prop} (h0c : E 0 = c) (hg6 : ∀ s, sb_6 (tg s)) (htk : ∀ i, tk i = nI (T i)) (hT : ∀ i, T i ≤ 18) (hS : fm_S T c E) (hv : fm_v T E c = true) (e bi : Nat → Int32) (he : ∀ p, p < c → e p = nI (E p)) (hbi : ∀ p, p < c → 16 ≤ T p → bi p = fm_I (fm_b T E p p)) : ∀ k (g : vEnv), ve_o tg mk T E (ve_r tg mk T E c k g) c = none → (∀ fi' bo' st', post (ve_p tg mk T E (ve_r tg mk T E c k g) 0) (nI c, tg, mk, tk, e, bi, fi', bo', st')) → ∀ fi bo st, (∀ q, q < c → fm_x (T q) → fi q = g q) → (∀ q, q < c → fm_x (T q) → bo q = ve_p tg mk T E g (q + 1)) → ∀ r, r + k ≤ 2401 → ∀ n, k < n → wY_find_39 post n (ve_p tg mk T E g 0) (fm_I (ve_o tg mk T E g c)) (nI r) (nI c) tg mk tk e bi fi bo st := by
  have hc := hS.1
  intro k
  induction k with
  | zero =>
    intro g hr h fi bo st hfi hbo r hk n hn
    cases n with
    | zero => omega
    | succ n =>
      have o : ve_o tg mk T E g c = none := hr
      rw [o]
      exact br_c (fun _ => h fi bo st) (fun _ => br_t (by decide) (h fi bo st))
  | succ k ih =>
    intro g hr h fi bo st hfi hbo r hk n hn
    cases n with
    | zero => omega
    | succ n =>
      cases o : ve_o tg mk T E g c with
      | none =>
        rw [ve_r0 tg mk T E c o] at h
        exact br_c (fun _ => h fi bo st) (fun _ => br_t (by decide) (h fi bo st))
      | some p =>
        rw [ve_r1 tg mk T E c o] at hr h
        obtain ⟨hp, hx, hn', hcl⟩ := ve_os tg mk T E c o
        have gE := hS.2.2.1 p hp
        refine br_f (nI_ge (b := 2401) (by omega) (by omega)) (br_f (nI_pos (n := p) (by omega)) ⟨pk_in p 12 (by omega), pk_in p 12 (by omega), fun f1 ef x ex => ⟨E p - (p + 1) + 1, ?_⟩⟩)
        have ef' : f1 = upd fi p (ve_p tg mk T E g (p + 1)) := by
          rw [ef]
          show upd fi (nI p).toNatClampNeg (bo (nI p).toNatClampNeg) = _
          rw [nI_clamp (by omega), hbo p hp hx]
        have ex' : x = nI (p + 1) := by rw [ex]; exact nI_1 p
        rw [ex']
        refine yr_loop tg mk tk T E c h0c hg6 htk hT hS hv (ve_x tg mk T E g p) e bi f1 bo st he hbi (r := r) hp (fun q hq hqx z => ?_) (fun q hq hqx a b => (ve_xi tg mk T E g a b).symm) (fun fi' bo' st' a b => ih _ hr h fi' bo' st' a b (r + 1) (by omega) n (by omega)) (E p - (p + 1)) (p + 1) (by omega) (by omega) f1 (fun _ _ _ _ => rfl) (fun q a b => by omega) _ (by omega)
        rw [ef']
        by_cases w : q = p
        · rw [w, pk_us, ve_xp]
        · rw [pk_un w, ve_xo tg mk T E g (by omega) gE.1]; exact hfi q hq hqx
theorem yg_loop {post : Int32 → SY → Prop} (h0c : E 0 = c) (hg6 : ∀ s, sb_6 (tg s)) (htk : ∀ i, tk i = nI (T i)) (hT : ∀ i, T i ≤ 18) (hS : fm_S T c E) (hv : fm_v T E c = true) (e bi bo st : Nat → Int32) (he : ∀ p, p < c → e p = nI (E p)) (hbi : ∀ p, p < c → 16 ≤ T p → bi p = fm_I (fm_b T E p p)) (K : Nat) (hK : K ≤ 2400) (hr : ve_o tg mk T E (ve_r tg mk T E c K (ve_n T)) c = none) (h : ∀ fi' bo' st', post (ve_p tg mk T E (ve_r tg mk T E c K (ve_n T)) 0) (nI c, tg, mk, tk, e, bi, fi', bo', st')) : ∀ d k, k + d = c → ∀ a, (∀ q, q < k → a q = ve_n T q) → ∀ n, d < n → wY_find_2 post (nI c) n (nI k) tg mk tk e bi a bo st := by
  have hc := hS.1
  intro d
  induction d with
  | zero =>
    intro k hk a ha n hn
    cases n with
    | zero => omega
    | succ n =>
      have : k = c := by omega
      subst this
      have hfi : ∀ q, q < k → fm_x (T q) → a q = ve_n T q := fun q hq _ => ha q hq
      refine br_t (nI_le (by omega) (by omega)) ?_
      refine yv_val tg mk tk T E k h0c hg6 htk hT hS hv (ve_n T) e bi a bo st hbi hfi (fun bo' st' hbo => ?_)
      refine yo_last tg mk tk T E k hc htk hT (ve_n T) e bi a bo' st' hfi hbo ⟨K + 1, ?_⟩
      exact yn_loop tg mk tk T E k h0c hg6 htk hT hS hv e bi he hbi K (ve_n T) hr h a bo' st' hfi hbo 0 (by omega) (K + 1) (by omega)
  | succ d ih =>
    intro k hk a ha n hn
    cases n with
    | zero => omega
    | succ n =>
      refine br_f (nI_ge (by omega) (by omega)) ?_
      refine yi_first tg mk tk T c e bi a bo st htk hT (by omega) ⟨pk_in k 12 (by omega), fun b eb x ex => ?_⟩
      rw [nI_clamp (by omega)] at eb
      rw [ex, nI_1]
      refine ih (k + 1) (by omega) b (fun q hq => ?_) n (by omega)
      rw [eb]
      by_cases z : q = k
      · rw [z, pk_us]
      · rw [pk_un z]; exact ha q (by omega)
theorem yg_find {post : Int32 → SY → Prop} (h0c : E 0 = c) (hg6 : ∀ s, sb_6 (tg s)) (htk : ∀ i, tk i = nI (T i)) (hT : ∀ i, T i ≤ 18) (hS : fm_S T c E) (hv : fm_v T E c = true) (e bi fi bo st : Nat → Int32) (he : ∀ p, p < c → e p = nI (E p)) (hbi : ∀ p, p < c → 16 ≤ T p → bi p = fm_I (fm_b T E p p)) (K : Nat) (hK : K ≤ 2400) (hr : ve_o tg mk T E (ve_r tg mk T E c K (ve_n T)) c = none) (h : ∀ fi' bo' st', post (ve_p tg mk T E (ve_r tg mk T E c K (ve_n T)) 0) (nI c, tg, mk, tk, e, bi, fi', bo', st')) : wpY_find post (nI c, tg, mk, tk, e, bi, fi, bo, st) :=
  ⟨c + 1, yg_loop tg mk tk T E c h0c hg6 htk hT hS hv e bi bo st he hbi K hK hr h c 0 (by omega) fi (fun q hq => by omega) (c + 1) (by omega)⟩
end
