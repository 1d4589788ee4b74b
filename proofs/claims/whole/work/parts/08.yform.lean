/-! The reference's walks: ends, binders, sound, depth -/
theorem yw_binds {post : Int32 → Prop} (u : SY) {x : Int32} (t : Nat) (hx : x = nI t) (ht : t ≤ 18) (h1 : fm_x t → post 1) (h0 : ¬ fm_x t → post 0) : wpY_binds post u x := by
  obtain ⟨a, b, c, d, e, f, g, h, i⟩ := u
  exact pk_lt t 10 (fun z => h0 (fun y => by have := y.1; omega)) (fun z => pk_lt 15 t (fun y => h0 (fun w => by have := w.2; omega)) (fun y => h1 ⟨z, y⟩) rfl hx) hx
theorem yw_arity {post : Int32 → Prop} (u : SY) {x : Int32} (t : Nat) (hx : x = nI t) (ht : t ≤ 18) (h2 : fm_2 t → post 2) (h1 : fm_1 t → post 1) (h0 : ¬ fm_2 t → ¬ fm_1 t → post 0) : wpY_arity post u x := by
  obtain ⟨a, b, c, d, e, f, g, h, i⟩ := u
  exact pk_eq t 6 (fun z => h2 (Or.inl z)) (fun z6 => pk_eq t 7 (fun z => h2 (Or.inr z)) (fun z7 => pk_lt t 8 (fun z => h0 (fun y => y.elim z6 z7) (fun y => by have := y.1; omega)) (fun z8 => pk_lt 15 t (fun z => h0 (fun y => y.elim z6 z7) (fun y => by have := y.2; omega)) (fun z => h1 ⟨z8, z⟩) rfl hx) hx) hx) hx
section
variable (tg mk tk : Nat → Int32) (T E : Nat → Nat) (c : Nat)
theorem yf_loop {post : Int32 → SY → Prop} (bi fi bo st : Nat → Int32) (hc : c ≤ 12) (hE : fm_E T c E) (htk : ∀ i, tk i = nI (T i)) (hT : ∀ i, T i ≤ 18) (h1 : E 0 = c → ∀ e', (∀ p, p < c → e' p = nI (E p)) → post 1 (nI c, tg, mk, tk, e', bi, fi, bo, st)) (h0 : ¬ E 0 = c → ∀ e', post 0 (nI c, tg, mk, tk, e', bi, fi, bo, st)) : ∀ j, j ≤ c → ∀ e, (∀ p, j ≤ p → p < c → e p = nI (E p) ∧ E p ≤ c) → ∀ n, j < n → wY_findEnds_7 post (nI c) n (nI j - 1) tg mk tk e bi fi bo st := by
  intro j
  induction j with
  | zero =>
    intro _ e he n hn
    cases n with
    | zero => omega
    | succ n =>
      refine br_t dn_0 (pk_le c 0 (fun z => h0 (fun w => ?_) e) (fun z => ?_))
      · have := hE.1 0 z; omega
      · have := he 0 (by omega) z
        exact pk_eq (E 0) c (fun w => h1 w e (fun p hp => (he p (by omega) hp).1)) (fun w => h0 w e) this.1
  | succ j ih =>
    intro hj e he n hn
    cases n with
    | zero => omega
    | succ n =>
      rw [nI_pred]
      have tj := tk_at tk T htk (j := j) (by omega)
      have g1 := fm_gt hc hE (p := j + 1) (by omega)
      have r := hE.2 j (by omega)
      have fin : E j ≤ c → ∀ a, a = upd e (nI j).toNatClampNeg (nI (E j)) → ∀ x, x = nI j + (-1) → wY_findEnds_7 post (nI c) n x tg mk tk a bi fi bo st := by
        intro hle a ea x ex
        rw [ex, dn_m]
        refine ih (by omega) a (fun p hp hp' => ?_) n (by omega)
        rw [ea, nI_clamp (by omega)]
        by_cases z : p = j
        · rw [z, pk_us]; exact ⟨rfl, hle⟩
        · rw [pk_un z]; exact he p (by omega) hp'
      have bad : E j = 13 → post 0 (nI c, tg, mk, tk, e, bi, fi, bo, st) := fun z => h0 (fm_no hc hE (by omega) z) e
      refine br_f (nI_pos (by omega)) (fun x ex => ⟨3, ?_⟩)
      rw [ex, nI_1]
      refine ⟨pk_in j 12 (by omega), yw_arity _ (T j) tj (hT j) (fun h2 => br_f (by decide) ?_) (fun h1 => br_f (by decide) ?_) (fun h2 h1 => br_t (by decide) ⟨pk_in j 13 (by omega), ?_⟩)⟩
      · have q := r.1 h2
        refine pk_lt (j + 1) c (fun z => ⟨pk_in (j + 1) 13 (by omega), fun y ey w ew => ?_⟩) (fun z => ?_)
        · have e1 := he (j + 1) (by omega) z
          rw [nI_clamp (by omega), e1.1] at ey
          rw [ey, ew]
          refine ⟨pk_in j 12 (by omega), yw_arity _ (T j) tj (hT j) (fun _ => br_f (by decide) ?_) (fun h1 => ?_) (fun h _ => absurd h2 h)⟩
          · refine pk_lt (E (j + 1)) c (fun z' => ⟨pk_in (E (j + 1)) 13 (by omega), fun y' ey' w' ew' => ?_⟩) (fun z' => bad (by rw [q]; exact hE.1 _ z'))
            have e2 := he (E (j + 1)) (by omega) z'
            rw [nI_clamp (by omega), e2.1] at ey'
            rw [ey', ew']
            refine ⟨pk_in j 12 (by omega), yw_arity _ (T j) tj (hT j) (fun _ => br_t (by decide) ⟨pk_in j 13 (by omega), ?_⟩) (fun h1 => ?_) (fun h _ => absurd h2 h)⟩
            · rw [← q]; exact fin (by rw [q]; exact e2.2)
            · rcases h2 with h2 | h2
              · have := h1.1; omega
              · have := h1.1; omega
          · rcases h2 with h2 | h2
            · have := h1.1; omega
            · have := h1.1; omega
        · refine bad ?_
          rw [q, hE.1 (j + 1) z]; exact hE.1 13 (by omega)
      · have q := r.2.1 h1
        refine pk_lt (j + 1) c (fun z => ⟨pk_in (j + 1) 13 (by omega), fun y ey w ew => ?_⟩) (fun z => bad (by rw [q]; exact hE.1 _ z))
        have e1 := he (j + 1) (by omega) z
        rw [nI_clamp (by omega), e1.1] at ey
        rw [ey, ew]
        refine ⟨pk_in j 12 (by omega), yw_arity _ (T j) tj (hT j) (fun h2 => ?_) (fun _ => br_t (by decide) ⟨pk_in j 13 (by omega), ?_⟩) (fun _ h => absurd h1 h)⟩
        · rcases h2 with h2 | h2
          · have := h1.1; omega
          · have := h1.1; omega
        · rw [← q]; exact fin (by rw [q]; exact e1.2)
      · have q := r.2.2 h2 h1
        rw [← q]; exact fin (by omega)
theorem yf_find {post : Int32 → SY → Prop} (e bi fi bo st : Nat → Int32) (hc : c ≤ 12) (hE : fm_E T c E) (htk : ∀ i, tk i = nI (T i)) (hT : ∀ i, T i ≤ 18) (h1 : E 0 = c → ∀ e', (∀ p, p < c → e' p = nI (E p)) → post 1 (nI c, tg, mk, tk, e', bi, fi, bo, st)) (h0 : ¬ E 0 = c → ∀ e', post 0 (nI c, tg, mk, tk, e', bi, fi, bo, st)) : wpY_findEnds post (nI c, tg, mk, tk, e, bi, fi, bo, st) := by
  intro x ex
  rw [ex]
  exact ⟨c + 1, yf_loop tg mk tk T E c bi fi bo st hc hE htk hT h1 h0 c (Nat.le_refl _) e (fun p a b => by omega) (c + 1) (by omega)⟩
theorem yb_m : ∀ t, t < 19 → 10 ≤ t → (nI t - 10) - (nI t - 10) / 3 * 3 = nI ((t - 10) % 3) := by decide +kernel
theorem yb_loop {post : Int32 → Prop} (e bi fi bo st : Nat → Int32) (hc : c ≤ 12) (he : ∀ p, p < c → e p = nI (E p)) (hle : ∀ p, p < c → E p ≤ 13) (htk : ∀ i, tk i = nI (T i)) (hT : ∀ i, T i ≤ 18) {p : Nat} (hp : p < c) (h16 : 16 ≤ T p) : ∀ k, k ≤ p → post (fm_I (fm_b T E p k)) → ∀ n, k < n → wY_binderOf_4 post (nI p) (nI c) tg mk tk e bi fi bo st n (nI k - 1) := by
  intro k
  induction k with
  | zero =>
    intro _ h n hn
    cases n with
    | zero => omega
    | succ n => exact br_t dn_0 h
  | succ k ih =>
    intro hk h n hn
    cases n with
    | zero => omega
    | succ n =>
      rw [nI_pred]
      have tj := tk_at tk T htk (j := k) (by omega)
      have tp := tk_at tk T htk (j := p) (by omega)
      have ek : e (nI k).toNatClampNeg = nI (E k) := by rw [nI_clamp (by omega)]; exact he k (by omega)
      have l := hle k (by omega)
      have l1 := hT k
      have l2 := hT p
      have no : ¬ ((T k = T p - 6 ∨ T k = T p - 3) ∧ p < E k) → ∀ x, x = nI k + (-1) → wY_binderOf_4 post (nI p) (nI c) tg mk tk e bi fi bo st n x := by
        intro z x ex
        rw [fm_b, if_neg z] at h
        rw [ex, dn_m]
        exact ih (by omega) h n (by omega)
      refine br_f (nI_pos (by omega)) ⟨pk_in k 12 (by omega), yw_binds _ (T k) tj (hT k) (fun z => br_f (by decide) ⟨pk_in k 12 (by omega), by decide, pk_in p 12 (by omega), ?_⟩) (fun z => br_t rfl (no (fun w => z ⟨by omega, by omega⟩)))⟩
      have zz := z.1
      have zy := z.2
      rw [tj, tp, yb_m _ (by omega) z.1]
      refine pk_eq ((T k - 10) % 3) (T p - 16) (fun y => ⟨pk_in k 13 (by omega), pk_le (E k) p (fun w => no (fun q => by have := q.2; omega)) (fun w => ?_) ek⟩) (fun y => no (fun w => ?_)) rfl (pk_sub h16)
      · rw [fm_b, if_pos ⟨by omega, w⟩] at h; exact h
      · omega
theorem yb_of {post : Int32 → Prop} (e bi fi bo st : Nat → Int32) (hc : c ≤ 12) (he : ∀ p, p < c → e p = nI (E p)) (hle : ∀ p, p < c → E p ≤ 13) (htk : ∀ i, tk i = nI (T i)) (hT : ∀ i, T i ≤ 18) {p : Nat} (hp : p < c) (h16 : 16 ≤ T p) (h : post (fm_I (fm_b T E p p))) : wpY_binderOf post (nI c, tg, mk, tk, e, bi, fi, bo, st) (nI p) := by
  intro x ex
  rw [ex]
  exact ⟨p + 1, yb_loop tg mk tk T E c e bi fi bo st hc he hle htk hT hp h16 p (Nat.le_refl _) h (p + 1) (by omega)⟩
theorem ys_loop {post : Int32 → SY → Prop} (e fi bo st : Nat → Int32) (hc : c ≤ 12) (he : ∀ p, p < c → e p = nI (E p)) (hle : ∀ p, p < c → E p ≤ 13) (htk : ∀ i, tk i = nI (T i)) (hT : ∀ i, T i ≤ 18) (h1 : fm_f T c ≤ 4 → fm_v T E c = true → ∀ b', (∀ p, p < c → 16 ≤ T p → b' p = fm_I (fm_b T E p p)) → post 1 (nI c, tg, mk, tk, e, b', fi, bo, st)) (h0 : ¬ (fm_f T c ≤ 4 ∧ fm_v T E c = true) → ∀ b', post 0 (nI c, tg, mk, tk, e, b', fi, bo, st)) : ∀ d k, k + d = c → fm_v T E k = true → ∀ b, (∀ p, p < k → 16 ≤ T p → b p = fm_I (fm_b T E p p)) → ∀ n, d < n → wY_sound_13 post (nI c) n (nI (fm_f T k)) (nI k) tg mk tk e b fi bo st := by
  intro d
  induction d with
  | zero =>
    intro k hk hv b hb n hn
    cases n with
    | zero => omega
    | succ n =>
      have : k = c := by omega
      subst this
      have l1 := fm_fl T k
      exact br_t (nI_le (by omega) (by omega)) (pk_lt 4 (fm_f T k) (fun z => h0 (fun w => by have := w.1; omega) b) (fun z => h1 z hv b hb))
  | succ d ih =>
    intro k hk hv b hb n hn
    cases n with
    | zero => omega
    | succ n =>
      have tj := tk_at tk T htk (j := k) (by omega)
      have key : ∀ x, x = nI (fm_f T (k + 1)) → wY_sound_37 post (wY_sound_13 post (nI c) n) x (nI k) (nI c) tg mk tk e b fi bo st := by
        intro x ex
        refine ⟨pk_in k 12 (by omega), pk_lt (T k) 16 (fun z y ey => ?_) (fun z => ?_) tj rfl (by have := hT k; omega)⟩
        · rw [ex, ey, nI_1]
          refine ih (k + 1) (by omega) (by rw [fm_v, hv, decide_eq_true z]; rfl) b (fun p hp ht => ?_) n (by omega)
          by_cases w : p = k
          · subst w; omega
          · exact hb p (by omega) ht
        · refine yb_of tg mk tk T E c e b fi bo st hc he hle htk hT (by omega) z ⟨pk_in k 12 (by omega), fun b' eb => ⟨pk_in k 12 (by omega), ?_⟩⟩
          rw [nI_clamp (by omega)] at eb
          have bk : b' (nI k).toNatClampNeg = fm_I (fm_b T E k k) := by rw [nI_clamp (by omega), eb, pk_us]
          rw [bk]
          cases q : fm_b T E k k with
          | none =>
            refine br_f (by show ¬ (0 : Int32) ≤ -1; decide) (h0 (fun w => ?_) b')
            have := fm_vf z q c (by omega)
            rw [w.2] at this
            exact absurd this (by decide)
          | some r =>
            have := fm_bs k q
            refine br_t (show (0 : Int32) ≤ nI r from nI_pos' (by omega)) (fun y ey => ?_)
            rw [ex, ey, nI_1]
            refine ih (k + 1) (by omega) (by rw [fm_v, hv, q]; exact Bool.or_true _) b' (fun p hp ht => ?_) n (by omega)
            by_cases w : p = k
            · subst w; rw [eb, pk_us]
            · rw [eb, pk_un w]; exact hb p (by omega) ht
      refine br_f (nI_ge (by omega) (by omega)) ⟨pk_in k 12 (by omega), yw_binds _ (T k) tj (hT k) (fun z => br_f (by decide) (fun x ex => key x ?_)) (fun z => br_t rfl (key _ ?_))⟩
      · have z' : 10 ≤ T k ∧ T k ≤ 15 := z
        rw [ex, nI_1, fm_f, if_pos z']
      · have z' : ¬ (10 ≤ T k ∧ T k ≤ 15) := z
        rw [fm_f, if_neg z']; rfl
theorem ys_sound {post : Int32 → SY → Prop} (en bi fi bo st : Nat → Int32) (hc : c ≤ 12) (hE : fm_E T c E) (htk : ∀ i, tk i = nI (T i)) (hT : ∀ i, T i ≤ 18) (h1 : fm_ok T c E → ∀ e' b', (∀ p, p < c → e' p = nI (E p)) → (∀ p, p < c → 16 ≤ T p → b' p = fm_I (fm_b T E p p)) → post 1 (nI c, tg, mk, tk, e', b', fi, bo, st)) (h0 : ¬ fm_ok T c E → ∀ e' b', post 0 (nI c, tg, mk, tk, e', b', fi, bo, st)) : wpY_sound post (nI c, tg, mk, tk, en, bi, fi, bo, st) := by
  have hle : ∀ p, p < c → E p ≤ 13 := fun p hp => (fm_gt hc hE (by omega)).2
  refine yf_find tg mk tk T E c en bi fi bo st hc hE htk hT (fun z e he => br_f (by decide) ⟨c + 1, ?_⟩) (fun z e => br_t rfl (h0 (fun w => z w.1) e bi))
  exact ys_loop tg mk tk T E c e fi bo st hc he hle htk hT (fun a b b' hb => h1 ⟨z, a, b⟩ e b' he hb) (fun w b' => h0 (fun q => w ⟨q.2.1, q.2.2⟩) e b') c 0 (by omega) rfl bi (fun p hp => by omega) (c + 1) (by omega)
/-- the reference's count of the fixed points around p, from those below k -/
def yd_a (T E : Nat → Nat) (p k : Nat) : Nat := if 10 ≤ T p ∧ T p ≤ 15 then fm_a T E p k else 0
theorem yd_in {post : Int32 → SY → Prop} {J : Int32 → Int32 → Prop} (e bi fi bo st : Nat → Int32) (hc : c ≤ 12) (he : ∀ p, p < c → e p = nI (E p)) (hle : ∀ p, p < c → E p ≤ 13) (htk : ∀ i, tk i = nI (T i)) (hT : ∀ i, T i ≤ 18) {p m : Nat} (hp : p < c) (hm : m ≤ 12) (h : J (nI (max m (yd_a T E p (p + 1)))) (nI (p + 1))) : ∀ d k, k + d = p + 1 → ∀ n, d < n → wY_depth_27 post J (nI m) (nI p) (nI c) tg mk tk e bi fi bo st n (nI (yd_a T E p k)) (nI k) := by
  have la := fm_al T E p (p + 1)
  intro d
  induction d with
  | zero =>
    intro k hk n hn
    cases n with
    | zero => omega
    | succ n =>
      have : k = p + 1 := by omega
      subst this
      have ly : yd_a T E p (p + 1) ≤ 13 := by unfold yd_a; split <;> omega
      refine br_t (nI_lt (by omega) (by omega)) (pk_le (yd_a T E p (p + 1)) m (fun z x ex => ?_) (fun z x ex => ?_))
      · rw [show max m (yd_a T E p (p + 1)) = m by omega] at h
        rw [ex, nI_1]; exact h
      · rw [show max m (yd_a T E p (p + 1)) = yd_a T E p (p + 1) by omega] at h
        rw [ex, nI_1]; exact h
  | succ d ih =>
    intro k hk n hn
    cases n with
    | zero => omega
    | succ n =>
      have tj := tk_at tk T htk (j := k) (by omega)
      have tp := tk_at tk T htk (j := p) (by omega)
      have ek : e (nI k).toNatClampNeg = nI (E k) := by rw [nI_clamp (by omega)]; exact he k (by omega)
      have l := hle k (by omega)
      have a := ih (k + 1) (by omega) n (by omega)
      have no : ¬ ((10 ≤ T p ∧ T p ≤ 15) ∧ (10 ≤ T k ∧ T k ≤ 15) ∧ p < E k) → ∀ y, y = nI k + 1 → wY_depth_27 post J (nI m) (nI p) (nI c) tg mk tk e bi fi bo st n (nI (yd_a T E p k)) y := fun z y ey => by
        have q : yd_a T E p (k + 1) = yd_a T E p k := by
          unfold yd_a
          by_cases w : 10 ≤ T p ∧ T p ≤ 15
          · rw [if_pos w, if_pos w, fm_a, if_neg (fun v => z ⟨w, v⟩)]; rfl
          · rw [if_neg w, if_neg w]
        rw [q] at a
        rw [ey, nI_1]; exact a
      refine br_f (nI_nlt (by omega) (by omega)) ⟨pk_in k 12 (by omega), yw_binds _ (T k) tj (hT k) (fun zk => br_f (by decide) ⟨pk_in p 12 (by omega), yw_binds _ (T p) tp (hT p) (fun zp => br_f (by decide) ⟨pk_in k 13 (by omega), pk_le (E k) p (fun w => no (fun v => by have := v.2.2; omega)) (fun w x ex y ey => ?_) ek⟩) (fun zp => br_t rfl (no (fun v => zp v.1)))⟩) (fun zk => br_t rfl (no (fun v => zk v.2.1)))⟩
      have zp' : 10 ≤ T p ∧ T p ≤ 15 := zp
      have q : yd_a T E p (k + 1) = yd_a T E p k + 1 := by
        unfold yd_a
        rw [if_pos zp', if_pos zp', fm_a, if_pos ⟨zk, w⟩]
      rw [q] at a
      rw [ex, ey, nI_1, nI_1]; exact a
theorem yd_loop {post : Int32 → SY → Prop} (e bi fi bo st : Nat → Int32) (hc : c ≤ 12) (he : ∀ p, p < c → e p = nI (E p)) (hle : ∀ p, p < c → p < E p ∧ E p ≤ 13) (htk : ∀ i, tk i = nI (T i)) (hT : ∀ i, T i ≤ 18) (h : post (nI (fm_d T E c)) (nI c, tg, mk, tk, e, bi, fi, bo, st)) : ∀ d k, k + d = c → ∀ n, d < n → wY_depth_14 post (nI c) tg mk tk e bi fi bo st n (nI (fm_d T E k)) (nI k) := by
  intro d
  induction d with
  | zero =>
    intro k hk n hn
    cases n with
    | zero => omega
    | succ n =>
      have : k = c := by omega
      subst this
      exact br_t (nI_le (by omega) (by omega)) h
  | succ d ih =>
    intro k hk n hn
    cases n with
    | zero => omega
    | succ n =>
      have a := ih (k + 1) (by omega) n (by omega)
      have ld := fm_dl T E k
      have q : fm_d T E (k + 1) = max (fm_d T E k) (yd_a T E k (k + 1)) := by
        rw [fm_d]
        unfold yd_a
        by_cases w : 10 ≤ T k ∧ T k ≤ 15
        · rw [if_pos w, if_pos w, fm_a, if_pos ⟨w, (hle k (by omega)).1⟩, Nat.add_comm]
        · rw [if_neg w, if_neg w]
      rw [q] at a
      have z0 : yd_a T E k 0 = 0 := by unfold yd_a; split <;> rfl
      have r := yd_in tg mk tk T E c (post := post) e bi fi bo st hc he (fun p hp => (hle p hp).2) htk hT (p := k) (by omega) (by omega) a (k + 1) 0 (by omega) (k + 2) (by omega)
      rw [z0] at r
      exact br_f (nI_ge (by omega) (by omega)) ⟨k + 2, r⟩
end
