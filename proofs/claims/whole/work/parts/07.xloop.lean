/-! The component's judge runs the rounds -/
section
variable (tg mk : Nat → Int32) (T E : Nat → Nat) (c : Nat)
/-- one pass at q hangs on the fixed points whose terms end behind q -/
theorem ve_pl (hT : ∀ p, T p ≤ 18) (hS : fm_S T c E) (hv : fm_v T E c = true) (g g' : vEnv) : ∀ k q, q < c → c - q ≤ k → (∀ b, b < c → fm_x (T b) → q < E b → g b = g' b) → ve_p tg mk T E g q = ve_p tg mk T E g' q := by
  intro k
  induction k with
  | zero => intro q h1 h2; omega
  | succ k ih =>
    intro q hq hk h
    have g2 := hS.2.2.2.1 q hq
    have g1 := hS.2.2.2.2.1 q hq
    rw [ve_pe tg mk T E hS g hq, ve_pe tg mk T E hS g' hq]
    refine vo_eq tg mk (fun z _ => ?_) (fun z => ?_) (fun z => ?_) (fun z => ?_)
    · exact ih (q + 1) (z.elim (fun y => by have := g2 y; omega) (fun y => (g1 y).1)) (by omega) (fun b hb hx hE => h b hb hx (by omega))
    · exact ih (E (q + 1)) (g2 z).2.1 (by have := g2 z; omega) (fun b hb hx hE => h b hb hx (by have := g2 z; omega))
    · exact h q hq z (hS.2.2.1 q hq).1
    · have b := fm_Bs hT hv hq z
      exact h _ (by omega) b.2.2.1 b.2.2.2
theorem ve_on0 {g : vEnv} : ∀ k, (∀ q, q < k → fm_x (T q) → ve_p tg mk T E g (q + 1) = g q) → ve_o tg mk T E g k = none := by
  intro k
  induction k with
  | zero => intro _; rfl
  | succ k ih =>
    intro h
    rw [ve_o, if_neg (fun z => z.2 (h k (by omega) z.1))]
    exact ih (fun q hq => h q (by omega))
theorem ve_on1 {g : vEnv} {p : Nat} (hx : fm_x (T p)) (ho : ¬ ve_p tg mk T E g (p + 1) = g p) : ∀ k, p < k → (∀ q, p < q → q < k → fm_x (T q) → ve_p tg mk T E g (q + 1) = g q) → ve_o tg mk T E g k = some p := by
  intro k
  induction k with
  | zero => intro h; omega
  | succ k ih =>
    intro hk h
    rw [ve_o]
    by_cases z : k = p
    · subst z; rw [if_pos ⟨hx, ho⟩]
    · rw [if_neg (fun w => w.2 (h k (by omega) (by omega) w.1))]
      exact ih (by omega) (fun q a b => h q a (by omega))
theorem ve_r0 {g : vEnv} (h : ve_o tg mk T E g c = none) : ∀ k, ve_r tg mk T E c k g = g := by
  intro k
  cases k with
  | zero => rfl
  | succ k => rw [ve_r, h]
theorem ve_r1 {g : vEnv} {p : Nat} (h : ve_o tg mk T E g c = some p) (k : Nat) : ve_r tg mk T E c (k + 1) g = ve_r tg mk T E c k (ve_x tg mk T E g p) := by
  rw [ve_r, h]
theorem xj_loop {post : Int32 → SX → Prop} (tk e : Nat → Int32) (he : ∀ p, p ≤ c → e p = nI (E p)) (htk : ∀ i, tk i = nI (T i)) (hT : ∀ i, T i ≤ 18) (hS : fm_S T c E) (hv : fm_v T E c = true) : ∀ k (g : vEnv), ve_o tg mk T E (ve_r tg mk T E c k g) c = none → (∀ va' gi', post (ve_p tg mk T E (ve_r tg mk T E c k g) 0) (nI c, tg, mk, tk, e, va', gi')) → ∀ j, j ≤ c → ∀ va gi : Nat → Int32, (∀ q, q < c → fm_x (T q) → gi q = g q) → (∀ q, j ≤ q → q < c → va q = ve_p tg mk T E g q) → (∀ q, j ≤ q → q < c → fm_x (T q) → ve_p tg mk T E g (q + 1) = g q) → ∀ L, L + 13 * k + j < 900000 → ∀ n, 13 * k + j < n → wX_judge_18 post n (nI j - 1) (nI L) (nI c) tg mk tk e va gi := by
  have hc := hS.1
  intro k
  induction k using Nat.strongRecOn with
  | _ k ihk =>
  intro g hr h j
  induction j with
  | zero =>
    intro _ va gi hg hva hcl L hL n hn
    cases n with
    | zero => omega
    | succ n =>
      refine br_f (nI_ge (b := 1000000) (by omega) (by omega)) (br_t dn_0 ?_)
      have o := ve_on0 tg mk T E c (g := g) (fun q hq => hcl q (by omega) hq)
      rw [ve_r0 tg mk T E c o k] at h
      rw [hva 0 (by omega) hS.2.1]
      exact h va gi
  | succ j ihj =>
    intro hj va gi hg hva hcl L hL n hn
    cases n with
    | zero => omega
    | succ n =>
      rw [nI_pred]
      have tj := tk_at tk T htk (j := j) (by omega)
      have g2 := hS.2.2.2.1 j (by omega)
      have g1 := hS.2.2.2.2.1 j (by omega)
      have gE := hS.2.2.1 j (by omega)
      refine br_f (nI_ge (b := 1000000) (by omega) (by omega)) (br_f (nI_pos (by omega)) (xv_at tg mk tk T E c e va gi he htk hT hS hv (by omega) ⟨pk_in j 14 (by omega), fun a ea => ⟨pk_in j 12 (by omega), xw_fix (T j) tj (hT j) (fun z => br_f (by decide) ?_) (fun z => br_t rfl ?_)⟩⟩))
      · rw [nI_clamp (by omega), vo_f tg mk z] at ea
        have p1 := (g1 (fm_x1 z)).1
        rw [hva (j + 1) (by omega) p1] at ea
        have aj : a j = ve_p tg mk T E g (j + 1) := by rw [ea, pk_us]
        have gj := hg j (by omega) z
        refine ⟨pk_in j 14 (by omega), pk_in j 14 (by omega), ?_⟩
        rw [nI_clamp (by omega), aj, gj]
        refine br_c (fun w x ex y ey => ?_) (fun w => ⟨pk_in j 14 (by omega), pk_in j 14 (by omega), fun b eb => ⟨pk_in j 14 (by omega), ?_⟩⟩)
        · rw [ex, ey, nI_1, dn_m]
          refine ihj (by omega) a gi hg (fun q hq hqc => ?_) (fun q hq hqc hx => ?_) (L + 1) (by omega) n (by omega)
          · by_cases u : q = j
            · subst u
              rw [aj, w, ve_pe tg mk T E hS g hqc, vo_f tg mk z]
            · rw [ea, pk_un u]; exact hva q (by omega) hqc
          · by_cases u : q = j
            · subst u; exact w
            · exact hcl q (by omega) hqc hx
        · have o := ve_on1 tg mk T E z w c (by omega) (fun q hq hqc => hcl q (by omega) hqc)
          have ej : e j = nI (E j) := he j (by omega)
          refine xi_start tg mk tk T c e a b htk hT (j + 1) (E j) (by omega) (by omega) (nI_1 j) ej (fun b' hb1 hb2 => ⟨pk_in j 14 (by omega), fun x ex y ey => ?_⟩)
          rw [ex, ey, nI_1, ej]
          cases k with
          | zero =>
            have hr' : ve_o tg mk T E g c = none := hr
            rw [o] at hr'
            exact nomatch hr'
          | succ k =>
            rw [ve_r1 tg mk T E c o] at hr h
            have xo : ∀ q, q < j ∨ E j ≤ q → ve_x tg mk T E g j q = g q := fun q w => ve_xo tg mk T E g w gE.1
            have pl : ∀ q, E j ≤ q → q < c → ve_p tg mk T E (ve_x tg mk T E g j) q = ve_p tg mk T E g q := fun q hq hqc => ve_pl tg mk T E c hT hS hv _ _ c q hqc (by omega) (fun d hd hdx hdE => by
              refine xo d (Decidable.byContradiction fun nn => ?_)
              have := hS.2.2.2.2.2.2 j d (by omega) (by omega) (by omega)
              omega)
            refine ihk k (by omega) _ hr h (E j) gE.2 a b' (fun q hq hx => ?_) (fun q hq hqc => ?_) (fun q hq hqc hx => ?_) (L + 1) (by omega) n (by omega)
            · by_cases u : q = j
              · subst u
                rw [hb2 q (by omega), eb, pk_us, ve_xp]
              · by_cases u2 : j < q ∧ q < E j
                · rw [hb1 q (by omega) (by omega) hx, ve_xi tg mk T E g u2.1 u2.2]
                · rw [hb2 q (by omega), eb, pk_un u, xo q (by omega)]; exact hg q hq hx
            · rw [ea, pk_un (by omega), pl q hq hqc]; exact hva q (by omega) hqc
            · rw [xo q (by omega), pl (q + 1) (by omega) (hS.2.2.2.2.1 q hqc (fm_x1 hx)).1]; exact hcl q (by omega) hqc hx
      · intro x ex y ey
        rw [ex, ey, nI_1, dn_m]
        rw [nI_clamp (by omega)] at ea
        have vj : vo_p tg mk (T j) (va (j + 1)) (va (E (j + 1))) (va (j + 1)) (gi (fm_B T E j)) = ve_p tg mk T E g j := by
          rw [ve_pe tg mk T E hS g (by omega)]
          refine vo_eq tg mk (fun w _ => ?_) (fun w => ?_) (fun w => absurd w z) (fun w => ?_)
          · exact hva (j + 1) (by omega) (w.elim (fun y => by have := g2 y; omega) (fun y => (g1 y).1))
          · exact hva (E (j + 1)) (by have := g2 w; omega) (g2 w).2.1
          · have b := fm_Bs hT hv (by omega) w
            exact hg _ (by omega) b.2.2.1
        rw [vj] at ea
        refine ihj (by omega) a gi hg (fun q hq hqc => ?_) (fun q hq hqc hx => ?_) (L + 1) (by omega) n (by omega)
        · by_cases u : q = j
          · subst u; rw [ea, pk_us]
          · rw [ea, pk_un u]; exact hva q (by omega) hqc
        · by_cases u : q = j
          · subst u; exact absurd hx z
          · exact hcl q (by omega) hqc hx
theorem xj_judge {post : Int32 → SX → Prop} (tk e va gi : Nat → Int32) (he : ∀ p, p ≤ c → e p = nI (E p)) (htk : ∀ i, tk i = nI (T i)) (hT : ∀ i, T i ≤ 18) (hS : fm_S T c E) (hv : fm_v T E c = true) (K : Nat) (hK : K ≤ 2400) (hr : ve_o tg mk T E (ve_r tg mk T E c K (ve_n T)) c = none) (h : ∀ va' gi', post (ve_p tg mk T E (ve_r tg mk T E c K (ve_n T)) 0) (nI c, tg, mk, tk, e, va', gi')) : wpX_judge post (nI c, tg, mk, tk, e, va, gi) := by
  have hc := hS.1
  refine xi_start tg mk tk T c e va gi htk hT 0 c hc (by omega) rfl rfl (fun g' h1 h2 x ex => ⟨13 * K + c + 1, ?_⟩)
  rw [ex]
  exact xj_loop tg mk T E c tk e he htk hT hS hv K (ve_n T) hr h c (Nat.le_refl _) va g' (fun q hq hx => h1 q (by omega) hq hx) (fun q a b => by omega) (fun q a b => by omega) 0 (by omega) _ (by omega)
end
