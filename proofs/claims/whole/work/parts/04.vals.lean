/-! Values of terms: one pass (fixed points as given), and the nested rounds; the machine that both sides run, and that it ends -/
/-- the value at a token t: a the term behind it, b the second, f a fixed point's, v an X's -/
def vo_p (tg mk : Nat → Int32) (t : Nat) (a b f v : Int32) : Int32 :=
  if t < 3 then mk t else if t < 6 then 63 &&& (mk (t - 3) ^^^ (-1)) else if t = 6 then a &&& b else if t = 7 then a ||| b else if t = 8 then sb_p tg a 6 else if t = 9 then 63 &&& (sb_p tg (63 &&& (a ^^^ (-1))) 6 ^^^ (-1)) else if t < 16 then f else v
section
variable (tg mk : Nat → Int32)
theorem vo_cases (t : Nat) : t < 3 ∨ (3 ≤ t ∧ t < 6) ∨ t = 6 ∨ t = 7 ∨ t = 8 ∨ t = 9 ∨ (10 ≤ t ∧ t ≤ 15) ∨ 16 ≤ t := by omega
theorem vo_m {t : Nat} {a b f v : Int32} (h : t < 3) : vo_p tg mk t a b f v = mk t := by unfold vo_p; rw [if_pos h]
theorem vo_n {t : Nat} {a b f v : Int32} (h : 3 ≤ t) (h6 : t < 6) : vo_p tg mk t a b f v = 63 &&& (mk (t - 3) ^^^ (-1)) := by unfold vo_p; rw [if_neg (by omega), if_pos h6]
theorem vo_6 {t : Nat} {a b f v : Int32} (h : t = 6) : vo_p tg mk t a b f v = a &&& b := by unfold vo_p; rw [if_neg (by omega), if_neg (by omega), if_pos h]
theorem vo_7 {t : Nat} {a b f v : Int32} (h : t = 7) : vo_p tg mk t a b f v = a ||| b := by unfold vo_p; rw [if_neg (by omega), if_neg (by omega), if_neg (by omega), if_pos h]
theorem vo_8 {t : Nat} {a b f v : Int32} (h : t = 8) : vo_p tg mk t a b f v = sb_p tg a 6 := by unfold vo_p; rw [if_neg (by omega), if_neg (by omega), if_neg (by omega), if_neg (by omega), if_pos h]
theorem vo_9 {t : Nat} {a b f v : Int32} (h : t = 9) : vo_p tg mk t a b f v = 63 &&& (sb_p tg (63 &&& (a ^^^ (-1))) 6 ^^^ (-1)) := by unfold vo_p; rw [if_neg (by omega), if_neg (by omega), if_neg (by omega), if_neg (by omega), if_neg (by omega), if_pos h]
theorem vo_f {t : Nat} {a b f v : Int32} (h : fm_x t) : vo_p tg mk t a b f v = f := by
  have h1 := h.1; have h2 := h.2
  unfold vo_p; rw [if_neg (by omega), if_neg (by omega), if_neg (by omega), if_neg (by omega), if_neg (by omega), if_neg (by omega), if_pos (by omega)]
theorem vo_v {t : Nat} {a b f v : Int32} (h : 16 ≤ t) : vo_p tg mk t a b f v = v := by
  unfold vo_p; rw [if_neg (by omega), if_neg (by omega), if_neg (by omega), if_neg (by omega), if_neg (by omega), if_neg (by omega), if_neg (by omega)]
/-- one law for both 'the same' and 'within' -/
theorem vo_rel {t : Nat} {a b f v a' b' f' v' : Int32} (h1 : fm_2 t ∨ fm_1 t → ¬ fm_x t → sb_s a a') (h2 : fm_2 t → sb_s b b') (h3 : fm_x t → sb_s f f') (h4 : 16 ≤ t → sb_s v v') : sb_s (vo_p tg mk t a b f v) (vo_p tg mk t a' b' f' v') := by
  rcases vo_cases t with h | h | h | h | h | h | h | h
  · rw [vo_m tg mk h, vo_m tg mk h]; exact sb_rf _
  · rw [vo_n tg mk h.1 h.2, vo_n tg mk h.1 h.2]; exact sb_rf _
  · rw [vo_6 tg mk h, vo_6 tg mk h]; exact sb_and (h1 (Or.inl (Or.inl h)) (fun z => by have := z.1; omega)) (h2 (Or.inl h))
  · rw [vo_7 tg mk h, vo_7 tg mk h]; exact sb_or (h1 (Or.inl (Or.inr h)) (fun z => by have := z.1; omega)) (h2 (Or.inr h))
  · rw [vo_8 tg mk h, vo_8 tg mk h]; exact sb_pm tg (h1 (Or.inr ⟨by omega, by omega⟩) (fun z => by have := z.1; omega))
  · rw [vo_9 tg mk h, vo_9 tg mk h]; exact sb_nc (sb_pm tg (sb_nc (h1 (Or.inr ⟨by omega, by omega⟩) (fun z => by have := z.1; omega))))
  · rw [vo_f tg mk h, vo_f tg mk h]; exact h3 h
  · rw [vo_v tg mk h, vo_v tg mk h]; exact h4 h
theorem vo_eq {t : Nat} {a b f v a' b' f' v' : Int32} (h1 : fm_2 t ∨ fm_1 t → ¬ fm_x t → a = a') (h2 : fm_2 t → b = b') (h3 : fm_x t → f = f') (h4 : 16 ≤ t → v = v') : vo_p tg mk t a b f v = vo_p tg mk t a' b' f' v' := by
  rcases vo_cases t with h | h | h | h | h | h | h | h
  · rw [vo_m tg mk h, vo_m tg mk h]
  · rw [vo_n tg mk h.1 h.2, vo_n tg mk h.1 h.2]
  · rw [vo_6 tg mk h, vo_6 tg mk h, h1 (Or.inl (Or.inl h)) (fun z => by have := z.1; omega), h2 (Or.inl h)]
  · rw [vo_7 tg mk h, vo_7 tg mk h, h1 (Or.inl (Or.inr h)) (fun z => by have := z.1; omega), h2 (Or.inr h)]
  · rw [vo_8 tg mk h, vo_8 tg mk h, h1 (Or.inr ⟨by omega, by omega⟩) (fun z => by have := z.1; omega)]
  · rw [vo_9 tg mk h, vo_9 tg mk h, h1 (Or.inr ⟨by omega, by omega⟩) (fun z => by have := z.1; omega)]
  · rw [vo_f tg mk h, vo_f tg mk h]; exact h3 h
  · rw [vo_v tg mk h, vo_v tg mk h]; exact h4 h
theorem vo_s6 (hm : ∀ i, sb_6 (mk i)) {t : Nat} {a b f v : Int32} (h1 : fm_2 t → sb_6 a) (h2 : fm_2 t → sb_6 b) (h3 : fm_x t → sb_6 f) (h4 : 16 ≤ t → sb_6 v) : sb_6 (vo_p tg mk t a b f v) := by
  rcases vo_cases t with h | h | h | h | h | h | h | h
  · rw [vo_m tg mk h]; exact hm _
  · rw [vo_n tg mk h.1 h.2]; exact sb_6and sb_663
  · rw [vo_6 tg mk h]; exact sb_6and (h1 (Or.inl h))
  · rw [vo_7 tg mk h]; exact sb_6or (h1 (Or.inr h)) (h2 (Or.inr h))
  · rw [vo_8 tg mk h]; exact sb_p6 _ _
  · rw [vo_9 tg mk h]; exact sb_6and sb_663
  · rw [vo_f tg mk h]; exact h3 h
  · rw [vo_v tg mk h]; exact h4 h
end
abbrev vEnv : Type := Nat → Int32
section
variable (tg mk : Nat → Int32) (T E : Nat → Nat)
/-- the value of the term at p, under e; fx: what a fixed point does with its body -/
def ve_l (fx : Nat → (vEnv → Int32) → vEnv → Int32) : Nat → Nat → vEnv → Int32
  | 0, _, _ => 0
  | f + 1, p, e => vo_p tg mk (T p) (ve_l fx f (p + 1) e) (ve_l fx f (E (p + 1)) e) (fx p (ve_l fx f (p + 1)) e) (e (fm_B T E p))
theorem ve_st {c : Nat} (hS : fm_S T c E) (fx : Nat → (vEnv → Int32) → vEnv → Int32) : ∀ f f' p, p < c → c - p ≤ f → c - p ≤ f' → ve_l tg mk T E fx f p = ve_l tg mk T E fx f' p := by
  intro f
  induction f with
  | zero => intro f' p h1 h2; omega
  | succ f ih =>
    intro f' p hp h1 h2
    cases f' with
    | zero => omega
    | succ f' =>
      have k1 : ∀ q, p < q → q < c → ve_l tg mk T E fx f q = ve_l tg mk T E fx f' q := fun q a b => ih f' q b (by omega) (by omega)
      have g2 := hS.2.2.2.1 p hp
      have g1 := hS.2.2.2.2.1 p hp
      funext e
      show vo_p _ _ _ _ _ _ _ = vo_p _ _ _ _ _ _ _
      refine vo_eq tg mk (fun z _ => ?_) (fun z => ?_) (fun z => ?_) (fun _ => rfl)
      · rw [k1 (p + 1) (by omega) (z.elim (fun y => by have := g2 y; omega) (fun y => (g1 y).1))]
      · rw [k1 (E (p + 1)) (by have := g2 z; omega) (g2 z).2.1]
      · rw [k1 (p + 1) (by omega) (g1 (fm_x1 z)).1]
def ve_v (fx : Nat → (vEnv → Int32) → vEnv → Int32) (p : Nat) (e : vEnv) : Int32 := ve_l tg mk T E fx 13 p e
theorem ve_eq {c : Nat} (hS : fm_S T c E) (fx : Nat → (vEnv → Int32) → vEnv → Int32) {p : Nat} (hp : p < c) (e : vEnv) : ve_v tg mk T E fx p e = vo_p tg mk (T p) (ve_v tg mk T E fx (p + 1) e) (ve_v tg mk T E fx (E (p + 1)) e) (fx p (ve_v tg mk T E fx (p + 1)) e) (e (fm_B T E p)) := by
  have c12 := hS.1
  have k1 : ∀ q, p < q → q < c → ve_l tg mk T E fx 12 q = ve_l tg mk T E fx 13 q := fun q a b => ve_st tg mk T E hS fx 12 13 q b (by omega) (by omega)
  have g2 := hS.2.2.2.1 p hp
  have g1 := hS.2.2.2.2.1 p hp
  show vo_p tg mk (T p) (ve_l tg mk T E fx 12 (p + 1) e) (ve_l tg mk T E fx 12 (E (p + 1)) e) (fx p (ve_l tg mk T E fx 12 (p + 1)) e) (e (fm_B T E p)) = vo_p tg mk (T p) (ve_l tg mk T E fx 13 (p + 1) e) (ve_l tg mk T E fx 13 (E (p + 1)) e) (fx p (ve_l tg mk T E fx 13 (p + 1)) e) (e (fm_B T E p))
  refine vo_eq tg mk (fun z _ => ?_) (fun z => ?_) (fun z => ?_) (fun _ => rfl)
  · rw [k1 (p + 1) (by omega) (z.elim (fun y => by have := g2 y; omega) (fun y => (g1 y).1))]
  · rw [k1 (E (p + 1)) (by have := g2 z; omega) (g2 z).2.1]
  · rw [k1 (p + 1) (by omega) (g1 (fm_x1 z)).1]
/-- one pass -/
def ve_p (g : vEnv) (p : Nat) : Int32 := ve_v tg mk T E (fun q _ e => e q) p g
theorem ve_pe {c : Nat} (hS : fm_S T c E) (g : vEnv) {p : Nat} (hp : p < c) : ve_p tg mk T E g p = vo_p tg mk (T p) (ve_p tg mk T E g (p + 1)) (ve_p tg mk T E g (E (p + 1))) (g p) (g (fm_B T E p)) := ve_eq tg mk T E hS _ hp g
def ve_i (F : Int32 → Int32) (z : Int32) : Nat → Int32
  | 0 => z
  | k + 1 => F (ve_i F z k)
/-- where a fixed point starts -/
def ve_n (p : Nat) : Int32 := if T p < 13 then 0 else 63
/-- the nested rounds -/
def ve_s (p : Nat) (e : vEnv) : Int32 := ve_v tg mk T E (fun q b e => ve_i (fun Z => b (upd e q Z)) (ve_n T q) 6) p e
theorem ve_se {c : Nat} (hS : fm_S T c E) (e : vEnv) {p : Nat} (hp : p < c) : ve_s tg mk T E p e = vo_p tg mk (T p) (ve_s tg mk T E (p + 1) e) (ve_s tg mk T E (E (p + 1)) e) (ve_i (fun Z => ve_s tg mk T E (p + 1) (upd e p Z)) (ve_n T p) 6) (e (fm_B T E p)) := ve_eq tg mk T E hS _ hp e
theorem ve_im {F F' : Int32 → Int32} {z : Int32} (h : ∀ Z Z', sb_s Z Z' → sb_s (F Z) (F' Z')) : ∀ k, sb_s (ve_i F z k) (ve_i F' z k) := by
  intro k
  induction k with
  | zero => exact sb_rf _
  | succ k ih => exact h _ _ ih
theorem ve_um {e e' : vEnv} (h : ∀ q, sb_s (e q) (e' q)) (p : Nat) {Z Z' : Int32} (hz : sb_s Z Z') : ∀ q, sb_s (upd e p Z q) (upd e' p Z' q) := by
  intro q
  by_cases z : q = p
  · rw [z, pk_us, pk_us]; exact hz
  · rw [pk_un z, pk_un z]; exact h q
theorem ve_sm {c : Nat} (hS : fm_S T c E) : ∀ k p, p < c → c - p ≤ k → ∀ e e' : vEnv, (∀ q, sb_s (e q) (e' q)) → sb_s (ve_s tg mk T E p e) (ve_s tg mk T E p e') := by
  intro k
  induction k with
  | zero => intro p h1 h2; omega
  | succ k ih =>
    intro p hp hk e e' he
    have g2 := hS.2.2.2.1 p hp
    have g1 := hS.2.2.2.2.1 p hp
    rw [ve_se tg mk T E hS e hp, ve_se tg mk T E hS e' hp]
    refine vo_rel tg mk (fun z _ => ?_) (fun z => ?_) (fun z => ?_) (fun _ => he _)
    · exact ih (p + 1) (z.elim (fun y => by have := g2 y; omega) (fun y => (g1 y).1)) (by omega) e e' he
    · exact ih (E (p + 1)) (g2 z).2.1 (by have := g2 z; omega) e e' he
    · exact ve_im (fun Z Z' hz => ih (p + 1) (g1 (fm_x1 z)).1 (by omega) _ _ (ve_um he p hz)) 6
theorem ve_i6 {F : Int32 → Int32} {z : Int32} (hz : sb_6 z) (h : ∀ Z, sb_6 Z → sb_6 (F Z)) : ∀ k, sb_6 (ve_i F z k) := by
  intro k
  induction k with
  | zero => exact hz
  | succ k ih => exact h _ ih
theorem ve_n6 (p : Nat) : sb_6 (ve_n T p) := by
  unfold ve_n
  split
  · exact sb_60
  · exact sb_663
theorem ve_u6 {e : vEnv} (h : ∀ q, sb_6 (e q)) (p : Nat) {Z : Int32} (hz : sb_6 Z) : ∀ q, sb_6 (upd e p Z q) := by
  intro q
  by_cases z : q = p
  · rw [z, pk_us]; exact hz
  · rw [pk_un z]; exact h q
theorem ve_s6 (hm : ∀ i, sb_6 (mk i)) {c : Nat} (hS : fm_S T c E) : ∀ k p, p < c → c - p ≤ k → ∀ e : vEnv, (∀ q, sb_6 (e q)) → sb_6 (ve_s tg mk T E p e) := by
  intro k
  induction k with
  | zero => intro p h1 h2; omega
  | succ k ih =>
    intro p hp hk e he
    have g2 := hS.2.2.2.1 p hp
    have g1 := hS.2.2.2.2.1 p hp
    rw [ve_se tg mk T E hS e hp]
    refine vo_s6 tg mk hm (fun z => ?_) (fun z => ?_) (fun z => ?_) (fun _ => he _)
    · exact ih (p + 1) (by have := g2 z; omega) (by omega) e he
    · exact ih (E (p + 1)) (g2 z).2.1 (by have := g2 z; omega) e he
    · exact ve_i6 (ve_n6 T p) (fun Z hz => ih (p + 1) (g1 (fm_x1 z)).1 (by omega) _ (ve_u6 he p hz)) 6
/-- a term's value hangs on the fixed points around it alone -/
theorem ve_sl {c : Nat} (hT : ∀ p, T p ≤ 18) (hS : fm_S T c E) (hv : fm_v T E c = true) : ∀ k p, p < c → c - p ≤ k → ∀ e e' : vEnv, (∀ b, b < p → fm_x (T b) → p < E b → e b = e' b) → ve_s tg mk T E p e = ve_s tg mk T E p e' := by
  intro k
  induction k with
  | zero => intro p h1 h2; omega
  | succ k ih =>
    intro p hp hk e e' he
    have g2 := hS.2.2.2.1 p hp
    have g1 := hS.2.2.2.2.1 p hp
    rw [ve_se tg mk T E hS e hp, ve_se tg mk T E hS e' hp]
    refine vo_eq tg mk (fun z zx => ?_) (fun z => ?_) (fun z => ?_) (fun z => ?_)
    · refine ih (p + 1) (z.elim (fun y => by have := g2 y; omega) (fun y => (g1 y).1)) (by omega) e e' (fun b hb hx hE => ?_)
      have : b ≠ p := fun q => zx (q ▸ hx)
      exact he b (by omega) hx (by omega)
    · refine ih (E (p + 1)) (g2 z).2.1 (by have := g2 z; omega) e e' (fun b hb hx hE => ?_)
      have n1 : b ≠ p := fun q => by
        subst q
        rcases z with z | z
        · have := hx.1; omega
        · have := hx.1; omega
      have a := g2 z
      have n2 : ¬ p < b := fun q => by
        have := hS.2.2.2.2.2.2 (p + 1) b (by omega) (by omega) hb
        omega
      exact he b (by omega) hx (by omega)
    · have q : (fun Z => ve_s tg mk T E (p + 1) (upd e p Z)) = fun Z => ve_s tg mk T E (p + 1) (upd e' p Z) := by
        funext Z
        refine ih (p + 1) (g1 (fm_x1 z)).1 (by omega) _ _ (fun b hb hx hE => ?_)
        by_cases y : b = p
        · rw [y, pk_us, pk_us]
        · rw [pk_un y, pk_un y]; exact he b (by omega) hx (by omega)
      rw [q]
    · have := fm_Bs hT hv hp z
      exact he _ this.2.1 this.2.2.1 this.2.2.2
/-- the search for the last fixed point that is not met -/
def ve_o (g : vEnv) : Nat → Option Nat
  | 0 => none
  | k + 1 => if (10 ≤ T k ∧ T k ≤ 15) ∧ ¬ ve_p tg mk T E g (k + 1) = g k then some k else ve_o g k
theorem ve_os {g : vEnv} {p : Nat} : ∀ k, ve_o tg mk T E g k = some p → p < k ∧ fm_x (T p) ∧ ¬ ve_p tg mk T E g (p + 1) = g p ∧ ∀ q, p < q → q < k → fm_x (T q) → ve_p tg mk T E g (q + 1) = g q := by
  intro k
  induction k with
  | zero => intro h; exact nomatch h
  | succ k ih =>
    intro h
    rw [ve_o] at h
    by_cases z : (10 ≤ T k ∧ T k ≤ 15) ∧ ¬ ve_p tg mk T E g (k + 1) = g k
    · rw [if_pos z] at h
      cases h
      exact ⟨by omega, z.1, z.2, fun q a b => by omega⟩
    · rw [if_neg z] at h
      have := ih h
      refine ⟨by omega, this.2.1, this.2.2.1, fun q a b hx => ?_⟩
      by_cases y : q = k
      · subst y
        exact Decidable.byContradiction fun n => z ⟨hx, n⟩
      · exact this.2.2.2 q a (by omega) hx
/-- one round: the last unmet fixed point takes its body's value, those within start afresh -/
def ve_x (g : vEnv) (p : Nat) : vEnv := fun q => if q = p then ve_p tg mk T E g (p + 1) else if p < q ∧ q < E p then ve_n T q else g q
theorem ve_xp (g : vEnv) (p : Nat) : ve_x tg mk T E g p p = ve_p tg mk T E g (p + 1) := if_pos rfl
theorem ve_xi (g : vEnv) {p q : Nat} (h : p < q) (h' : q < E p) : ve_x tg mk T E g p q = ve_n T q := by
  unfold ve_x; rw [if_neg (by omega), if_pos ⟨h, h'⟩]
theorem ve_xo (g : vEnv) {p q : Nat} (h : q < p ∨ E p ≤ q) (hp : p < E p) : ve_x tg mk T E g p q = g q := by
  unfold ve_x; rw [if_neg (by omega), if_neg (by omega)]
/-- all rounds -/
def ve_r (c : Nat) : Nat → vEnv → vEnv
  | 0, g => g
  | k + 1, g => match ve_o tg mk T E g c with
    | none => g
    | some p => ve_r c k (ve_x tg mk T E g p)
/-- how far a fixed point has come -/
def ve_c (p : Nat) (x : Int32) : Nat := if T p < 13 then sb_c x else 6 - sb_c x
theorem ve_c6 (p : Nat) (x : Int32) : ve_c T p x ≤ 6 := by
  have := sb_c6 x
  unfold ve_c
  split
  · exact this
  · omega
/-- the function whose rounds a fixed point does -/
def ve_F (g : vEnv) (q : Nat) (Z : Int32) : Int32 := ve_s tg mk T E (q + 1) (upd g q Z)
/-- what holds in all rounds -/
def ve_I (c : Nat) (g : vEnv) : Prop := (∀ q, sb_6 (g q)) ∧ ∀ q, q < c → fm_x (T q) → ∃ i, i ≤ ve_c T q (g q) ∧ g q = ve_i (ve_F tg mk T E g q) (ve_n T q) i
theorem ve_ist {F : Int32 → Int32} {z : Int32} {i : Nat} (h : F (ve_i F z i) = ve_i F z i) : ∀ k, ve_i F z (i + k) = ve_i F z i := by
  intro k
  induction k with
  | zero => rfl
  | succ k ih =>
    show F (ve_i F z (i + k)) = _
    rw [ih, h]
theorem ve_ug (g : vEnv) (q : Nat) : upd g q (g q) = g := by
  funext j
  by_cases z : j = q
  · rw [z, pk_us]
  · rw [pk_un z]
/-- behind the last unmet fixed point one pass gives the nested rounds' values -/
theorem ve_ps {c : Nat} (hS : fm_S T c E) {g : vEnv} (hI : ve_I tg mk T E c g) {p : Nat} (hc : ∀ q, p < q → q < c → fm_x (T q) → ve_p tg mk T E g (q + 1) = g q) : ∀ k q, p < q → q < c → c - q ≤ k → ve_p tg mk T E g q = ve_s tg mk T E q g := by
  intro k
  induction k with
  | zero => intro q h1 h2 h3; omega
  | succ k ih =>
    intro q hpq hq hk
    have g2 := hS.2.2.2.1 q hq
    have g1 := hS.2.2.2.2.1 q hq
    rw [ve_pe tg mk T E hS g hq, ve_se tg mk T E hS g hq]
    refine vo_eq tg mk (fun z _ => ?_) (fun z => ?_) (fun z => ?_) (fun _ => rfl)
    · exact ih (q + 1) (by omega) (z.elim (fun y => by have := g2 y; omega) (fun y => (g1 y).1)) (by omega)
    · exact ih (E (q + 1)) (by have := g2 z; omega) (g2 z).2.1 (by have := g2 z; omega)
    · obtain ⟨i, hi, e⟩ := hI.2 q hq z
      have h6 := ve_c6 T q (g q)
      have a := ih (q + 1) (by omega) (g1 (fm_x1 z)).1 (by omega)
      have b := hc q hpq hq z
      have st : ve_F tg mk T E g q (ve_i (ve_F tg mk T E g q) (ve_n T q) i) = ve_i (ve_F tg mk T E g q) (ve_n T q) i := by
        rw [← e]
        unfold ve_F
        rw [ve_ug, ← a, b]
      have := ve_ist st (6 - i)
      rw [show i + (6 - i) = 6 by omega] at this
      show g q = ve_i (ve_F tg mk T E g q) (ve_n T q) 6
      rw [this, ← e]
theorem ve_Fm {c : Nat} (hS : fm_S T c E) (g : vEnv) {q : Nat} (hq : q + 1 < c) (Z Z' : Int32) (h : sb_s Z Z') : sb_s (ve_F tg mk T E g q Z) (ve_F tg mk T E g q Z') :=
  ve_sm tg mk T E hS c (q + 1) hq (by omega) _ _ (ve_um (fun _ => sb_rf _) q h)
theorem ve_F6 (hm : ∀ i, sb_6 (mk i)) {c : Nat} (hS : fm_S T c E) {g : vEnv} (hg : ∀ q, sb_6 (g q)) {q : Nat} (hq : q + 1 < c) (Z : Int32) (h : sb_6 Z) : sb_6 (ve_F tg mk T E g q Z) :=
  ve_s6 tg mk T E hm hS c (q + 1) hq (by omega) _ (ve_u6 hg q h)
theorem ve_up {F : Int32 → Int32} (h : ∀ Z Z', sb_s Z Z' → sb_s (F Z) (F Z')) : ∀ i, sb_s (ve_i F 0 i) (ve_i F 0 (i + 1)) := by
  intro i
  induction i with
  | zero => exact sb_0 _
  | succ i ih => exact h _ _ ih
theorem ve_dn {F : Int32 → Int32} (h : ∀ Z Z', sb_s Z Z' → sb_s (F Z) (F Z')) (h6 : ∀ Z, sb_6 Z → sb_6 (F Z)) : ∀ i, sb_s (ve_i F 63 (i + 1)) (ve_i F 63 i) := by
  intro i
  induction i with
  | zero => exact sb_63 (h6 _ sb_663)
  | succ i ih => exact h _ _ ih
theorem ve_on {F : Int32 → Int32} (h : ∀ Z Z', sb_s Z Z' → sb_s (F Z) (F Z')) (h6 : ∀ Z, sb_6 Z → sb_6 (F Z)) (p i : Nat) (hn : ¬ ve_i F (ve_n T p) (i + 1) = ve_i F (ve_n T p) i) : ve_c T p (ve_i F (ve_n T p) i) < ve_c T p (ve_i F (ve_n T p) (i + 1)) := by
  have s := ve_i6 (ve_n6 T p) h6
  unfold ve_c
  by_cases z : T p < 13
  · rw [if_pos z, if_pos z]
    refine sb_cs ?_ (s _) (s _) (fun q => hn q.symm)
    have e : ve_n T p = 0 := if_pos z
    rw [e]; exact ve_up h i
  · rw [if_neg z, if_neg z]
    have e : ve_n T p = 63 := if_neg z
    have a := sb_cs (a := ve_i F (ve_n T p) (i + 1)) (b := ve_i F (ve_n T p) i) (by rw [e]; exact ve_dn h h6 i) (s _) (s _) hn
    have := sb_c6 (ve_i F (ve_n T p) i)
    omega
theorem ve_step (hm : ∀ i, sb_6 (mk i)) (hT : ∀ p, T p ≤ 18) {c : Nat} (hS : fm_S T c E) (hv : fm_v T E c = true) {g : vEnv} (hI : ve_I tg mk T E c g) {p : Nat} (ho : ve_o tg mk T E g c = some p) : ve_I tg mk T E c (ve_x tg mk T E g p) ∧ ve_c T p (g p) < ve_c T p (ve_x tg mk T E g p p) := by
  obtain ⟨hp, hx, hn, hc⟩ := ve_os tg mk T E c ho
  have p1 := (hS.2.2.2.2.1 p hp (fm_x1 hx)).1
  have pE := (hS.2.2.1 p hp).1
  obtain ⟨i, hi, e⟩ := hI.2 p hp hx
  have a := ve_ps tg mk T E hS hI hc c (p + 1) (by omega) p1 (by omega)
  have b : ve_p tg mk T E g (p + 1) = ve_i (ve_F tg mk T E g p) (ve_n T p) (i + 1) := by
    show _ = ve_F tg mk T E g p (ve_i (ve_F tg mk T E g p) (ve_n T p) i)
    rw [← e, a]
    unfold ve_F
    rw [ve_ug]
  have f6 := ve_F6 tg mk T E hm hS hI.1 p1
  have fm := ve_Fm tg mk T E hS g p1
  have lt : ve_c T p (g p) < ve_c T p (ve_p tg mk T E g (p + 1)) := by
    have q := ve_on T fm f6 p i (by rw [← b, ← e]; exact hn)
    rw [← b, ← e] at q
    exact q
  refine ⟨⟨fun q => ?_, fun q hq hqx => ?_⟩, by rw [ve_xp]; exact lt⟩
  · by_cases z : q = p
    · rw [z, ve_xp, b]; exact ve_i6 (ve_n6 T p) f6 _
    · by_cases y : p < q ∧ q < E p
      · rw [ve_xi tg mk T E g y.1 y.2]; exact ve_n6 T q
      · rw [ve_xo tg mk T E g (by omega) pE]; exact hI.1 q
  · have q1 := (hS.2.2.2.2.1 q hq (fm_x1 hqx)).1
    have sameF : (q = p ∨ q < p ∨ E p ≤ q) → ve_F tg mk T E (ve_x tg mk T E g p) q = ve_F tg mk T E g q := fun w => by
      funext Z
      unfold ve_F
      refine ve_sl tg mk T E hT hS hv c (q + 1) q1 (by omega) _ _ (fun d hd hdx hdE => ?_)
      by_cases z : d = q
      · rw [z, pk_us, pk_us]
      · rw [pk_un z, pk_un z]
        refine ve_xo tg mk T E g ?_ pE
        refine Decidable.byContradiction fun n => ?_
        have := hS.2.2.2.2.2.2 p d hp (by omega) (by omega)
        omega
    by_cases z : q = p
    · subst z
      refine ⟨i + 1, ?_, ?_⟩
      · rw [ve_xp]; omega
      · rw [ve_xp, b, sameF (Or.inl rfl)]
    · by_cases y : p < q ∧ q < E p
      · exact ⟨0, Nat.zero_le _, ve_xi tg mk T E g y.1 y.2⟩
      · have w : q < p ∨ E p ≤ q := by omega
        obtain ⟨j, hj, ej⟩ := hI.2 q hq hqx
        refine ⟨j, ?_, ?_⟩
        · rw [ve_xo tg mk T E g w pE]; exact hj
        · rw [ve_xo tg mk T E g w pE, sameF (Or.inr w)]; exact ej
/-- what is left to do: a number of base 7, the first fixed point the highest digit -/
def ve_m (g : vEnv) : Nat → Nat
  | 0 => 0
  | k + 1 => if 10 ≤ T k ∧ T k ≤ 15 then 7 * ve_m g k + (6 - ve_c T k (g k)) else ve_m g k
theorem ve_mb (g : vEnv) : ∀ k, ve_m T g k + 1 ≤ 7 ^ fm_f T k := by
  intro k
  induction k with
  | zero => exact Nat.le_refl _
  | succ k ih =>
    rw [ve_m, fm_f]
    by_cases z : 10 ≤ T k ∧ T k ≤ 15
    · rw [if_pos z, if_pos z, Nat.pow_succ]; omega
    · rw [if_neg z, if_neg z]; exact ih
theorem ve_ms {g g' : vEnv} {p : Nat} (h : ∀ q, q < p → g' q = g q) : ∀ k, k ≤ p → ve_m T g' k = ve_m T g k := by
  intro k
  induction k with
  | zero => intro _; rfl
  | succ k ih =>
    intro hk
    rw [ve_m, ve_m, ih (by omega), h k (by omega)]
theorem ve_md {g g' : vEnv} {p : Nat} (h : ∀ q, q < p → g' q = g q) (hx : fm_x (T p)) (hc : ve_c T p (g p) < ve_c T p (g' p)) : ∀ k, p < k → ve_m T g' k < ve_m T g k := by
  intro k
  induction k with
  | zero => intro hk; omega
  | succ k ih =>
    intro hk
    by_cases e : k = p
    · subst e
      have hx' : 10 ≤ T k ∧ T k ≤ 15 := hx
      rw [ve_m, ve_m, if_pos hx', if_pos hx', ve_ms T h k (Nat.le_refl _)]
      have := ve_c6 T k (g' k)
      omega
    · have := ih (by omega)
      rw [ve_m, ve_m]
      by_cases z : 10 ≤ T k ∧ T k ≤ 15
      · rw [if_pos z, if_pos z]; omega
      · rw [if_neg z, if_neg z]; exact this
theorem ve_end (hm : ∀ i, sb_6 (mk i)) (hT : ∀ p, T p ≤ 18) {c : Nat} (hS : fm_S T c E) (hv : fm_v T E c = true) : ∀ k g, ve_I tg mk T E c g → ve_m T g c ≤ k → ve_o tg mk T E (ve_r tg mk T E c k g) c = none := by
  intro k
  induction k with
  | zero =>
    intro g hI hk
    show ve_o tg mk T E g c = none
    cases ho : ve_o tg mk T E g c with
    | none => rfl
    | some p =>
      obtain ⟨hp, hx, hn, hc⟩ := ve_os tg mk T E c ho
      have s := ve_step tg mk T E hm hT hS hv hI ho
      have := ve_md T (g := g) (g' := ve_x tg mk T E g p) (fun q hq => ve_xo tg mk T E g (Or.inl hq) (hS.2.2.1 p hp).1) hx s.2 c hp
      omega
  | succ k ih =>
    intro g hI hk
    rw [ve_r]
    cases ho : ve_o tg mk T E g c with
    | none => exact ho
    | some p =>
      obtain ⟨hp, hx, hn, hc⟩ := ve_os tg mk T E c ho
      have s := ve_step tg mk T E hm hT hS hv hI ho
      have := ve_md T (g := g) (g' := ve_x tg mk T E g p) (fun q hq => ve_xo tg mk T E g (Or.inl hq) (hS.2.2.1 p hp).1) hx s.2 c hp
      exact ih _ s.1 (by omega)
theorem ve_2400 (hm : ∀ i, sb_6 (mk i)) (hT : ∀ p, T p ≤ 18) {c : Nat} (hS : fm_S T c E) (hv : fm_v T E c = true) (hf : fm_f T c ≤ 4) : ∃ K, K ≤ 2400 ∧ ve_o tg mk T E (ve_r tg mk T E c K (ve_n T)) c = none := by
  refine ⟨ve_m T (ve_n T) c, ?_, ve_end tg mk T E hm hT hS hv _ _ ⟨ve_n6 T, fun q _ _ => ⟨0, Nat.zero_le _, rfl⟩⟩ (Nat.le_refl _)⟩
  have a := ve_mb T (ve_n T) c
  have b : 7 ^ fm_f T c ≤ 7 ^ 4 := Nat.pow_le_pow_right (by decide) hf
  exact Nat.le_of_succ_le_succ (Nat.le_trans a b)
end
