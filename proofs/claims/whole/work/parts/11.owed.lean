/-- both hold the same system and the same formula; all else is worked out anew by each question -/
def i_Rel (_ : Nat) (u : SX) (v : SY) : Prop := ∃ (c : Nat) (T : Nat → Nat) (tg mk e va gi e' bi fi bo st : Nat → Int32), u = (nI c, tg, mk, (fun i => nI (T i)), e, va, gi) ∧ v = (nI c, tg, mk, (fun i => nI (T i)), e', bi, fi, bo, st) ∧ c ≤ 12 ∧ (∀ s, sb_6 (tg s)) ∧ (∀ i, sb_6 (mk i)) ∧ ∀ i, T i ≤ 18
theorem ir_mk {k c : Nat} {T : Nat → Nat} {tg mk e va gi e' bi fi bo st : Nat → Int32} (hc : c ≤ 12) (ht : ∀ s, sb_6 (tg s)) (hm : ∀ i, sb_6 (mk i)) (hT : ∀ i, T i ≤ 18) : i_Rel k (nI c, tg, mk, (fun i => nI (T i)), e, va, gi) (nI c, tg, mk, (fun i => nI (T i)), e', bi, fi, bo, st) := ⟨c, T, tg, mk, e, va, gi, e', bi, fi, bo, st, rfl, rfl, hc, ht, hm, hT⟩
theorem i_up {k : Nat} {u : SX} {v : SY} (h : i_Rel k u v) : i_Rel (k + 4) u v := h
theorem i_vc0 : wpX_init (fun u => wpY_init (fun v => i_Rel 0 u v)) :=
  ir_mk (k := 0) (c := 0) (T := fun _ => 0) (by omega) (fun _ => sb_60) (fun _ => sb_60) (fun _ => by omega)
theorem i_vc_step {k : Nat} {u : SX} {v : SY} (I : i_Rel k u v) (hk : k + 4 ≤ 2048) (v1 : Int32) (v2 : Int32) (v3 : Int32) : wpX_step (fun r u' => wpY_step (fun r' v' => r' = r ∧ i_Rel (k + 4) u' v') v v1 v2 (lw_bz v3)) u v1 v2 (lw_bz v3) := by
  obtain ⟨c, T, tg, mk, e, va, gi, e', bi, fi, bo, st, rfl, rfl, hc, ht, hm, hT⟩ := I
  unfold wpX_step wpY_step
  dsimp only
  refine xw_state (fun z1 => ?_) (fun z1 => ?_)
  · refine br_f (by decide) ?_
    refine xw_state (fun z2 => ?_) (fun z2 => ?_)
    rotate_left
    · refine br_t rfl ?_
      refine yw_state _ (fun _ => ?_) (fun n => absurd z1 n)
      refine br_f (by decide) ?_
      refine yw_state _ (fun n => absurd n z2) (fun _ => ?_)
      exact br_t rfl ⟨rfl, ir_mk hc ht hm hT⟩
    refine br_f (by decide) ?_
    obtain ⟨s, hs, rfl⟩ := z1
    obtain ⟨t, h6, rfl⟩ := z2
    have hv : vp_in (nI s) 6 := vp_in_nI hs (by omega)
    have upd6 : ∀ x : Int32, sb_6 x → ∀ q, sb_6 (upd tg (nI s).toNatClampNeg x q) := fun x hx q => ve_u6 ht _ hx q
    refine br_c (fun w => ⟨hv, hv, fun a ea => ?_⟩) (fun w => ⟨hv, hv, fun a ea => ?_⟩)
    · refine yw_state _ (fun _ => ?_) (fun n => absurd ⟨s, hs, rfl⟩ n)
      refine br_f (by decide) ?_
      refine yw_state _ (fun _ => ?_) (fun n => absurd ⟨t, h6, rfl⟩ n)
      refine br_f (by decide) ?_
      refine br_t w ⟨hv, hv, fun b eb => ⟨rfl, ?_⟩⟩
      rw [ea, eb]
      exact ir_mk hc (upd6 _ (sb_6and (ht _))) hm hT
    · refine yw_state _ (fun _ => ?_) (fun n => absurd ⟨s, hs, rfl⟩ n)
      refine br_f (by decide) ?_
      refine yw_state _ (fun _ => ?_) (fun n => absurd ⟨t, h6, rfl⟩ n)
      refine br_f (by decide) ?_
      refine br_f w ⟨hv, hv, fun b eb => ⟨rfl, ?_⟩⟩
      rw [ea, eb]
      exact ir_mk hc (upd6 _ (sb_6or (ht _) (sb_6bit h6))) hm hT
  · refine br_t rfl ?_
    refine yw_state _ (fun n => absurd n z1) (fun _ => ?_)
    exact br_t rfl ⟨rfl, ir_mk hc ht hm hT⟩
theorem i_vc_mark {k : Nat} {u : SX} {v : SY} (I : i_Rel k u v) (hk : k + 4 ≤ 2048) (v1 : Int32) (v2 : Int32) : wpX_mark (fun r u' => wpY_mark (fun r' v' => r' = r ∧ i_Rel (k + 4) u' v') v v1 v2) u v1 v2 := by
  obtain ⟨c, T, tg, mk, e, va, gi, e', bi, fi, bo, st, rfl, rfl, hc, ht, hm, hT⟩ := I
  have same : ∀ r : Int32, r = r ∧ i_Rel (k + 4) (nI c, tg, mk, (fun i => nI (T i)), e, va, gi) (nI c, tg, mk, (fun i => nI (T i)), e', bi, fi, bo, st) := fun r => ⟨rfl, ir_mk hc ht hm hT⟩
  rcases pk_ix v1 (n := 3) (by omega) with z | z | ⟨j, hj, rfl⟩
  · exact br_t z (br_t z (same 0))
  · have z3 : (3 : Int32) ≤ v1 := z
    have z0 : ¬ v1 < 0 := Int32.not_lt.mpr (Int32.le_trans (by decide) z3)
    exact br_f z0 (br_t z3 (br_f z0 (br_t (Int32.lt_of_lt_of_le (by decide) z3) (same 0))))
  · have z0 : ¬ nI j < 0 := nI_pos (by omega)
    have z3 : ¬ (3 : Int32) ≤ nI j := nI_ge (b := 3) hj (by omega)
    have z2 : ¬ (2 : Int32) < nI j := nI_nlt (a := 2) (by omega) (by omega)
    have hv : vp_in (nI j) 3 := vp_in_nI hj (by omega)
    by_cases w : v2 < 0
    · exact br_f z0 (br_f z3 (br_t w (br_f z0 (br_f z2 (br_t w (same 0))))))
    · by_cases y : v2 ≤ 63
      · obtain ⟨m, hm', rfl⟩ := nI_of2 (M := 63) (n := 63) (by decide) w y
        refine br_f z0 (br_f z3 (br_f w (br_t y ⟨hv, fun a ea => br_f z0 (br_f z2 (br_f w (br_t y ⟨hv, fun b eb => ⟨rfl, ?_⟩⟩)))⟩)))
        rw [ea, eb]
        exact ir_mk hc ht (ve_u6 hm _ (sb_6n (by omega))) hT
      · exact br_f z0 (br_f z3 (br_f w (br_f y (br_f z0 (br_f z2 (br_f w (br_f y (same 0))))))))
theorem ir_tok (T : Nat → Nat) (c t : Nat) : upd (fun i => nI (T i)) c (nI t) = fun i => nI (if i = c then t else T i) := by
  funext i
  by_cases z : i = c
  · rw [z, pk_us, if_pos rfl]
  · rw [pk_un z, if_neg z]
theorem i_vc_token {k : Nat} {u : SX} {v : SY} (I : i_Rel k u v) (hk : k + 4 ≤ 2048) (v1 : Int32) : wpX_token (fun r u' => wpY_token (fun r' v' => r' = r ∧ i_Rel (k + 4) u' v') v v1) u v1 := by
  obtain ⟨c, T, tg, mk, e, va, gi, e', bi, fi, bo, st, rfl, rfl, hc, ht, hm, hT⟩ := I
  have same : ∀ r : Int32, r = r ∧ i_Rel (k + 4) (nI c, tg, mk, (fun i => nI (T i)), e, va, gi) (nI c, tg, mk, (fun i => nI (T i)), e', bi, fi, bo, st) := fun r => ⟨rfl, ir_mk hc ht hm hT⟩
  refine pk_lt c 12 (fun z => ?_) (fun z => ?_)
  · have n12 : ¬ nI c = 12 := fun q => by
      have := (nI_eq (a := c) (b := 12) (by omega) (by omega)).mp q
      omega
    by_cases w : v1 < 0
    · exact br_t w (br_f n12 (br_t w (same _)))
    · by_cases y : v1 ≤ 18
      · obtain ⟨t, ht', rfl⟩ := nI_of2 (M := 18) (n := 18) (by decide) w y
        refine br_f w (br_t y ⟨pk_in c 12 z, fun a ea x ex => br_f n12 (br_f w (br_t y ⟨pk_in c 12 z, fun b eb x' ex' => ⟨ex'.trans ex.symm, ?_⟩⟩))⟩)
        rw [nI_clamp (by omega), ir_tok] at ea eb
        rw [ea, eb, ex, ex', nI_1]
        refine ir_mk (by omega) ht hm (fun i => ?_)
        show (if i = c then t else T i) ≤ 18
        split
        · exact ht'
        · exact hT i
      · exact br_f w (br_f y (br_f n12 (br_f w (br_f y (same _)))))
  · have e12 : c = 12 := by omega
    subst e12
    exact br_t rfl (same _)
theorem i_vc_wipe {k : Nat} {u : SX} {v : SY} (I : i_Rel k u v) (hk : k + 4 ≤ 2048) : wpX_wipe (fun r u' => wpY_wipe (fun r' v' => r' = r ∧ i_Rel (k + 4) u' v') v) u := by
  obtain ⟨c, T, tg, mk, e, va, gi, e', bi, fi, bo, st, rfl, rfl, hc, ht, hm, hT⟩ := I
  exact ⟨rfl, ir_mk (c := 0) (by omega) ht hm hT⟩
theorem i_vc_turn {k : Nat} {u : SX} {v : SY} (I : i_Rel k u v) (hk : k + 4 ≤ 2048) : wpX_turn (fun r u' => wpY_turn (fun r' v' => r' = r ∧ i_Rel (k + 4) u' v') v) u := by
  obtain ⟨c, T, tg, mk, e, va, gi, e', bi, fi, bo, st, rfl, rfl, hc, ht, hm, hT⟩ := I
  refine ⟨c + 1, xt_loop tg mk e va gi T c hc hT ⟨c + 1, yt_loop tg mk e' bi fi bo st T c hc hT ⟨rfl, ?_⟩ c 0 (by omega) (c + 1) (by omega)⟩ c 0 (by omega) (c + 1) (by omega)⟩
  refine ir_mk hc ht hm (fun i => ?_)
  unfold tn_t
  have := hT i
  split
  · exact tn_l _ (by omega)
  · exact hT i
theorem i_vc_sound {k : Nat} {u : SX} {v : SY} (I : i_Rel k u v) (hk : k + 4 ≤ 2048) : wpX_sound (fun r u' => wpY_sound (fun r' v' => r' = r ∧ i_Rel (k + 4) u' v') v) u := by
  obtain ⟨c, T, tg, mk, e, va, gi, e', bi, fi, bo, st, rfl, rfl, hc, ht, hm, hT⟩ := I
  obtain ⟨E, hE⟩ := fm_ex T c hc
  unfold wpX_sound
  dsimp only
  refine xs_sound tg mk _ va gi T E c e hc hE (fun _ => rfl) hT (fun ok e1 he => ?_) (fun ok e1 he => ?_)
  · refine ⟨rfl, ?_⟩
    exact ys_sound tg mk _ T E c e' bi fi bo st hc hE (fun _ => rfl) hT (fun _ e2 b2 _ _ => ⟨rfl, ir_mk hc ht hm hT⟩) (fun n => absurd ok n)
  · refine ⟨rfl, ?_⟩
    exact ys_sound tg mk _ T E c e' bi fi bo st hc hE (fun _ => rfl) hT (fun n => absurd n ok) (fun _ e2 b2 => ⟨rfl, ir_mk hc ht hm hT⟩)
theorem i_vc_depth {k : Nat} {u : SX} {v : SY} (I : i_Rel k u v) (hk : k + 4 ≤ 2048) : wpX_depth (fun r u' => wpY_depth (fun r' v' => r' = r ∧ i_Rel (k + 4) u' v') v) u := by
  obtain ⟨c, T, tg, mk, e, va, gi, e', bi, fi, bo, st, rfl, rfl, hc, ht, hm, hT⟩ := I
  obtain ⟨E, hE⟩ := fm_ex T c hc
  have hle : ∀ p, p < c → p < E p ∧ E p ≤ 13 := fun p hp => fm_gt hc hE (by omega)
  unfold wpX_depth wpY_depth
  dsimp only
  refine xs_sound tg mk _ va gi T E c e hc hE (fun _ => rfl) hT (fun ok e1 he => ?_) (fun ok e1 he => ?_)
  · refine br_f (by decide) ?_
    refine xd_deep tg mk _ T E c e1 va gi hc he (fun p hp => (hle p hp).2) (fun _ => rfl) hT ?_
    refine ys_sound tg mk _ T E c e' bi fi bo st hc hE (fun _ => rfl) hT (fun _ e2 b2 he2 _ => ?_) (fun n => absurd ok n)
    refine br_f (by decide) ⟨c + 1, ?_⟩
    exact yd_loop tg mk _ T E c e2 b2 fi bo st hc he2 hle (fun _ => rfl) hT ⟨rfl, ir_mk hc ht hm hT⟩ c 0 (by omega) (c + 1) (by omega)
  · refine br_t rfl ?_
    refine ys_sound tg mk _ T E c e' bi fi bo st hc hE (fun _ => rfl) hT (fun n => absurd n ok) (fun _ e2 b2 => ?_)
    exact br_t rfl ⟨rfl, ir_mk hc ht hm hT⟩
theorem i_vc_set {k : Nat} {u : SX} {v : SY} (I : i_Rel k u v) (hk : k + 4 ≤ 2048) : wpX_set (fun r u' => wpY_set (fun r' v' => r' = r ∧ i_Rel (k + 4) u' v') v) u := by
  obtain ⟨c, T, tg, mk, e, va, gi, e', bi, fi, bo, st, rfl, rfl, hc, ht, hm, hT⟩ := I
  obtain ⟨E, hE⟩ := fm_ex T c hc
  unfold wpX_set wpY_set
  dsimp only
  refine xs_sound tg mk _ va gi T E c e hc hE (fun _ => rfl) hT (fun ok e1 he => ?_) (fun ok e1 he => ?_)
  · refine br_f (by decide) ?_
    have hS := fm_mk hc hE ok.1
    obtain ⟨K, hK, hr⟩ := ve_2400 tg mk T E hm hT hS ok.2.2 ok.2.1
    refine xj_judge tg mk T E c _ e1 va gi he (fun _ => rfl) hT hS ok.2.2 K hK hr (fun va1 gi1 => ?_)
    refine ys_sound tg mk _ T E c e' bi fi bo st hc hE (fun _ => rfl) hT (fun _ e2 b2 he2 hb2 => ?_) (fun n => absurd ok n)
    refine br_f (by decide) ?_
    exact yg_find tg mk _ T E c ok.1 ht (fun _ => rfl) hT hS ok.2.2 e2 b2 fi bo st he2 hb2 K hK hr (fun f2 o2 s2 => ⟨rfl, ir_mk hc ht hm hT⟩)
  · refine br_t rfl ?_
    refine ys_sound tg mk _ T E c e' bi fi bo st hc hE (fun _ => rfl) hT (fun n => absurd n ok) (fun _ e2 b2 => ?_)
    exact br_t rfl ⟨rfl, ir_mk hc ht hm hT⟩
theorem i_vc_holds {k : Nat} {u : SX} {v : SY} (I : i_Rel k u v) (hk : k + 4 ≤ 2048) (v1 : Int32) : wpX_holds (fun r u' => wpY_holds (fun r' v' => r' = r ∧ i_Rel (k + 4) u' v') v v1) u v1 := by
  obtain ⟨c, T, tg, mk, e, va, gi, e', bi, fi, bo, st, rfl, rfl, hc, ht, hm, hT⟩ := I
  obtain ⟨E, hE⟩ := fm_ex T c hc
  unfold wpX_holds wpY_holds
  dsimp only
  refine xw_state (fun z => ?_) (fun z => ?_)
  · refine br_f (by decide) ?_
    refine xs_sound tg mk _ va gi T E c e hc hE (fun _ => rfl) hT (fun ok e1 he => ?_) (fun ok e1 he => ?_)
    · refine br_f (by decide) ?_
      have hS := fm_mk hc hE ok.1
      obtain ⟨K, hK, hr⟩ := ve_2400 tg mk T E hm hT hS ok.2.2 ok.2.1
      refine xj_judge tg mk T E c _ e1 va gi he (fun _ => rfl) hT hS ok.2.2 K hK hr (fun va1 gi1 => ?_)
      refine br_c (fun w => ?_) (fun w => ?_)
      · refine ys_sound tg mk _ T E c e' bi fi bo st hc hE (fun _ => rfl) hT (fun _ e2 b2 he2 hb2 => ?_) (fun n => absurd ok n)
        refine br_f (by decide) ?_
        refine yw_state _ (fun _ => ?_) (fun n => absurd z n)
        refine br_f (by decide) ?_
        refine yg_find tg mk _ T E c ok.1 ht (fun _ => rfl) hT hS ok.2.2 e2 b2 fi bo st he2 hb2 K hK hr (fun f2 o2 s2 => ?_)
        exact br_t w ⟨rfl, rfl, ir_mk hc ht hm hT⟩
      · refine ys_sound tg mk _ T E c e' bi fi bo st hc hE (fun _ => rfl) hT (fun _ e2 b2 he2 hb2 => ?_) (fun n => absurd ok n)
        refine br_f (by decide) ?_
        refine yw_state _ (fun _ => ?_) (fun n => absurd z n)
        refine br_f (by decide) ?_
        refine yg_find tg mk _ T E c ok.1 ht (fun _ => rfl) hT hS ok.2.2 e2 b2 fi bo st he2 hb2 K hK hr (fun f2 o2 s2 => ?_)
        exact br_f w ⟨rfl, rfl, ir_mk hc ht hm hT⟩
    · refine br_t rfl ?_
      refine ys_sound tg mk _ T E c e' bi fi bo st hc hE (fun _ => rfl) hT (fun n => absurd n ok) (fun _ e2 b2 => ?_)
      exact br_t rfl ⟨rfl, ir_mk hc ht hm hT⟩
  · refine br_t rfl ?_
    refine ys_sound tg mk _ T E c e' bi fi bo st hc hE (fun _ => rfl) hT (fun _ e2 b2 _ _ => ?_) (fun _ e2 b2 => ?_)
    · refine br_f (by decide) ?_
      refine yw_state _ (fun n => absurd n z) (fun _ => ?_)
      exact br_t rfl ⟨rfl, ir_mk hc ht hm hT⟩
    · exact br_t rfl ⟨rfl, ir_mk hc ht hm hT⟩
theorem i_vc_steps {k : Nat} {u : SX} {v : SY} (I : i_Rel k u v) (hk : k + 4 ≤ 2048) (v1 : Int32) : wpX_steps (fun r => wpY_steps (fun r' => r' = r ∧ i_Rel (k + 4) u v) v v1) u v1 := by
  obtain ⟨c, T, tg, mk, e, va, gi, e', bi, fi, bo, st, rfl, rfl, hc, ht, hm, hT⟩ := I
  unfold wpX_steps wpY_steps
  dsimp only
  refine xw_state (fun z => ?_) (fun z => ?_)
  · obtain ⟨j, hj, rfl⟩ := z
    have hv : vp_in (nI j) 6 := vp_in_nI hj (by omega)
    refine br_f (by decide) ⟨hv, ?_⟩
    refine yw_state _ (fun _ => ?_) (fun n => absurd ⟨j, hj, rfl⟩ n)
    exact br_f (by decide) ⟨hv, rfl, ir_mk hc ht hm hT⟩
  · refine br_t rfl ?_
    refine yw_state _ (fun n => absurd n z) (fun _ => ?_)
    exact br_t rfl ⟨rfl, ir_mk hc ht hm hT⟩
