/-! CONGRUENCE: what the class sees depends on what it sees; the age of bridge `b` is not read while it is off -/
def R2 (b : Nat) (S S' : zS) : Prop := ∀ f i, csF f → (f ≠ 22 ∨ i ≠ b) → S' f i = S f i
section zQ0
variable {N : zN} {S S' A A' D D' : zS} {a b e p k n l f i : Nat} {x x' : Int32} {c : Prop}
theorem R2.v (h : R2 b S S') (f i : Nat) (h1 : f < 28 ∨ f = 31 ∨ (33 ≤ f ∧ f ≤ 37) ∨ (40 ≤ f ∧ f ≤ 47) ∨ (49 ≤ f ∧ f ≤ 60)) (h2 : f ≠ 22 ∨ i ≠ b) : S' f i = S f i := h f i h1 h2
theorem R2.w (h : R2 b S S') (hx : x' = x) : R2 b (zu S f i x) (zu S' f i x') := by
  intro f' i' h1 h2
  subst hx
  show (if f' = f ∧ i' = i then x' else S' f' i') = (if f' = f ∧ i' = i then x' else S f' i')
  by_cases q : f' = f ∧ i' = i
  · rw [if_pos q, if_pos q]
  · rw [if_neg q, if_neg q]; exact h f' i' h1 h2
theorem R2.ig (h : R2 b S S') (hf : ¬ csF f) : R2 b (zu S f i x) (zu S' f i x') := by
  intro f' i' h1 h2
  show (if f' = f ∧ i' = i then x' else S' f' i') = (if f' = f ∧ i' = i then x else S f' i')
  have q : ¬ (f' = f ∧ i' = i) := fun q => hf (by rw [← q.1]; exact h1)
  rw [if_neg q, if_neg q]; exact h f' i' h1 h2
theorem R2.ite [Decidable c] (h1 : R2 b A A') (h2 : R2 b D D') : R2 b (if c then A else D) (if c then A' else D') := by
  by_cases q : c
  · rw [if_pos q, if_pos q]; exact h1
  · rw [if_neg q, if_neg q]; exact h2
theorem R2.pf {g : Nat → zS → zS} (hg : ∀ k S S', k < n → R2 b S S' → R2 b (g k S) (g k S')) (h : R2 b S S') : R2 b (pfold g n S) (pfold g n S') := by
  induction n with
  | zero => exact h
  | succ n ih => exact hg n _ _ (by omega) (ih (fun k S S' hk => hg k S S' (by omega)))
theorem R2.row (h : R2 b S S') : R2 b (sp_row N e x S) (sp_row N e x S') := by
  have t : tN S' = tN S := by unfold tN; rw [h.v 44 3 (by omega) (by omega)]
  unfold sp_row
  rw [t]
  by_cases q : tN S = 40
  · rw [if_pos q, if_pos q]
    intro f i h1 h2
    show (if f = 45 then (if i < 156 then S' 45 (i + 4) else if i = 156 then S' 44 0 else if i = 157 then nI (bo N e) else if i = 158 then nI (po N e) else if i = 159 then x else S' 45 i) else S' f i) = (if f = 45 then (if i < 156 then S 45 (i + 4) else if i = 156 then S 44 0 else if i = 157 then nI (bo N e) else if i = 158 then nI (po N e) else if i = 159 then x else S 45 i) else S f i)
    rw [h f i h1 h2, h.v 45 _ (by omega) (by omega), h.v 44 _ (by omega) (by omega), h.v 45 _ (by omega) (by omega)]
  · rw [if_neg q, if_neg q]
    intro f i h1 h2
    show (if f = 45 then (if i = 4 * tN S then S' 44 0 else if i = 4 * tN S + 1 then nI (bo N e) else if i = 4 * tN S + 2 then nI (po N e) else if i = 4 * tN S + 3 then x else S' 45 i) else if f = 44 ∧ i = 3 then nI (tN S + 1) else S' f i) = (if f = 45 then (if i = 4 * tN S then S 44 0 else if i = 4 * tN S + 1 then nI (bo N e) else if i = 4 * tN S + 2 then nI (po N e) else if i = 4 * tN S + 3 then x else S 45 i) else if f = 44 ∧ i = 3 then nI (tN S + 1) else S f i)
    rw [h f i h1 h2, h.v 44 _ (by omega) (by omega), h.v 45 _ (by omega) (by omega)]
theorem R2.enter (h : R2 b S S') : R2 b (sp_enter N e x S) (sp_enter N e x S') := by
  unfold sp_enter
  rw [h.v 46 _ (by omega) (by omega)]
  exact R2.ite (h.w rfl) (h.w rfl).row
theorem R2.forget (h : R2 b S S') : R2 b (sp_forget N e S) (sp_forget N e S') := by
  unfold sp_forget
  refine R2.pf (fun k S S' hk h => ?_) h
  show R2 b (if ceq (S 42 (bo N e * 8 + k)) (nI (po N e)) = true then zu S 42 (bo N e * 8 + k) (-1) else S) (if ceq (S' 42 (bo N e * 8 + k)) (nI (po N e)) = true then zu S' 42 (bo N e * 8 + k) (-1) else S')
  rw [h.v 42 _ (by omega) (by omega)]
  exact R2.ite (h.w rfl) h
theorem R2.shut (h : R2 b S S') : R2 b (sp_shut N e S) (sp_shut N e S') := by
  unfold sp_shut
  rw [h.v 1 _ (by omega) (by omega)]
  exact R2.ite h h.enter.forget
theorem R2.spr1 (h : R2 b S S') : R2 b (sp_spr1 N e a p S) (sp_spr1 N e a p S') := by
  unfold sp_spr1
  rw [h.v 0 _ (by omega) (by omega), h.v 5 _ (by omega) (by omega), h.v 3 _ (by omega) (by omega)]
  exact R2.ite ((h.w rfl).w rfl) h
theorem R2.spr2 (h : R2 b S S') : R2 b (sp_spr2 N e a p S) (sp_spr2 N e a p S') := by
  unfold sp_spr2
  rw [h.v 42 _ (by omega) (by omega), h.v 5 _ (by omega) (by omega), h.v 44 _ (by omega) (by omega)]
  exact R2.ite h (R2.ite h ((h.w rfl).w rfl))
theorem R2.spread (h : R2 b S S') (he : bo N e ≠ b) : R2 b (sp_spread N e S) (sp_spread N e S') := by
  have h1 : R2 b (pfold (sp_spr1 N e (bo N e)) (nP N (bo N e)) S) (pfold (sp_spr1 N e (bo N e)) (nP N (bo N e)) S') := R2.pf (fun k S S' hk h => h.spr1) h
  unfold sp_spread
  rw [h1.v 22 _ (by omega) (by omega)]
  exact R2.ite (h1.w rfl) (R2.pf (fun k S S' hk h => h.spr2) h1)
theorem R2.opn (h : R2 b S S') (he : bo N e ≠ b) : R2 b (sp_open N e S) (sp_open N e S') := by
  have h1 : R2 b (zu (sp_enter N e 2 S) 2 e 0) (zu (sp_enter N e 2 S') 2 e 0) := h.enter.w rfl
  unfold sp_open
  rw [h.v 1 _ (by omega) (by omega), h1.v 5 _ (by omega) (by omega)]
  exact R2.ite h (R2.ite h1 (R2.spread ((h1.w rfl).w rfl) he))
theorem R2.u (h : R2 b S S') : up N S' e = up N S e := up_of (fun i => h.v 20 i (by omega) (by omega)) (fun i => h.v 40 i (by omega) (by omega))
theorem R2.id (h : R2 b S S') : idS S' a = idS S a := by
  unfold idS; rw [h.v 21 _ (by omega) (by omega)]
theorem R2.pk1 (h : R2 b S S') (o : Option Nat) : sp_pk1 N a S' p o = sp_pk1 N a S p o := by
  unfold sp_pk1 sp_better
  simp (disch := omega) only [h.v, h.id]
theorem pick_s : sp_pick N a S (n + 1) = sp_pk1 N a S n (sp_pick N a S n) := rfl
theorem pick_0 : sp_pick N a S 0 = none := rfl
theorem R2.pick (h : R2 b S S') (n : Nat) : sp_pick N a S' n = sp_pick N a S n := by
  induction n with
  | zero => rw [pick_0, pick_0]
  | succ n ih => rw [pick_s, pick_s, ih, h.pk1]
theorem R2.rt (h : R2 b S S') : sp_rt N a S' = sp_rt N a S := by
  unfold sp_rt
  rw [h.pick]
  cases sp_pick N a S (nP N a) with
  | none => rfl
  | some p => simp (disch := omega) only [h.v, h.id]
theorem R2.lead (h : R2 b S S') (o : Option Nat) : R2 b (sp_lead N a o S) (sp_lead N a o S') := by
  cases o with
  | none => exact (((((h.w h.id).w rfl).w h.id).w rfl).w rfl).ig (by unfold csF; omega)
  | some p => exact (((((h.w (h.v 11 _ (by omega) (by omega))).w (by rw [h.v 12 _ (by omega) (by omega)])).w h.id).w (by rw [h.v 15 _ (by omega) (by omega)])).w rfl).ig (by unfold csF; omega)
theorem R2.role (h : R2 b S S') : sp_role N a p S' = sp_role N a p S := by
  unfold sp_role
  rw [h.u]
  simp (disch := omega) only [h.v, h.id]
theorem R2.roles (h : R2 b S S') : R2 b (sp_roles N a S) (sp_roles N a S') := by
  unfold sp_roles
  exact R2.pf (fun k S S' hk h => ((h.w (h.v 0 _ (by omega) (by omega))).ig (by unfold csF; omega)).w h.role) h
theorem R2.setl (h : R2 b S S') (ha : a ≠ b) (he : bo N (eo N a p) ≠ b) : R2 b (sp_setl N a x p S) (sp_setl N a x p S') := by
  unfold sp_setl
  simp (disch := omega) only [h.v]
  refine R2.ite (R2.ite (R2.ite ((h.w rfl).w rfl) (h.w rfl)) (R2.opn (h.w rfl) he)) (R2.ite (R2.ite (R2.ite (R2.w (R2.ite ((h.w rfl).w rfl) (((h.w rfl).w rfl).w rfl)) rfl) (R2.ite ((h.w rfl).w rfl) (((h.w rfl).w rfl).w rfl))) (R2.ite (R2.opn ((((h.w rfl).w rfl).w rfl).w rfl) he) (R2.shut (((((h.w rfl).w rfl).w rfl).w rfl).w rfl)))) (R2.ite h (R2.shut ((((h.w rfl).w rfl).w rfl).w rfl))))
theorem R2.ch1 (h : R2 b S S') : R2 b (sp_ch1 N a S) (sp_ch1 N a S') := by
  unfold sp_ch1 sp_bef
  rw [h.rt]
  exact (R2.lead ((((h.w (h.v 23 _ (by omega) (by omega))).w (h.v 24 _ (by omega) (by omega))).w (h.v 31 _ (by omega) (by omega))).w (h.v 37 _ (by omega) (by omega))) _).roles
theorem R2.choose (nw : NW N) (hb : a < nB N) (h : R2 b S S') (ha : a ≠ b) : R2 b (sp_choose N a S) (sp_choose N a S') := by
  have h1 := h.ch1 (N := N) (a := a)
  have hm : sp_mv a S' (sp_ch1 N a S') = sp_mv a S (sp_ch1 N a S) := by
    unfold sp_mv
    rw [h.v 23 _ (by omega) (by omega), h.v 24 _ (by omega) (by omega), h.v 31 _ (by omega) (by omega), h1.v 23 _ (by omega) (by omega), h1.v 24 _ (by omega) (by omega), h1.v 31 _ (by omega) (by omega)]
  unfold sp_choose sp_end
  rw [hm]
  have h2 : R2 b (pfold (sp_setl N a (sp_mv a S (sp_ch1 N a S))) (nP N a) (sp_ch1 N a S)) (pfold (sp_setl N a (sp_mv a S (sp_ch1 N a S))) (nP N a) (sp_ch1 N a S')) := R2.pf (fun k S S' hk h => h.setl ha (by rw [nw.bo_eo hb hk]; exact ha)) h1
  exact ((h2.ig (by unfold csF; omega)).ig (by unfold csF; omega)).ig (by unfold csF; omega)
theorem R2.ct (nw : NW N) (h : R2 b S S') (h20 : S 20 b ≠ 1) : R2 b (sp_ct N S) (sp_ct N S') := by
  unfold sp_ct
  have g : ∀ n, n ≤ nB N → R2 b (pfold (sp_ct1 N) n S) (pfold (sp_ct1 N) n S') ∧ pfold (sp_ct1 N) n S 20 b = S 20 b := by
    intro n
    induction n with
    | zero => exact fun _ => ⟨h, rfl⟩
    | succ n ih =>
      intro hn
      obtain ⟨i1, i2⟩ := ih (by omega)
      show R2 b (sp_ct1 N n (pfold (sp_ct1 N) n S)) (sp_ct1 N n (pfold (sp_ct1 N) n S')) ∧ sp_ct1 N n (pfold (sp_ct1 N) n S) 20 b = S 20 b
      generalize pfold (sp_ct1 N) n S = Y at *
      generalize pfold (sp_ct1 N) n S' = Y' at *
      unfold sp_ct1
      rw [i1.v 47 _ (by omega) (by omega), i1.v 20 _ (by omega) (by omega)]
      by_cases q : (ceq (Y 47 n) 1 && ceq (Y 20 n) 1) = true
      · rw [if_pos q, if_pos q]
        have ne : n ≠ b := fun x => by
          have := ceq_of (Bool.and_eq_true_iff.mp q).2
          rw [x, i2] at this
          exact h20 this
        refine ⟨(i1.choose nw (by omega) ne).w rfl, ?_⟩
        rw [← i2]
        show sp_choose N n Y 20 b = Y 20 b
        exact (choose_k nw (by omega)).1 20 b (by unfold XG; omega)
      · rw [if_neg q, if_neg q]
        exact ⟨i1.w rfl, i2⟩
  exact (g (nB N) (Nat.le_refl _)).1
theorem R2.clr (h : R2 b S S') : R2 b (sp_clr e x S) (sp_clr e x S') :=
  (((((((((((((h.w rfl).w rfl).w rfl).w rfl).w rfl).w rfl).w rfl).w rfl).w rfl).w rfl).w rfl).w rfl).w rfl).w rfl
theorem R2.down (h : R2 b S S') : R2 b (sq_down N e S) (sq_down N e S') := by
  unfold sq_down sp_dm
  exact R2.forget (R2.pf (fun k S S' hk h => h.w rfl) h.clr)
theorem R2.drop (h : R2 b S S') : R2 b (dropL l S) (dropL l S') := by
  intro f i h1 h2
  rw [dropL_f (by unfold csF at h1; omega), dropL_f (by unfold csF at h1; omega)]
  exact h f i h1 h2
theorem R2.off (nw : NW N) (h : R2 b S S') : R2 b (sq_off N b S) (sq_off N b S') := by
  rw [off_eq, off_eq]
  refine R2.ct nw ?_ (by rw [xo_20, if_pos rfl]; decide)
  unfold xoff adm
  refine R2.pf (fun k S S' hk h => h.w rfl) (R2.w (R2.pf (fun k S S' hk h => ?_) h) rfl)
  unfold sq_off1
  refine R2.drop (R2.down (R2.down (h.w ?_)))
  rw [h.u, h.v 47 _ (by omega) (by omega)]
end zQ0
