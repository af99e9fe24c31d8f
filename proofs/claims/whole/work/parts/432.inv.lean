/-! SPEC: what holds always, ticks and messages -/
section zI2
variable {N : zN} {S S1 S2 S' : zS} {e b p q : Nat} {v : Int32}
theorem z16_k (hv : ¬ v < 1) : OK N S (zu S 16 q v) := by
  have z : ∀ f' i', f' ≠ 16 → (fun f i => if f = 16 ∧ i = q then v else S f i) f' i' = S f' i' := fun f' i' h => if_neg (fun x => h x.1)
  refine ⟨fun f i h => if_neg (fun x => h (by unfold XG; omega)), fun h j => ?_, fun e u c k hk => (z k e (by omega)).trans (c k hk), fun j => Or.inl (z 42 _ (by omega)), fun f' j h1 h2 => z _ _ (by omega)⟩
  obtain ⟨a1, a2, a3, a4⟩ := h j
  refine ⟨a1, a2, a3, fun x => ?_⟩
  show ¬ (if 16 = 16 ∧ j = q then v else S 16 j) < 1
  split
  · exact hv
  · exact a4 x
/-- one round of the fading: the life of a vector that goes may be anything -/
theorem fd1_k {x : zS × Bool} (hv : SV x.1) : OK N x.1 (sp_fd1 N b p x).1 := by
  unfold sp_fd1
  obtain ⟨a1, a2, a3, a4⟩ := hv (eo N b p)
  have h1 : OK N x.1 (if ceq (x.1 3 (eo N b p)) 0 = true then x.1 else zu x.1 3 (eo N b p) (x.1 3 (eo N b p) - 1)) := OK.it (fun _ => OK.rf) (fun c => by
    have c' := Bool.eq_false_iff.mpr c
    refine OK.z (Or.inr ⟨3, by omega, fun y => ?_⟩) (by omega) (fun _ => nn1 a2 c') (fun x => by omega)
    rw [y] at c'; exact absurd c' (by decide))
  have k10 : (if ceq (x.1 3 (eo N b p)) 0 = true then x.1 else zu x.1 3 (eo N b p) (x.1 3 (eo N b p) - 1)) 10 (eo N b p) = x.1 10 (eo N b p) := by split <;> rfl
  dsimp only
  generalize (if ceq (x.1 3 (eo N b p)) 0 = true then x.1 else zu x.1 3 (eo N b p) (x.1 3 (eo N b p) - 1)) = S1 at *
  by_cases c1 : ceq (x.1 10 (eo N b p)) 1 = true
  · rw [if_pos c1]
    have h10 : x.1 10 (eo N b p) = 1 := ceq_of c1
    by_cases c2 : ceq (x.1 16 (eo N b p) - 1) 0 = true
    · rw [if_pos c2]
      show OK N x.1 (zu (zu S1 16 (eo N b p) (x.1 16 (eo N b p) - 1)) 10 (eo N b p) 0)
      rw [zu_comm (show (16 : Nat) ≠ 10 by omega)]
      have h2 : OK N S1 (zu S1 10 (eo N b p) 0) := OK.z (Or.inr ⟨10, by omega, by rw [k10, h10]; decide⟩) (by omega) (fun x => by omega) (fun _ => by decide)
      have h3 := h1.tr h2
      have z10 : zu S1 10 (eo N b p) 0 10 (eo N b p) = 0 := if_pos ⟨rfl, rfl⟩
      generalize zu S1 10 (eo N b p) 0 = S2 at *
      refine h3.tr ⟨onz (by unfold XG; omega), fun h j => ?_, fun e u c k hk => (if_neg (by omega)).trans (c k hk), fun j => Or.inl (if_neg (by omega)), fun f' j h1 h2 => if_neg (by omega)⟩
      obtain ⟨b1, b2, b3, b4⟩ := h j
      refine ⟨b1, b2, b3, fun y => ?_⟩
      show ¬ (if 16 = 16 ∧ j = eo N b p then _ else S2 16 j) < 1
      by_cases hj : j = eo N b p
      · subst hj
        have y : S2 10 (eo N b p) = 1 := y
        rw [z10] at y; exact absurd y (by decide)
      · rw [if_neg (fun x => hj x.2)]; exact b4 y
    · rw [if_neg c2]
      refine h1.tr (z16_k ?_)
      have a5 := a4 h10
      have a6 : ¬ x.1 16 (eo N b p) < 0 := fun y => a5 (by rw [Int32.lt_iff_toInt_lt] at y ⊢; have : (1 : Int32).toInt = 1 := by decide
                                                           have : (0 : Int32).toInt = 0 := by decide
                                                           omega)
      obtain ⟨j, hj, hx⟩ := nI_of a6
      rw [hx] at a5 c2 ⊢
      cases j with
      | zero => exact absurd (show nI 0 < 1 by decide) a5
      | succ j =>
        rw [nI_pred] at c2 ⊢
        rw [ceqR0 (by omega)] at c2
        have : j ≠ 0 := fun y => c2 (decide_eq_true y)
        rw [show (1 : Int32) = nI 1 from rfl]
        exact nI_nlt (by omega) (by omega)
  · rw [if_neg c1]
    exact h1
theorem fade_k (hv : SV S) : OK N S (sp_fade N b S).1 := by
  have h0 : OK N S (sp_fd0 b S) := by
    unfold sp_fd0
    exact OK.it (fun _ => OK.rf) (fun c => OK.z27 (nn1 (hv b).2.2.1 (Bool.eq_false_iff.mpr c)))
  unfold sp_fade
  have key : ∀ n, OK N (sp_fd0 b S) (pfold (sp_fd1 N b) n (sp_fd0 b S, false)).1 := by
    intro n
    induction n with
    | zero => exact OK.rf
    | succ n ih => exact ih.tr (fd1_k (ih.2.1 (h0.2.1 hv)))
  exact h0.tr (key _)
theorem wt1_k (nw : NW N) (hv : SV S) (hu : up N S (eo N b p) = true ∨ S 0 (eo N b p) = 0) : OK N S (sp_wt1 N b p S) := by
  unfold sp_wt1
  refine OK.it (fun _ => OK.rf) (fun c => ?_)
  have c0 : ceq (S 2 (eo N b p)) 0 = false := by
    cases h : ceq (S 2 (eo N b p)) 0 with
    | false => rfl
    | true => rw [h, Bool.or_true] at c; exact absurd rfl c
  rcases hu with hu | hu
  · have h1 : OK N S (zu S 2 (eo N b p) (S 2 (eo N b p) - 1)) := OK.rf.zu hu (by omega) (fun _ => nn1 (hv _).1 c0)
    exact OK.it (fun _ => OK.it (fun _ => (h1.tr (enter_k (Or.inl (by rw [up_eq h1.1]; exact hu)))).zu hu (by omega) (fun _ => dl0 nw)) (fun _ => h1.opn nw hu)) (fun _ => h1)
  · rw [hu] at c; exact absurd rfl c
theorem ages_k : OK N S (sp_ages N b S) := by
  unfold sp_ages
  refine OK.pf (fun h S' _ _ => ?_)
  unfold sp_age1
  exact OK.it (fun _ => OK.rf) (fun _ => OK.it (fun _ => (OK.zf (by omega)).tr OK.z42) (fun _ => OK.zf (by omega)))
theorem mark_k : OK N S (sp_mark N b S) := by
  unfold sp_mark
  refine OK.pf (fun p S' _ _ => ?_)
  unfold sp_mk1
  refine OK.it (fun c => OK.z (Or.inr ⟨0, by omega, fun x => ?_⟩) (by omega) (fun x => by omega) (fun x => by omega)) (fun _ => OK.rf)
  rw [x] at c
  simp [show ceq (0 : Int32) 1 = false from rfl, show ceq (0 : Int32) 2 = false from rfl] at c
theorem wts_k (nw : NW N) (hb : b < nB N) (hv : SV S) (hd : ∀ e, e < 2 * nL N → up N S e = false → clr S e) : ∀ n, n ≤ nP N b → OK N S (pfold (sp_wt1 N b) n S)
  | 0, _ => OK.rf
  | n + 1, hn => by
    have ih := wts_k nw hb hv hd n (by omega)
    refine ih.tr (wt1_k nw (ih.2.1 hv) ?_)
    have ql := nw.eo_l hb (show n < nP N b by omega)
    rw [up_eq ih.1]
    cases hu : up N S (eo N b n) with
    | true => exact Or.inl rfl
    | false => exact Or.inr (ih.2.2.1 _ hu (hd _ ql hu) 0 (by omega))
theorem OK.dn (h : OK N S S') (hd : ∀ e, e < 2 * nL N → up N S e = false → clr S e) : ∀ e, e < 2 * nL N → up N S' e = false → clr S' e := fun e he hu => h.2.2.1 e (by rw [← up_eq h.1]; exact hu) (hd e he (by rw [← up_eq h.1]; exact hu))
theorem tick_k (nw : NW N) (hb : b < nB N) (hv : SV S) (hd : ∀ e, e < 2 * nL N → up N S e = false → clr S e) : OK N S (sp_tick N b S) := by
  unfold sp_tick
  have h1 : OK N S (if (sp_fade N b S).2 = true then sp_choose N b (sp_fade N b S).1 else (sp_fade N b S).1) := OK.it (fun _ => (fade_k hv).tr (choose_k nw hb)) (fun _ => fade_k hv)
  exact ((h1.tr (wts_k nw hb (h1.2.1 hv) (h1.dn hd) _ (Nat.le_refl _))).tr ages_k).tr mark_k
theorem isr_k (nw : NW N) (hu : up N S e = true) : OK N S (sp_isr N e q S) := by
  have h1 : OK N S (if ceq (S 5 e) 1 = true then zu (sp_shut N e (zu S 5 e 0)) 2 e (nI (nDl N)) else S) := OK.it (fun _ => ((OK.rf.zu hu (by omega)).shut hu).zu hu (by omega) (fun _ => dl0 nw)) (fun _ => OK.rf)
  unfold sp_isr
  exact OK.it (fun _ => (h1.zu hu (by omega)).zu hu (by omega)) (fun _ => h1)
theorem prop_k (nw : NW N) (he : e < 2 * nL N) (hu : up N S e = true) (hd : ∀ e, e < 2 * nL N → up N S e = false → clr S e) : OK N S (sp_prop N e S) := by
  have hb := nw.bo_b he
  have key : ∀ n, n ≤ nP N (bo N e) → OK N S (pfold (sp_take1 N (bo N e)) n S) := by
    intro n
    induction n with
    | zero => intro _; exact OK.rf
    | succ n ih =>
      intro hn
      have h1 := ih (by omega)
      have ql := nw.eo_l hb (show n < nP N (bo N e) by omega)
      refine h1.tr ?_
      have hd1 := h1.dn hd
      rw [show pfold (sp_take1 N (bo N e)) (n + 1) S = sp_take1 N (bo N e) n (pfold (sp_take1 N (bo N e)) n S) from rfl]
      generalize pfold (sp_take1 N (bo N e)) n S = S1 at *
      unfold sp_take1
      refine OK.it (fun c => ?_) (fun _ => OK.rf)
      have u1 : up N S1 (eo N (bo N e) n) = true := by
        cases hx : up N S1 (eo N (bo N e) n) with
        | true => rfl
        | false =>
          have := hd1 _ ql hx 0 (by omega)
          rw [this] at c
          exact absurd c (by simp [show ceq (0 : Int32) 2 = false from rfl])
      exact ((OK.rf.shut u1).zu u1 (by omega) (fun _ => dl0 nw)).zu u1 (by omega)
  unfold sp_prop
  exact ((OK.it (fun _ => key _ (Nat.le_refl _)) (fun _ => OK.rf)).zu hu (by omega)).zu hu (by omega)
theorem mk2_k : OK N S (pfold (sp_mk2 N b) (nP N b) S) := OK.pf (fun p S' _ _ => by
  unfold sp_mk2
  refine OK.it (fun c => OK.z (Or.inr ⟨0, by omega, fun x => ?_⟩) (by omega) (fun x => by omega) (fun x => by omega)) (fun _ => OK.rf)
  rw [x] at c; exact absurd c (by decide))
theorem foll_k (nw : NW N) (hu : up N S e = true) : OK N S (sp_foll N e q S) := by
  have h1 : OK N S (if ceq (S 22 (bo N e)) 1 = true then pfold (sp_mk2 N (bo N e)) (nP N (bo N e)) S else S) := OK.it (fun _ => mk2_k) (fun _ => OK.rf)
  have h2 : OK N S (if hb_ (S 59 q) 8 = true then zu (if ceq (S 22 (bo N e)) 1 = true then pfold (sp_mk2 N (bo N e)) (nP N (bo N e)) S else S) 3 e 0 else (if ceq (S 22 (bo N e)) 1 = true then pfold (sp_mk2 N (bo N e)) (nP N (bo N e)) S else S)) := OK.it (fun _ => h1.zu hu (by omega) (fun _ => by decide)) (fun _ => h1)
  unfold sp_foll
  exact OK.it (fun _ => h2.tr (spread_k nw)) (fun _ => h2)
theorem hold_k (hu : up N S e = true) : OK N S (sp_hold e q S) := by
  have z : ∀ f i, ¬ (10 ≤ f ∧ f ≤ 16 ∧ i = e) → sp_hold e q S f i = S f i := by
    intro f i h
    unfold sp_hold zu
    rw [if_neg (by omega), if_neg (by omega), if_neg (by omega), if_neg (by omega), if_neg (by omega), if_neg (by omega), if_neg (by omega)]
  refine ⟨fun f i h => z f i (fun x => h (by unfold XG; omega)), fun h j => ?_, fun e' u c k hk => ?_, fun i => Or.inl (z _ _ (by omega)), fun f i h1 h2 => z _ _ (by omega)⟩
  · obtain ⟨a1, a2, a3, a4⟩ := h j
    rw [z 2 _ (by omega), z 3 _ (by omega), z 27 _ (by omega)]
    refine ⟨a1, a2, a3, fun x => ?_⟩
    show ¬ (if 16 = 16 ∧ j = e then 3 else _) < 1
    by_cases c : j = e
    · rw [if_pos ⟨rfl, c⟩]; decide
    · rw [if_neg (fun y => c y.2)]
      rw [z 10 _ (by omega)] at x
      exact a4 x
  · have : e' ≠ e := fun x => by rw [x, hu] at u; cases u
    rw [z _ _ (by omega)]; exact c k hk
theorem config_k (nw : NW N) (he : e < 2 * nL N) (hu : up N S e = true) (hd : ∀ e, e < 2 * nL N → up N S e = false → clr S e) : OK N S (sp_config N e q S) := by
  have hb := nw.bo_b he
  unfold sp_config
  refine OK.it (fun _ => OK.it (fun _ => (OK.rf.zu hu (by omega) (fun x => by omega) (fun _ => by decide)).tr (choose_k nw hb)) (fun _ => OK.rf)) (fun _ => OK.it (fun _ => OK.rf.zu hu (by omega)) (fun _ => ?_))
  have h1 : OK N S (sp_choose N (bo N e) (sp_hold e q S)) := (hold_k hu).tr (choose_k nw hb)
  have hd1 := h1.dn hd
  have hu1 : up N (sp_choose N (bo N e) (sp_hold e q S)) e = true := by rw [up_eq h1.1]; exact hu
  refine h1.tr ?_
  generalize sp_choose N (bo N e) (sp_hold e q S) = S1 at *
  unfold sp_cfg2
  have h3 : OK N S1 (if hb_ (S1 59 q) 1 = true then sp_prop N e S1 else S1) := OK.it (fun _ => prop_k nw he hu1 hd1) (fun _ => OK.rf)
  exact OK.it (fun _ => OK.rf) (fun _ => OK.it (fun _ => h3.tr (foll_k nw (by rw [up_eq h3.1]; exact hu1))) (fun _ => h3))
theorem reply_k (nw : NW N) (hu : up N S e = true) : OK N S (sp_reply N e q S) := by
  have h1 : OK N S (if (hb_ (S 59 q) 2 && (((ceq (S 54 q) (S 23 (bo N e)) && ceq (S 55 q) (S 24 (bo N e))) && ceq (S 56 q) (S 31 (bo N e))) && ceq (S 57 q) (nI (po N e)))) = true then sp_open N e (zu S 4 e 1) else S) := OK.it (fun _ => (OK.rf.zu hu (by omega)).opn nw hu) (fun _ => OK.rf)
  unfold sp_reply
  exact OK.it (fun _ => OK.it (fun _ => OK.it (fun _ => ((h1.tr (spread_k nw)).zu hu (by omega)).zu hu (by omega)) (fun _ => h1.tr (spread_k nw))) (fun _ => h1)) (fun _ => OK.rf)
theorem read_k (nw : NW N) (he : e < 2 * nL N) (hu : up N S e = true) (hd : ∀ e, e < 2 * nL N → up N S e = false → clr S e) : OK N S (sp_read N e q S) := by
  have h1 : OK N S (sp_isr N e q S) := isr_k nw hu
  have hu1 : up N (sp_isr N e q S) e = true := by rw [up_eq h1.1]; exact hu
  unfold sp_read
  exact OK.it (fun _ => OK.it (fun _ => h1.tr (reply_k nw hu1)) (fun _ => h1.tr (config_k nw he hu1 (h1.dn hd)))) (fun _ => OK.rf)
end zI2
