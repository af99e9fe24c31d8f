/-! WHAT IS DUE depends on who is on, what is whole, and the priorities -/
def DSm (S S' : zS) : Prop := ∀ f i, f = 20 ∨ f = 21 ∨ f = 40 → S' f i = S f i
section zH1
variable {N : zN} {S S' : zS} {a b e e0 i k n r p : Nat} {W : Nat → Nat}
theorem dm_up (h : DSm S S') : up N S' e = up N S e := up_of (fun i => h 20 i (by omega)) (fun i => h 40 i (by omega))
theorem dm_id (h : DSm S S') : idS S' a = idS S a := by unfold idS; rw [h 21 _ (by omega)]
theorem dm_w0 (h : DSm S S') : w0 N S' = w0 N S := by
  funext k
  unfold w0
  rw [h 20 _ (by omega)]
theorem dm_we (h : DSm S S') : we1 N S' e W = we1 N S e W := by
  funext k
  unfold we1
  rw [dm_up h]
theorem dm_wE (h : DSm S S') : wE N S' = wE N S := by
  have e : we1 N S' = we1 N S := by funext k w; exact dm_we h
  unfold wE
  rw [e, dm_w0 h]
theorem dm_wW (h : DSm S S') : wW N S' = wW N S := by
  unfold wW
  rw [dm_wE h]
theorem dm_rtF (h : DSm S S') : rtF S' W b a k = rtF S W b a k := by
  unfold rtF
  rw [dm_id h, dm_id h]
theorem dm_rt (h : DSm S S') : rtR N S' b = rtR N S b := by
  have e : ∀ W, rtF S' W b = rtF S W b := fun W => by funext c o; exact dm_rtF h
  unfold rtR
  rw [dm_wW h, e]
theorem dm_kls (h : DSm S S') : kls N S' r e e0 = kls N S r e e0 := by
  unfold kls
  rw [dm_wW h, dm_id h, dm_id h]
theorem dm_rpF (h : DSm S S') (x : Option Nat) : rpF N S' b p x = rpF N S b p x := by
  by_cases c : (!(up N S (eo N b p)) || decide (bo N (fe (eo N b p)) = b)) = true
  · rw [rpF_skip c, rpF_skip (by rw [dm_up h]; exact c)]
  · have c' : ¬ (!(up N S' (eo N b p)) || decide (bo N (fe (eo N b p)) = b)) = true := by rw [dm_up h]; exact c
    cases x with
    | none => rw [rpF_none c, rpF_none c']
    | some p0 => rw [rpF_some c, rpF_some c', dm_rt h, dm_kls h]
theorem dm_rp (h : DSm S S') : rpD N S' b = rpD N S b := by
  have e : rpF N S' b = rpF N S b := by funext p x; exact dm_rpF h x
  unfold rpD
  rw [dm_rt h, e]
theorem dm_rl (h : DSm S S') : rlD N S' e = rlD N S e := by
  unfold rlD
  rw [dm_up h, dm_rp h, dm_wW h, dm_rt h, dm_id h, dm_id h]
theorem dm_ok {T : zS} (h : DSm S S') (q : DOK N S T) : DOK N S' T := by
  obtain ⟨q1, q2, q3⟩ := q
  refine ⟨fun b hb h20 => ?_, fun b hb h20 => ?_, fun e he => ?_⟩
  · rw [h 20 b (by omega)] at h20
    rw [dm_rt h, dm_id h, dm_wW h]; exact q1 b hb h20
  · rw [h 20 b (by omega)] at h20
    rw [dm_rp h]; exact q2 b hb h20
  · rw [dm_rl h]; exact q3 e he
/-- a step leaves alone what that depends on -/
theorem step_k {st f : Nat} (nw : NW N) (hf : f = 20 ∨ f = 21 ∨ f = 22 ∨ f = 40 ∨ f = 41 ∨ f = 46 ∨ f = 47 ∨ f = 38) : sp_step N st S f i = S f i := by
  have g1 : only XG S (if st % 8 = 0 then sp_ticks N S else S) := only.it (fun _ => ticks_g nw) (fun _ => only.rf)
  have g : only XG S (sp_says N st (sp_drop st (sp_arr N st (if st % 8 = 0 then sp_ticks N S else S)))) := ((g1.tr (arr_g nw)).tr drop_g).tr says_g
  unfold sp_step
  rw [show zu (sp_says N st (sp_drop st (sp_arr N st (if st % 8 = 0 then sp_ticks N S else S)))) 44 0 (nI (st + 1)) f i = sp_says N st (sp_drop st (sp_arr N st (if st % 8 = 0 then sp_ticks N S else S))) f i from if_neg (by omega)]
  exact g f i (by unfold XG; omega)
theorem step_0 {st : Nat} : sp_step N st S 44 0 = nI (st + 1) := by
  unfold sp_step
  rw [zu_eq, if_pos rfl]
theorem dm_step {st : Nat} (nw : NW N) : DSm S (sp_step N st S) := fun f i hf => step_k nw (by omega)
theorem dm_tr {S2 : zS} (h : DSm S S') (h2 : DSm S' S2) : DSm S S2 := fun f i hf => (h2 f i hf).trans (h f i hf)
end zH1
