/-! SPEC: what steps leave; CLASS: a step -/
/-- what no step changes: on, prio, old, links, homes, the number of the step, flags -/
def XG (f i : Nat) : Prop := ¬ (f = 20 ∨ f = 21 ∨ f = 22 ∨ f = 40 ∨ f = 41 ∨ f = 46 ∨ f = 47 ∨ f = 38 ∨ (f = 44 ∧ i = 0))
theorem XC.g {N : zN} {b f i : Nat} (h : XC N b f i) : XG f i := by
  unfold XG
  rcases h with h | h | h | h | h | h <;> omega
theorem XO.g {N : zN} {b f i : Nat} (h : XO N b f i) : XG f i := h.s.c.g
def sp_ticks (N : zN) (S : zS) : zS := pfold (fun b S => if ceq (S 20 b) 1 = true then sp_tick N b S else S) (nB N) S
def sp_arr1 (N : zN) (st b p : Nat) (S : zS) : zS := if ceq (S 60 (slot (eo N b p) st)) 1 = true then sp_read N (eo N b p) (slot (eo N b p) st) (zu S 60 (slot (eo N b p) st) 0) else S
def sp_arr (N : zN) (st : Nat) (S : zS) : zS := pfold (fun b S => pfold (sp_arr1 N st b) (nP N b) S) (nB N) S
def sp_drop (st : Nat) (S : zS) : zS := setL ((lS S).filter (fun q => !(decide (q % 3 = st % 3)))) (fun f i => if f = 61 ∧ i % 3 = st % 3 then 0 else S f i)
def sp_says (N : zN) (st : Nat) (S : zS) : zS := pfold (fun b S => pfold (fun p S => sp_speak N st (eo N b p) S) (nP N b) S) (nB N) S
def sp_step (N : zN) (st : Nat) (S : zS) : zS := zu (sp_says N st (sp_drop st (sp_arr N st (if st % 8 = 0 then sp_ticks N S else S)))) 44 0 (nI (st + 1))
section zC12
variable {N : zN} {s w : Nat} {μ0 μ μ' : zM} {S S' : zS} {e b l q st : Nat}
theorem onz {X : Nat → Nat → Prop} {S : zS} {f i : Nat} {v : Int32} (hx : X f i) : only X S (zu S f i v) := only.rf.zu hx
theorem fade_g (n : Nat) (x : zS × Bool) : only XG x.1 (pfold (sp_fd1 N b) n x).1 := by
  induction n with
  | zero => exact only.rf
  | succ n ih =>
    refine ih.tr ?_
    rw [pf_s]
    generalize pfold (sp_fd1 N b) n x = y
    unfold sp_fd1
    have h1 : only XG y.1 (if ceq (y.1 3 (eo N b n)) 0 = true then y.1 else zu y.1 3 (eo N b n) (y.1 3 (eo N b n) - 1)) := only.it (fun _ => only.rf) (fun _ => onz (by unfold XG; omega))
    dsimp only
    split
    · split
      · exact (h1.zu (by unfold XG; omega)).zu (by unfold XG; omega)
      · exact h1.zu (by unfold XG; omega)
    · exact h1
theorem fade_og : only XG S (sp_fade N b S).1 := by
  unfold sp_fade
  refine only.tr ?_ (fade_g (nP N b) (sp_fd0 b S, false))
  unfold sp_fd0
  exact only.it (fun _ => only.rf) (fun _ => onz (by unfold XG; omega))
theorem choose_g (nw : NW N) (hb : b < nB N) : only XG S (sp_choose N b S) := (choose_o nw hb).mono (fun _ _ h => h.g)
theorem open_g (nw : NW N) (he : e < 2 * nL N) : only XG S (sp_open N e S) := (open_o nw he).mono (fun _ _ h => h.g)
theorem shut_g (nw : NW N) (he : e < 2 * nL N) : only XG S (sp_shut N e S) := (shut_o nw he).mono (fun _ _ h => h.g)
theorem enter_g {v : Int32} (nw : NW N) (he : e < 2 * nL N) : only XG S (sp_enter N e v S) := (enter_o nw he).mono (fun _ _ h => h.g)
theorem spread_g (nw : NW N) (he : e < 2 * nL N) : only XG S (sp_spread N e S) := (spread_o nw he).mono (fun _ _ h => h.g)
theorem wt1_g {p : Nat} (nw : NW N) (hb : b < nB N) (hp : p < nP N b) : only XG S (sp_wt1 N b p S) := by
  have he := nw.eo_l hb hp
  have z2 : ∀ (S : zS) v, only XG S (zu S 2 (eo N b p) v) := fun S v => onz (by unfold XG; omega)
  unfold sp_wt1
  exact only.it (fun _ => only.rf) (fun _ => only.it (fun _ => only.it (fun _ => ((z2 _ _).tr (enter_g nw he)).zu (by unfold XG; omega)) (fun _ => (z2 _ _).tr (open_g nw he))) (fun _ => z2 _ _))
theorem ages_g : only XG S (sp_ages N b S) := by
  unfold sp_ages
  refine only.pf (fun h S hh => ?_)
  unfold sp_age1
  exact only.it (fun _ => only.rf) (fun _ => only.it (fun _ => (onz (by unfold XG; omega)).zu (by unfold XG; omega)) (fun _ => onz (by unfold XG; omega)))
theorem mark_g : only XG S (sp_mark N b S) := by
  unfold sp_mark
  refine only.pf (fun p S hh => ?_)
  unfold sp_mk1
  exact only.it (fun _ => onz (by unfold XG; omega)) (fun _ => only.rf)
theorem tick_g (nw : NW N) (hb : b < nB N) : only XG S (sp_tick N b S) := by
  unfold sp_tick
  exact (((only.it (fun _ => fade_og.tr (choose_g nw hb)) (fun _ => fade_og)).tr (only.pf (fun p S hp => wt1_g nw hb hp))).tr ages_g).tr mark_g
theorem isr_g (nw : NW N) (he : e < 2 * nL N) : only XG S (sp_isr N e q S) := by
  have h1 : only XG S (if ceq (S 5 e) 1 = true then zu (sp_shut N e (zu S 5 e 0)) 2 e (nI (nDl N)) else S) := only.it (fun _ => ((onz (by unfold XG; omega)).tr (shut_g nw he)).zu (by unfold XG; omega)) (fun _ => only.rf)
  unfold sp_isr
  exact only.it (fun _ => (h1.zu (by unfold XG; omega)).zu (by unfold XG; omega)) (fun _ => h1)
theorem prop_g (nw : NW N) (he : e < 2 * nL N) : only XG S (sp_prop N e S) := by
  unfold sp_prop
  exact ((only.it (fun _ => only.pf (fun p S hp => (take1_o nw (nw.bo_b he) hp).mono (fun _ _ h => h.g))) (fun _ => only.rf)).zu (by unfold XG; omega)).zu (by unfold XG; omega)
theorem foll_g (nw : NW N) (he : e < 2 * nL N) : only XG S (sp_foll N e q S) := by
  have h1 : only XG S (if ceq (S 22 (bo N e)) 1 = true then pfold (sp_mk2 N (bo N e)) (nP N (bo N e)) S else S) := only.it (fun _ => (mk2_o (Nat.le_refl _)).mono (fun _ _ h => h.g)) (fun _ => only.rf)
  have h2 : only XG S (if hb_ (S 59 q) 8 = true then zu (if ceq (S 22 (bo N e)) 1 = true then pfold (sp_mk2 N (bo N e)) (nP N (bo N e)) S else S) 3 e 0 else (if ceq (S 22 (bo N e)) 1 = true then pfold (sp_mk2 N (bo N e)) (nP N (bo N e)) S else S)) := only.it (fun _ => h1.zu (by unfold XG; omega)) (fun _ => h1)
  unfold sp_foll
  exact only.it (fun _ => h2.tr (spread_g nw he)) (fun _ => h2)
theorem config_g (nw : NW N) (he : e < 2 * nL N) : only XG S (sp_config N e q S) := by
  have hb := nw.bo_b he
  have hh : only XG S (sp_hold e q S) := by
    unfold sp_hold
    exact ((((((onz (by unfold XG; omega)).zu (by unfold XG; omega)).zu (by unfold XG; omega)).zu (by unfold XG; omega)).zu (by unfold XG; omega)).zu (by unfold XG; omega)).zu (by unfold XG; omega)
  unfold sp_config
  refine only.it (fun _ => only.it (fun _ => (onz (by unfold XG; omega)).tr (choose_g nw hb)) (fun _ => only.rf)) (fun _ => only.it (fun _ => onz (by unfold XG; omega)) (fun _ => (hh.tr (choose_g nw hb)).tr ?_))
  generalize sp_choose N (bo N e) (sp_hold e q S) = S1
  have h3 : only XG S1 (if hb_ (S1 59 q) 1 = true then sp_prop N e S1 else S1) := only.it (fun _ => prop_g nw he) (fun _ => only.rf)
  unfold sp_cfg2
  exact only.it (fun _ => only.rf) (fun _ => only.it (fun _ => h3.tr (foll_g nw he)) (fun _ => h3))
theorem reply_g (nw : NW N) (he : e < 2 * nL N) : only XG S (sp_reply N e q S) := by
  have h1 : only XG S (if (hb_ (S 59 q) 2 && (((ceq (S 54 q) (S 23 (bo N e)) && ceq (S 55 q) (S 24 (bo N e))) && ceq (S 56 q) (S 31 (bo N e))) && ceq (S 57 q) (nI (po N e)))) = true then sp_open N e (zu S 4 e 1) else S) := only.it (fun _ => (onz (by unfold XG; omega)).tr (open_g nw he)) (fun _ => only.rf)
  unfold sp_reply
  exact only.it (fun _ => only.it (fun _ => only.it (fun _ => ((h1.tr (spread_g nw he)).zu (by unfold XG; omega)).zu (by unfold XG; omega)) (fun _ => h1.tr (spread_g nw he))) (fun _ => h1)) (fun _ => only.rf)
theorem read_g (nw : NW N) (he : e < 2 * nL N) : only XG S (sp_read N e q S) := by
  unfold sp_read
  exact only.it (fun _ => only.it (fun _ => (isr_g nw he).tr (reply_g nw he)) (fun _ => (isr_g nw he).tr (config_g nw he))) (fun _ => only.rf)
theorem arr1_g {p : Nat} (nw : NW N) (hb : b < nB N) (hp : p < nP N b) : only XG S (sp_arr1 N st b p S) := by
  unfold sp_arr1
  exact only.it (fun _ => (onz (by unfold XG; omega)).tr (read_g nw (nw.eo_l hb hp))) (fun _ => only.rf)
theorem setL_o {l : List Nat} {S : zS} : only (fun f _ => f = 62 ∨ f = 63) S (setL l S) := fun f i h => by
  unfold setL
  rw [if_neg (by omega), if_neg (by omega)]
theorem setL_g {l : List Nat} {S : zS} : only XG S (setL l S) := setL_o.mono (fun f i h => by unfold XG; omega)
theorem mail_g {c : Bool} {bits : Int32} : only XG S (sp_mail N e st c bits S) := by
  unfold sp_mail
  exact ((((((((((onz (by unfold XG; omega)).zu (by unfold XG; omega)).zu (by unfold XG; omega)).zu (by unfold XG; omega)).zu (by unfold XG; omega)).zu (by unfold XG; omega)).zu (by unfold XG; omega)).zu (by unfold XG; omega)).zu (by unfold XG; omega)).zu (by unfold XG; omega)).tr setL_g
theorem speak_g : only XG S (sp_speak N st e S) := by
  have h1 : only XG S (zu (zu S 9 e 0) (if ceq (S 0 e) 2 = true then 8 else 7) e 0) := (onz (by unfold XG; omega)).zu (by unfold XG; split <;> omega)
  unfold sp_speak
  exact only.it (fun _ => only.it (fun _ => h1) (fun _ => h1.tr mail_g)) (fun _ => only.rf)
theorem XO.lo {N : zN} {b f i : Nat} (h : XO N b f i) : f ≤ 10 ∨ f = 27 ∨ f = 42 ∨ f = 44 ∨ f = 45 := by
  rcases h with h | h | h | h | h <;> omega
theorem isr_o (nw : NW N) (he : e < 2 * nL N) : only (fun f _ => f ≤ 10 ∨ f = 27 ∨ f = 42 ∨ f = 44 ∨ f = 45) S (sp_isr N e q S) := by
  have h1 : only (fun f _ => f ≤ 10 ∨ f = 27 ∨ f = 42 ∨ f = 44 ∨ f = 45) S (if ceq (S 5 e) 1 = true then zu (sp_shut N e (zu S 5 e 0)) 2 e (nI (nDl N)) else S) := only.it (fun _ => ((onz (by omega)).tr ((shut_o nw he).mono (fun _ _ h => h.lo))).zu (by omega)) (fun _ => only.rf)
  unfold sp_isr
  exact only.it (fun _ => (h1.zu (by omega)).zu (by omega)) (fun _ => h1)
theorem C_read (h : CS N s w μ0 μ S) (he : e < 2 * nL N) (hq : q < 84) : ∃ μ', (zb2 (f8_isRead s (nI e) (s + 93 + 2 * q) μ) fun t18 μ19 => if t18 = true then (if gB μ19 303 (s + 93 + 2 * q) = true then f8_readReply s (nI e) (s + 93 + 2 * q) μ19 else f8_readConfig s (nI e) (s + 93 + 2 * q) μ19) else some μ19) = some μ' ∧ CS N s w μ0 μ' (sp_read N e q S) := by
  have nw := h.nw
  obtain ⟨μ1, e1, h1⟩ := C_isr h he hq
  rw [e1, ozb2]
  unfold sp_read
  by_cases c : sp_read? N e q S = true
  · simp only [if_pos c] at h1 ⊢
    have k53 : sp_isr N e q S 53 q = S 53 q := isr_o nw he 53 q (by omega)
    rw [h1.r_reply hq, k53]
    by_cases c2 : ceq (S 53 q) 1 = true
    · simp only [if_pos c2]; exact C_reply h1 he hq
    · simp only [if_neg c2]; exact C_config h1 he hq
  · simp only [if_neg c] at h1 ⊢
    exact ⟨_, rfl, h1⟩
end zC12
