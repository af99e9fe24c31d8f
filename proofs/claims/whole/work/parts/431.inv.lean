/-! SPEC: what holds always, the acts of bridges -/
section zI1
variable {N : zN} {S S1 S2 S' : zS} {e b p q : Nat} {v : Int32}
theorem open_k (nw : NW N) (hu : up N S e = true) : OK N S (sp_open N e S) := by
  have h1 : OK N S (zu (sp_enter N e 2 S) 2 e 0) := (enter_k (Or.inl hu)).zu hu (by omega) (fun _ => by decide)
  unfold sp_open
  exact OK.it (fun _ => OK.rf) (fun _ => OK.it (fun _ => h1) (fun _ => ((h1.zu hu (by omega) (fun _ => by decide)).zu hu (by omega)).tr (spread_k nw)))
theorem OK.opn (h : OK N S S1) (nw : NW N) (hu : up N S e = true) : OK N S (sp_open N e S1) := h.tr (open_k nw (by rw [up_eq h.1]; exact hu))
theorem OK.shut (h : OK N S S1) (hu : up N S e = true) : OK N S (sp_shut N e S1) := h.tr (shut_k (by rw [up_eq h.1]; exact hu))
theorem dl0 (nw : NW N) : ¬ nI (nDl N) < 0 := nn (by have := nw.dl; omega)
theorem setl_k {mv : Int32} (nw : NW N) (hu : up N S (eo N b p) = true ∨ S 0 (eo N b p) = 0) : OK N S (sp_setl N b mv p S) := by
  rcases hu with hu | h0
  · have d := dl0 nw
    unfold sp_setl
    refine OK.it (fun _ => OK.it (fun _ => OK.it (fun _ => (OK.rf.zu hu (by omega)).zu hu (by omega) (fun _ => d)) (fun _ => OK.rf.zu hu (by omega))) (fun _ => (OK.rf.zu hu (by omega)).opn nw hu)) (fun _ => OK.it (fun _ => OK.it (fun _ => OK.it (fun _ => ?_) (fun _ => ?_)) (fun _ => OK.it (fun _ => ((((OK.rf.zu hu (by omega) (fun x => by omega) (fun _ => by decide)).zu hu (by omega)).zu hu (by omega)).zu hu (by omega)).opn nw hu) (fun _ => (((((OK.rf.zu hu (by omega) (fun x => by omega) (fun _ => by decide)).zu hu (by omega)).zu hu (by omega)).zu hu (by omega)).zu hu (by omega) (fun _ => d)).shut hu))) (fun _ => OK.it (fun _ => OK.rf) (fun _ => ((((OK.rf.zu hu (by omega)).zu hu (by omega) (fun _ => by decide)).zu hu (by omega) (fun _ => by decide)).zu hu (by omega)).shut hu)))
    · exact (OK.it (fun _ => (OK.rf.zu hu (by omega) (fun x => by omega) (fun _ => by decide)).zu hu (by omega)) (fun _ => ((OK.rf.zu hu (by omega) (fun x => by omega) (fun _ => by decide)).zu hu (by omega)).zu hu (by omega))).zu hu (by omega)
    · exact OK.it (fun _ => (OK.rf.zu hu (by omega) (fun x => by omega) (fun _ => by decide)).zu hu (by omega)) (fun _ => ((OK.rf.zu hu (by omega) (fun x => by omega) (fun _ => by decide)).zu hu (by omega)).zu hu (by omega))
  · unfold sp_setl
    rw [h0]
    exact OK.rf
theorem bef_k : OK N S (sp_bef b S) := by
  unfold sp_bef
  exact (((OK.zf (by omega)).tr (OK.zf (by omega))).tr (OK.zf (by omega))).tr (OK.zf (by omega))
theorem lead_k {o : Option Nat} : OK N S (sp_lead N b o S) := by
  cases o with
  | none => exact (((((OK.zf (by omega)).tr (OK.zf (by omega))).tr (OK.zf (by omega))).tr (OK.zf (by omega))).tr (OK.zf (by omega))).tr (OK.zf (by omega))
  | some p => exact (((((OK.zf (by omega)).tr (OK.zf (by omega))).tr (OK.zf (by omega))).tr (OK.zf (by omega))).tr (OK.zf (by omega))).tr (OK.zf (by omega))
theorem role_dn (h : up N S (eo N b p) = false) : sp_role N b p S = 0 := by unfold sp_role; rw [if_neg (by rw [h]; decide)]
theorem roles_k : OK N S (sp_roles N b S) := by
  unfold sp_roles
  refine OK.pf (fun p S' _ _ => ?_)
  have h1 : OK N S' (zu (zu S' 49 (eo N b p) (S' 0 (eo N b p))) 48 p (S' 0 (eo N b p))) := (OK.zf (by omega)).tr (OK.zf (by omega))
  cases hu : up N S' (eo N b p) with
  | true => exact h1.zu hu (by omega)
  | false =>
    refine ⟨h1.1.zu (by unfold XG; omega), fun h => ?_, fun e u c k hk => ?_, fun i => h1.2.2.2.1 i, fun f i h2 h3 => (if_neg (by omega)).trans (h1.2.2.2.2 f i h2 h3)⟩
    · exact h1.2.1 h
    · show (if k = 0 ∧ e = eo N b p then sp_role N b p S' else _) = 0
      split
      · exact role_dn hu
      · exact h1.2.2.1 e u c k hk
theorem ch1_k : OK N S (sp_ch1 N b S) := by
  unfold sp_ch1
  exact (bef_k.tr lead_k).tr roles_k
/-- roles behind the choice of them -/
theorem roles_r (nw : NW N) (hb : b < nB N) (hp : p < nP N b) : sp_roles N b S 0 (eo N b p) = sp_role N b p S := by
  have key : ∀ n, n ≤ nP N b → (p < n → pfold (fun p S => zu (zu (zu S 49 (eo N b p) (S 0 (eo N b p))) 48 p (S 0 (eo N b p))) 0 (eo N b p) (sp_role N b p S)) n S 0 (eo N b p) = sp_role N b p S) := by
    intro n
    induction n with
    | zero => intro _ h; omega
    | succ n ih =>
      intro hn hpn
      have on1 := roles_oi (N := N) (b := b) (S := S) n (by omega)
      have ih := ih (by omega)
      rw [pf_s]
      generalize pfold (fun p S => zu (zu (zu S 49 (eo N b p) (S 0 (eo N b p))) 48 p (S 0 (eo N b p))) 0 (eo N b p) (sp_role N b p S)) n S = S1 at *
      show (if 0 = 0 ∧ eo N b p = eo N b n then sp_role N b n S1 else S1 0 (eo N b p)) = _
      by_cases c : p = n
      · subst c
        rw [if_pos ⟨rfl, rfl⟩]
        unfold sp_role idS up
        rw [on1 40 _ (by omega), on1 20 _ (by omega), on1 20 _ (by omega), on1 25 _ (by omega), on1 10 _ (by omega), on1 11 _ (by omega), on1 12 _ (by omega), on1 13 _ (by omega), on1 14 _ (by omega), on1 23 _ (by omega), on1 24 _ (by omega), on1 31 _ (by omega), on1 21 _ (by omega)]
      · rw [if_neg (fun x => c (nw.eo_i hb hp (by omega) x.2))]
        exact ih (by omega)
  exact key (nP N b) (Nat.le_refl _) hp
theorem ch1_r (nw : NW N) (hb : b < nB N) (hp : p < nP N b) (hu : up N S (eo N b p) = false) : sp_ch1 N b S 0 (eo N b p) = 0 := by
  unfold sp_ch1
  rw [roles_r nw hb hp]
  exact role_dn (by rw [up_eq (bef_k.tr (lead_k (b := b) (o := sp_rt N b S))).1]; exact hu)
theorem end_k : OK N S (sp_end b S) := by
  unfold sp_end
  exact ((OK.zf (by omega)).tr (OK.zf (by omega))).tr (OK.zf (by omega))
theorem choose_k (nw : NW N) (hb : b < nB N) : OK N S (sp_choose N b S) := by
  unfold sp_choose
  refine ((ch1_k (b := b)).tr ?_).tr end_k
  generalize sp_mv b S (sp_ch1 N b S) = mv
  have hr : ∀ p, p < nP N b → up N S (eo N b p) = true ∨ sp_ch1 N b S 0 (eo N b p) = 0 := fun p hp => by
    cases h : up N S (eo N b p) with
    | true => exact Or.inl rfl
    | false => exact Or.inr (ch1_r nw hb hp h)
  have hup : ∀ e, up N (sp_ch1 N b S) e = up N S e := fun e => up_eq (ch1_k (b := b)).1
  generalize sp_ch1 N b S = S1 at *
  have key : ∀ n, n ≤ nP N b → OK N S1 (pfold (sp_setl N b mv) n S1) := by
    intro n
    induction n with
    | zero => intro _; exact OK.rf
    | succ n ih =>
      intro hn
      have h1 := ih (by omega)
      refine h1.tr (setl_k nw ?_)
      rw [up_eq h1.1, hup]
      have on1 : only (XS N b) S1 (pfold (sp_setl N b mv) n S1) := only.pf (fun p S hp => setl_o nw hb (by omega))
      rw [on1 0 (eo N b n) (by unfold XS; omega)]
      exact hr n (by omega)
  exact key _ (Nat.le_refl _)
/-- a bridge that is on: what it chose, who holds -/
def BR (N : zN) (b : Nat) (S : zS) : Prop := (S 32 b = 1 ∧ S 31 b = idS S b ∧ S 28 b = S 23 b ∧ S 29 b = S 24 b ∧ S 30 b = S 31 b) ∧ ∀ p, p < nP N b → (S 0 (eo N b p) ≠ 0 → S 0 (eo N b p) ≠ 2 → S 10 (eo N b p) = 1) ∧ (up N S (eo N b p) = true → S 0 (eo N b p) ≠ 0)
theorem up_of (h20 : ∀ i, S' 20 i = S 20 i) (h40 : ∀ i, S' 40 i = S 40 i) : up N S' e = up N S e := by
  unfold up
  rw [h20, h20, h40]
theorem BR.keep (h : BR N b S) (hs : ∀ f i, f = 0 ∨ f = 10 → (∃ p, p < nP N b ∧ i = eo N b p) → S' f i = S f i) (hs2 : ∀ f, f = 21 ∨ f = 23 ∨ f = 24 ∨ (28 ≤ f ∧ f ≤ 32) → S' f b = S f b) (hup : ∀ e, up N S' e = up N S e) : BR N b S' := by
  obtain ⟨⟨a1, a2, a3, a4, a5⟩, a6⟩ := h
  unfold idS at a2
  refine ⟨⟨?_, ?_, ?_, ?_, ?_⟩, fun p hp => ⟨fun h1 h2 => ?_, fun h1 => ?_⟩⟩
  · rw [hs2 32 (by omega)]; exact a1
  · unfold idS; rw [hs2 31 (by omega), hs2 21 (by omega)]; exact a2
  · rw [hs2 28 (by omega), hs2 23 (by omega)]; exact a3
  · rw [hs2 29 (by omega), hs2 24 (by omega)]; exact a4
  · rw [hs2 30 (by omega), hs2 31 (by omega)]; exact a5
  · rw [hs 0 _ (Or.inl rfl) ⟨p, hp, rfl⟩] at h1 h2
    rw [hs 10 _ (Or.inr rfl) ⟨p, hp, rfl⟩]
    exact (a6 p hp).1 h1 h2
  · rw [hup] at h1
    rw [hs 0 _ (Or.inl rfl) ⟨p, hp, rfl⟩]
    exact (a6 p hp).2 h1
theorem choose_br (nw : NW N) (hb : b < nB N) : BR N b (sp_choose N b S) := by
  unfold sp_choose
  have l := lead_b (N := N) (S := sp_bef b S) (b := b) (sp_rt N b S)
  have ro := roles_o N b (sp_lead N b (sp_rt N b S) (sp_bef b S))
  have lo := lead_o N b (sp_rt N b S) (sp_bef b S)
  have h32 : sp_ch1 N b S 32 b = 1 := (ro 32 b (by omega)).trans l.2.2
  have h31 : sp_ch1 N b S 31 b = idS (sp_ch1 N b S) b := by
    unfold idS
    rw [show sp_ch1 N b S 31 b = sp_lead N b (sp_rt N b S) (sp_bef b S) 31 b from ro 31 b (by omega), show sp_ch1 N b S 21 b = sp_lead N b (sp_rt N b S) (sp_bef b S) 21 b from ro 21 b (by omega), l.2.1, lo 21 b (by omega)]; rfl
  have hh : ∀ p, p < nP N b → sp_ch1 N b S 0 (eo N b p) ≠ 0 → sp_ch1 N b S 0 (eo N b p) ≠ 2 → sp_ch1 N b S 10 (eo N b p) = 1 := by
    intro p hp h0 h2
    have e10 : sp_ch1 N b S 10 (eo N b p) = S 10 (eo N b p) := (ro 10 _ (by omega)).trans ((lo 10 _ (by omega)).trans rfl)
    have e0 : sp_ch1 N b S 0 (eo N b p) = sp_role N b p (sp_lead N b (sp_rt N b S) (sp_bef b S)) := roles_r nw hb hp
    rw [e10]
    rw [e0] at h0 h2
    unfold sp_role at h0 h2
    have l10 : sp_lead N b (sp_rt N b S) (sp_bef b S) 10 (eo N b p) = S 10 (eo N b p) := (lo 10 _ (by omega)).trans rfl
    by_cases c1 : up N (sp_lead N b (sp_rt N b S) (sp_bef b S)) (eo N b p) = true
    · rw [if_pos c1] at h0 h2
      by_cases c2 : ceq (nI p) (sp_lead N b (sp_rt N b S) (sp_bef b S) 25 b) = true
      · rw [l.1] at c2
        cases hr : sp_rt N b S with
        | none =>
          rw [hr] at c2
          have := oI_none (p := p) (by have := nw.p6 hb; omega)
          rw [show oI none = -1 from rfl] at c2
          rw [this] at c2; cases c2
        | some p' =>
          rw [hr] at c2
          obtain ⟨r1, r2⟩ := rt_h hr
          have p6 := nw.p6 hb
          have : p = p' := (nI_eq (by omega) (by omega)).mp (ceq_of c2)
          rw [this]; exact r2
      · rw [if_neg c2] at h0 h2
        by_cases c3 : (ceq (sp_lead N b (sp_rt N b S) (sp_bef b S) 10 (eo N b p)) 1 && vlt (sp_lead N b (sp_rt N b S) (sp_bef b S) 11 (eo N b p)) (sp_lead N b (sp_rt N b S) (sp_bef b S) 12 (eo N b p)) (sp_lead N b (sp_rt N b S) (sp_bef b S) 13 (eo N b p)) (sp_lead N b (sp_rt N b S) (sp_bef b S) 14 (eo N b p)) (sp_lead N b (sp_rt N b S) (sp_bef b S) 23 b) (sp_lead N b (sp_rt N b S) (sp_bef b S) 24 b) (sp_lead N b (sp_rt N b S) (sp_bef b S) 31 b) (nI p)) = true
        · have := (Bool.and_eq_true_iff.mp c3).1
          rw [l10] at this
          exact ceq_of this
        · rw [if_neg c3] at h2
          exact absurd rfl h2
    · rw [if_neg c1] at h0
      exact absurd rfl h0
  have hr : ∀ p, p < nP N b → up N (sp_ch1 N b S) (eo N b p) = true → sp_ch1 N b S 0 (eo N b p) ≠ 0 := by
    intro p hp hu
    have e0 : sp_ch1 N b S 0 (eo N b p) = sp_role N b p (sp_lead N b (sp_rt N b S) (sp_bef b S)) := roles_r nw hb hp
    have hu1 : up N (sp_lead N b (sp_rt N b S) (sp_bef b S)) (eo N b p) = true := by
      rw [← hu]
      exact (up_of (fun i => ro 20 i (by omega)) (fun i => ro 40 i (by omega))).symm
    rw [e0]
    unfold sp_role
    rw [if_pos hu1]
    split
    · decide
    · split
      · split <;> decide
      · decide
  generalize sp_mv b S (sp_ch1 N b S) = mv
  generalize sp_ch1 N b S = S1 at *
  have key : ∀ n, n ≤ nP N b → ∀ p, p < nP N b → pfold (sp_setl N b mv) n S1 0 (eo N b p) ≠ 0 → pfold (sp_setl N b mv) n S1 0 (eo N b p) ≠ 2 → pfold (sp_setl N b mv) n S1 10 (eo N b p) = 1 := by
    intro n
    induction n with
    | zero => intro _; exact hh
    | succ n ih =>
      intro hn p hp h0 h2
      have ih := ih (by omega)
      rw [pf_s] at h0 h2 ⊢
      have so := setl_o (S := pfold (sp_setl N b mv) n S1) (mv := mv) nw hb (show n < nP N b by omega)
      rw [so 0 _ (by unfold XS; omega)] at h0 h2
      have i10 := ih p hp h0 h2
      generalize pfold (sp_setl N b mv) n S1 = S2 at *
      by_cases c : p = n
      · subst c
        unfold sp_setl
        have hbb := nw.bo_eo hb hp
        have ql := nw.eo_l hb hp
        have op : ∀ S, sp_open N (eo N b p) S 10 (eo N b p) = S 10 (eo N b p) := fun S => open_o nw ql 10 _ (by unfold XO; omega)
        have sh : ∀ S, sp_shut N (eo N b p) S 10 (eo N b p) = S 10 (eo N b p) := fun S => shut_o nw ql 10 _ (by unfold XO; omega)
        have n2 : ceq (S2 0 (eo N b p)) 2 = false := ceq_f h2
        have n0 : ceq (S2 0 (eo N b p)) 0 = false := ceq_f h0
        rw [n2, n0]
        simp only [Bool.false_eq_true, ↓reduceIte]
        split
        · split
          · split
            · exact i10
            · exact i10
          · rw [op]; exact i10
        · rw [sh]; exact i10
      · have hne : eo N b p ≠ eo N b n := fun x => c (nw.eo_i hb hp (by omega) x)
        have ql := nw.eo_l hb (show n < nP N b by omega)
        have op : ∀ S, sp_open N (eo N b n) S 10 (eo N b p) = S 10 (eo N b p) := fun S => open_o nw ql 10 _ (by unfold XO; omega)
        have sh : ∀ S, sp_shut N (eo N b n) S 10 (eo N b p) = S 10 (eo N b p) := fun S => shut_o nw ql 10 _ (by unfold XO; omega)
        have z : ∀ (S : zS) f v, zu S f (eo N b n) v 10 (eo N b p) = S 10 (eo N b p) := fun S f v => if_neg (fun x => hne x.2)
        have : sp_setl N b mv n S2 10 (eo N b p) = S2 10 (eo N b p) := by
          unfold sp_setl
          repeat' split
          all_goals simp only [op, sh, z]
        rw [this]; exact i10
  have on6 : only (XS N b) S1 (pfold (sp_setl N b mv) (nP N b) S1) := only.pf (fun p S hp => setl_o nw hb hp)
  have k6 := key (nP N b) (Nat.le_refl _)
  have g32 := (on6 32 b (by unfold XS; omega)).trans h32
  have g31 := on6 31 b (by unfold XS; omega)
  have g21 := on6 21 b (by unfold XS; omega)
  have g0 : ∀ i, pfold (sp_setl N b mv) (nP N b) S1 0 i = S1 0 i := fun i => on6 0 i (by unfold XS; omega)
  have gup : ∀ e, up N (pfold (sp_setl N b mv) (nP N b) S1) e = up N S1 e := fun e => up_of (fun i => on6 20 i (by unfold XS; omega)) (fun i => on6 40 i (by unfold XS; omega))
  generalize pfold (sp_setl N b mv) (nP N b) S1 = S6 at *
  refine ⟨⟨g32, ?_, ?_, ?_, ?_⟩, fun p hp => ⟨k6 p hp, fun hu x => ?_⟩⟩
  · show S6 31 b = 16 * S6 21 b + nI b
    rw [g31, h31, g21]; rfl
  · show (if 28 = 28 ∧ b = b then S6 23 b else S6 28 b) = S6 23 b
    exact if_pos ⟨rfl, rfl⟩
  · show (if 29 = 29 ∧ b = b then S6 24 b else S6 29 b) = S6 24 b
    exact if_pos ⟨rfl, rfl⟩
  · show (if 30 = 30 ∧ b = b then S6 31 b else S6 30 b) = S6 31 b
    exact if_pos ⟨rfl, rfl⟩
  · have x : S6 0 (eo N b p) = 0 := x
    have hu : up N S6 (eo N b p) = true := hu
    rw [g0] at x
    rw [gup] at hu
    exact hr p hp hu x
end zI1
