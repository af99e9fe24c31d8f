/-! REFERENCE: marks, a tick -/
/-- marks of ports by a fixed word -/
def mkF (N : zN) (b : Nat) (c : Nat → Bool) (n : Nat) (S : zS) : zS := pfold (fun p S' => if c p = true then zu S' 9 (eo N b p) 1 else S') n S
section zR7
variable {N : zN} {m B : Nat} {ν0 ν ν' : zM} {S S' : zS} {R R' : Nat → Int32} {e b l h k : Nat}
theorem mkF_o {c : Nat → Bool} {n f i : Nat} (hf : f ≠ 9) : mkF N b c n S f i = S f i := by
  unfold mkF
  exact (only.pf (X := fun f _ => f = 9) (fun p S _ => only.it (fun _ => onz rfl) (fun _ => only.rf))) f i hf
theorem mkF_y {c : Nat → Bool} {i : Nat} : ∀ {n : Nat}, (∃ p, p < n ∧ eo N b p = i ∧ c p = true) → mkF N b c n S 9 i = 1
  | 0, h => by obtain ⟨p, hp, _⟩ := h; omega
  | n + 1, h => by
    rw [show mkF N b c (n + 1) S = (if c n = true then zu (mkF N b c n S) 9 (eo N b n) 1 else mkF N b c n S) from rfl]
    obtain ⟨p, hp, h1, h2⟩ := h
    by_cases hpn : p = n
    · subst hpn
      rw [if_pos h2, ← h1]; exact if_pos ⟨rfl, rfl⟩
    · have ih := mkF_y (n := n) ⟨p, by omega, h1, h2⟩
      split
      · show (if 9 = 9 ∧ i = eo N b n then (1 : Int32) else mkF N b c n S 9 i) = 1
        rw [ih]; split <;> rfl
      · exact ih
theorem mkF_n {c : Nat → Bool} {i : Nat} : ∀ {n : Nat}, (¬ ∃ p, p < n ∧ eo N b p = i ∧ c p = true) → mkF N b c n S 9 i = S 9 i
  | 0, h => rfl
  | n + 1, h => by
    rw [show mkF N b c (n + 1) S = (if c n = true then zu (mkF N b c n S) 9 (eo N b n) 1 else mkF N b c n S) from rfl]
    have ih := mkF_n (n := n) (fun ⟨p, hp, h1, h2⟩ => h ⟨p, by omega, h1, h2⟩)
    split
    · rename_i c1
      show (if 9 = 9 ∧ i = eo N b n then (1 : Int32) else mkF N b c n S 9 i) = S 9 i
      rw [if_neg (fun x => h ⟨n, by omega, x.2.symm, c1⟩)]; exact ih
    · exact ih
/-- the word may be asked as one goes -/
theorem mkF_e {cc : Nat → zS → Bool} (hc : ∀ p S', (∀ f i, f ≠ 9 → S' f i = S f i) → cc p S' = cc p S) : ∀ n, pfold (fun p S' => if cc p S' = true then zu S' 9 (eo N b p) 1 else S') n S = mkF N b (fun p => cc p S) n S
  | 0 => rfl
  | n + 1 => by
    have ih := mkF_e hc n
    rw [pf_s, ih, hc n _ (fun f i hf => mkF_o hf)]; rfl
theorem mkF_2 {c1 c2 c3 : Nat → Bool} {n : Nat} (hc : ∀ p, p < n → c3 p = (c1 p || c2 p)) : mkF N b c2 n (mkF N b c1 n S) = mkF N b c3 n S := by
  funext f i
  by_cases hf : f = 9
  · subst hf
    by_cases h2 : ∃ p, p < n ∧ eo N b p = i ∧ c2 p = true
    · rw [mkF_y h2]
      obtain ⟨p, hp, h3, h4⟩ := h2
      rw [mkF_y ⟨p, hp, h3, by rw [hc p hp, h4, Bool.or_true]⟩]
    · rw [mkF_n h2]
      by_cases h1 : ∃ p, p < n ∧ eo N b p = i ∧ c1 p = true
      · rw [mkF_y h1]
        obtain ⟨p, hp, h3, h4⟩ := h1
        rw [mkF_y ⟨p, hp, h3, by rw [hc p hp, h4, Bool.true_or]⟩]
      · rw [mkF_n h1, mkF_n]
        rintro ⟨p, hp, h3, h4⟩
        rw [hc p hp] at h4
        rcases Bool.or_eq_true_iff.mp h4 with h5 | h5
        · exact h1 ⟨p, hp, h3, h5⟩
        · exact h2 ⟨p, hp, h3, h5⟩
  · rw [mkF_o hf, mkF_o hf, mkF_o hf]
theorem R_marks (q : MS N m B ν0 ν S) (hb : b < nB N) : ∃ ν', f12_marksAll m (nI b) 2 ν = some ν' ∧ MS N m B ν0 ν' (pfold (sp_mk2 N b) (nP N b) S) := by
  have nw := q.nw
  have hb8 := nw.b_8 hb
  have hp6 := nw.p6 hb
  obtain ⟨ν1, e1, q1⟩ := lp (Q := MS N m B ν0) (body := fun s => f12_marksAll_L1 m (nI b) 2 s.1 s.2) (fun i => nI (6 * b + i)) (sp_mk2 N b) (nP N b) (S := S) (μ := ν) (x0 := nI (6 * b + 0)) (by
    intro i ν1 hi q1
    generalize pfold (sp_mk2 N b) i S = S1 at *
    have ql := nw.eo_l hb hi
    have hinc : nI (pl N (eo N b i)) + 1 = nI (6 * b + (i + 1)) := by rw [nw.pl_eo hb hi, nI_1]; rfl
    show ∃ ν', f12_marksAll_L1 m (nI b) 2 (nI (6 * b + i)) ν1 = some (.inl (nI (6 * b + (i + 1)), ν')) ∧ _
    unfold f12_marksAll_L1 sp_mk2
    rw [q1.g_p hb, obs, pl_add, obs, clt_nI (by omega) (by omega), decide_eq_true (show 6 * b + i < 6 * b + nP N b by omega), if_pos rfl, plE nw hb hi, q1.p0 ql, obs, hinc]
    by_cases c : ceq (S1 0 (eo N b i)) 2 = true
    · simp only [if_pos c]
      obtain ⟨ν2, e2, q2⟩ := q1.s9 ql (v := 1) (Or.inr rfl)
      exact ⟨ν2, by rw [e2]; rfl, q2⟩
    · simp only [if_neg c]
      exact ⟨_, rfl, q1⟩) (by
    intro ν1 q1
    show f12_marksAll_L1 m (nI b) 2 (nI (6 * b + nP N b)) ν1 = _
    unfold f12_marksAll_L1
    rw [q1.g_p hb, obs, pl_add, obs, clt_nI (by omega) (by omega), decide_eq_false (by omega), if_neg (by decide)]) (by omega) q
  have e0 : f12_placeOf (nI b) 0 ν = some (nI (6 * b + 0)) := pl_add b 0
  unfold f12_marksAll
  rw [e0, obs]
  exact ⟨ν1, zb_lp e1, q1⟩
def sp_mk3 (N : zN) (b p : Nat) (S : zS) : zS := if (ceq (S 0 (eo N b p)) 1 && !(ceq (S 3 (eo N b p)) 0)) = true then zu S 9 (eo N b p) 1 else S
theorem mark_2 : sp_mark N b S = pfold (sp_mk3 N b) (nP N b) (if (!(ceq (S 22 b) 1) || ceq (S 25 b) (-1)) = true then pfold (sp_mk2 N b) (nP N b) S else S) := by
  unfold sp_mark
  generalize (!(ceq (S 22 b) 1) || ceq (S 25 b) (-1)) = sk
  have h1 : pfold (sp_mk1 N b sk) (nP N b) S = mkF N b (fun p => (ceq (S 0 (eo N b p)) 2 && sk) || (ceq (S 0 (eo N b p)) 1 && !(ceq (S 3 (eo N b p)) 0))) (nP N b) S := mkF_e (cc := fun p S => (ceq (S 0 (eo N b p)) 2 && sk) || (ceq (S 0 (eo N b p)) 1 && !(ceq (S 3 (eo N b p)) 0))) (fun p S' h => by simp only [h 0 _ (show (0 : Nat) ≠ 9 by omega), h 3 _ (show (3 : Nat) ≠ 9 by omega)]) _
  have h3 : ∀ S0, pfold (sp_mk3 N b) (nP N b) S0 = mkF N b (fun p => ceq (S0 0 (eo N b p)) 1 && !(ceq (S0 3 (eo N b p)) 0)) (nP N b) S0 := fun S0 => mkF_e (cc := fun p S => ceq (S 0 (eo N b p)) 1 && !(ceq (S 3 (eo N b p)) 0)) (fun p S' h => by simp only [h 0 _ (show (0 : Nat) ≠ 9 by omega), h 3 _ (show (3 : Nat) ≠ 9 by omega)]) _
  have h2 : pfold (sp_mk2 N b) (nP N b) S = mkF N b (fun p => ceq (S 0 (eo N b p)) 2) (nP N b) S := mkF_e (cc := fun p S => ceq (S 0 (eo N b p)) 2) (fun p S' h => by simp only [h 0 _ (show (0 : Nat) ≠ 9 by omega)]) _
  rw [h1, h3]
  cases sk with
  | true =>
    simp only [↓reduceIte, Bool.and_true]
    rw [h2]
    have r : ∀ p, mkF N b (fun p => ceq (S 0 (eo N b p)) 2) (nP N b) S 0 (eo N b p) = S 0 (eo N b p) := fun p => mkF_o (by omega)
    have r3 : ∀ p, mkF N b (fun p => ceq (S 0 (eo N b p)) 2) (nP N b) S 3 (eo N b p) = S 3 (eo N b p) := fun p => mkF_o (by omega)
    simp only [r, r3]
    exact (mkF_2 (fun p _ => rfl)).symm
  | false =>
    simp only [Bool.false_eq_true, ↓reduceIte, Bool.and_false, Bool.false_or]
theorem R_mk3 (q : MS N m B ν0 ν S) (hb : b < nB N) : ∃ ν', zloop (fun s => f12_ticks_L2 m (nI b) s.1 s.2) 1000000 (nI (6 * b + 0), ν) = some (nI (6 * b + nP N b), ν') ∧ MS N m B ν0 ν' (pfold (sp_mk3 N b) (nP N b) S) := by
  have nw := q.nw
  have hb8 := nw.b_8 hb
  have hp6 := nw.p6 hb
  refine lp (Q := MS N m B ν0) (fun i => nI (6 * b + i)) (sp_mk3 N b) (nP N b) ?_ ?_ (by omega) q
  · intro i ν1 hi q1
    generalize pfold (sp_mk3 N b) i S = S1 at *
    have ql := nw.eo_l hb hi
    have hinc : nI (pl N (eo N b i)) + 1 = nI (6 * b + (i + 1)) := by rw [nw.pl_eo hb hi, nI_1]; rfl
    show ∃ ν', f12_ticks_L2 m (nI b) (nI (6 * b + i)) ν1 = some (.inl (nI (6 * b + (i + 1)), ν')) ∧ _
    unfold f12_ticks_L2 sp_mk3
    rw [q1.g_p hb, obs, pl_add, obs, clt_nI (by omega) (by omega), decide_eq_true (show 6 * b + i < 6 * b + nP N b by omega), if_pos rfl, plE nw hb hi]
    simp only [q1.p0 ql, q1.p3 ql, obs, hinc, zand]
    by_cases c : (ceq (S1 0 (eo N b i)) 1 && !(ceq (S1 3 (eo N b i)) 0)) = true
    · simp only [if_pos c]
      obtain ⟨ν2, e2, q2⟩ := q1.s9 ql (v := 1) (Or.inr rfl)
      exact ⟨ν2, by rw [e2]; rfl, q2⟩
    · simp only [if_neg c]
      exact ⟨_, rfl, q1⟩
  · intro ν1 q1
    show f12_ticks_L2 m (nI b) (nI (6 * b + nP N b)) ν1 = _
    unfold f12_ticks_L2
    rw [q1.g_p hb, obs, pl_add, obs, clt_nI (by omega) (by omega), decide_eq_false (by omega), if_neg (by decide)]
/-- what is down is clear -/
def DN (N : zN) (S : zS) : Prop := ∀ e, e < 2 * nL N → up N S e = false → clr S e
theorem RC.of (nw : NW N) (hb : b < nB N) (hd : DN N S) (hc : S 32 b = 1 → S 28 b = S 23 b ∧ S 29 b = S 24 b ∧ S 30 b = S 31 b) (h32 : S 32 b = 1 ∨ ∀ p, p < nP N b → S 0 (eo N b p) = 0) : RC N b S := by
  refine ⟨fun p hp h1 => ?_, hc, fun h p hp => ?_⟩
  · cases hu : up N S (eo N b p) with
    | true => rfl
    | false =>
      have := hd _ (nw.eo_l hb hp) hu 10 (by omega)
      rw [this] at h1; exact absurd h1 (by decide)
  · rcases h32 with h2 | h2
    · exact absurd h2 h
    · exact h2 p hp
theorem RC.br (nw : NW N) (hb : b < nB N) (hd : DN N S) (h : S 32 b = 1) (h2 : S 28 b = S 23 b ∧ S 29 b = S 24 b ∧ S 30 b = S 31 b) : RC N b S := RC.of nw hb hd (fun _ => h2) (Or.inl h)
theorem fade_x : only (fun f i => (f = 27 ∧ i = b) ∨ ((f = 3 ∨ f = 10 ∨ f = 16) ∧ ∃ p, p < nP N b ∧ i = eo N b p)) S (sp_fade N b S).1 := by
  have h0 : only (fun f i => (f = 27 ∧ i = b) ∨ ((f = 3 ∨ f = 10 ∨ f = 16) ∧ ∃ p, p < nP N b ∧ i = eo N b p)) S (sp_fd0 b S) := by
    unfold sp_fd0
    exact only.it (fun _ => only.rf) (fun _ => onz (Or.inl ⟨rfl, rfl⟩))
  have key : ∀ n, n ≤ nP N b → only (fun f i => (f = 27 ∧ i = b) ∨ ((f = 3 ∨ f = 10 ∨ f = 16) ∧ ∃ p, p < nP N b ∧ i = eo N b p)) (sp_fd0 b S) (pfold (sp_fd1 N b) n (sp_fd0 b S, false)).1 := by
    intro n
    induction n with
    | zero => intro _; exact only.rf
    | succ n ih =>
      intro hn
      refine (ih (by omega)).tr ?_
      rw [pf_s]
      generalize pfold (sp_fd1 N b) n (sp_fd0 b S, false) = y
      unfold sp_fd1
      have h1 : only (fun f i => (f = 27 ∧ i = b) ∨ ((f = 3 ∨ f = 10 ∨ f = 16) ∧ ∃ p, p < nP N b ∧ i = eo N b p)) y.1 (if ceq (y.1 3 (eo N b n)) 0 = true then y.1 else zu y.1 3 (eo N b n) (y.1 3 (eo N b n) - 1)) := only.it (fun _ => only.rf) (fun _ => onz (Or.inr ⟨by omega, n, by omega, rfl⟩))
      dsimp only
      split
      · split
        · exact (h1.zu (Or.inr ⟨by omega, n, by omega, rfl⟩)).zu (Or.inr ⟨by omega, n, by omega, rfl⟩)
        · exact h1.zu (Or.inr ⟨by omega, n, by omega, rfl⟩)
      · exact h1
  exact h0.tr (key _ (Nat.le_refl _))
theorem R_tick (q : MS N m B ν0 ν S) (hb : b < nB N) (hv : SV S) (hd : DN N S) (hbr : BR N b S) : ∃ ν6 ν7 ν8 ν9, f12_ages m (nI b) ν = some ν6 ∧ f12_waits m (nI b) ν6 = some ν7 ∧ f12_forgets m (nI b) ν7 = some ν8 ∧ ((((f12_of m (nI b) 2 ν8).bind fun t29 => some (ceq t29 0)).bind fun b27 => if b27 = true then (some true) else ((f12_of m (nI b) 5 ν8).bind fun t28 => some (ceq t28 (-1)))).bind fun b25 => if b25 = true then ((f12_marksAll m (nI b) 2 ν8).bind fun μ26 => some μ26) else (some ν8)) = some ν9 ∧ ∃ ν10, zloop (fun s => f12_ticks_L2 m (nI b) s.1 s.2) 1000000 (nI (6 * b + 0), ν9) = some (nI (6 * b + nP N b), ν10) ∧ MS N m B ν0 ν10 (sp_tick N b S) := by
  have nw := q.nw
  have fx := fade_x (N := N) (b := b) (S := S)
  have fk := fade_k (N := N) (b := b) hv
  have rc : RC N b (sp_fade N b S).1 := by
    refine RC.br nw hb (fk.dn hd) ?_ ?_
    · rw [fx 32 b (by omega)]; exact hbr.1.1
    · rw [fx 28 b (by omega), fx 23 b (by omega), fx 29 b (by omega), fx 24 b (by omega), fx 30 b (by omega), fx 31 b (by omega)]; exact ⟨hbr.1.2.2.1, hbr.1.2.2.2.1, hbr.1.2.2.2.2⟩
  obtain ⟨ν6, e6, q6⟩ := R_ages q hb hv rc
  have h1 : OK N S (if (sp_fade N b S).2 = true then sp_choose N b (sp_fade N b S).1 else (sp_fade N b S).1) := OK.it (fun _ => fk.tr (choose_k nw hb)) (fun _ => fk)
  have k32 : (if (sp_fade N b S).2 = true then sp_choose N b (sp_fade N b S).1 else (sp_fade N b S).1) 32 b = 1 := by
    split
    · exact (choose_br nw hb).1.1
    · rw [fx 32 b (by omega)]; exact hbr.1.1
  unfold sp_tick
  generalize (if (sp_fade N b S).2 = true then sp_choose N b (sp_fade N b S).1 else (sp_fade N b S).1) = S1 at *
  obtain ⟨ν7, e7, q7⟩ := R_wait q6 hb (h1.2.1 hv) (h1.dn hd)
  have w32 : pfold (sp_wt1 N b) (nP N b) S1 32 b = 1 := by
    have on1 : only (fun f _ => f ≠ 32) S1 (pfold (sp_wt1 N b) (nP N b) S1) := only.pf (fun p S hp => by
      have ql := nw.eo_l hb hp
      have xo : ∀ f i, XO N (bo N (eo N b p)) f i → f ≠ 32 := fun f i h => by have := h.lo; omega
      unfold sp_wt1
      exact only.it (fun _ => only.rf) (fun _ => only.it (fun _ => only.it (fun _ => ((onz (by omega)).tr ((enter_o nw ql).mono xo)).zu (by omega)) (fun _ => (onz (by omega)).tr ((open_o nw ql).mono xo))) (fun _ => onz (by omega))))
    exact (on1 32 b (by omega)).trans k32
  generalize pfold (sp_wt1 N b) (nP N b) S1 = S2 at *
  obtain ⟨ν8, e8, q8⟩ := R_forgets q7 hb
  have a32 : sp_ages N b S2 32 b = 1 := by
    have on1 : only (fun f _ => f ≠ 32) S2 (sp_ages N b S2) := by
      unfold sp_ages
      refine only.pf (fun h S hh => ?_)
      unfold sp_age1
      exact only.it (fun _ => only.rf) (fun _ => only.it (fun _ => (onz (by omega)).zu (by omega)) (fun _ => onz (by omega)))
    exact (on1 32 b (by omega)).trans w32
  generalize sp_ages N b S2 = S3 at *
  rw [mark_2]
  have h9 : ∃ ν9, ((((f12_of m (nI b) 2 ν8).bind fun t29 => some (ceq t29 0)).bind fun b27 => if b27 = true then (some true) else ((f12_of m (nI b) 5 ν8).bind fun t28 => some (ceq t28 (-1)))).bind fun b25 => if b25 = true then ((f12_marksAll m (nI b) 2 ν8).bind fun μ26 => some μ26) else (some ν8)) = some ν9 ∧ MS N m B ν0 ν9 (if (!(ceq (S3 22 b) 1) || ceq (S3 25 b) (-1)) = true then pfold (sp_mk2 N b) (nP N b) S3 else S3) := by
    simp only [q8.b2 hb, q8.b5 hb a32, obs, zor]
    rw [c01 (q8.1.2.2.2.1 b hb).2]
    by_cases c : (!(ceq (S3 22 b) 1) || ceq (S3 25 b) (-1)) = true
    · simp only [if_pos c]
      obtain ⟨ν9, e9, q9⟩ := R_marks q8 hb
      exact ⟨ν9, by rw [e9]; rfl, q9⟩
    · simp only [if_neg c]
      exact ⟨_, rfl, q8⟩
  obtain ⟨ν9, e9, q9⟩ := h9
  obtain ⟨ν10, e10, q10⟩ := R_mk3 q9 hb
  exact ⟨ν6, ν7, ν8, ν9, e6, e7, e8, e9, ν10, e10, q10⟩
end zR7
