/-! SPEC: bridges that are on, through ticks and messages; REFERENCE: all ticks -/
def XT (N : zN) (b f i : Nat) : Prop := ((f ≤ 16 ∨ f = 49) ∧ ∃ p, p < nP N b ∧ i = eo N b p) ∨ (23 ≤ f ∧ f ≤ 37 ∧ i = b) ∨ f = 42 ∨ f = 43 ∨ f = 44 ∨ f = 45 ∨ f = 48
def INV0 (N : zN) (S : zS) : Prop := SV S ∧ DN N S ∧ ∀ b, b < nB N → S 20 b = 1 → BR N b S
section zI3
variable {N : zN} {m B : Nat} {ν0 ν ν' : zM} {S S1 S2 S' : zS} {e b b' p q st : Nat} {v : Int32}
theorem XC.t {f i : Nat} (h : XC N b f i) : XT N b f i := by
  rcases h with ⟨h, h2⟩ | h | h | h | h | h
  · exact Or.inl ⟨by omega, h2⟩
  · exact Or.inr (Or.inl h)
  · exact Or.inr (Or.inr (Or.inl h.1))
  · exact Or.inr (Or.inr (Or.inr (Or.inr (Or.inl h.1))))
  · exact Or.inr (Or.inr (Or.inr (Or.inr (Or.inr (Or.inl h)))))
  · exact Or.inr (Or.inr (Or.inr (Or.inr (Or.inr (Or.inr h)))))
theorem XO.t {f i : Nat} (h : XO N b f i) : XT N b f i := h.s.c.t
theorem XT.pt {f : Nat} (hf : f ≤ 16) (hp : p < nP N b) : XT N b f (eo N b p) := Or.inl ⟨Or.inl hf, p, hp, rfl⟩
/-- another bridge is as it was -/
theorem BR.oth (nw : NW N) (hb : b < nB N) (hb' : b' < nB N) (hne : b' ≠ b) (h : BR N b' S) (ho : only (XT N b) S S') : BR N b' S' := by
  refine h.keep (fun f i hf ⟨p, hp, hi⟩ => ho f i ?_) (fun f hf => ho f b' ?_) (fun e => up_of (fun i => ho 20 i (fun x => ?_)) (fun i => ho 40 i (fun x => ?_)))
  · intro x
    rcases x with ⟨x1, p', hp', hi'⟩ | x | x | x | x | x | x
    · have := nw.bo_eo hb hp'
      rw [← hi', hi, nw.bo_eo hb' hp] at this
      exact hne this
    all_goals omega
  · intro x
    rcases x with ⟨x1, p', hp', hi'⟩ | x | x | x | x | x | x
    all_goals omega
  · rcases x with ⟨x1, p', hp', hi'⟩ | x | x | x | x | x | x
    all_goals omega
  · rcases x with ⟨x1, p', hp', hi'⟩ | x | x | x | x | x | x
    all_goals omega
theorem wt1_t (nw : NW N) (hb : b < nB N) (hp : p < nP N b) : only (fun f i => XT N b f i ∧ f ≠ 0 ∧ f ≠ 10 ∧ ¬ (23 ≤ f ∧ f ≤ 26) ∧ ¬ (28 ≤ f ∧ f ≤ 37)) S (sp_wt1 N b p S) := by
  have ql := nw.eo_l hb hp
  have xo : ∀ f i, XO N (bo N (eo N b p)) f i → XT N b f i ∧ f ≠ 0 ∧ f ≠ 10 ∧ ¬ (23 ≤ f ∧ f ≤ 26) ∧ ¬ (28 ≤ f ∧ f ≤ 37) := fun f i h => by
    rw [nw.bo_eo hb hp] at h
    refine ⟨h.t, ?_⟩
    rcases h with h | h | h | h | h <;> omega
  have z2 : XT N b 2 (eo N b p) ∧ 2 ≠ 0 ∧ 2 ≠ 10 ∧ ¬ (23 ≤ 2 ∧ 2 ≤ 26) ∧ ¬ (28 ≤ 2 ∧ 2 ≤ 37) := ⟨XT.pt (by omega) hp, by omega⟩
  unfold sp_wt1
  exact only.it (fun _ => only.rf) (fun _ => only.it (fun _ => only.it (fun _ => ((onz z2).tr ((enter_o nw ql).mono xo)).zu z2) (fun _ => (onz z2).tr ((open_o nw ql).mono xo))) (fun _ => onz z2))
theorem fade_t : only (XT N b) S (sp_fade N b S).1 := fade_x.mono (fun f i h => by
  rcases h with h | h
  · exact Or.inr (Or.inl (by omega))
  · exact Or.inl ⟨by omega, h.2⟩)
theorem tail_t (nw : NW N) (hb : b < nB N) : only (fun f i => XT N b f i ∧ f ≠ 0 ∧ f ≠ 10 ∧ ¬ (23 ≤ f ∧ f ≤ 26) ∧ ¬ (28 ≤ f ∧ f ≤ 37)) S (sp_mark N b (sp_ages N b (pfold (sp_wt1 N b) (nP N b) S))) := by
  refine only.tr (S1 := sp_ages N b (pfold (sp_wt1 N b) (nP N b) S)) (only.tr (S1 := pfold (sp_wt1 N b) (nP N b) S) (only.pf (fun p S hp => wt1_t nw hb hp)) ?_) ?_
  · unfold sp_ages
    refine only.pf (fun h S hh => ?_)
    have z42 : ∀ i, XT N b 42 i ∧ 42 ≠ 0 ∧ 42 ≠ 10 ∧ ¬ (23 ≤ 42 ∧ 42 ≤ 26) ∧ ¬ (28 ≤ 42 ∧ 42 ≤ 37) := fun i => ⟨Or.inr (Or.inr (Or.inl rfl)), by omega⟩
    have z43 : ∀ i, XT N b 43 i ∧ 43 ≠ 0 ∧ 43 ≠ 10 ∧ ¬ (23 ≤ 43 ∧ 43 ≤ 26) ∧ ¬ (28 ≤ 43 ∧ 43 ≤ 37) := fun i => ⟨Or.inr (Or.inr (Or.inr (Or.inl rfl))), by omega⟩
    unfold sp_age1
    exact only.it (fun _ => only.rf) (fun _ => only.it (fun _ => (onz (z43 _)).zu (z42 _)) (fun _ => onz (z43 _)))
  · unfold sp_mark
    refine only.pf (fun p S hp => ?_)
    unfold sp_mk1
    exact only.it (fun _ => onz ⟨XT.pt (by omega) hp, by omega⟩) (fun _ => only.rf)
theorem tick_t (nw : NW N) (hb : b < nB N) : only (XT N b) S (sp_tick N b S) := by
  unfold sp_tick
  exact (only.it (fun _ => fade_t.tr ((choose_o nw hb).mono (fun _ _ h => h.t))) (fun _ => fade_t)).tr ((tail_t nw hb).mono (fun _ _ h => h.1))
theorem fd1_10 {x : zS × Bool} (h : (sp_fd1 N b p x).2 = false) : x.2 = false ∧ ∀ i, (sp_fd1 N b p x).1 10 i = x.1 10 i := by
  unfold sp_fd1 at h ⊢
  dsimp only at h ⊢
  have z : ∀ i, (if ceq (x.1 3 (eo N b p)) 0 = true then x.1 else zu x.1 3 (eo N b p) (x.1 3 (eo N b p) - 1)) 10 i = x.1 10 i := fun i => by split <;> rfl
  split at h
  · rename_i c1
    split at h
    · cases h
    · rename_i c2
      rw [if_pos c1, if_neg c2]
      exact ⟨h, z⟩
  · rename_i c1
    rw [if_neg c1]
    exact ⟨h, z⟩
theorem fade_10 : ∀ n, (pfold (sp_fd1 N b) n (sp_fd0 b S, false)).2 = false → ∀ i, (pfold (sp_fd1 N b) n (sp_fd0 b S, false)).1 10 i = S 10 i
  | 0, _, i => by
    show sp_fd0 b S 10 i = S 10 i
    unfold sp_fd0
    split <;> rfl
  | n + 1, h, i => by
    rw [pf_s] at h ⊢
    obtain ⟨h1, h2⟩ := fd1_10 h
    rw [h2 i]
    exact fade_10 n h1 i
theorem BR.kp (h : BR N b S) (ho : only (fun f i => XT N b f i ∧ f ≠ 0 ∧ f ≠ 10 ∧ ¬ (23 ≤ f ∧ f ≤ 26) ∧ ¬ (28 ≤ f ∧ f ≤ 37)) S S') : BR N b S' :=
  h.keep (fun f i hf _ => ho f i (fun x => by omega)) (fun f hf => ho f b (fun x => by
    obtain ⟨x1, x2⟩ := x
    rcases hf with hf | hf
    · subst hf
      rcases x1 with x1 | x1 | x1 | x1 | x1 | x1 | x1 <;> omega
    · omega)) (fun e => up_of (fun i => ho 20 i (fun x => by rcases x.1 with x1 | x1 | x1 | x1 | x1 | x1 | x1 <;> omega)) (fun i => ho 40 i (fun x => by rcases x.1 with x1 | x1 | x1 | x1 | x1 | x1 | x1 <;> omega)))
theorem tick_br (nw : NW N) (hb : b < nB N) (h : BR N b S) : BR N b (sp_tick N b S) := by
  unfold sp_tick
  refine BR.kp ?_ (tail_t nw hb)
  split
  · exact choose_br nw hb
  · rename_i c
    have c' : (sp_fade N b S).2 = false := Bool.eq_false_iff.mpr c
    refine h.keep (fun f i hf hp => ?_) (fun f hf => fade_x f b (fun x => by omega)) (fun e => up_of (fun i => fade_x 20 i (fun x => by omega)) (fun i => fade_x 40 i (fun x => by omega)))
    rcases hf with hf | hf
    · subst hf; exact fade_x 0 i (fun x => by omega)
    · subst hf; exact fade_10 _ c' i
theorem INV0.tick (nw : NW N) (hb : b < nB N) (h : INV0 N S) (hon : S 20 b = 1) : INV0 N (sp_tick N b S) := by
  obtain ⟨h1, h2, h3⟩ := h
  have k := tick_k nw hb h1 h2
  refine ⟨k.2.1 h1, k.dn h2, fun b' hb' ho => ?_⟩
  rw [k.1 20 b' (by unfold XG; omega)] at ho
  by_cases c : b' = b
  · subst c; exact tick_br nw hb (h3 b' hb' ho)
  · exact (h3 b' hb' ho).oth nw hb hb' c (tick_t nw hb)
theorem ticks_i (nw : NW N) (h : INV0 N S) : ∀ n, n ≤ nB N → INV0 N (pfold (fun b S => if ceq (S 20 b) 1 = true then sp_tick N b S else S) n S)
  | 0, _ => h
  | n + 1, hn => by
    have ih := ticks_i nw h n (by omega)
    rw [pf_s]
    generalize pfold (fun b S => if ceq (S 20 b) 1 = true then sp_tick N b S else S) n S = S1 at *
    show INV0 N (if ceq (S1 20 n) 1 = true then sp_tick N n S1 else S1)
    split
    · rename_i c; exact ih.tick nw (by omega) (ceq_of c)
    · exact ih
theorem R_ticks (q : MS N m B ν0 ν S) (hi : INV0 N S) : ∃ ν', f12_ticks m ν = some ν' ∧ MS N m B ν0 ν' (sp_ticks N S) := by
  have nw := q.nw
  have b8 := nw.b8
  obtain ⟨ν1, e1, q1⟩ := lp (Q := MS N m B ν0) (body := fun s => f12_ticks_L1 m s.1 s.2) nI (fun b S => if ceq (S 20 b) 1 = true then sp_tick N b S else S) (nB N) (S := S) (μ := ν) (x0 := 0) (by
    intro b ν1 hb q1
    have ii := ticks_i nw hi b (by omega)
    generalize pfold (fun b S => if ceq (S 20 b) 1 = true then sp_tick N b S else S) b S = S1 at *
    show ∃ ν', f12_ticks_L1 m (nI b) ν1 = some (.inl (nI (b + 1), ν')) ∧ MS N m B ν0 ν' (if ceq (S1 20 b) 1 = true then sp_tick N b S1 else S1)
    unfold f12_ticks_L1
    rw [q1.g_b, clt_nI (by omega) (by omega), decide_eq_true hb, if_pos rfl, q1.on_ hb, obs]
    by_cases c : ceq (S1 20 b) 1 = true
    · simp only [if_pos c]
      obtain ⟨ν6, ν7, ν8, ν9, e6, e7, e8, e9, ν10, e10, q10⟩ := R_tick q1 hb ii.1 ii.2.1 (ii.2.2 b hb (ceq_of c))
      refine ⟨ν10, ?_, q10⟩
      have e0 : f12_placeOf (nI b) 0 ν9 = some (nI (6 * b + 0)) := pl_add b 0
      rw [e6, obs, e7, obs, e8, obs, e9, obs, e0, obs, zb_lp e10, obs, nI_1]
    · simp only [if_neg c]
      exact ⟨_, by rw [obs, nI_1], q1⟩) (by
    intro ν1 q1
    show f12_ticks_L1 m (nI (nB N)) ν1 = _
    unfold f12_ticks_L1
    rw [q1.g_b, clt_nI (by omega) (by omega), decide_eq_false (by omega), if_neg (by decide)]) (by omega) q
  unfold f12_ticks
  exact ⟨ν1, zb_lp e1, q1⟩
end zI3
