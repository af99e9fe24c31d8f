/-! A BRIDGE GOES OFF: folds over links -/
section zR25
variable {N : zN} {m B : Nat} {ν0 ν ν' : zM} {S S' X : zS} {e e1 e2 b a l h k n t st f i : Nat}
theorem R_all2 (q : MS N m B ν0 ν S) (hp : CTP N S) (h38 : ∀ b, b < nB N → S 20 b = 1 → ceq (S 38 b) 1 = ceq (S 47 b) 1) : ∃ ν', f12_choosesAll m ν = some ν' ∧ MS N m B ν0 ν' (sp_ct N S) := by
  have nw := q.nw
  have b8 := nw.b8
  obtain ⟨ν1, e1, q1⟩ := lp (Q := MS N m B ν0) (body := fun s => f12_choosesAll_L1 m s.1 s.2) nI (sp_ct1 N) (nB N) (S := S) (μ := ν) (x0 := 0) (by
    intro i ν1 hi q1
    have ci := CTI.all nw hp.1 hp.2.1 hp.2.2.1 hp.2.2.2 i (by omega)
    generalize pfold (sp_ct1 N) i S = S1 at *
    obtain ⟨⟨c1, c2, c3, c4⟩, c5, c5b, c6, c7⟩ := ci
    show ∃ ν', f12_choosesAll_L1 m (nI i) ν1 = some (.inl (nI (i + 1), ν')) ∧ _
    have e38 : (ceq (S1 38 i) 1 && ceq (S1 20 i) 1) = (ceq (S1 47 i) 1 && ceq (S1 20 i) 1) := by
      rw [c6 38 i (by omega), c5 i (Nat.le_refl _), c6 20 i (by omega)]
      cases c : ceq (S 20 i) 1 with
      | false => rw [Bool.and_false, Bool.and_false]
      | true => rw [h38 i hi (ceq_of c)]
    unfold f12_choosesAll_L1 sp_ct1
    rw [q1.g_b, clt_nI (by omega) (by omega), decide_eq_true hi, if_pos rfl]
    simp only [q1.r_con (show i < 8 by omega), q1.on_ hi, obs, zand, e38]
    by_cases c : (ceq (S1 47 i) 1 && ceq (S1 20 i) 1) = true
    · simp only [if_pos c]
      have hon : S1 20 i = 1 := ceq_of (Bool.and_eq_true_iff.mp c).2
      obtain ⟨ν2, e2, q2⟩ := R_choose q1 hi (RC.wb nw hi c2 (c3 i hi hon))
      exact ⟨ν2, by rw [e2, obs, nI_1], q2.ign (fun f j h47 _ _ _ => if_neg (fun x => h47 x.1))⟩
    · simp only [if_neg c]
      exact ⟨ν1, by rw [nI_1], q1.ign (fun f j h47 _ _ _ => if_neg (fun x => h47 x.1))⟩) (by
    intro ν1 q1
    show f12_choosesAll_L1 m (nI (nB N)) ν1 = _
    unfold f12_choosesAll_L1
    rw [q1.g_b, clt_nI (by omega) (by omega), decide_eq_false (by omega), if_neg (by decide)]) (by omega) q
  unfold f12_choosesAll sp_ct
  exact ⟨ν1, zb_lp e1, q1⟩
theorem sqd2_42 : sq_down N e1 (sq_down N e2 S) 42 i = if (i / 8 = bo N e1 ∧ S 42 i = nI (po N e1)) ∨ (i / 8 = bo N e2 ∧ S 42 i = nI (po N e2)) then -1 else S 42 i := by
  rw [sqd_42, sqd_42]
  by_cases c2 : i / 8 = bo N e2 ∧ S 42 i = nI (po N e2)
  · rw [if_pos c2, if_pos (Or.inr c2)]
    by_cases c1 : i / 8 = bo N e1 ∧ (-1 : Int32) = nI (po N e1)
    · rw [if_pos c1]
    · rw [if_neg c1]
  · rw [if_neg c2]
    by_cases c1 : i / 8 = bo N e1 ∧ S 42 i = nI (po N e1)
    · rw [if_pos c1, if_pos (Or.inl c1)]
    · rw [if_neg c1, if_neg (fun x => by rcases x with x | x <;> contradiction)]
theorem sqd_comm : sq_down N e1 (sq_down N e2 S) = sq_down N e2 (sq_down N e1 S) := by
  funext f i
  by_cases c42 : f = 42
  · subst c42
    rw [sqd2_42, sqd2_42]
    by_cases c1 : i / 8 = bo N e1 ∧ S 42 i = nI (po N e1)
    · rw [if_pos (Or.inl c1), if_pos (Or.inr c1)]
    · by_cases c2 : i / 8 = bo N e2 ∧ S 42 i = nI (po N e2)
      · rw [if_pos (Or.inr c2), if_pos (Or.inl c2)]
      · rw [if_neg (fun x => by rcases x with x | x <;> contradiction), if_neg (fun x => by rcases x with x | x <;> contradiction)]
  · by_cases c60 : f = 60
    · subst c60
      rw [sqd_60, sqd_60, sqd_60, sqd_60]
      by_cases c1 : i / 3 = e1
      · rw [if_pos c1, if_pos c1]
        by_cases c2 : i / 3 = e2
        · rw [if_pos c2]
        · rw [if_neg c2]
      · rw [if_neg c1, if_neg c1]
    · rw [sqd_f c42 c60, sqd_f c42 c60, clr_f, clr_f, sqd_f c42 c60, sqd_f c42 c60, clr_f, clr_f]
      by_cases c1 : i = e1 ∧ (f ≤ 10 ∨ f = 15 ∨ f = 16 ∨ f = 49)
      · simp only [if_pos c1, ite_self]
      · simp only [if_neg c1]
/-- a port's link -/
theorem dn2_e : dropL (e / 2) (sq_down N (fe e) (sq_down N e S)) = sq_dn2 N (e / 2) S := by
  unfold sq_dn2 fe
  by_cases c : e % 2 = 0
  · rw [if_pos c, show 2 * (e / 2) = e by omega]
  · rw [if_neg c, show 2 * (e / 2) = e - 1 by omega, show e - 1 + 1 = e by omega, sqd_comm]
theorem off1_eq : sq_off1 N b k S = sq_dn2 N (eo N b k / 2) (zu S 47 (bo N (fe (eo N b k))) (bI (ceq (S 47 (bo N (fe (eo N b k)))) 1 || up N S (eo N b k)))) := by
  unfold sq_off1; rw [dn2_e]
/-- a fold, seen at one place -/
theorem pf_pt (g : Nat → zS → zS) (K : Nat → Int32 → Prop) (c : Int32) (hg : ∀ p S, (K p (S f i) → g p S f i = c) ∧ (¬ K p (S f i) → g p S f i = S f i)) : ∀ (n : Nat) (S : zS), ((∃ p, p < n ∧ K p (S f i)) → pfold g n S f i = c) ∧ ((∀ p, p < n → ¬ K p (S f i)) → pfold g n S f i = S f i)
  | 0, S => ⟨fun ⟨p, h, _⟩ => absurd h (by omega), fun _ => rfl⟩
  | n + 1, S => by
    obtain ⟨h1, h2⟩ := pf_pt g K c hg n S
    obtain ⟨g1, g2⟩ := hg n (pfold g n S)
    refine ⟨fun ⟨p, hp, hk⟩ => ?_, fun hk => ?_⟩
    · show g n (pfold g n S) f i = c
      by_cases c1 : ∃ p, p < n ∧ K p (S f i)
      · have z := h1 c1
        by_cases c2 : K n (pfold g n S f i)
        · exact g1 c2
        · rw [g2 c2, z]
      · have z := h2 (fun p hp hk => c1 ⟨p, hp, hk⟩)
        have : p = n := by
          by_cases c3 : p < n
          · exact absurd ⟨p, c3, hk⟩ c1
          · omega
        subst this
        exact g1 (by rw [z]; exact hk)
    · show g n (pfold g n S) f i = S f i
      have z := h2 (fun p hp => hk p (by omega))
      rw [g2 (by rw [z]; exact hk n (by omega)), z]
end zR25
