/-! REFERENCE: choices of those touched; cut, mend -/
section zR18
variable {N : zN} {m B : Nat} {ν0 ν ν' : zM} {S S' : zS} {R R' : Nat → Int32} {e b a l h k n t P st : Nat}
/-- what the choices of those touched take as given -/
def CTP (N : zN) (S : zS) : Prop := SV S ∧ DN N S ∧ (∀ b, b < nB N → S 20 b = 1 → WB N b S) ∧ ∀ b, b < nB N → S 20 b = 1 → S 47 b ≠ 1 → BR N b S
theorem R_all (q : MS N m B ν0 ν S) (hp : CTP N S) (h38 : ∀ b, b < nB N → ceq (S 38 b) 1 = ceq (S 47 b) 1) : ∃ ν', f12_choosesAll m ν = some ν' ∧ MS N m B ν0 ν' (sp_ct N S) := by
  have nw := q.nw
  have b8 := nw.b8
  obtain ⟨ν1, e1, q1⟩ := lp (Q := MS N m B ν0) (body := fun s => f12_choosesAll_L1 m s.1 s.2) nI (sp_ct1 N) (nB N) (S := S) (μ := ν) (x0 := 0) (by
    intro i ν1 hi q1
    have ci := CTI.all nw hp.1 hp.2.1 hp.2.2.1 hp.2.2.2 i (by omega)
    generalize pfold (sp_ct1 N) i S = S1 at *
    obtain ⟨⟨c1, c2, c3, c4⟩, c5, c5b, c6, c7⟩ := ci
    show ∃ ν', f12_choosesAll_L1 m (nI i) ν1 = some (.inl (nI (i + 1), ν')) ∧ _
    have e38 : ceq (S1 38 i) 1 = ceq (S1 47 i) 1 := by rw [c6 38 i (by omega), c5 i (Nat.le_refl _)]; exact h38 i hi
    unfold f12_choosesAll_L1 sp_ct1
    rw [q1.g_b, clt_nI (by omega) (by omega), decide_eq_true hi, if_pos rfl]
    simp only [q1.r_con (show i < 8 by omega), q1.on_ hi, obs, zand, e38]
    by_cases c : (ceq (S1 47 i) 1 && ceq (S1 20 i) 1) = true
    · simp only [if_pos c]
      have hon : S1 20 i = 1 := ceq_of (Bool.and_eq_true_iff.mp c).2
      obtain ⟨ν2, e2, q2⟩ := R_choose q1 hi (RC.wb nw hi c2 (c3 i hi hon))
      exact ⟨ν2, by rw [e2, obs, nI_1], q2.ign (fun f j h47 _ _ _ => if_neg (fun x => h47 x.1))⟩
    · simp only [if_neg c]
      exact ⟨ν1, by rw [nI_1], q1.ign (fun f j h47 _ _ _ => if_neg (fun x => h47 x.1))⟩) (by
    intro ν1 q1
    show f12_choosesAll_L1 m (nI (nB N)) ν1 = _
    unfold f12_choosesAll_L1
    rw [q1.g_b, clt_nI (by omega) (by omega), decide_eq_false (by omega), if_neg (by decide)]) (by omega) q
  unfold f12_choosesAll sp_ct
  exact ⟨ν1, zb_lp e1, q1⟩
/-- rounds in which nobody is touched -/
theorem R_skip (q : MS N m B ν0 ν (pfold (sp_ct1 N) n S)) (hk : n ≤ k) (h : ∀ b, n ≤ b → b < k → S 47 b ≠ 1) (h5 : ∀ j, j ≤ k → ∀ b, j ≤ b → pfold (sp_ct1 N) j S 47 b = S 47 b) : MS N m B ν0 ν (pfold (sp_ct1 N) k S) := by
  obtain ⟨d, rfl⟩ : ∃ d, k = n + d := ⟨k - n, by omega⟩
  clear hk
  induction d with
  | zero => exact q
  | succ d ih =>
    have ih := ih (fun b h1 h2 => h b h1 (by omega)) (fun j hj => h5 j (by omega))
    show MS N m B ν0 ν (sp_ct1 N (n + d) (pfold (sp_ct1 N) (n + d) S))
    have e47 := h5 (n + d) (by omega) (n + d) (Nat.le_refl _)
    generalize pfold (sp_ct1 N) (n + d) S = S1 at *
    unfold sp_ct1
    rw [if_neg (by
      intro x
      have := ceq_of (Bool.and_eq_true_iff.mp x).1
      exact h (n + d) (by omega) (by omega) (e47.symm.trans this))]
    exact ih.ign (fun f j h47 _ _ _ => if_neg (fun x => h47 x.1))
theorem least_ (a b : Nat) (ha : a < 8) (hb : b < 8) : f12_least (nI a) (nI b) ν = some (nI (min a b)) := by
  unfold f12_least
  rw [clt_nI (by omega) (by omega)]
  by_cases c : a < b
  · rw [decide_eq_true c, if_pos rfl, Nat.min_eq_left (by omega)]; rfl
  · rw [decide_eq_false c, if_neg (by decide), Nat.min_eq_right (by omega)]; rfl
theorem greatest_ (a b : Nat) (ha : a < 8) (hb : b < 8) : f12_greatest (nI a) (nI b) ν = some (nI (max a b)) := by
  unfold f12_greatest
  rw [clt_nI (by omega) (by omega)]
  by_cases c : b < a
  · rw [decide_eq_true c, if_pos rfl, Nat.max_eq_left (by omega)]; rfl
  · rw [decide_eq_false c, if_neg (by decide), Nat.max_eq_right (by omega)]; rfl
theorem R_ct1 (q : MS N m B ν0 ν (pfold (sp_ct1 N) n S)) (hn : n < nB N) (ci : CTI N n S (pfold (sp_ct1 N) n S)) (h47 : S 47 n = 1) : ∃ ν', ((f12_isOn m (nI n) ν).bind fun t11 => if t11 = true then ((f12_chooses m (nI n) ν).bind fun μ12 => some μ12) else (some ν)) = some ν' ∧ MS N m B ν0 ν' (pfold (sp_ct1 N) (n + 1) S) := by
  have nw := q.nw
  show ∃ ν', _ ∧ MS N m B ν0 ν' (sp_ct1 N n (pfold (sp_ct1 N) n S))
  obtain ⟨⟨c1, c2, c3, c4⟩, c5, c5b, c6, c7⟩ := ci
  have e47 := (c5 n (Nat.le_refl _)).trans h47
  generalize pfold (sp_ct1 N) n S = S1 at *
  rw [q.on_ hn, obs]
  unfold sp_ct1
  rw [e47, show ceq (1 : Int32) 1 = true from rfl, Bool.true_and]
  by_cases c : ceq (S1 20 n) 1 = true
  · simp only [if_pos c]
    obtain ⟨ν2, e2, q2⟩ := R_choose q hn (RC.wb nw hn c2 (c3 n hn (ceq_of c)))
    exact ⟨ν2, by rw [e2]; rfl, q2.ign (fun f j h47 _ _ _ => if_neg (fun x => h47 x.1))⟩
  · simp only [if_neg c]
    exact ⟨_, rfl, q.ign (fun f j h47 _ _ _ => if_neg (fun x => h47 x.1))⟩
theorem R_both (q : MS N m B ν0 ν S) (hp : CTP N S) (hl : l < nL N) (h47 : ∀ b, b < nB N → (S 47 b = 1 ↔ b = bo N (2 * l) ∨ b = bo N (2 * l + 1))) : ∃ ν', f12_choosesBoth m (nI l) ν = some ν' ∧ MS N m B ν0 ν' (sp_ct N S) := by
  have nw := q.nw
  have b8 := nw.b8
  have x0 := nw.bo_b (show 2 * l < 2 * nL N by omega)
  have x1 := nw.bo_b (show 2 * l + 1 < 2 * nL N by omega)
  have ci := CTI.all nw hp.1 hp.2.1 hp.2.2.1 hp.2.2.2
  have h5 : ∀ k, k ≤ nB N → ∀ j, j ≤ k → ∀ b, j ≤ b → pfold (sp_ct1 N) j S 47 b = S 47 b := fun k hk j hj b hb => (ci j (by omega)).2.1 b hb
  unfold f12_choosesBoth
  rw [q.ends0 hl, obs, q.ends2 hl, obs, least_ _ _ (by omega) (by omega), obs, obs, obs, greatest_ _ _ (by omega) (by omega), obs]
  generalize bo N (2 * l) = A at *
  generalize bo N (2 * l + 1) = Z at *
  have q1 : MS N m B ν0 ν (pfold (sp_ct1 N) (min A Z) S) := R_skip (n := 0) q (Nat.zero_le _) (fun b h1 h2 => by rw [Ne, h47 b (by omega)]; omega) (h5 (min A Z) (by omega))
  obtain ⟨ν2, e2, q2⟩ := R_ct1 q1 (by omega) (ci _ (by omega)) ((h47 _ (by omega)).mpr (by omega))
  rw [e2, obs, ceq_nI (by omega) (by omega)]
  by_cases c : max A Z = min A Z
  · rw [decide_eq_true c, if_pos rfl, obs, if_neg (by decide)]
    refine ⟨ν2, rfl, R_skip (n := min A Z + 1) q2 (by omega) (fun b h1 h2 => by rw [Ne, h47 b (by omega)]; omega) (h5 (nB N) (Nat.le_refl _))⟩
  · rw [decide_eq_false c, if_neg (by decide)]
    have q3 : MS N m B ν0 ν2 (pfold (sp_ct1 N) (max A Z) S) := R_skip (n := min A Z + 1) q2 (by omega) (fun b h1 h2 => by rw [Ne, h47 b (by omega)]; omega) (h5 (max A Z) (by omega))
    obtain ⟨ν4, e4, q4⟩ := R_ct1 q3 (by omega) (ci _ (by omega)) ((h47 _ (by omega)).mpr (by omega))
    refine ⟨ν4, ?_, R_skip (n := max A Z + 1) q4 (by omega) (fun b h1 h2 => by rw [Ne, h47 b (by omega)]; omega) (h5 (nB N) (Nat.le_refl _))⟩
    rw [← e4]
    cases hx : f12_isOn m (nI (max A Z)) ν2 with
    | none => rw [hx] at e4; cases e4
    | some y => cases y <;> rfl
end zR18
