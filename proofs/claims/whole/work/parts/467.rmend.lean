/-! LINKS CAME UP: what holds after it; a link is mended -/
/-- the links of `P` may have come up, their bridges are touched -/
def UW (N : zN) (P : Nat → Prop) (S X : zS) : Prop :=
  (∀ i, i < 2 * nL N → (∀ f, f ≤ 10 ∨ f = 15 ∨ f = 16 → X f i = S f i) ∨ (P (i / 2) ∧ up N X i = true ∧ ∀ f, f ≤ 10 ∨ f = 15 ∨ f = 16 → f ≠ 5 → X f i = 0)) ∧
  (∀ i, ¬ i < 2 * nL N → ∀ f, f ≤ 10 ∨ f = 15 ∨ f = 16 → X f i = S f i) ∧
  (∀ i, X 27 i = S 27 i ∨ X 27 i = 0) ∧
  (∀ f i, f = 42 ∨ f = 50 ∨ f = 60 ∨ f = 61 → X f i = S f i) ∧
  (∀ b, b < nB N → X 20 b = 1 → (S 20 b = 1 ∧ ∀ f, 21 ≤ f ∧ f ≤ 32 → X f b = S f b) ∨ (X 47 b = 1 ∧ S 20 b ≠ 1 ∧ X 32 b ≠ 1)) ∧
  (∀ e, e < 2 * nL N → up N S e = true → up N X e = true) ∧
  (∀ e, e < 2 * nL N → ¬ P (e / 2) → up N X e = up N S e) ∧
  (∀ b p, b < nB N → p < nP N b → X 20 b = 1 → X 47 b ≠ 1 → ¬ P (eo N b p / 2))
section zR22
variable {N : zN} {m B : Nat} {ν0 ν ν' : zM} {S S' X : zS} {e b a l h k n t st f i : Nat} {P : Nat → Prop}
theorem UW.inv (nw : NW N) (hI : INV N st S) (d : UW N P S X) : CTP N X ∧ MI N st X ∧ AD N X := by
  obtain ⟨⟨sv, dn, br⟩, mi, ad⟩ := hI
  obtain ⟨d1, d2, d3, d4, d5, d6, d7, d8⟩ := d
  have dd : ∀ i, (∀ f, f ≤ 10 ∨ f = 15 ∨ f = 16 → X f i = S f i) ∨ ∀ f, f ≤ 10 ∨ f = 15 ∨ f = 16 → f ≠ 5 → X f i = 0 := fun i => by
    by_cases c : i < 2 * nL N
    · rcases d1 i c with x | x
      · exact Or.inl x
      · exact Or.inr x.2.2
    · exact Or.inl (d2 i c)
  refine ⟨⟨fun i => ⟨?_, ?_, ?_, fun h1 => ?_⟩, fun e he hu k hk => ?_, fun b hb ho => ?_, fun b hb ho h47 => ?_⟩, fun q hq => ?_, fun b h p hb hh hp hx => ?_⟩
  · rcases dd i with x | x
    · rw [x 2 (by omega)]; exact (sv i).1
    · rw [x 2 (by omega) (by omega)]; decide
  · rcases dd i with x | x
    · rw [x 3 (by omega)]; exact (sv i).2.1
    · rw [x 3 (by omega) (by omega)]; decide
  · rcases d3 i with x | x
    · rw [x]; exact (sv i).2.2.1
    · rw [x]; decide
  · rcases dd i with x | x
    · rw [x 10 (by omega)] at h1
      rw [x 16 (by omega)]
      exact (sv i).2.2.2 h1
    · rw [x 10 (by omega) (by omega)] at h1; exact absurd h1 (by decide)
  · rcases d1 e he with x | x
    · rw [x k (by omega)]
      refine dn e he ?_ k hk
      cases c : up N S e with
      | false => rfl
      | true => rw [d6 e he c] at hu; cases hu
    · rw [x.2.1] at hu; cases hu
  · rcases d5 b hb ho with ⟨h20, z⟩ | ⟨h47, h20, h32⟩
    · obtain ⟨⟨a1, a2, a3, a4, a5⟩, a6⟩ := br b hb h20
      refine ⟨fun _ => ⟨?_, ?_, ?_⟩, fun h => ?_⟩
      · rw [z 28 (by omega), z 23 (by omega)]; exact a3
      · rw [z 29 (by omega), z 24 (by omega)]; exact a4
      · rw [z 30 (by omega), z 31 (by omega)]; exact a5
      · rw [z 32 (by omega)] at h; exact absurd a1 h
    · refine ⟨fun h => absurd h h32, fun _ p hp => ?_⟩
      have he := nw.eo_l hb hp
      rcases d1 _ he with x | x
      · rw [x 0 (by omega)]
        refine dn _ he ?_ 0 (by omega)
        unfold up
        rw [nw.bo_eo hb hp, show ceq (S 20 b) 1 = false by unfold ceq; exact decide_eq_false h20, Bool.and_false, Bool.false_and]
      · exact x.2.2 0 (by omega) (by omega)
  · rcases d5 b hb ho with ⟨h20, z⟩ | ⟨h1, _⟩
    · refine BR.keep2 (br b hb h20) (fun f p hf hp => ?_) (fun f hf => z f (by omega)) (fun p hp => d7 _ (nw.eo_l hb hp) (d8 b p hb hp ho h47))
      rcases d1 _ (nw.eo_l hb hp) with x | x
      · exact x f (by omega)
      · exact absurd x.1 (d8 b p hb hp ho h47)
    · exact absurd h1 h47
  · obtain ⟨x1, x2, x3⟩ := mi q hq
    rw [d4 60 q (by omega), d4 61 q (by omega), d4 50 q (by omega)]
    exact ⟨x1, x2, fun h => ⟨d6 _ (by omega) (x3 h).1, (x3 h).2⟩⟩
  · rw [d4 42 _ (by omega)] at hx
    exact d6 _ (nw.eo_l hb hp) (ad b h p hb hh hp hx)
def ymend (N : zN) (l : Nat) (S : zS) : zS := if up N (zu S 40 l 1) (2 * l) = true then sp_clr (2 * l + 1) (nI (tE N (2 * l + 1))) (sp_clr (2 * l) (nI (tE N (2 * l))) (zu S 40 l 1)) else zu S 40 l 1
theorem mend_eq : sq_mend N l S = sp_ct N (tch2 N l (ymend N l S)) := by
  unfold sq_mend ymend tch2; rfl
theorem zu_40 {v : Int32} : zu S 40 l v 40 i = if i = l then v else S 40 i := by
  show (if 40 = 40 ∧ i = l then v else S 40 i) = _
  by_cases c : i = l
  · rw [if_pos ⟨rfl, c⟩, if_pos c]
  · rw [if_neg (fun x => c x.2), if_neg c]
theorem ymend_f (hf : 10 < f) (h2 : f < 15 ∨ 16 < f) (h3 : f ≠ 49) : ymend N l S f i = zu S 40 l 1 f i := by
  unfold ymend
  by_cases c : up N (zu S 40 l 1) (2 * l) = true
  · rw [if_pos c, clr_f, if_neg (by omega), clr_f, if_neg (by omega)]
  · rw [if_neg c]
theorem ymend_up : up N (tch2 N l (ymend N l S)) e = up N (zu S 40 l 1) e := up_of (fun i => by rw [tch2_f (by omega), ymend_f (by omega) (by omega) (by omega)]) (fun i => by rw [tch2_f (by omega), ymend_f (by omega) (by omega) (by omega)])
theorem up_ends : up N S (2 * l + 1) = up N S (2 * l) := by
  unfold up fe
  rw [show (2 * l + 1) / 2 = 2 * l / 2 by omega]
  simp only [show (2 * l) % 2 = 0 by omega, show (2 * l + 1) % 2 = 1 by omega]
  cases ceq (S 40 (2 * l / 2)) 1 <;> simp [Bool.and_comm]
end zR22
