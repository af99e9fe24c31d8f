/-! A LINK IS MENDED, in the reference -/
section zR23
variable {N : zN} {m B : Nat} {ν0 ν ν' : zM} {S S' X : zS} {e b a l h k n t st f i : Nat}
theorem up_raise (h : up N S e = true) : up N (zu S 40 l 1) e = true := by
  unfold up at h ⊢
  rw [zu_4n (f := 20) (by omega), zu_4n (f := 20) (by omega), zu_40]
  by_cases c : e / 2 = l
  · rw [if_pos c]
    rw [Bool.and_eq_true, Bool.and_eq_true] at h ⊢
    exact ⟨⟨rfl, h.1.2⟩, h.2⟩
  · rw [if_neg c]; exact h
theorem up_else {v : Int32} (h : e / 2 ≠ l) : up N (zu S 40 l v) e = up N S e := by
  unfold up
  rw [zu_4n (f := 20) (by omega), zu_4n (f := 20) (by omega), zu_40, if_neg h]
theorem ymend_uw (nw : NW N) (h0 : T0 N S) (hl : l < nL N) : UW N (fun x => x = l) S (tch2 N l (ymend N l S)) := by
  have g : ∀ f i, 10 < f → f < 15 ∨ 16 < f → f ≠ 49 → f ≠ 40 → f ≠ 47 → tch2 N l (ymend N l S) f i = S f i := fun f i h1 h2 h3 h4 h5 => by
    rw [tch2_f h5, ymend_f h1 h2 h3, zu_4n h4]
  refine ⟨fun i hi => ?_, fun i hi f hf => ?_, fun i => ?_, fun f i hf => ?_, fun b hb h20 => ?_, fun e he hu => ?_, fun e he hl => ?_, fun b p hb hp h20 h47 hl => ?_⟩
  · rw [ymend_up]
    by_cases c : up N (zu S 40 l 1) (2 * l) = true
    · by_cases ci : i / 2 = l
      · refine Or.inr ⟨ci, ?_, fun f hf h5 => ?_⟩
        · rcases (show i = 2 * l ∨ i = 2 * l + 1 by omega) with x | x
          · rw [x]; exact c
          · rw [x, up_ends]; exact c
        · rw [tch2_f (by omega), ymend, if_pos c, clr_f, clr_f, if_neg h5]
          rcases (show i = 2 * l ∨ i = 2 * l + 1 by omega) with x | x
          · rw [if_neg (by omega), if_pos ⟨x, by omega⟩, if_neg h5]
          · rw [if_pos ⟨x, by omega⟩]
      · refine Or.inl (fun f hf => ?_)
        rw [tch2_f (by omega), ymend, if_pos c, clr_f, if_neg (by omega), clr_f, if_neg (by omega), zu_4n (by omega)]
    · refine Or.inl (fun f hf => ?_)
      rw [tch2_f (by omega), ymend, if_neg c, zu_4n (by omega)]
  · rw [tch2_f (by omega), ymend]
    by_cases c : up N (zu S 40 l 1) (2 * l) = true
    · rw [if_pos c, clr_f, if_neg (by omega), clr_f, if_neg (by omega), zu_4n (by omega)]
    · rw [if_neg c, zu_4n (by omega)]
  · exact Or.inl (g 27 i (by omega) (by omega) (by omega) (by omega) (by omega))
  · exact g f i (by omega) (by omega) (by omega) (by omega) (by omega)
  · rw [g 20 b (by omega) (by omega) (by omega) (by omega) (by omega)] at h20
    exact Or.inl ⟨h20, fun f hf => g f b (by omega) (by omega) (by omega) (by omega) (by omega)⟩
  · rw [ymend_up]; exact up_raise hu
  · rw [ymend_up]; exact up_else hl
  · apply h47
    rw [tch2_47 (by rw [ymend_f (by omega) (by omega) (by omega), zu_4n (by omega)]; exact h0 b hb)]
    have e1 := nw.bo_eo hb hp
    rcases (show eo N b p = 2 * l ∨ eo N b p = 2 * l + 1 by have hl : eo N b p / 2 = l := hl; omega) with x | x
    · rw [x] at e1; exact Or.inl e1.symm
    · rw [x] at e1; exact Or.inr e1.symm
theorem R_mend (q : MS N m B ν0 ν S) (hI : INV N st S) (h0 : T0 N S) (hl : l < nL N) : (∃ ν', f12_isMended m (nI l) ν = some ν' ∧ MS N m B ν0 ν' (sq_mend N l S)) ∧ INV N st (sq_mend N l S) ∧ T0 N (sq_mend N l S) := by
  have nw := q.nw
  have l14 := nw.l14
  obtain ⟨p1, p2, p3⟩ := (ymend_uw nw h0 hl).inv nw hI
  obtain ⟨i1, i2, i3⟩ := ct_inv nw p1 p2 p3
  rw [mend_eq]
  refine ⟨?_, i1, i2⟩
  have q1 := q.w_l hl (v := 1) (Or.inr rfl)
  have g : ∃ ν2, ((f12_isUpLink m (nI l) (sA ν (m + 24) (B + (964 + l)) 1)).bind fun t4 => if t4 = true then ((f12_portOfEnd m (nI l) 0 (sA ν (m + 24) (B + (964 + l)) 1)).bind fun t5 => (f12_comesUp m t5 (sA ν (m + 24) (B + (964 + l)) 1)).bind fun μ6 => (f12_portOfEnd m (nI l) 1 μ6).bind fun t7 => (f12_comesUp m t7 μ6).bind fun μ8 => some μ8) else (some (sA ν (m + 24) (B + (964 + l)) 1))) = some ν2 ∧ MS N m B ν0 ν2 (ymend N l S) := by
    have hu : upl N (zu S 40 l 1) l = up N (zu S 40 l 1) (2 * l) := by rw [up_l, show 2 * l / 2 = l by omega]
    rw [q1.upl_ hl, obs, hu]
    unfold ymend
    by_cases c : up N (zu S 40 l 1) (2 * l) = true
    · rw [if_pos c, if_pos c]
      obtain ⟨ν2, e2, q2⟩ := R_come q1 (show 2 * l < 2 * nL N by omega)
      obtain ⟨ν3, e3, q3⟩ := R_come q2 (show 2 * l + 1 < 2 * nL N by omega)
      rw [q1.poe0 hl, obs, e2, obs, q2.poe1 hl, obs, e3]
      exact ⟨ν3, rfl, q3⟩
    · rw [if_neg c, if_neg c]
      exact ⟨_, rfl, q1⟩
  obtain ⟨ν2, e2, q2⟩ := g
  have q4 : MS N m B ν0 ν2 (tch2 N l (ymend N l S)) := EM.ms q2 (fun f i h47 _ _ _ _ => tch2_f h47)
  obtain ⟨ν5, e5, q5⟩ := R_both q4 p1 hl (fun b hb => tch2_47 (by rw [ymend_f (by omega) (by omega) (by omega), zu_4n (by omega)]; exact h0 b hb))
  refine ⟨ν5, ?_, q5⟩
  unfold f12_isMended
  rw [addQ964, q.puts (by omega), obs, e2, obs, e5]; rfl
end zR23
