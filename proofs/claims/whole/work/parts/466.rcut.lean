/-! A LINK IS CUT, in the reference -/
def T0 (N : zN) (S : zS) : Prop := ∀ b, b < nB N → S 47 b = 0
/-- a link's both bridges are touched -/
def tch2 (N : zN) (l : Nat) (S : zS) : zS := zu (zu S 47 (bo N (2 * l)) 1) 47 (bo N (2 * l + 1)) 1
def xcut (N : zN) (l : Nat) (S : zS) : zS := tch2 N l (zu (sq_dn2 N l S) 40 l 0)
section zR21
variable {N : zN} {m B : Nat} {ν0 ν ν' : zM} {S S' X : zS} {e b a l h k n t st f i : Nat}
theorem tch2_f (hf : f ≠ 47) : tch2 N l S f i = S f i := by
  unfold tch2; rw [zu_47 hf, zu_47 hf]
theorem tch2_47 (h : S 47 b = 0) : tch2 N l S 47 b = 1 ↔ b = bo N (2 * l) ∨ b = bo N (2 * l + 1) := by
  show (if 47 = 47 ∧ b = bo N (2 * l + 1) then 1 else (if 47 = 47 ∧ b = bo N (2 * l) then 1 else S 47 b)) = 1 ↔ _
  by_cases c1 : b = bo N (2 * l + 1)
  · rw [if_pos ⟨rfl, c1⟩]; exact ⟨fun _ => Or.inr c1, fun _ => rfl⟩
  · rw [if_neg (fun x => c1 x.2)]
    by_cases c2 : b = bo N (2 * l)
    · rw [if_pos ⟨rfl, c2⟩]; exact ⟨fun _ => Or.inl c2, fun _ => rfl⟩
    · rw [if_neg (fun x => c2 x.2), h]
      exact ⟨fun x => absurd x (by decide), fun x => by rcases x with x | x <;> contradiction⟩
theorem cut_eq : sq_cut N l S = sp_ct N (xcut N l S) := by
  unfold sq_cut xcut tch2 sq_dn2; rfl
theorem xcut_f (h1 : f ≠ 40) (h2 : f ≠ 47) : xcut N l S f i = sq_dn2 N l S f i := by
  unfold xcut; rw [tch2_f h2, zu_4n h1]
theorem xcut_40 : xcut N l S 40 i = if i = l then 0 else S 40 i := by
  unfold xcut
  rw [tch2_f (by omega)]
  show (if 40 = 40 ∧ i = l then 0 else sq_dn2 N l S 40 i) = _
  by_cases c : i = l
  · rw [if_pos ⟨rfl, c⟩, if_pos c]
  · rw [if_neg (fun x => c x.2), if_neg c, dn2_f (by omega) (by omega), if_neg (by omega)]
theorem xcut_47 (h : S 47 b = 0) : xcut N l S 47 b = 1 ↔ b = bo N (2 * l) ∨ b = bo N (2 * l + 1) := by
  unfold xcut
  refine tch2_47 ?_
  rw [zu_4n (by omega), dn2_f (by omega) (by omega), if_neg (by omega)]; exact h
theorem xcut_20 : xcut N l S 20 i = S 20 i := by
  rw [xcut_f (by omega) (by omega), dn2_f (by omega) (by omega), if_neg (by omega)]
theorem xcut_dw (nw : NW N) (h0 : T0 N S) : DW N (fun x => x = l) S (xcut N l S) := by
  refine ⟨fun f i hf hi => ?_, fun f i hf hi => ?_, fun f i hf => ?_, fun i hi => ?_, fun i hi => ?_, fun e he hl => ?_, fun e he hl => ?_, fun b h p hb hh hp hx => ?_, fun b hb h20 => ?_, fun b p hb hp h20 h47 hl => ?_⟩
  · rw [xcut_f (by omega) (by omega), dn2_f (by omega) (by omega), if_pos ⟨hi, by omega⟩]
  · rw [xcut_f (by omega) (by omega), dn2_f (by omega) (by omega), if_neg (fun x => hi x.1)]
  · rw [xcut_f (by omega) (by omega), dn2_f (by omega) (by omega), if_neg (by omega)]
  · rw [xcut_f (by omega) (by omega), xcut_f (by omega) (by omega), dn2_60, dn2_61, if_pos hi, if_pos hi]
    exact ⟨rfl, rfl⟩
  · rw [xcut_f (by omega) (by omega), xcut_f (by omega) (by omega), dn2_60, dn2_61, if_neg hi, if_neg hi]
    exact ⟨rfl, rfl⟩
  · unfold up
    rw [xcut_40, if_pos hl]; rfl
  · unfold up
    rw [xcut_40, if_neg hl, xcut_20, xcut_20]
  · rw [xcut_f (by omega) (by omega)] at hx
    exact dn2_42 nw hb hh hp hx
  · rw [xcut_20] at h20; exact h20
  · exfalso
    apply h47
    rw [xcut_47 (h0 b hb)]
    have e1 := nw.bo_eo hb hp
    rcases (show eo N b p = 2 * l ∨ eo N b p = 2 * l + 1 by have hl : eo N b p / 2 = l := hl; omega) with x | x
    · rw [x] at e1; exact Or.inl e1.symm
    · rw [x] at e1; exact Or.inr e1.symm
theorem xcut_em (hs : SL (zu S 40 l 0)) : EM (rq_down N (2 * l + 1) (rq_down N (2 * l) (zu S 40 l 0))) (xcut N l S) := by
  intro f i h47 h49 h60 h33 h11
  have z := down2_em (N := N) (l := l) hs f i h47 h49 h60 h33 h11
  rw [← z]
  by_cases c : f = 40
  · subst c
    have z2 : sq_dn2 N l (zu S 40 l 0) 40 i = (if i = l then 0 else S 40 i) := by
      rw [dn2_f (by omega) (by omega), if_neg (by omega)]
      show (if 40 = 40 ∧ i = l then 0 else S 40 i) = _
      by_cases c : i = l
      · rw [if_pos ⟨rfl, c⟩, if_pos c]
      · rw [if_neg (fun x => c x.2), if_neg c]
    rw [xcut_40, ← z2]
    rfl
  · rw [xcut_f c h47]
    exact (dn2_loc (zu_4n c) (lS_eq (fun i => zu_4n (by omega)) (zu_4n (by omega)))).symm
theorem R_cut (q : MS N m B ν0 ν S) (hI : INV N st S) (h0 : T0 N S) (hl : l < nL N) : (∃ ν', f12_isCut m (nI l) ν = some ν' ∧ MS N m B ν0 ν' (sq_cut N l S)) ∧ INV N st (sq_cut N l S) ∧ T0 N (sq_cut N l S) := by
  have nw := q.nw
  have l14 := nw.l14
  obtain ⟨p1, p2, p3⟩ := (xcut_dw nw h0).inv nw hI
  obtain ⟨i1, i2, i3⟩ := ct_inv nw p1 p2 p3
  rw [cut_eq]
  refine ⟨?_, i1, i2⟩
  have q1 := q.w_l hl (v := 0) (Or.inl rfl)
  obtain ⟨ν2, e2, q2⟩ := R_down q1 (show 2 * l < 2 * nL N by omega)
  obtain ⟨ν3, e3, q3⟩ := R_down q2 (show 2 * l + 1 < 2 * nL N by omega)
  have q4 := EM.ms q3 (xcut_em q1.sl)
  obtain ⟨ν5, e5, q5⟩ := R_both q4 p1 hl (fun b hb => xcut_47 (h0 b hb))
  refine ⟨ν5, ?_, q5⟩
  unfold f12_isCut
  rw [addQ964, q.puts (by omega), obs, q1.poe0 hl, obs, e2, obs, q2.poe1 hl, obs, e3, obs, e5]; rfl
end zR21
