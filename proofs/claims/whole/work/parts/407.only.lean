/-! SPEC: what each act may change -/
def XO (N : zN) (b f i : Nat) : Prop := ((f = 1 ∨ f = 2 ∨ f = 3 ∨ f = 9) ∧ ∃ p, p < nP N b ∧ i = eo N b p) ∨ (f = 27 ∧ i = b) ∨ (f = 42 ∧ i / 8 = b) ∨ (f = 44 ∧ (i = 1 ∨ i = 3)) ∨ f = 45
def XS (N : zN) (b f i : Nat) : Prop := ((1 ≤ f ∧ f ≤ 10) ∧ ∃ p, p < nP N b ∧ i = eo N b p) ∨ (f = 27 ∧ i = b) ∨ (f = 42 ∧ i / 8 = b) ∨ (f = 44 ∧ (i = 1 ∨ i = 3)) ∨ f = 45
def XC (N : zN) (b f i : Nat) : Prop := ((f ≤ 10 ∨ f = 49) ∧ ∃ p, p < nP N b ∧ i = eo N b p) ∨ (23 ≤ f ∧ f ≤ 37 ∧ i = b) ∨ (f = 42 ∧ i / 8 = b) ∨ (f = 44 ∧ (i = 1 ∨ i = 3)) ∨ f = 45 ∨ f = 48
theorem XO.s {N : zN} {b f i : Nat} (h : XO N b f i) : XS N b f i := by
  rcases h with ⟨h, h2⟩ | h
  · exact Or.inl ⟨by omega, h2⟩
  · exact Or.inr h
theorem XS.c {N : zN} {b f i : Nat} (h : XS N b f i) : XC N b f i := by
  rcases h with ⟨h, h2⟩ | h | h | h | h
  · exact Or.inl ⟨by omega, h2⟩
  · exact Or.inr (Or.inl (by omega))
  · exact Or.inr (Or.inr (Or.inl h))
  · exact Or.inr (Or.inr (Or.inr (Or.inl h)))
  · exact Or.inr (Or.inr (Or.inr (Or.inr (Or.inl h))))
section zOn
variable {N : zN} {e b p : Nat} {S : zS}
theorem forget_o : only (XO N (bo N e)) S (sp_forget N e S) := by
  unfold sp_forget
  exact only.pf (fun h S hh => only.it (fun _ => only.rf.zu (Or.inr (Or.inr (Or.inl ⟨rfl, by omega⟩)))) (fun _ => only.rf))
theorem row_o {v : Int32} : only (fun f i => f = 45 ∨ (f = 44 ∧ i = 3)) S (sp_row N e v S) := by
  intro f i h
  unfold sp_row
  split
  · show (if f = 45 then _ else _) = _
    rw [if_neg (by omega)]
  · show (if f = 45 then _ else if f = 44 ∧ i = 3 then _ else _) = _
    rw [if_neg (by omega), if_neg (by omega)]
theorem pe (nw : NW N) (he : e < 2 * nL N) : ∃ p, p < nP N (bo N e) ∧ e = eo N (bo N e) p := ⟨po N e, nw.po_p he, (nw.eo_e he).symm⟩
theorem enter_o {v : Int32} (nw : NW N) (he : e < 2 * nL N) : only (XO N (bo N e)) S (sp_enter N e v S) := by
  have h1 : only (XO N (bo N e)) S (zu S 1 e v) := only.rf.zu (Or.inl ⟨Or.inl rfl, pe nw he⟩)
  unfold sp_enter
  refine only.it (fun _ => h1) (fun _ => h1.tr (row_o.mono ?_))
  intro f i x
  rcases x with x | x
  · exact Or.inr (Or.inr (Or.inr (Or.inr x)))
  · exact Or.inr (Or.inr (Or.inr (Or.inl ⟨x.1, Or.inr x.2⟩)))
theorem shut_o (nw : NW N) (he : e < 2 * nL N) : only (XO N (bo N e)) S (sp_shut N e S) := by
  unfold sp_shut
  exact only.it (fun _ => only.rf) (fun _ => (enter_o nw he).tr forget_o)
theorem spr1_o (nw : NW N) (hb : b < nB N) : only (XO N b) S (pfold (sp_spr1 N e b) (nP N b) S) := by
  refine only.pf (fun p S hp => ?_)
  unfold sp_spr1
  exact only.it (fun _ => (only.rf.zu (Or.inl ⟨by omega, p, hp, rfl⟩)).zu (Or.inl ⟨by omega, p, hp, rfl⟩)) (fun _ => only.rf)
theorem spr2_o (nw : NW N) (hb : b < nB N) : only (XO N b) S (pfold (sp_spr2 N e b) (nH N) S) := by
  refine only.pf (fun h S hh => ?_)
  have := nw.h8
  unfold sp_spr2
  exact only.it (fun _ => only.rf) (fun _ => only.it (fun _ => only.rf) (fun _ => (only.rf.zu (Or.inr (Or.inr (Or.inl ⟨rfl, by omega⟩)))).zu (Or.inr (Or.inr (Or.inr (Or.inl ⟨rfl, Or.inl rfl⟩))))))
theorem spread_o (nw : NW N) (he : e < 2 * nL N) : only (XO N (bo N e)) S (sp_spread N e S) := by
  have hb := nw.bo_b he
  unfold sp_spread
  exact only.it (fun _ => (spr1_o nw hb).zu (Or.inr (Or.inl ⟨rfl, rfl⟩))) (fun _ => (spr1_o nw hb).tr (spr2_o nw hb))
theorem open_o (nw : NW N) (he : e < 2 * nL N) : only (XO N (bo N e)) S (sp_open N e S) := by
  have h1 : only (XO N (bo N e)) S (zu (sp_enter N e 2 S) 2 e 0) := (enter_o nw he).zu (Or.inl ⟨by omega, pe nw he⟩)
  unfold sp_open
  exact only.it (fun _ => only.rf) (fun _ => only.it (fun _ => h1) (fun _ => ((h1.zu (Or.inl ⟨by omega, pe nw he⟩)).zu (Or.inl ⟨by omega, pe nw he⟩)).tr (spread_o nw he)))
theorem setl_o {mv : Int32} (nw : NW N) (hb : b < nB N) (hp : p < nP N b) : only (XS N b) S (sp_setl N b mv p S) := by
  have he := nw.eo_l hb hp
  have hbb := nw.bo_eo hb hp
  have op : ∀ S, only (XS N b) S (sp_open N (eo N b p) S) := fun S => by have := open_o (S := S) nw he; rw [hbb] at this; exact this.mono (fun f i => XO.s)
  have sh : ∀ S, only (XS N b) S (sp_shut N (eo N b p) S) := fun S => by have := shut_o (S := S) nw he; rw [hbb] at this; exact this.mono (fun f i => XO.s)
  have pr : ∀ f, 1 ≤ f → f ≤ 10 → XS N b f (eo N b p) := fun f h1 h2 => Or.inl ⟨⟨h1, h2⟩, p, hp, rfl⟩
  unfold sp_setl
  have p4 := pr 4 (by omega) (by omega); have p2 := pr 2 (by omega) (by omega); have p10 := pr 10 (by omega) (by omega); have p7 := pr 7 (by omega) (by omega); have p9 := pr 9 (by omega) (by omega); have p3 := pr 3 (by omega) (by omega); have p8 := pr 8 (by omega) (by omega)
  refine only.it (fun _ => only.it (fun _ => only.it (fun _ => (only.rf.zu p4).zu p2) (fun _ => only.rf.zu p4)) (fun _ => (only.rf.zu p4).tr (op _))) (fun _ => only.it (fun _ => only.it (fun _ => only.it (fun _ => ?_) (fun _ => ?_)) (fun _ => only.it (fun _ => ((((only.rf.zu p10).zu p7).zu p4).zu p9).tr (op _)) (fun _ => (((((only.rf.zu p10).zu p7).zu p4).zu p9).zu p2).tr (sh _)))) (fun _ => only.it (fun _ => only.rf) (fun _ => ((((only.rf.zu p4).zu p2).zu p3).zu p8).tr (sh _))))
  · exact (only.it (fun _ => (only.rf.zu p10).zu p7) (fun _ => ((only.rf.zu p10).zu p7).zu p9)).zu p4
  · exact only.it (fun _ => (only.rf.zu p10).zu p7) (fun _ => ((only.rf.zu p10).zu p7).zu p9)
theorem ch1_o : only (XC N b) S (sp_ch1 N b S) := by
  unfold sp_ch1
  refine only.tr ?_ ((roles_o N b _).mono ?_)
  · refine only.tr (S1 := sp_bef b S) ?_ ((lead_o N b _ _).mono ?_)
    · unfold sp_bef
      exact (((only.rf.zu (Or.inr (Or.inl (by omega)))).zu (Or.inr (Or.inl (by omega)))).zu (Or.inr (Or.inl (by omega)))).zu (Or.inr (Or.inl (by omega)))
    · intro f i x; exact Or.inr (Or.inl (by omega))
  · intro f i x
    rcases x with x | x
    · exact Or.inl ⟨by omega, x.2⟩
    · exact Or.inr (Or.inr (Or.inr (Or.inr (Or.inr x))))
theorem choose_o (nw : NW N) (hb : b < nB N) : only (XC N b) S (sp_choose N b S) := by
  unfold sp_choose sp_end
  exact (((ch1_o.tr (only.pf (fun p S hp => (setl_o nw hb hp).mono (fun f i => XS.c)))).zu (Or.inr (Or.inl (by omega)))).zu (Or.inr (Or.inl (by omega)))).zu (Or.inr (Or.inl (by omega)))
end zOn
