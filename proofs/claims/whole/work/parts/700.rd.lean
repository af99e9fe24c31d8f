/-! READING: the net's own statement, and all statements; both -/
def rnT (m : Nat) (μ3 : zM) : Option zM := (f12_must m 0 μ3).bind fun μ4 => zb2 (f12_told m 1 2 20 μ4) fun t5 μ6 => (wF μ6 1220 m t5).bind fun μ7 => zb2 (f12_told m 2 1 9 μ7) fun t8 μ9 => (wF μ9 1221 m t8).bind fun μ10 => some μ10
def cnT (o_ : Nat) (μ4 : zM) : Option (Bool × zM) := zb2 (cTold o_ 2 1 9 μ4) fun b5 μ6 => if b5 = true then (some (false, μ6)) else ((gR μ6 509 o_).bind fun w7 => (wF μ6 1014 w7 (gF μ6 505 o_)).bind fun μ8 => some (true, μ8))
theorem cn_def (o_ : Nat) (μ : zM) : f5_netStatement o_ μ = zb2 (zb2 (zb2 (zb2 (f5_word o_ 0 μ) fun t23 μ24 => some ((!t23), μ24)) fun b19 μ20 => if b19 = true then (some (true, μ20)) else (zb2 (f5_word o_ 1 μ20) fun t21 μ22 => some ((!t21), μ22))) fun b15 μ16 => if b15 = true then (some (true, μ16)) else (zb2 (f5_number o_ 2 20 μ16) fun t17 μ18 => some ((!t17), μ18))) fun b1 μ2 => if b1 = true then (some (false, μ2)) else ((gR μ2 509 o_).bind fun w3 => (wF μ2 1013 w3 (gF μ2 505 o_)).bind fun μ4 => cnT o_ μ4) := rfl
section zNk
variable {x m w n p q e k i j a z r c f v o b P ne l d : Nat} {μ0 ν0 μ ν μ' ν' μ1 ν1 μ2 ν2 μ6 : zM} {g T : Nat → Nat} {N N' : zN} {V V' : Nat → Nat → Prop} {u u1 u2 : Int32} {t : Bool}
theorem BDD.sf (h : BDD x m w μ0 ν0 μ ν) (hk : 1217 ≤ k ∧ k ≤ 1221) : BDD x m w μ0 ν0 μ (sF ν k m u) := by
  obtain ⟨⟨c, c1, c2, c3, c4, c5⟩, b2, b3⟩ := h
  exact ⟨⟨c, c1, c2, c3, by rw [sF_ne (by omega)]; exact c4, by rw [sF_ne (by omega)]; exact c5⟩, b2, b3.sf (by omega)⟩
theorem netP (h : PT x m w n g μ0 ν0 N V p μ ν) (hw : f5_word (x + 49) 0 μ1 = f5_word (x + 49) 0 μ) (h0 : N 0 0 = 0) (h1 : N 0 1 = 0) (h2 : N 0 2 = 0) (h3 : ∀ b, b < 8 → N 1 b = 0) (hV : V 0 0 ∧ V 0 1 ∧ V 0 2) : STM x m w n g μ0 ν0 p (f5_netStatement (x + 49) μ1) (rnT m ν) := by
  rw [cn_def, hw]
  unfold rnT
  rcases mustP (k := 0) h (by omega) with ⟨e, μ3, ν3, a0, a1, a2, a3, a4⟩ | ⟨μ3, ν3, a1, a2, aR, a3⟩
  · have a2' : f12_must m 0 ν = some ν3 := a2
    rw [a1, a2', ozb2, ozb2, Bool.not_true, if_neg (by decide), obs]
    have hT : ∀ {t μ4}, cTold (x + 49) 1 2 20 μ3 = some (t, μ4) → zb2 (zb2 (f5_word (x + 49) 1 μ3) fun t21 μ22 => some ((!t21), μ22)) (fun b15 μ16 => if b15 = true then (some (true, μ16)) else (zb2 (f5_number (x + 49) 2 20 μ16) fun t17 μ18 => some ((!t17), μ18))) = some (t, μ4) := fun hy => hy
    rcases toldP (k := 1) (lo := 2) (hi := 20) a4 (by omega) (by omega) (by omega) with ⟨e2, v, μ4, ν4, d0, d1, d2, d3, d4, d5, dR, d6⟩ | ⟨μ4, ν4, d1, d2, d3⟩
    · have d4' : f12_told m 1 2 20 ν3 = some (nI v, ν4) := d4
      rw [hT d3, ozb2, if_neg (by decide), d6.2.1, obs, d5, d4', ozb2]
      show STM x m w n g μ0 ν0 p (cnT (x + 49) (sF μ4 1013 w (nI v))) (zb2 (f12_told m 2 1 9 (sF ν4 1220 m (nI v))) fun t8 μ9 => (wF μ9 1221 m t8).bind fun μ10 => some μ10)
      have P1 := (d6.cf (i := 3) (v := v) (by omega)).wf (i := 3) (u := nI v) (by omega) (by rw [nu_eq])
      unfold cnT
      rcases toldP (k := 2) (lo := 1) (hi := 9) P1 (by omega) (by omega) (by omega) with ⟨e3, o, μ5, ν5, f0, f1, f2, f3, f4, f5, fR, f6⟩ | ⟨μ5, ν5, f1, f2, f3⟩
      · have f4' : f12_told m 2 1 9 (sF ν4 1220 m (nI v)) = some (nI o, ν5) := f4
        have f3' : cTold (x + 49) 2 1 9 (sF μ4 1013 w (nI v)) = some (false, μ5) := f3
        rw [f3', ozb2, if_neg (by decide), f6.2.1, obs, f5, f4', ozb2]
        have P2 := (f6.cf (i := 4) (v := o) (by omega)).wf (i := 4) (u := nI o) (by omega) (by rw [nu_eq])
        have e0 : nu (nu N 0 3 v) 0 4 o 0 0 = 0 := by rw [nu_ne (by omega), nu_ne (by omega)]; exact h0
        have e1 : nu (nu N 0 3 v) 0 4 o 0 1 = 0 := by rw [nu_ne (by omega), nu_ne (by omega)]; exact h1
        have e2 : nu (nu N 0 3 v) 0 4 o 0 2 = 0 := by rw [nu_ne (by omega), nu_ne (by omega)]; exact h2
        have e3 : nu (nu N 0 3 v) 0 4 o 0 3 = v := by rw [nu_ne (by omega), nu_eq]
        have e4 : nu (nu N 0 3 v) 0 4 o 0 4 = o := nu_eq
        refine Or.inl ⟨_, nu (nu N 0 3 v) 0 4 o, _, _, by omega, rfl, rfl, P2.wk (fun f i hr hh => ?_), ⟨by omega, by omega, by omega⟩, fun b hb => by omega, fun b _ hb => ?_, fun e he => by omega, fun b p hb => by omega, fun l hl => by omega, ⟨by omega, by omega⟩, fun h hh => by omega, fun b hb => by omega, fun e he => by omega⟩
        · unfold vN at hh
          rw [e0, e1, e2] at hh
          show ((((V f i ∧ ¬ (f = 0 ∧ i = 3)) ∨ (f = 0 ∧ i = 3)) ∧ ¬ (f = 0 ∧ i = 4)) ∨ (f = 0 ∧ i = 4))
          have hf : f = 0 ∧ i < 5 := by omega
          obtain ⟨y1, y2⟩ := hf
          subst y1
          rcases (show i = 0 ∨ i = 1 ∨ i = 2 ∨ i = 3 ∨ i = 4 by omega) with y | y | y | y | y
          · subst y; exact Or.inl ⟨Or.inl ⟨hV.1, by omega⟩, by omega⟩
          · subst y; exact Or.inl ⟨Or.inl ⟨hV.2.1, by omega⟩, by omega⟩
          · subst y; exact Or.inl ⟨Or.inl ⟨hV.2.2, by omega⟩, by omega⟩
          · subst y; exact Or.inl ⟨Or.inr (by omega), by omega⟩
          · subst y; exact Or.inr (by omega)
        · rw [nu_ne (by omega), nu_ne (by omega)]; exact h3 b hb
      · have f2' : f12_told m 2 1 9 (sF ν4 1220 m (nI v)) = some (0, ν5) := f2
        have f1' : cTold (x + 49) 2 1 9 (sF μ4 1013 w (nI v)) = some (true, μ5) := f1
        rw [f1', ozb2, if_pos rfl, f2', ozb2]
        exact Or.inr (Or.inl ⟨_, _, rfl, rfl, f3.sf (by omega)⟩)
    · have d2' : f12_told m 1 2 20 ν3 = some (0, ν4) := d2
      have hd := d3.1.nz
      rw [hT d1, ozb2, if_pos rfl, d2', ozb2]
      have B1 : BDD x m w μ0 ν0 μ4 (sF ν4 1220 m 0) := d3.sf (by omega)
      have hd2 := B1.1.nz
      refine Or.inr (Or.inl ⟨μ4, sF (sF ν4 1220 m 0) 1221 m 0, rfl, ?_, B1.sf (by omega)⟩)
      show (zb2 (f12_told m 2 1 9 (sF ν4 1220 m 0)) fun t8 μ9 => (wF μ9 1221 m t8).bind fun μ10 => some μ10) = _
      rw [R_toldD hd2, ozb2]; rfl
  · have a2' : f12_must m 0 ν = some ν3 := a2
    have hd := a3.1.nz
    have B1 : BDD x m w μ0 ν0 μ3 (sF ν3 1220 m 0) := a3.sf (by omega)
    have hd2 := B1.1.nz
    rw [a1, a2', ozb2, ozb2, Bool.not_false, if_pos rfl, ozb2, if_pos rfl, ozb2, if_pos rfl, obs, R_toldD hd, ozb2]
    refine Or.inr (Or.inl ⟨μ3, sF (sF ν3 1220 m 0) 1221 m 0, rfl, ?_, B1.sf (by omega)⟩)
    show (zb2 (f12_told m 2 1 9 (sF ν3 1220 m 0)) fun t8 μ9 => (wF μ9 1221 m t8).bind fun μ10 => some μ10) = _
    rw [R_toldD hd2, ozb2]; rfl
/-- a statement and its semicolon -/
def STS (x m w n : Nat) (g : Nat → Nat) (μ0 ν0 : zM) (p : Nat) (A : Option (Bool × zM)) (B : Option zM) : Prop := (∃ e N' μa μ' ν', p + 2 ≤ e ∧ A = some (true, μa) ∧ f5_semicolon (x + 49) μa = some (true, μ') ∧ B = some ν' ∧ PT x m w n g μ0 ν0 N' (vN N' (2 * N' 0 1)) e μ' ν' ∧ QW N' (2 * N' 0 1)) ∨ (∃ μ' ν', B = some ν' ∧ BDD x m w μ0 ν0 μ' ν' ∧ (A = some (false, μ') ∨ ∃ μa, A = some (true, μa) ∧ f5_semicolon (x + 49) μa = some (false, μ')))
theorem STM.st {A : Option (Bool × zM)} {B : Option zM} (h : STM x m w n g μ0 ν0 p A B) : STS x m w n g μ0 ν0 p A (B.bind fun μ22 => f12_endsWell m μ22) := by
  rcases h with ⟨e, N', μ', ν', s0, s1, s2, s3, s4⟩ | ⟨μ', ν', s1, s2, s3⟩ | ⟨μ', μ2, ν', s1, s2, s3, s4⟩
  · rw [s2, obs]
    rcases semiP s3 with ⟨e2, μ3, ν3, a0, a1, a2, a3⟩ | ⟨μ3, ν3, a1, a2, a3⟩
    · exact Or.inl ⟨e2, N', μ', μ3, ν3, by omega, s1, a1, a2, a3, s4⟩
    · exact Or.inr ⟨μ3, ν3, a2, a3, Or.inr ⟨μ', s1, a1⟩⟩
  · rw [s2, obs, R_endsD s3.1.nz]
    exact Or.inr ⟨μ', ν', rfl, s3, Or.inl s1⟩
  · rw [s2, obs, R_endsD s4.1.nz]
    exact Or.inr ⟨μ2, ν', rfl, s4, Or.inr ⟨μ', s1, s3⟩⟩
end zNk
