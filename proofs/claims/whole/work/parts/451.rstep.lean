/-! SPEC: mail while all speak; REFERENCE: sending, a step -/
/-- all that have a place below n have spoken -/
def MI3 (N : zN) (st n : Nat) (S : zS) : Prop := ∀ q, q < 6 * nL N → S 60 q = S 61 q ∧ (S 60 q = 0 ∨ S 60 q = 1) ∧ (S 60 q = 1 → up N S (q / 3) = true ∧ ∃ a, S 50 q = nI a ∧ st < a ∧ a % 3 = q % 3 ∧ (a < st + tks N (q / 3 / 2) ∨ (a = st + tks N (q / 3 / 2) ∧ pl N (fe (q / 3)) < n)))
section zR15
variable {N : zN} {m B : Nat} {ν0 ν ν' : zM} {S S' : zS} {R R' : Nat → Int32} {e b l h k n n' t P st : Nat}
theorem MI3.mono (h : MI3 N st n S) (hn : n ≤ n') : MI3 N st n' S := fun q hq => by
  obtain ⟨h1, h2, h3⟩ := h q hq
  refine ⟨h1, h2, fun x => ?_⟩
  obtain ⟨u, a, a1, a2, a3, a4⟩ := h3 x
  exact ⟨u, a, a1, a2, a3, by omega⟩
theorem mail_f (c : Bool) (bits : Int32) {f i : Nat} (hf : (f < 50 ∨ 63 < f) ∨ (f ≤ 61 ∧ i ≠ slot (fe e) (st + tks N (e / 2)))) : sp_mail N e st c bits S f i = S f i := by
  unfold sp_mail setL zu
  rw [if_neg (by omega), if_neg (by omega), if_neg (by omega), if_neg (by omega), if_neg (by omega), if_neg (by omega), if_neg (by omega), if_neg (by omega), if_neg (by omega), if_neg (by omega), if_neg (by omega), if_neg (by omega)]
/-- what speaking does to anything but mail -/
theorem speak_f {f i : Nat} (h1 : f < 50) (h2 : f ≠ 7) (h3 : f ≠ 8) (h4 : f ≠ 9) : sp_speak N st e S f i = S f i := by
  have z : zu (zu S 9 e 0) (if ceq (S 0 e) 2 = true then 8 else 7) e 0 f i = S f i := by
    unfold zu
    rw [if_neg (by split <;> omega), if_neg (by omega)]
  unfold sp_speak
  split
  · show (if (!(ceq (S 0 e) 2) && ceq (sp_bits (ceq (S 0 e) 2) S e (ceq (S 6 e) 1 || ceq (S 22 (bo N e)) 1) &&& 6) 0) = true then zu (zu S 9 e 0) (if ceq (S 0 e) 2 = true then 8 else 7) e 0 else sp_mail N e st (ceq (S 0 e) 2) (sp_bits (ceq (S 0 e) 2) S e (ceq (S 6 e) 1 || ceq (S 22 (bo N e)) 1)) (zu (zu S 9 e 0) (if ceq (S 0 e) 2 = true then 8 else 7) e 0)) f i = _
    split
    · exact z
    · rw [mail_f _ _ (by omega)]; exact z
  · rfl
theorem speak_e {f i : Nat} (h1 : f < 50) (hi : i ≠ e) : sp_speak N st e S f i = S f i := by
  have z : zu (zu S 9 e 0) (if ceq (S 0 e) 2 = true then 8 else 7) e 0 f i = S f i := by
    unfold zu
    rw [if_neg (fun x => hi x.2), if_neg (fun x => hi x.2)]
  unfold sp_speak
  split
  · show (if (!(ceq (S 0 e) 2) && ceq (sp_bits (ceq (S 0 e) 2) S e (ceq (S 6 e) 1 || ceq (S 22 (bo N e)) 1) &&& 6) 0) = true then zu (zu S 9 e 0) (if ceq (S 0 e) 2 = true then 8 else 7) e 0 else sp_mail N e st (ceq (S 0 e) 2) (sp_bits (ceq (S 0 e) 2) S e (ceq (S 6 e) 1 || ceq (S 22 (bo N e)) 1)) (zu (zu S 9 e 0) (if ceq (S 0 e) 2 = true then 8 else 7) e 0)) f i = _
    split
    · exact z
    · rw [mail_f _ _ (by omega)]; exact z
  · rfl
theorem speak_up : up N (sp_speak N st e S) k = up N S k := up_of (fun i => speak_f (by omega) (by omega) (by omega) (by omega)) (fun i => speak_f (by omega) (by omega) (by omega) (by omega))
theorem INV0.speak (nw : NW N) (he : e < 2 * nL N) (h : INV0 N S) : INV0 N (sp_speak N st e S) := by
  obtain ⟨h1, h2, h3⟩ := h
  refine ⟨fun i => ?_, fun e' he' hu k hk => ?_, fun b hb ho => ?_⟩
  · rw [speak_f (f := 2) (by omega) (by omega) (by omega) (by omega), speak_f (f := 3) (by omega) (by omega) (by omega) (by omega), speak_f (f := 27) (by omega) (by omega) (by omega) (by omega), speak_f (f := 10) (by omega) (by omega) (by omega) (by omega), speak_f (f := 16) (by omega) (by omega) (by omega) (by omega)]; exact h1 i
  · rw [speak_up] at hu
    have cl := h2 e' he' hu
    by_cases c : e' = e
    · subst c
      unfold sp_speak
      rw [if_neg (by rw [cl 9 (by omega)]; decide)]
      exact cl k hk
    · rw [speak_e (by omega) c]; exact cl k hk
  · rw [speak_f (by omega) (by omega) (by omega) (by omega)] at ho
    exact (h3 b hb ho).keep (fun f i hf _ => speak_f (by omega) (by omega) (by omega) (by omega)) (fun f hf => speak_f (by omega) (by omega) (by omega) (by omega)) (fun e => speak_up)
theorem MI3.free (nw : NW N) (he : e < 2 * nL N) (h : MI3 N st n S) (hn : n ≤ pl N e) : S 61 (slot (fe e) (st + tks N (e / 2))) ≠ 1 := by
  intro x
  have hfe := fe_lt he
  have sd := slot_d (fe e) (st + tks N (e / 2))
  obtain ⟨h1, h2, h3⟩ := h (slot (fe e) (st + tks N (e / 2))) (by unfold slot; omega)
  obtain ⟨u, a, a1, a2, a3, a4⟩ := h3 (h1.trans x)
  rw [sd.1, fe_hf, fe_fe] at a4
  have t3 := nw.t3 (l := e / 2) (by omega)
  omega
theorem MI3.speak (nw : NW N) (he : e < 2 * nL N) (hd : DN N S) (h : MI3 N st (pl N e) S) : MI3 N st (pl N e + 1) (sp_speak N st e S) := by
  have hfe := fe_lt he
  have sd := slot_d (fe e) (st + tks N (e / 2))
  by_cases c : ceq (S 9 e) 1 = true
  · by_cases c2 : (!(ceq (S 0 e) 2) && ceq (sp_bits (ceq (S 0 e) 2) S e (ceq (S 6 e) 1 || ceq (S 22 (bo N e)) 1) &&& 6) 0) = true
    · have hs : sp_speak N st e S = zu (zu S 9 e 0) (if ceq (S 0 e) 2 = true then 8 else 7) e 0 := by
        unfold sp_speak
        rw [if_pos c]
        exact if_pos c2
      rw [hs]
      have z : ∀ f i, 10 ≤ f → zu (zu S 9 e 0) (if ceq (S 0 e) 2 = true then 8 else 7) e 0 f i = S f i := fun f i hf => by
        unfold zu
        rw [if_neg (by split <;> omega), if_neg (by omega)]
      intro q hq
      rw [z _ _ (by omega), z _ _ (by omega), z _ _ (by omega), up_of (fun i => z 20 i (by omega)) (fun i => z 40 i (by omega))]
      exact h.mono (by omega) q hq
    · have hs : sp_speak N st e S = sp_mail N e st (ceq (S 0 e) 2) (sp_bits (ceq (S 0 e) 2) S e (ceq (S 6 e) 1 || ceq (S 22 (bo N e)) 1)) (zu (zu S 9 e 0) (if ceq (S 0 e) 2 = true then 8 else 7) e 0) := by
        unfold sp_speak
        rw [if_pos c]
        exact if_neg c2
      have hup : ∀ k, up N (sp_speak N st e S) k = up N S k := fun k => speak_up
      have hu : up N S e = true := by
        cases hx : up N S e with
        | true => rfl
        | false => rw [hd e he hx 9 (by omega)] at c; exact absurd c (by decide)
      intro q hq
      rw [hup]
      rw [hs]
      have z : ∀ f i, 10 ≤ f → zu (zu S 9 e 0) (if ceq (S 0 e) 2 = true then 8 else 7) e 0 f i = S f i := fun f i hf => by
        unfold zu
        rw [if_neg (by split <;> omega), if_neg (by omega)]
      by_cases cq : q = slot (fe e) (st + tks N (e / 2))
      · subst cq
        have e60 : sp_mail N e st (ceq (S 0 e) 2) (sp_bits (ceq (S 0 e) 2) S e (ceq (S 6 e) 1 || ceq (S 22 (bo N e)) 1)) (zu (zu S 9 e 0) (if ceq (S 0 e) 2 = true then 8 else 7) e 0) 60 (slot (fe e) (st + tks N (e / 2))) = 1 := if_pos ⟨rfl, rfl⟩
        have e61 : sp_mail N e st (ceq (S 0 e) 2) (sp_bits (ceq (S 0 e) 2) S e (ceq (S 6 e) 1 || ceq (S 22 (bo N e)) 1)) (zu (zu S 9 e 0) (if ceq (S 0 e) 2 = true then 8 else 7) e 0) 61 (slot (fe e) (st + tks N (e / 2))) = 1 := if_pos ⟨rfl, rfl⟩
        have e50 : sp_mail N e st (ceq (S 0 e) 2) (sp_bits (ceq (S 0 e) 2) S e (ceq (S 6 e) 1 || ceq (S 22 (bo N e)) 1)) (zu (zu S 9 e 0) (if ceq (S 0 e) 2 = true then 8 else 7) e 0) 50 (slot (fe e) (st + tks N (e / 2))) = nI (st + tks N (e / 2)) := if_pos ⟨rfl, rfl⟩
        rw [e60, e61, e50, sd.1, fe_hf, fe_fe, up_fe]
        have t1 := nw.t1 (l := e / 2) (by omega)
        exact ⟨rfl, Or.inr rfl, fun _ => ⟨hu, _, rfl, by omega, sd.2.symm, Or.inr ⟨rfl, by omega⟩⟩⟩
      · rw [mail_f _ _ (Or.inr ⟨by omega, cq⟩), mail_f _ _ (Or.inr ⟨by omega, cq⟩), mail_f _ _ (Or.inr ⟨by omega, cq⟩), z _ _ (by omega), z _ _ (by omega), z _ _ (by omega)]
        exact h.mono (by omega) q hq
  · have hs : sp_speak N st e S = S := by
      unfold sp_speak
      rw [if_neg c]
    rw [hs]
    exact h.mono (by omega)
theorem R_bits (c : Bool) (S : zS) (e : Nat) (old : Bool) (x1 x3 x8 x7 : Bool) (h1 : ceq (S 1 e) 2 = x1) (h3 : ceq (S 3 e) 0 = x3) (h8 : ceq (S 8 e) 1 = x8) (h7 : ceq (S 7 e) 1 = x7) : sp_bits c S e old = if c = true then
    (fun y => if x8 = true then y + 8 else y) ((fun y : Int32 => if (!old && !x1) = true then y + 1 else y) ((if (!old) = true then (0 : Int32) else 16) + (if x3 = true then 0 else 4)))
  else (fun y : Int32 => if (!old && x7) = true then y + 2 else y) ((if (!old) = true then (0 : Int32) else 16) + (if x3 = true then 0 else 4)) := by
  unfold sp_bits
  rw [h1, h3, h8, h7]
  cases c <;> cases old <;> cases x1 <;> cases x3 <;> cases x8 <;> cases x7 <;> rfl
theorem R_sends (q : MS N m B ν0 ν S) (he : e < 2 * nL N) (hst : S 44 0 = nI st) (hs : st < 2 ^ 30) (hi : INV0 N S) (hm : MI3 N st (pl N e) S) (hmk : ceq (S 9 e) 1 = true) : ∃ ν', f12_sends m (nI (pl N e)) ν = some ν' ∧ MS N m B ν0 ν' (sp_speak N st e S) := by
  have nw := q.nw
  have hp := nw.pl_48 he
  have hb := nw.bo_b he
  have hu : up N S e = true := by
    cases hx : up N S e with
    | true => rfl
    | false => rw [hi.2.1 e he hx 9 (by omega)] at hmk; exact absurd hmk (by decide)
  have hbr := hi.2.2 (bo N e) hb (up_on hu)
  have hrole := (hbr.2 (po N e) (nw.po_p he))
  rw [nw.eo_e he] at hrole
  have hfree := hm.free nw he (Nat.le_refl _)
  obtain ⟨ν1, e1, q1⟩ := q.s9 he (v := 0) (Or.inl rfl)
  unfold f12_sends sp_speak
  rw [if_pos hmk, e1, obs, iDivR6 (by omega), nw.pl_d he, obs, q1.p0 he, obs, obs]
  rw [show zu S 9 e 0 0 e = S 0 e from rfl]
  have hnew : (((f12_portOf m (nI (pl N e)) 6 ν1).bind fun t8 => some (ceq t8 0)).bind fun b6 => if b6 = true then ((f12_of m (nI (bo N e)) 2 ν1).bind fun t7 => some (ceq t7 0)) else (some false)) = some (!(ceq (S 6 e) 1 || ceq (S 22 (bo N e)) 1)) := by
    simp only [q1.p6 he, q1.b2 hb, obs, zand]
    rw [show zu S 9 e 0 6 e = S 6 e from rfl, show zu S 9 e 0 22 (bo N e) = S 22 (bo N e) from rfl, c01 (q.isb he (by omega) (by omega)), c01 (q.1.2.2.2.1 _ hb).2]
    cases ceq (S 6 e) 1 <;> cases ceq (S 22 (bo N e)) 1 <;> rfl
  rw [hnew, obs]
  dsimp only
  generalize hold : (ceq (S 6 e) 1 || ceq (S 22 (bo N e)) 1) = old
  have hbits := fun c => R_bits c S e old _ _ _ _ rfl rfl rfl rfl
  have i0 : (if (!old) = true then (some (0 : Int32)) else (some 16)) = some (if (!old) = true then 0 else 16) := by cases old <;> rfl
  rw [i0, obs, q1.p3 he, obs, show zu S 9 e 0 3 e = S 3 e from rfl]
  have i3 : (if ceq (S 3 e) 0 = true then (some (0 : Int32)) else (some 4)) = some (if ceq (S 3 e) 0 = true then 0 else 4) := by cases ceq (S 3 e) 0 <;> rfl
  rw [i3, obs, obs]
  cases hc : ceq (S 0 e) 2 with
  | true =>
    have hbt := hbits true
    simp only [↓reduceIte] at hbt
    simp only [↓reduceIte, Bool.not_true, Bool.false_and, Bool.false_eq_true]
    rw [q1.p1 he, obs, show zu S 9 e 0 1 e = S 1 e from rfl, zand, obs, q1.p8 he, show zu S 9 e 0 8 e = S 8 e from rfl]
    obtain ⟨ν2, e2, q2⟩ := q1.s8 he (v := 0) (Or.inl rfl)
    have hx : ∀ X : Int32 → Option zM, ((if (!old && !ceq (S 1 e) 2) = true then (some (((if (!old) = true then (0 : Int32) else 16) + (if ceq (S 3 e) 0 = true then 0 else 4)) + 1)).bind fun v_bits_94 => some v_bits_94 else some ((if (!old) = true then (0 : Int32) else 16) + (if ceq (S 3 e) 0 = true then 0 else 4))).bind fun v_bits_53 => ((some (S 8 e)).bind fun t91 => if ceq t91 1 = true then (some (v_bits_53 + 8)).bind fun v_bits_92 => some v_bits_92 else some v_bits_53).bind fun v_bits_54 => X v_bits_54) = X (sp_bits true S e old) := by
      intro X
      rw [hbt]
      cases ha : (!old && !ceq (S 1 e) 2) <;> cases hd : ceq (S 8 e) 1 <;> simp only [obs, hd, Bool.false_eq_true, ↓reduceIte]
    rw [hx, e2, obs]
    obtain ⟨ν3, e3, q3⟩ := R_tailS (c := true) (bits := sp_bits true S e old) q2 he hst hs hfree (fun _ => ⟨hbr.1.1, hbr.1.2.1⟩) (fun x => by cases x)
    exact ⟨ν3, e3, q3⟩
  | false =>
    have hbt := hbits false
    simp only [Bool.false_eq_true, ↓reduceIte] at hbt
    simp only [Bool.false_eq_true, ↓reduceIte, Bool.not_false, Bool.true_and]
    rw [q1.p7 he, obs, show zu S 9 e 0 7 e = S 7 e from rfl, zand, obs]
    obtain ⟨ν2, e2, q2⟩ := q1.s7 he (v := 0) (Or.inl rfl)
    have hx : ∀ X : Int32 → Option zM, ((if (!old && ceq (S 7 e) 1) = true then (some (((if (!old) = true then (0 : Int32) else 16) + (if ceq (S 3 e) 0 = true then 0 else 4)) + 2)).bind fun v_bits_51 => some v_bits_51 else some ((if (!old) = true then (0 : Int32) else 16) + (if ceq (S 3 e) 0 = true then 0 else 4))).bind fun v_bits_13 => X v_bits_13) = X (sp_bits false S e old) := by
      intro X
      rw [hbt]
      cases ha : (!old && ceq (S 7 e) 1) <;> simp only [obs, Bool.false_eq_true, ↓reduceIte]
    rw [hx, e2, obs]
    generalize sp_bits false S e old = bits at *
    by_cases c3 : ceq (bits &&& 6) 0 = true
    · simp only [if_pos c3]
      exact ⟨_, rfl, q2⟩
    · simp only [if_neg c3]
      have h2 : S 0 e ≠ 2 := fun x => by rw [x] at hc; exact absurd hc (by decide)
      obtain ⟨ν3, e3, q3⟩ := R_tailS (c := false) (bits := bits) q2 he hst hs hfree (fun x => by cases x) (fun _ => hrole.1 (hrole.2 hu) h2)
      exact ⟨ν3, e3, q3⟩
end zR15
