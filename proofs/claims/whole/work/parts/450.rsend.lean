/-! REFERENCE: sending, whole -/
section zR14
variable {N : zN} {m B : Nat} {ν0 ν ν' : zM} {S S' : zS} {R R' : Nat → Int32} {e b l h k n t P st : Nat}
theorem RW.ar (q : RW m B ν0 ν R) {a : Nat} (j : Nat) (h1 : a ≠ m + 24) (h2 : a ≠ m + 26) (h3 : a ≠ m + 27) : gA ν a j = gA ν0 a j := q.2.1.2.2.2.1 a j (fun x => h1 x.1) h2 h3
theorem RW.g_lk (q : RW m B ν0 ν R) (mt : MT N m B ν0) (he : e < 2 * nL N) : rA ν (m + 10) 48 (nI (pl N e)) = some (nI (e / 2)) := by
  rw [rA_nI (mt.1.pl_48 he) (by omega), q.ar _ (by omega) (by omega) (by omega)]; exact congrArg some (mt.2.1.2.2.1 e he).2.2.2.1
theorem RW.g_en (q : RW m B ν0 ν R) (mt : MT N m B ν0) (he : e < 2 * nL N) : rA ν (m + 11) 48 (nI (pl N e)) = some (nI (e % 2)) := by
  rw [rA_nI (mt.1.pl_48 he) (by omega), q.ar _ (by omega) (by omega) (by omega)]; exact congrArg some (mt.2.1.2.2.1 e he).2.2.2.2
theorem RW.g_bo (q : RW m B ν0 ν R) (mt : MT N m B ν0) (he : e < 2 * nL N) : rA ν (m + 4) 56 (nI (2 * e)) = some (nI (bo N e)) := by
  rw [rA_nI (by have := mt.1.e28 he; omega) (by omega), q.ar _ (by omega) (by omega) (by omega)]; exact congrArg some (mt.2.1.2.2.1 e he).1
theorem RW.g_po (q : RW m B ν0 ν R) (mt : MT N m B ν0) (he : e < 2 * nL N) : rA ν (m + 4) 56 (nI (2 * e + 1)) = some (nI (po N e)) := by
  rw [rA_nI (by have := mt.1.e28 he; omega) (by omega), q.ar _ (by omega) (by omega) (by omega)]; exact congrArg some (mt.2.1.2.2.1 e he).2.1
theorem RW.g_tks (q : RW m B ν0 ν R) (mt : MT N m B ν0) (hl : l < nL N) : rA ν (m + 7) 14 (nI l) = some (nI (tks N l)) := by
  rw [rA_nI (by have := mt.1.l14; omega) (by omega), q.ar _ (by omega) (by omega) (by omega)]; exact congrArg some (mt.2.1.2.2.2.1 l hl).2
theorem RW.ob (q : RW m B ν0 ν R) (mt : MT N m B ν0) (he : e < 2 * nL N) : f12_otherBridge m (nI (pl N e)) ν = some (nI (bo N (fe e))) := by
  unfold f12_otherBridge
  rw [q.g_lk mt he, obs, q.g_en mt he, obs]
  have : (((4 : Int32) * nI (e / 2)) + 2) - (2 * nI (e % 2)) = nI (2 * fe e) := by
    show ((nI 4 * nI (e / 2)) + nI 2) - (nI 2 * nI (e % 2)) = _
    rw [pk_mul, nI_add, pk_mul, pk_sub (by omega)]
    congr 1
    unfold fe; split <;> omega
  rw [this, q.g_bo mt (fe_lt he)]; rfl
theorem RW.op (q : RW m B ν0 ν R) (mt : MT N m B ν0) (he : e < 2 * nL N) : f12_otherPort m (nI (pl N e)) ν = some (nI (pl N (fe e))) := by
  unfold f12_otherPort
  rw [q.ob mt he, obs, q.g_lk mt he, obs, q.g_en mt he, obs]
  have : (((4 : Int32) * nI (e / 2)) + 3) - (2 * nI (e % 2)) = nI (2 * fe e + 1) := by
    show ((nI 4 * nI (e / 2)) + nI 3) - (nI 2 * nI (e % 2)) = _
    rw [pk_mul, nI_add, pk_mul, pk_sub (by omega)]
    congr 1
    unfold fe; split <;> omega
  rw [this, q.g_po mt (fe_lt he), obs, pl_add, obs]; rfl
theorem RW.ofR (q : RW m B ν0 ν R) (hb : b < 8) (hk : k < 12) : f12_of m (nI b) (nI k) ν = some (R (4 + 12 * b + k)) := by
  unfold f12_of
  rw [bAt, obs, q.its (by omega)]; rfl
theorem addZ (a : Nat) : nI a + 0 = nI (a + 0) := nI_add a 0
def rowS (N : zN) (e st : Nat) (c : Bool) (bits : Int32) (S : zS) (i : Nat) : Int32 := match i with
  | 0 => nI (st + tks N (e / 2))
  | 1 => nI (bo N (fe e))
  | 2 => nI (po N (fe e))
  | 3 => bI (!c)
  | 4 => if c = true then S 23 (bo N e) else S 11 e
  | 5 => if c = true then S 24 (bo N e) else S 12 e
  | 6 => if c = true then S 31 (bo N e) else S 13 e
  | 7 => if c = true then nI (po N e) else S 14 e
  | 8 => if c = true then S 26 (bo N e) else 0
  | _ => bits
theorem R_tailS (q : MS N m B ν0 ν S) (he : e < 2 * nL N) (hst : S 44 0 = nI st) (hs : st < 2 ^ 30) {c : Bool} {bits : Int32} (hnew : S 61 (slot (fe e) (st + tks N (e / 2))) ≠ 1) (hc : c = true → S 32 (bo N e) = 1 ∧ S 31 (bo N e) = idS S (bo N e)) (hc2 : c = false → S 10 e = 1) : ∃ ν', ((f12_its m 2 ν).bind fun t56 => (f12_puts m 2 (t56 + 1) ν).bind fun μ57 => (some (1274 + (10 * t56))).bind fun v_m_58 => (f12_its m 0 μ57).bind fun t59 => (rA μ57 (m + 10) 48 (nI (pl N e))).bind fun t60 => (rA μ57 (m + 7) 14 t60).bind fun t61 => (f12_puts m (v_m_58 + 0) (t59 + t61) μ57).bind fun μ62 => (f12_otherPort m (nI (pl N e)) μ62).bind fun t63 => (iDiv t63 6).bind fun t64 => (f12_puts m (v_m_58 + 1) t64 μ62).bind fun μ65 => (f12_otherPort m (nI (pl N e)) μ65).bind fun t66 => (iRem t66 6).bind fun t67 => (f12_puts m (v_m_58 + 2) t67 μ65).bind fun μ68 => (if c = true then (some 0) else (some 1)).bind fun x69 => (f12_puts m (v_m_58 + 3) x69 μ68).bind fun μ70 => (if c = true then ((f12_of m (nI (bo N e)) 3 μ70).bind fun t73 => some t73) else ((f12_portOf m (nI (pl N e)) 11 μ70).bind fun t72 => some t72)).bind fun x71 => (f12_puts m (v_m_58 + 4) x71 μ70).bind fun μ74 => (if c = true then ((f12_of m (nI (bo N e)) 4 μ74).bind fun t77 => some t77) else ((f12_portOf m (nI (pl N e)) 12 μ74).bind fun t76 => some t76)).bind fun x75 => (f12_puts m (v_m_58 + 5) x75 μ74).bind fun μ78 => (if c = true then ((f12_idOf m (nI (bo N e)) μ78).bind fun t81 => some t81) else ((f12_portOf m (nI (pl N e)) 13 μ78).bind fun t80 => some t80)).bind fun x79 => (f12_puts m (v_m_58 + 6) x79 μ78).bind fun μ82 => (if c = true then ((iRem (nI (pl N e)) 6).bind fun t85 => some t85) else ((f12_portOf m (nI (pl N e)) 14 μ82).bind fun t84 => some t84)).bind fun x83 => (f12_puts m (v_m_58 + 7) x83 μ82).bind fun μ86 => (if c = true then ((f12_of m (nI (bo N e)) 6 μ86).bind fun t88 => some t88) else (some 0)).bind fun x87 => (f12_puts m (v_m_58 + 8) x87 μ86).bind fun μ89 => (f12_puts m (v_m_58 + 9) bits μ89).bind fun μ90 => some μ90) = some ν' ∧ MS N m B ν0 ν' (sp_mail N e st c bits S) := by
  have nw := q.nw
  have mt := q.2.2.1
  have hp := nw.pl_48 he
  have hb := nw.bo_b he
  have hb8 := nw.bo_8 he
  have l14 := nw.l14
  have hfe := fe_lt he
  have hpf := nw.pl_48 hfe
  have hl := q.ll
  have m11 := q.1.2.2.2.2.2.2.2.2.2.2.2
  have hl2 : (lS S).length < 84 := by
    have hnin : slot (fe e) (st + tks N (e / 2)) ∉ lS S := fun x => hnew ((m11.2.1 _).mp x).2
    have ht : slot (fe e) (st + tks N (e / 2)) < 6 * nL N := by unfold slot; omega
    have nd : (lS S ++ [slot (fe e) (st + tks N (e / 2))]).Nodup := by
      rw [List.nodup_append]
      exact ⟨m11.1, by simp, fun a ha b hb => by
        have : b = slot (fe e) (st + tks N (e / 2)) := by simpa using hb
        rw [this]; exact fun x => hnin (by rw [← x]; exact ha)⟩
    have := nodup_len (6 * nL N) _ nd (fun q hq => by
      rcases List.mem_append.mp hq with h | h
      · exact ((m11.2.1 q).mp h).1
      · have : q = slot (fe e) (st + tks N (e / 2)) := by simpa using h
        rw [this]; exact ht)
    simp at this
    omega
  have hR := q.1
  have hln := q.len
  generalize hL : (lS S).length = L at *
  have q0 := q.rw
  generalize hRr : rw_ m B ν = R at *
  obtain ⟨ν1, a1, q1⟩ := q0.put (k := 2) (v := nI (L + 1)) (by omega)
  obtain ⟨ν2, a2, q2⟩ := q1.put (k := 1274 + 10 * L + 0) (v := rowS N e st c bits S 0) (by omega)
  obtain ⟨ν3, a3, q3⟩ := q2.put (k := 1274 + 10 * L + 1) (v := rowS N e st c bits S 1) (by omega)
  obtain ⟨ν4, a4, q4⟩ := q3.put (k := 1274 + 10 * L + 2) (v := rowS N e st c bits S 2) (by omega)
  obtain ⟨ν5, a5, q5⟩ := q4.put (k := 1274 + 10 * L + 3) (v := rowS N e st c bits S 3) (by omega)
  obtain ⟨ν6, a6, q6⟩ := q5.put (k := 1274 + 10 * L + 4) (v := rowS N e st c bits S 4) (by omega)
  obtain ⟨ν7, a7, q7⟩ := q6.put (k := 1274 + 10 * L + 5) (v := rowS N e st c bits S 5) (by omega)
  obtain ⟨ν8, a8, q8⟩ := q7.put (k := 1274 + 10 * L + 6) (v := rowS N e st c bits S 6) (by omega)
  obtain ⟨ν9, a9, q9⟩ := q8.put (k := 1274 + 10 * L + 7) (v := rowS N e st c bits S 7) (by omega)
  obtain ⟨ν10, a10, q10⟩ := q9.put (k := 1274 + 10 * L + 8) (v := rowS N e st c bits S 8) (by omega)
  obtain ⟨ν11, a11, q11⟩ := q10.put (k := 1274 + 10 * L + 9) (v := rowS N e st c bits S 9) (by omega)
  have lo : ∀ (R : Nat → Int32) (a : Nat) (v : Int32) (j : Nat), j < 1274 → j ≠ a → uR R a v j = R j := fun R a v j _ h => if_neg h
  have b1 : f12_puts m 2 (nI (L + 1)) ν = some ν1 := a1
  have g0 : f12_its m 0 ν1 = some (nI st) := (q1.its (k := 0) (by omega)).trans (congrArg some (by rw [lo _ _ _ _ (by omega) (by omega)]; exact hR.2.2.2.2.2.2.2.2.1.1.trans hst))
  have rd : ∀ (Rx : Nat → Int32) (νx : zM), RW m B ν0 νx Rx → (∀ j, j < 1274 → j ≠ 2 → Rx j = R j) → (c = true → f12_of m (nI (bo N e)) 3 νx = some (S 23 (bo N e)) ∧ f12_of m (nI (bo N e)) 4 νx = some (S 24 (bo N e)) ∧ f12_of m (nI (bo N e)) 6 νx = some (S 26 (bo N e)) ∧ f12_idOf m (nI (bo N e)) νx = some (S 31 (bo N e))) ∧ (c = false → f12_portOf m (nI (pl N e)) 11 νx = some (S 11 e) ∧ f12_portOf m (nI (pl N e)) 12 νx = some (S 12 e) ∧ f12_portOf m (nI (pl N e)) 13 νx = some (S 13 e) ∧ f12_portOf m (nI (pl N e)) 14 νx = some (S 14 e)) := by
    intro Rx νx qx hx
    refine ⟨fun h => ?_, fun h => ?_⟩
    · obtain ⟨h32, h31⟩ := hc h
      have e1 : f12_of m (nI (bo N e)) 1 νx = some (S 21 (bo N e)) := (qx.ofR (k := 1) hb8 (by omega)).trans (congrArg some (by rw [hx _ (by omega) (by omega)]; exact hR.2.2.1 _ 1 hb (by omega) (fun x _ => absurd x (by omega))))
      refine ⟨(qx.ofR (k := 3) hb8 (by omega)).trans (congrArg some (by rw [hx _ (by omega) (by omega)]; exact hR.2.2.1 _ 3 hb (by omega) (fun _ _ => h32))), (qx.ofR (k := 4) hb8 (by omega)).trans (congrArg some (by rw [hx _ (by omega) (by omega)]; exact hR.2.2.1 _ 4 hb (by omega) (fun _ _ => h32))), (qx.ofR (k := 6) hb8 (by omega)).trans (congrArg some (by rw [hx _ (by omega) (by omega)]; exact hR.2.2.1 _ 6 hb (by omega) (fun _ _ => h32))), ?_⟩
      unfold f12_idOf
      rw [e1, obs, h31]; rfl
    · have h10 := hc2 h
      exact ⟨(qx.portR (k := 11) hp (by omega)).trans (congrArg some (by rw [hx _ (by omega) (by omega)]; exact hR.1 e 11 he (by omega) (fun _ => h10))), (qx.portR (k := 12) hp (by omega)).trans (congrArg some (by rw [hx _ (by omega) (by omega)]; exact hR.1 e 12 he (by omega) (fun _ => h10))), (qx.portR (k := 13) hp (by omega)).trans (congrArg some (by rw [hx _ (by omega) (by omega)]; exact hR.1 e 13 he (by omega) (fun _ => h10))), (qx.portR (k := 14) hp (by omega)).trans (congrArg some (by rw [hx _ (by omega) (by omega)]; exact hR.1 e 14 he (by omega) (fun _ => h10)))⟩
  have r5 := rd _ _ q5 (fun j h1 h2 => by unfold uR; rw [if_neg (by omega), if_neg (by omega), if_neg (by omega), if_neg (by omega), if_neg (by omega)])
  have r6 := rd _ _ q6 (fun j h1 h2 => by unfold uR; rw [if_neg (by omega), if_neg (by omega), if_neg (by omega), if_neg (by omega), if_neg (by omega), if_neg (by omega)])
  have r7 := rd _ _ q7 (fun j h1 h2 => by unfold uR; rw [if_neg (by omega), if_neg (by omega), if_neg (by omega), if_neg (by omega), if_neg (by omega), if_neg (by omega), if_neg (by omega)])
  have r8 := rd _ _ q8 (fun j h1 h2 => by unfold uR; rw [if_neg (by omega), if_neg (by omega), if_neg (by omega), if_neg (by omega), if_neg (by omega), if_neg (by omega), if_neg (by omega), if_neg (by omega)])
  have r9 := rd _ _ q9 (fun j h1 h2 => by unfold uR; rw [if_neg (by omega), if_neg (by omega), if_neg (by omega), if_neg (by omega), if_neg (by omega), if_neg (by omega), if_neg (by omega), if_neg (by omega), if_neg (by omega)])
  refine ⟨ν11, ?_, q.of q11 (hR.mail nw he hnew ?_ ?_ ?_) ?_⟩
  · rw [hln, obs, nI_1, b1, obs, show ((1274 : Int32) + 10 * nI L) = nI (1274 + 10 * L) from by rw [mulQ10, addQ1274], obs, g0, obs, q1.g_lk mt he, obs, q1.g_tks mt (by omega), obs, nI_add, addZ]
    have a2' : f12_puts m (nI (1274 + 10 * L + 0)) (nI (st + tks N (e / 2))) ν1 = some ν2 := a2
    have a3' : f12_puts m (nI (1274 + 10 * L + 1)) (nI (bo N (fe e))) ν2 = some ν3 := a3
    have a4' : f12_puts m (nI (1274 + 10 * L + 2)) (nI (po N (fe e))) ν3 = some ν4 := a4
    rw [a2', obs, q2.op mt he, obs, iDivR6 (by omega), nw.pl_d hfe, obs, nI_1, a3', obs, q3.op mt he, obs, iRemR6 (by omega), nw.pl_m hfe, obs, addR2, a4', obs, addR3, addR4, addR5, addR6, addR7, addR8, addR9]
    cases c with
    | true =>
      simp only [↓reduceIte, obs]
      have a5' : f12_puts m (nI (1274 + 10 * L + 3)) 0 ν4 = some ν5 := a5
      have a6' : f12_puts m (nI (1274 + 10 * L + 4)) (S 23 (bo N e)) ν5 = some ν6 := a6
      have a7' : f12_puts m (nI (1274 + 10 * L + 5)) (S 24 (bo N e)) ν6 = some ν7 := a7
      have a8' : f12_puts m (nI (1274 + 10 * L + 6)) (S 31 (bo N e)) ν7 = some ν8 := a8
      have a9' : f12_puts m (nI (1274 + 10 * L + 7)) (nI (po N e)) ν8 = some ν9 := a9
      have a10' : f12_puts m (nI (1274 + 10 * L + 8)) (S 26 (bo N e)) ν9 = some ν10 := a10
      have a11' : f12_puts m (nI (1274 + 10 * L + 9)) bits ν10 = some ν11 := a11
      rw [a5', obs, (r5.1 rfl).1, obs, obs, a6', obs, (r6.1 rfl).2.1, obs, obs, a7', obs, (r7.1 rfl).2.2.2, obs, obs, a8', obs, iRemR6 (by omega), nw.pl_m he, obs, obs, a9', obs, (r9.1 rfl).2.2.1, obs, obs, a10', obs, a11', obs]
    | false =>
      simp only [Bool.false_eq_true, ↓reduceIte, obs]
      have a5' : f12_puts m (nI (1274 + 10 * L + 3)) 1 ν4 = some ν5 := a5
      have a6' : f12_puts m (nI (1274 + 10 * L + 4)) (S 11 e) ν5 = some ν6 := a6
      have a7' : f12_puts m (nI (1274 + 10 * L + 5)) (S 12 e) ν6 = some ν7 := a7
      have a8' : f12_puts m (nI (1274 + 10 * L + 6)) (S 13 e) ν7 = some ν8 := a8
      have a9' : f12_puts m (nI (1274 + 10 * L + 7)) (S 14 e) ν8 = some ν9 := a9
      have a10' : f12_puts m (nI (1274 + 10 * L + 8)) 0 ν9 = some ν10 := a10
      have a11' : f12_puts m (nI (1274 + 10 * L + 9)) bits ν10 = some ν11 := a11
      rw [a5', obs, (r5.2 rfl).1, obs, obs, a6', obs, (r6.2 rfl).2.1, obs, obs, a7', obs, (r7.2 rfl).2.2.1, obs, obs, a8', obs, (r8.2 rfl).2.2.2, obs, obs, a9', obs, a10', obs, a11', obs]
  · intro j h1 h2
    rw [hL] at h2
    unfold uR
    rw [if_neg (by omega), if_neg (by omega), if_neg (by omega), if_neg (by omega), if_neg (by omega), if_neg (by omega), if_neg (by omega), if_neg (by omega), if_neg (by omega), if_neg (by omega), if_neg (by omega)]
  · rw [hL]
    unfold uR
    rw [if_neg (by omega), if_neg (by omega), if_neg (by omega), if_neg (by omega), if_neg (by omega), if_neg (by omega), if_neg (by omega), if_neg (by omega), if_neg (by omega), if_neg (by omega), if_pos rfl]
  · rw [hL]
    have sd := slot_d (fe e) (st + tks N (e / 2))
    have ur : ∀ (i : Nat), i < 10 → uR (uR (uR (uR (uR (uR (uR (uR (uR (uR (uR R 2 (nI (L + 1))) (1274 + 10 * L + 0) (rowS N e st c bits S 0)) (1274 + 10 * L + 1) (rowS N e st c bits S 1)) (1274 + 10 * L + 2) (rowS N e st c bits S 2)) (1274 + 10 * L + 3) (rowS N e st c bits S 3)) (1274 + 10 * L + 4) (rowS N e st c bits S 4)) (1274 + 10 * L + 5) (rowS N e st c bits S 5)) (1274 + 10 * L + 6) (rowS N e st c bits S 6)) (1274 + 10 * L + 7) (rowS N e st c bits S 7)) (1274 + 10 * L + 8) (rowS N e st c bits S 8)) (1274 + 10 * L + 9) (rowS N e st c bits S 9) (1274 + 10 * L + i) = rowS N e st c bits S i := by
      intro i hi
      have : i = 0 ∨ i = 1 ∨ i = 2 ∨ i = 3 ∨ i = 4 ∨ i = 5 ∨ i = 6 ∨ i = 7 ∨ i = 8 ∨ i = 9 := by omega
      unfold uR
      rcases this with rfl | rfl | rfl | rfl | rfl | rfl | rfl | rfl | rfl | rfl
      · rw [if_neg (by omega), if_neg (by omega), if_neg (by omega), if_neg (by omega), if_neg (by omega), if_neg (by omega), if_neg (by omega), if_neg (by omega), if_neg (by omega), if_pos rfl]
      · rw [if_neg (by omega), if_neg (by omega), if_neg (by omega), if_neg (by omega), if_neg (by omega), if_neg (by omega), if_neg (by omega), if_neg (by omega), if_pos rfl]
      · rw [if_neg (by omega), if_neg (by omega), if_neg (by omega), if_neg (by omega), if_neg (by omega), if_neg (by omega), if_neg (by omega), if_pos rfl]
      · rw [if_neg (by omega), if_neg (by omega), if_neg (by omega), if_neg (by omega), if_neg (by omega), if_neg (by omega), if_pos rfl]
      · rw [if_neg (by omega), if_neg (by omega), if_neg (by omega), if_neg (by omega), if_neg (by omega), if_pos rfl]
      · rw [if_neg (by omega), if_neg (by omega), if_neg (by omega), if_neg (by omega), if_pos rfl]
      · rw [if_neg (by omega), if_neg (by omega), if_neg (by omega), if_pos rfl]
      · rw [if_neg (by omega), if_neg (by omega), if_pos rfl]
      · rw [if_neg (by omega), if_pos rfl]
      · rw [if_pos rfl]
    refine ⟨?_, ?_, ?_, fun i h1 h2 => ?_⟩
    · exact (ur 0 (by omega)).trans (if_pos ⟨rfl, rfl⟩).symm
    · rw [ur 1 (by omega), sd.1]; rfl
    · rw [ur 2 (by omega), sd.1]; rfl
    · rw [ur i h2]
      have : i = 3 ∨ i = 4 ∨ i = 5 ∨ i = 6 ∨ i = 7 ∨ i = 8 ∨ i = 9 := by omega
      rcases this with rfl | rfl | rfl | rfl | rfl | rfl | rfl
      all_goals exact (if_pos ⟨rfl, rfl⟩).symm
  · exact q.2.1.eq (fun _ => rfl) (fun _ => rfl)
end zR14
