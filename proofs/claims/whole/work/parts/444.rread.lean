/-! REFERENCE: configs are read -/
section zR9
variable {N : zN} {m B : Nat} {ν0 ν ν' : zM} {S S' : zS} {R R' : Nat → Int32} {e b l h k t : Nat}
theorem MR.hold (q : MR N R S) (nw : NW N) (he : e < 2 * nL N) {x11 x12 x13 x14 x15 x16 : Int32} : MR N (uR (uR (uR (uR (uR (uR (uR R (100 + 18 * pl N e + 10) 1) (100 + 18 * pl N e + 11) x11) (100 + 18 * pl N e + 12) x12) (100 + 18 * pl N e + 13) x13) (100 + 18 * pl N e + 14) x14) (100 + 18 * pl N e + 15) x15) (100 + 18 * pl N e + 16) x16) (zu (zu (zu (zu (zu (zu (zu S 10 e 1) 11 e x11) 12 e x12) 13 e x13) 14 e x14) 15 e x15) 16 e x16) := by
  have b8 := nw.b8; have l14 := nw.l14; have h8 := nw.h8; have hp := nw.pl_48 he
  have g : ∀ k, k < 100 + 18 * pl N e + 10 ∨ 100 + 18 * pl N e + 16 < k → uR (uR (uR (uR (uR (uR (uR R (100 + 18 * pl N e + 10) 1) (100 + 18 * pl N e + 11) x11) (100 + 18 * pl N e + 12) x12) (100 + 18 * pl N e + 13) x13) (100 + 18 * pl N e + 14) x14) (100 + 18 * pl N e + 15) x15) (100 + 18 * pl N e + 16) x16 k = R k := by
    intro k hk
    unfold uR
    rw [if_neg (by omega), if_neg (by omega), if_neg (by omega), if_neg (by omega), if_neg (by omega), if_neg (by omega), if_neg (by omega)]
  have z : ∀ f i, (f < 10 ∨ 16 < f) ∨ i ≠ e → zu (zu (zu (zu (zu (zu (zu S 10 e 1) 11 e x11) 12 e x12) 13 e x13) 14 e x14) 15 e x15) 16 e x16 f i = S f i := by
    intro f i h
    unfold zu
    rw [if_neg (by omega), if_neg (by omega), if_neg (by omega), if_neg (by omega), if_neg (by omega), if_neg (by omega), if_neg (by omega)]
  have z10 : zu (zu (zu (zu (zu (zu (zu S 10 e 1) 11 e x11) 12 e x12) 13 e x13) 14 e x14) 15 e x15) 16 e x16 10 e = 1 := by
    unfold zu
    rw [if_neg (by omega), if_neg (by omega), if_neg (by omega), if_neg (by omega), if_neg (by omega), if_neg (by omega), if_pos ⟨rfl, rfl⟩]
  obtain ⟨m1, m2, m3, m4, m5, m6, m7, m8, m9, m10, mw, m11⟩ := q
  refine ⟨?_, ?_, ?_, ?_, ?_, ?_, ?_, ?_, ?_, ?_, ?_, ?_⟩
  · intro e' k he' hk hh
    have hp' := nw.pl_48 he'
    by_cases c : e' = e
    · subst c
      by_cases c2 : 10 ≤ k
      · have : k = 10 ∨ k = 11 ∨ k = 12 ∨ k = 13 ∨ k = 14 ∨ k = 15 ∨ k = 16 := by omega
        rcases this with rfl | rfl | rfl | rfl | rfl | rfl | rfl
        · rw [z10]; unfold uR
          rw [if_neg (by omega), if_neg (by omega), if_neg (by omega), if_neg (by omega), if_neg (by omega), if_neg (by omega), if_pos rfl]
        · unfold uR zu
          rw [if_neg (by omega), if_neg (by omega), if_neg (by omega), if_neg (by omega), if_neg (by omega), if_pos (by omega), if_neg (by omega), if_neg (by omega), if_neg (by omega), if_neg (by omega), if_neg (by omega), if_pos (by omega)]
        · unfold uR zu
          rw [if_neg (by omega), if_neg (by omega), if_neg (by omega), if_neg (by omega), if_pos (by omega), if_neg (by omega), if_neg (by omega), if_neg (by omega), if_neg (by omega), if_pos (by omega)]
        · unfold uR zu
          rw [if_neg (by omega), if_neg (by omega), if_neg (by omega), if_pos (by omega), if_neg (by omega), if_neg (by omega), if_neg (by omega), if_pos (by omega)]
        · unfold uR zu
          rw [if_neg (by omega), if_neg (by omega), if_pos (by omega), if_neg (by omega), if_neg (by omega), if_pos (by omega)]
        · unfold uR zu
          rw [if_neg (by omega), if_pos (by omega), if_neg (by omega), if_pos (by omega)]
        · unfold uR zu
          rw [if_pos (by omega), if_pos (by omega)]
      · rw [g _ (by omega), z _ _ (by omega)]
        exact m1 e' k he' hk (fun x => absurd x (by omega))
    · rw [z 10 _ (by omega)] at hh
      have := pl_ne nw he he' c
      rw [g _ (by omega), z _ _ (by omega)]
      exact m1 e' k he' hk hh
  · intro e' k he' h1 h2
    by_cases c : k = 10 ∧ e' = e
    · rw [c.1, c.2, z10]; exact Or.inr rfl
    · rw [z _ _ (by omega)]; exact m2 e' k he' h1 h2
  · intro b' k hb' hk hc
    rw [z 32 _ (by omega)] at hc
    rw [g _ (by omega), z _ _ (by omega)]; exact m3 b' k hb' hk hc
  · intro b' hb'; rw [z _ _ (by omega), z _ _ (by omega)]; exact m4 b' hb'
  · intro l hl; rw [z _ _ (by omega), g _ (by omega)]; exact m5 l hl
  · intro h hh; rw [z _ _ (by omega), g _ (by omega)]; exact m6 h hh
  · intro b' h hb' hh; rw [z _ _ (by omega), z _ _ (by omega), g _ (by omega), g _ (by omega)]; exact m7 b' h hb' hh
  · intro b' h hb' h1 h2; rw [z _ _ (by omega)]; exact m8 b' h hb' h1 h2
  · rw [z _ _ (by omega), z _ _ (by omega), g _ (by omega), g _ (by omega)]; exact m9
  · obtain ⟨t, t1, t2, t3⟩ := m10
    refine ⟨t, t1, by rw [g _ (by omega)]; exact t2, fun hb => ?_⟩
    rw [z _ _ (by omega)] at hb
    obtain ⟨t4, t5⟩ := t3 hb
    exact ⟨by rw [z _ _ (by omega)]; exact t4, fun k hk => by rw [z _ _ (by omega), g _ (by omega)]; exact t5 k hk⟩
  · exact ⟨fun k hk => by rw [g _ (by omega), z _ _ (by omega)]; exact mw.1 k hk, fun b hb => by rw [g _ (by omega), z _ _ (by omega)]; exact mw.2 b hb⟩
  · exact m11.keep (g _ (by omega)) (fun k hk => g _ (by omega)) (fun c q h1 h2 _ => z _ _ (by omega))
theorem R_hold (q : MS N m B ν0 ν S) (he : e < 2 * nL N) (hk : (lS S)[k]? = some t) : ∃ ν4, MS N m B ν0 ν4 (sp_hold e t S) ∧ ∀ X : zM → Option zM, ((f12_sets m (nI (pl N e)) 10 1 ν).bind fun μ7 => (f12_msg m (nI k) 4 μ7).bind fun t8 => (f12_sets m (nI (pl N e)) 11 t8 μ7).bind fun μ9 => (f12_msg m (nI k) 5 μ9).bind fun t10 => (f12_sets m (nI (pl N e)) 12 t10 μ9).bind fun μ11 => (f12_msg m (nI k) 6 μ11).bind fun t12 => (f12_sets m (nI (pl N e)) 13 t12 μ11).bind fun μ13 => (f12_msg m (nI k) 7 μ13).bind fun t14 => (f12_sets m (nI (pl N e)) 14 t14 μ13).bind fun μ15 => (f12_msg m (nI k) 8 μ15).bind fun t16 => (f12_sets m (nI (pl N e)) 15 t16 μ15).bind fun μ17 => (f12_sets m (nI (pl N e)) 16 3 μ17).bind fun μ18 => X μ18) = X ν4 := by
  have nw := q.nw
  have hp := nw.pl_48 he
  obtain ⟨k84, _, _⟩ := q.lk84 hk
  have mm := (q.1.2.2.2.2.2.2.2.2.2.2.2.2.2.2 k t hk).2.2.2
  have lo : ∀ (R : Nat → Int32) (a : Nat) (v : Int32) (c : Nat), a < 1274 → uR R a v (1274 + 10 * k + c) = R (1274 + 10 * k + c) := fun R a v c h => if_neg (by omega)
  obtain ⟨ν1, e1, q1⟩ := q.rw.sets (l := pl N e) (k := 10) (v := 1) hp (by omega)
  obtain ⟨ν2, e2, q2⟩ := q1.sets (l := pl N e) (k := 11) (v := S 54 t) hp (by omega)
  obtain ⟨ν3, e3, q3⟩ := q2.sets (l := pl N e) (k := 12) (v := S 55 t) hp (by omega)
  obtain ⟨ν4, e4, q4⟩ := q3.sets (l := pl N e) (k := 13) (v := S 56 t) hp (by omega)
  obtain ⟨ν5, e5, q5⟩ := q4.sets (l := pl N e) (k := 14) (v := S 57 t) hp (by omega)
  obtain ⟨ν6, e6, q6⟩ := q5.sets (l := pl N e) (k := 15) (v := S 58 t) hp (by omega)
  obtain ⟨ν7, e7, q7⟩ := q6.sets (l := pl N e) (k := 16) (v := 3) hp (by omega)
  have e1' : f12_sets m (nI (pl N e)) 10 1 ν = some ν1 := e1
  have e2' : f12_sets m (nI (pl N e)) 11 (S 54 t) ν1 = some ν2 := e2
  have e3' : f12_sets m (nI (pl N e)) 12 (S 55 t) ν2 = some ν3 := e3
  have e4' : f12_sets m (nI (pl N e)) 13 (S 56 t) ν3 = some ν4 := e4
  have e5' : f12_sets m (nI (pl N e)) 14 (S 57 t) ν4 = some ν5 := e5
  have e6' : f12_sets m (nI (pl N e)) 15 (S 58 t) ν5 = some ν6 := e6
  have e7' : f12_sets m (nI (pl N e)) 16 3 ν6 = some ν7 := e7
  have a1 : f12_msg m (nI k) 4 ν1 = some (S 54 t) := (q1.msgR (c := 4) k84 (by omega)).trans (congrArg some (by rw [lo _ _ _ _ (by omega)]; exact mm 4 (by omega) (by omega)))
  have a2 : f12_msg m (nI k) 5 ν2 = some (S 55 t) := (q2.msgR (c := 5) k84 (by omega)).trans (congrArg some (by rw [lo _ _ _ _ (by omega), lo _ _ _ _ (by omega)]; exact mm 5 (by omega) (by omega)))
  have a3 : f12_msg m (nI k) 6 ν3 = some (S 56 t) := (q3.msgR (c := 6) k84 (by omega)).trans (congrArg some (by rw [lo _ _ _ _ (by omega), lo _ _ _ _ (by omega), lo _ _ _ _ (by omega)]; exact mm 6 (by omega) (by omega)))
  have a4 : f12_msg m (nI k) 7 ν4 = some (S 57 t) := (q4.msgR (c := 7) k84 (by omega)).trans (congrArg some (by rw [lo _ _ _ _ (by omega), lo _ _ _ _ (by omega), lo _ _ _ _ (by omega), lo _ _ _ _ (by omega)]; exact mm 7 (by omega) (by omega)))
  have a5 : f12_msg m (nI k) 8 ν5 = some (S 58 t) := (q5.msgR (c := 8) k84 (by omega)).trans (congrArg some (by rw [lo _ _ _ _ (by omega), lo _ _ _ _ (by omega), lo _ _ _ _ (by omega), lo _ _ _ _ (by omega), lo _ _ _ _ (by omega)]; exact mm 8 (by omega) (by omega)))
  refine ⟨ν7, q.of q7 (q.1.hold nw he) (q.2.1.eq (fun _ => rfl) (fun _ => rfl)), fun X => ?_⟩
  rw [e1', obs, a1, obs, e2', obs, a2, obs, e3', obs, a3, obs, e4', obs, a4, obs, e5', obs, a5, obs, e6', obs, e7', obs]
theorem prop_0 (nw : NW N) (he : e < 2 * nL N) : sp_prop N e S 0 e = S 0 e ∧ sp_prop N e S 59 t = S 59 t := by
  have hb := nw.bo_b he
  have on1 : only (XO N (bo N e)) S (pfold (sp_take1 N (bo N e)) (nP N (bo N e)) S) := only.pf (fun p S hp => take1_o nw hb hp)
  unfold sp_prop
  constructor
  · show (if ceq (S 0 e) 1 = true then pfold (sp_take1 N (bo N e)) (nP N (bo N e)) S else S) 0 e = _
    split
    · exact on1 0 e (by unfold XO; omega)
    · rfl
  · show (if ceq (S 0 e) 1 = true then pfold (sp_take1 N (bo N e)) (nP N (bo N e)) S else S) 59 t = _
    split
    · exact on1 59 t (by unfold XO; omega)
    · rfl
theorem R_config (q : MS N m B ν0 ν S) (he : e < 2 * nL N) (hk : (lS S)[k]? = some t) (hbr : BR N (bo N e) S) (hd : DN N S) (hu : up N S e = true) : ∃ ν', f12_readsConfig m (nI k) (nI (pl N e)) (S 59 t) ν = some ν' ∧ MS N m B ν0 ν' (sp_config N e t S) := by
  have nw := q.nw
  have hp := nw.pl_48 he
  have hb := nw.bo_b he
  have hid : f12_idOf m (nI (bo N e)) ν = some (S 31 (bo N e)) := (q.id_ hb).trans (congrArg some (show idS S (bo N e) = _ from hbr.1.2.1.symm))
  unfold f12_readsConfig sp_config
  rw [iDivR6 (by omega), nw.pl_d he, obs, q.p10 he, obs, obs, q.m8 hk, obs, q.g_ag]
  by_cases c : clt (nI (nAg N)) (S 58 t + 1) = true
  · simp only [if_pos c]
    obtain ⟨ν1, e1, q1⟩ := q.s10 he
    rw [e1, obs]
    by_cases c2 : ceq (S 10 e) 1 = true
    · simp only [if_pos c2]
      have k1 : OK N S (zu S 10 e 0) := OK.rf.zu hu (by omega) (fun x => by omega) (fun _ => by decide)
      obtain ⟨ν2, e2, q2⟩ := R_choose q1 hb (RC.br nw hb (k1.dn hd) hbr.1.1 hbr.1.2.2)
      exact ⟨ν2, by rw [e2]; rfl, q2⟩
    · simp only [if_neg c2]
      have h0 : S 10 e = 0 := by
        rcases q.isb he (k := 10) (by omega) (by omega) with h | h
        · exact h
        · exact absurd (ceq_t h) c2
      rw [zu_id h0] at q1
      exact ⟨_, rfl, q1⟩
  · simp only [if_neg c]
    have h1 : (if ceq (S 10 e) 1 = true then (some false) else ((f12_msg m (nI k) 4 ν).bind fun t35 => (f12_msg m (nI k) 5 ν).bind fun t36 => (f12_msg m (nI k) 6 ν).bind fun t37 => (f12_msg m (nI k) 7 ν).bind fun t38 => (f12_isLessThanOurs m (nI (pl N e)) t35 t36 t37 t38 ν).bind fun t39 => some (!t39))) = some (!(ceq (S 10 e) 1) && !(vlt (S 54 t) (S 55 t) (S 56 t) (S 57 t) (S 23 (bo N e)) (S 24 (bo N e)) (S 31 (bo N e)) (nI (po N e)))) := by
      simp (disch := omega) only [q.m4 hk, q.m5 hk, q.m6 hk, q.m7 hk, obs, f12_isLessThanOurs, iDivR6, iRemR6, nw.pl_d he, nw.pl_m he, q.b3 hb hbr.1.1, q.b4 hb hbr.1.1, hid, isLess_, zandn]
    rw [h1, obs]
    by_cases c2 : (!(ceq (S 10 e) 1) && !(vlt (S 54 t) (S 55 t) (S 56 t) (S 57 t) (S 23 (bo N e)) (S 24 (bo N e)) (S 31 (bo N e)) (nI (po N e)))) = true
    · simp only [if_pos c2]
      obtain ⟨ν1, e1, q1⟩ := q.s9 he (v := 1) (Or.inr rfl)
      exact ⟨ν1, by rw [e1]; rfl, q1⟩
    · simp only [if_neg c2]
      obtain ⟨ν1, q1, e1⟩ := R_hold q he hk
      rw [e1]
      have k1 : OK N S (sp_hold e t S) := hold_k hu
      obtain ⟨ν2, e2, q2⟩ := R_choose q1 hb (RC.br nw hb (k1.dn hd) hbr.1.1 hbr.1.2.2)
      have k2 : OK N S (sp_choose N (bo N e) (sp_hold e t S)) := k1.tr (choose_k nw hb)
      have h59 : sp_choose N (bo N e) (sp_hold e t S) 59 t = S 59 t := k2.2.2.2.2 59 t (by omega) (by omega)
      rw [e2, obs]
      generalize sp_choose N (bo N e) (sp_hold e t S) = S2 at *
      unfold sp_cfg2
      rw [q2.p0 he, obs, h59]
      by_cases c3 : ceq (S2 0 e) 2 = true
      · simp only [if_pos c3]
        exact ⟨_, rfl, q2⟩
      · simp only [if_neg c3]
        have h3 : ∃ ν3, ((f12_hasBit (S 59 t) 1 ν2).bind fun t30 => if t30 = true then ((if (ceq (S2 0 e) 1) = true then ((f12_syncs m (nI (pl N e)) ν2).bind fun μ34 => some μ34) else (some ν2)).bind fun μ31 => (f12_sets m (nI (pl N e)) 7 1 μ31).bind fun μ32 => (f12_sets m (nI (pl N e)) 9 1 μ32).bind fun μ33 => some μ33) else (some ν2)) = some ν3 ∧ MS N m B ν0 ν3 (if hb_ (S 59 t) 1 = true then sp_prop N e S2 else S2) := by
          rw [hasBit_, obs]
          by_cases c4 : hb_ (S 59 t) 1 = true
          · simp only [if_pos c4]
            have h4 : ∃ ν4, (if (ceq (S2 0 e) 1) = true then ((f12_syncs m (nI (pl N e)) ν2).bind fun μ34 => some μ34) else (some ν2)) = some ν4 ∧ MS N m B ν0 ν4 (if ceq (S2 0 e) 1 = true then pfold (sp_take1 N (bo N e)) (nP N (bo N e)) S2 else S2) := by
              by_cases c5 : ceq (S2 0 e) 1 = true
              · simp only [if_pos c5]
                obtain ⟨ν4, e4, q4⟩ := R_sync q2 he c5
                exact ⟨ν4, by rw [e4]; rfl, q4⟩
              · simp only [if_neg c5]
                exact ⟨_, rfl, q2⟩
            obtain ⟨ν4, e4, q4⟩ := h4
            obtain ⟨ν5, e5, q5⟩ := q4.s7 he (v := 1) (Or.inr rfl)
            obtain ⟨ν6, e6, q6⟩ := q5.s9 he (v := 1) (Or.inr rfl)
            exact ⟨ν6, by rw [e4, obs, e5, obs, e6]; rfl, q6⟩
          · simp only [if_neg c4]
            exact ⟨_, rfl, q2⟩
        obtain ⟨ν3, e3, q3⟩ := h3
        rw [e3, obs]
        have r0 : (if hb_ (S 59 t) 1 = true then sp_prop N e S2 else S2) 0 e = S2 0 e := by
          split
          · exact (prop_0 (t := t) nw he).1
          · rfl
        have r59 : (if hb_ (S 59 t) 1 = true then sp_prop N e S2 else S2) 59 t = S 59 t := by
          split
          · exact (prop_0 (t := t) nw he).2.trans h59
          · exact h59
        rw [r0]
        generalize (if hb_ (S 59 t) 1 = true then sp_prop N e S2 else S2) = S3 at *
        by_cases c4 : ceq (S2 0 e) 1 = true
        · simp only [if_pos c4]
          unfold sp_foll
          have h5 : ∃ ν5, ((f12_of m (nI (bo N e)) 2 ν3).bind fun t28 => if (ceq t28 1) = true then ((f12_marksAll m (nI (bo N e)) 2 ν3).bind fun μ29 => some μ29) else (some ν3)) = some ν5 ∧ MS N m B ν0 ν5 (if ceq (S3 22 (bo N e)) 1 = true then pfold (sp_mk2 N (bo N e)) (nP N (bo N e)) S3 else S3) := by
            rw [q3.b2 hb, obs]
            by_cases c5 : ceq (S3 22 (bo N e)) 1 = true
            · simp only [if_pos c5]
              obtain ⟨ν5, e5, q5⟩ := R_marks q3 hb
              exact ⟨ν5, by rw [e5]; rfl, q5⟩
            · simp only [if_neg c5]
              exact ⟨_, rfl, q3⟩
          obtain ⟨ν5, e5, q5⟩ := h5
          rw [e5, obs, hasBit_, obs, r59]
          dsimp only
          generalize (if ceq (S3 22 (bo N e)) 1 = true then pfold (sp_mk2 N (bo N e)) (nP N (bo N e)) S3 else S3) = S5 at *
          have h6 : ∃ ν6, (if hb_ (S 59 t) 8 = true then ((f12_sets m (nI (pl N e)) 3 0 ν5).bind fun μ27 => some μ27) else (some ν5)) = some ν6 ∧ MS N m B ν0 ν6 (if hb_ (S 59 t) 8 = true then zu S5 3 e 0 else S5) := by
            by_cases c6 : hb_ (S 59 t) 8 = true
            · simp only [if_pos c6]
              obtain ⟨ν6, e6, q6⟩ := q5.s3 he (v := 0)
              exact ⟨ν6, by rw [e6]; rfl, q6⟩
            · simp only [if_neg c6]
              exact ⟨_, rfl, q5⟩
          obtain ⟨ν6, e6, q6⟩ := h6
          rw [e6, obs, hasBit_, obs]
          generalize (if hb_ (S 59 t) 8 = true then zu S5 3 e 0 else S5) = S6 at *
          by_cases c7 : hb_ (S 59 t) 4 = true
          · simp only [if_pos c7]
            obtain ⟨ν7, e7, q7⟩ := R_spread q6 he
            exact ⟨ν7, by rw [e7]; rfl, q7⟩
          · simp only [if_neg c7]
            exact ⟨_, rfl, q6⟩
        · simp only [if_neg c4]
          exact ⟨_, rfl, q3⟩
theorem isr_br (nw : NW N) (he : e < 2 * nL N) (h : BR N b S) : BR N b (sp_isr N e t S) := by
  have on1 : only (fun f _ => f ≤ 9 ∧ f ≠ 0 ∨ f = 27 ∨ f = 42 ∨ f = 44 ∨ f = 45) S (sp_isr N e t S) := by
    have xo : ∀ f i, XO N (bo N e) f i → f ≤ 9 ∧ f ≠ 0 ∨ f = 27 ∨ f = 42 ∨ f = 44 ∨ f = 45 := fun f i h => by
      rcases h with h | h | h | h | h <;> omega
    have h1 : only (fun f _ => f ≤ 9 ∧ f ≠ 0 ∨ f = 27 ∨ f = 42 ∨ f = 44 ∨ f = 45) S (if ceq (S 5 e) 1 = true then zu (sp_shut N e (zu S 5 e 0)) 2 e (nI (nDl N)) else S) := only.it (fun _ => ((onz (by omega)).tr ((shut_o nw he).mono xo)).zu (by omega)) (fun _ => only.rf)
    unfold sp_isr
    exact only.it (fun _ => (h1.zu (by omega)).zu (by omega)) (fun _ => h1)
  exact h.keep (fun f i hf _ => on1 f i (by omega)) (fun f hf => on1 f b (by omega)) (fun e => up_of (fun i => on1 20 i (by omega)) (fun i => on1 40 i (by omega)))
theorem R_reads (q : MS N m B ν0 ν S) (hk : (lS S)[k]? = some t) (hbr : BR N (bo N (t / 3)) S) (hd : DN N S) (hu : up N S (t / 3) = true) : ∃ ν', f12_reads m (nI k) ν = some ν' ∧ MS N m B ν0 ν' (sp_read N (t / 3) t S) := by
  have nw := q.nw
  obtain ⟨k84, t6, _⟩ := q.lk84 hk
  have he : t / 3 < 2 * nL N := by omega
  have hp := nw.pl_48 he
  have hb := nw.bo_b he
  have e0 : f12_placeOf (nI (bo N (t / 3))) (nI (po N (t / 3))) ν = some (nI (pl N (t / 3))) := pl_add _ _
  unfold f12_reads sp_read sp_read?
  rw [q.m1 hk, obs, q.m2 hk, obs, e0, obs, iDivR6 (by omega), nw.pl_d he, obs, q.m9 hk, obs, q.b2 hb, obs, obs]
  rw [hasBit_, obs, zand, obs]
  by_cases c : ((ceq (S 22 (bo N (t / 3))) 1) && (!(hb_ (S 59 t) 16))) = true
  · rw [if_pos c, c, if_neg (by decide)]
    exact ⟨_, rfl, q⟩
  · rw [if_neg c, Bool.eq_false_iff.mpr c, if_pos (show (!false) = true from rfl)]
    obtain ⟨ν1, q1, e1⟩ := R_isr q he t
    have k1 : OK N S (sp_isr N (t / 3) t S) := isr_k nw hu
    have hk1 : (lS (sp_isr N (t / 3) t S))[k]? = some t := by rw [k1.ls]; exact hk
    have h53 := k1.2.2.2.2 53 t (by omega) (by omega)
    have h59 := k1.2.2.2.2 59 t (by omega) (by omega)
    have br1 : BR N (bo N (t / 3)) (sp_isr N (t / 3) t S) := isr_br nw he hbr
    rw [e1, q1.m3 hk1, obs, h53]
    have hu1 : up N (sp_isr N (t / 3) t S) (t / 3) = true := by rw [up_eq k1.1]; exact hu
    by_cases c2 : ceq (S 53 t) 1 = true
    · simp only [if_pos c2]
      obtain ⟨ν2, e2, q2⟩ := R_reply q1 he hk1 br1
      rw [h59] at e2
      exact ⟨ν2, by rw [e2]; rfl, q2⟩
    · simp only [if_neg c2]
      obtain ⟨ν2, e2, q2⟩ := R_config q1 he hk1 br1 (k1.dn hd) hu1
      rw [h59] at e2
      exact ⟨ν2, by rw [e2]; rfl, q2⟩
end zR9
