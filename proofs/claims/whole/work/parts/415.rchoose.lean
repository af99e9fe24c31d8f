/-! REFERENCE: choosing, whole -/
section zR5
variable {N : zN} {m B : Nat} {ν0 ν ν' : zM} {S S' : zS} {R R' : Nat → Int32} {e b l h k : Nat}
theorem roles_was (nw : NW N) (hb : b < nB N) : ∀ n, n ≤ nP N b → (∀ p, p < n → pfold (fun p S => zu (zu (zu S 49 (eo N b p) (S 0 (eo N b p))) 48 p (S 0 (eo N b p))) 0 (eo N b p) (sp_role N b p S)) n S 48 p = S 0 (eo N b p) ∧ pfold (fun p S => zu (zu (zu S 49 (eo N b p) (S 0 (eo N b p))) 48 p (S 0 (eo N b p))) 0 (eo N b p) (sp_role N b p S)) n S 49 (eo N b p) = S 0 (eo N b p)) ∧ ∀ p, n ≤ p → p < nP N b → pfold (fun p S => zu (zu (zu S 49 (eo N b p) (S 0 (eo N b p))) 48 p (S 0 (eo N b p))) 0 (eo N b p) (sp_role N b p S)) n S 0 (eo N b p) = S 0 (eo N b p)
  | 0, _ => ⟨fun p hp => absurd hp (by omega), fun p _ _ => rfl⟩
  | n + 1, hn => by
    obtain ⟨i1, i2⟩ := roles_was nw hb n (by omega)
    generalize hS : pfold (fun p S => zu (zu (zu S 49 (eo N b p) (S 0 (eo N b p))) 48 p (S 0 (eo N b p))) 0 (eo N b p) (sp_role N b p S)) n S = S1 at i1 i2
    rw [pf_s, hS]
    show (∀ p, p < n + 1 → zu (zu (zu S1 49 (eo N b n) (S1 0 (eo N b n))) 48 n (S1 0 (eo N b n))) 0 (eo N b n) (sp_role N b n S1) 48 p = _ ∧ zu (zu (zu S1 49 (eo N b n) (S1 0 (eo N b n))) 48 n (S1 0 (eo N b n))) 0 (eo N b n) (sp_role N b n S1) 49 (eo N b p) = _) ∧ ∀ p, n + 1 ≤ p → p < nP N b → zu (zu (zu S1 49 (eo N b n) (S1 0 (eo N b n))) 48 n (S1 0 (eo N b n))) 0 (eo N b n) (sp_role N b n S1) 0 (eo N b p) = _
    refine ⟨fun p hp => ⟨?_, ?_⟩, fun p h1 h2 => ?_⟩
    · show (if 48 = 48 ∧ p = n then S1 0 (eo N b n) else S1 48 p) = _
      by_cases c : p = n
      · rw [if_pos ⟨rfl, c⟩, i2 n (by omega) (by omega), c]
      · rw [if_neg (fun x => c x.2)]; exact (i1 p (by omega)).1
    · show (if 49 = 49 ∧ eo N b p = eo N b n then S1 0 (eo N b n) else S1 49 (eo N b p)) = _
      by_cases c : p = n
      · rw [c, if_pos ⟨rfl, rfl⟩]; exact i2 n (by omega) (by omega)
      · rw [if_neg (fun x => c (nw.eo_i hb (by omega) (by omega) x.2))]; exact (i1 p (by omega)).2
    · show (if 0 = 0 ∧ eo N b p = eo N b n then _ else S1 0 (eo N b p)) = _
      rw [if_neg (fun x => by have := nw.eo_i hb (by omega) (by omega) x.2; omega)]; exact i2 p (by omega) h2
theorem lead_b (o : Option Nat) : sp_lead N b o S 25 b = oI o ∧ sp_lead N b o S 31 b = idS S b ∧ sp_lead N b o S 32 b = 1 := by
  cases o <;> exact ⟨by simp [sp_lead, zu, oI], by simp [sp_lead, zu], by simp [sp_lead, zu]⟩
theorem rt_h {p : Nat} (h : sp_rt N b S = some p) : p < nP N b ∧ S 10 (eo N b p) = 1 := by
  unfold sp_rt at h
  split at h
  · cases h
  · rename_i p0 hp
    split at h
    · cases h; exact ⟨pick_lt hp, pick_h hp⟩
    · cases h
theorem R_choose (q : MS N m B ν0 ν S) (hb : b < nB N) (rc : RC N b S) : ∃ ν', f12_chooses m (nI b) ν = some ν' ∧ MS N m B ν0 ν' (sp_choose N b S) := by
  have nw := q.nw
  have hb8 := nw.b_8 hb
  have hp6 := nw.p6 hb
  have q0 : MS N m B ν0 ν (sp_bef b S) := q.ign (fun f i h1 h2 _ h3 => by
    unfold sp_bef zu
    rw [if_neg (by omega), if_neg (by omega), if_neg (by omega), if_neg (by omega)])
  have e1 : f12_idOf m (nI b) ν = some (idS S b) := q.id_ hb
  have e2 := R_least q hb rc.1
  obtain ⟨ν4, q4, e4⟩ := R_lead q0 hb (sp_rt N b S) (fun p hp => rt_h hp)
  obtain ⟨l25, l31, l32⟩ := lead_b (N := N) (S := sp_bef b S) (b := b) (sp_rt N b S)
  have lo := lead_o N b (sp_rt N b S) (sp_bef b S)
  have k28 : sp_lead N b (sp_rt N b S) (sp_bef b S) 28 b = S 28 b := lo 28 b (by omega)
  have k29 : sp_lead N b (sp_rt N b S) (sp_bef b S) 29 b = S 29 b := lo 29 b (by omega)
  have k30 : sp_lead N b (sp_rt N b S) (sp_bef b S) 30 b = S 30 b := lo 30 b (by omega)
  have k21 : sp_lead N b (sp_rt N b S) (sp_bef b S) 21 b = S 21 b := lo 21 b (by omega)
  have kid : idS (sp_lead N b (sp_rt N b S) (sp_bef b S)) b = idS S b := by unfold idS; rw [k21]
  have l31' : sp_lead N b (sp_rt N b S) (sp_bef b S) 31 b = idS (sp_lead N b (sp_rt N b S) (sp_bef b S)) b := l31.trans (show idS S b = _ from kid.symm)
  have hch : sp_ch1 N b S = sp_roles N b (sp_lead N b (sp_rt N b S) (sp_bef b S)) := rfl
  have role0 : ∀ p, p < nP N b → sp_lead N b (sp_rt N b S) (sp_bef b S) 0 (eo N b p) = S 0 (eo N b p) := fun p _ => lo 0 _ (by omega)
  obtain ⟨ν5, e5, q5⟩ := R_roles q4 hb l25 (fun p hp => (rt_h hp).1) l31' l32
  have ro := roles_o N b (sp_lead N b (sp_rt N b S) (sp_bef b S))
  have rwas : ∀ p, p < nP N b → sp_roles N b (sp_lead N b (sp_rt N b S) (sp_bef b S)) 48 p = sp_lead N b (sp_rt N b S) (sp_bef b S) 0 (eo N b p) ∧ sp_roles N b (sp_lead N b (sp_rt N b S) (sp_bef b S)) 49 (eo N b p) = sp_lead N b (sp_rt N b S) (sp_bef b S) 0 (eo N b p) := (roles_was (S := sp_lead N b (sp_rt N b S) (sp_bef b S)) nw hb (nP N b) (Nat.le_refl _)).1
  have r23 := ro 23 b (by omega)
  have r24 := ro 24 b (by omega)
  have r31 := ro 31 b (by omega)
  have r32 := ro 32 b (by omega)
  have b3 := q4.b3 hb l32
  have b4 := q4.b4 hb l32
  have b8' := q4.b8 hb
  have b9 := q4.b9 hb
  have b10 := q4.b10 hb
  unfold f12_chooses
  rw [e1, obs, e2, obs]
  have e4' := e4
  rw [show idS (sp_bef b S) b = idS S b from rfl] at e4'
  rw [e4']
  generalize hS4 : sp_lead N b (sp_rt N b S) (sp_bef b S) = S4 at *
  simp only [b3, b4, b8', b9, b10, obs, zor, isLess_]
  rw [zb_lp e5]
  have hmv : ∀ p, p < nP N b → S4 0 (eo N b p) = 2 → (((!ceq (S4 28 b) (S4 23 b)) || !ceq (S4 29 b) (S4 24 b)) || !ceq (S4 30 b) (idS S b)) = !(ceq (sp_mv b S (sp_ch1 N b S)) 0) ∧ vlt (S4 28 b) (S4 29 b) (S4 30 b) 0 (S4 23 b) (S4 24 b) (idS S b) 0 = clt (sp_mv b S (sp_ch1 N b S)) 0 := by
    intro p hp h2
    rw [role0 p hp] at h2
    have h32 : S 32 b = 1 := by
      by_cases c : S 32 b = 1
      · exact c
      · have := rc.2.2 c p hp
        rw [this] at h2
        exact absurd h2 (by decide)
    obtain ⟨j1, j2, j3⟩ := rc.2.1 h32
    unfold sp_mv
    rw [hch, r23, r24, r31, vcmp_eq, vcmp_lt, k28, k29, k30, j1, j2, j3, l31]
    refine ⟨?_, rfl⟩
    show _ = !(((ceq (S 23 b) (S4 23 b) && ceq (S 24 b) (S4 24 b)) && ceq (S 31 b) (idS S b)) && ceq 0 0)
    cases ceq (S 23 b) (S4 23 b) <;> cases ceq (S 24 b) (S4 24 b) <;> cases ceq (S 31 b) (idS S b) <;> rfl
  rw [← hch] at q5 rwas ro r23 r24 r31 r32
  unfold sp_choose
  generalize sp_mv b S (sp_ch1 N b S) = mv at *
  generalize sp_ch1 N b S = S5 at *
  obtain ⟨ν6, e6, q6⟩ := lp (Q := MS N m B ν0) (body := fun s => f12_chooses_L2 m (nI b) (((!ceq (S4 28 b) (S4 23 b)) || !ceq (S4 29 b) (S4 24 b)) || !ceq (S4 30 b) (idS S b)) (vlt (S4 28 b) (S4 29 b) (S4 30 b) 0 (S4 23 b) (S4 24 b) (idS S b) 0) s.1 s.2) nI (sp_setl N b mv) (nP N b) (S := S5) (μ := ν5) (x0 := 0) (by
    intro i ν1 hi q1
    have on1 : only (XS N b) S5 (pfold (sp_setl N b mv) i S5) := only.pf (fun p S hp => setl_o nw hb (by omega))
    have w48 := on1 48 i (by unfold XS; omega)
    have w49 := on1 49 (eo N b i) (by unfold XS; omega)
    obtain ⟨rw1, rw2⟩ := rwas i hi
    have hw : pfold (sp_setl N b mv) i S5 48 i = pfold (sp_setl N b mv) i S5 49 (eo N b i) := by rw [w48, w49, rw1, rw2]
    have hio : pfold (sp_setl N b mv) i S5 49 (eo N b i) = 2 → _ := fun x => hmv i hi (by rw [← rw2, ← w49]; exact x)
    generalize pfold (sp_setl N b mv) i S5 = S6 at *
    have ql := nw.eo_l hb hi
    show ∃ ν', f12_chooses_L2 m (nI b) _ _ (nI i) ν1 = some (.inl (nI (i + 1), ν')) ∧ _
    unfold f12_chooses_L2
    rw [q1.g_p hb, obs, clt_nI (by omega) (by omega), decide_eq_true hi, if_pos rfl, pl_add, obs, plE nw hb hi, q1.p0 ql, obs]
    by_cases c1 : ceq (S6 0 (eo N b i)) 1 = true
    · rw [if_pos c1, q1.r_was (by omega), obs]
      obtain ⟨ν2, e7, q7⟩ := R_isRoot q1 hb hi hw c1 (mv := mv)
      exact ⟨ν2, by rw [e7, obs, obs, nI_1], q7⟩
    · rw [if_neg c1, obs]
      by_cases c2 : ceq (S6 0 (eo N b i)) 2 = true
      · rw [if_pos c2, q1.r_was (by omega), obs]
        obtain ⟨ν2, e7, q7⟩ := R_isDes q1 hb hi hw (Bool.eq_false_iff.mpr c1) c2 (mv := mv) hio
        exact ⟨ν2, by rw [e7, obs, obs, nI_1], q7⟩
      · rw [if_neg c2, obs]
        by_cases c3 : ceq (S6 0 (eo N b i)) 0 = true
        · rw [if_pos c3]
          refine ⟨ν1, by rw [obs, nI_1], ?_⟩
          unfold sp_setl
          rw [if_neg c1, if_neg c2, if_pos c3]; exact q1
        · rw [if_neg c3]
          obtain ⟨ν2, e7, q7⟩ := R_isBehind q1 hb hi (Bool.eq_false_iff.mpr c3) (Bool.eq_false_iff.mpr c1) (Bool.eq_false_iff.mpr c2) (mv := mv)
          exact ⟨ν2, by rw [e7, obs, obs, nI_1], q7⟩) (by
    intro ν1 q1
    show f12_chooses_L2 m (nI b) _ _ (nI (nP N b)) ν1 = _
    unfold f12_chooses_L2
    rw [q1.g_p hb, obs, clt_nI (by omega) (by omega), decide_eq_false (by omega), if_neg (by decide)]) (by omega) q5
  rw [zb_lp e6]
  have on6 : only (XS N b) S5 (pfold (sp_setl N b mv) (nP N b) S5) := only.pf (fun p S hp => setl_o nw hb hp)
  have g32 := (on6 32 b (by unfold XS; omega)).trans (r32.trans l32)
  have g31 := (on6 31 b (by unfold XS; omega)).trans (r31.trans l31)
  generalize pfold (sp_setl N b mv) (nP N b) S5 = S6 at *
  have a8 : ∀ ν, f12_bridgeAt (nI b) 8 ν = some (nI (4 + 12 * b + 8)) := fun ν => bAt b 8
  have a9 : ∀ ν, f12_bridgeAt (nI b) 9 ν = some (nI (4 + 12 * b + 9)) := fun ν => bAt b 9
  have a10 : ∀ ν, f12_bridgeAt (nI b) 10 ν = some (nI (4 + 12 * b + 10)) := fun ν => bAt b 10
  have q7 := q6.w_b (k := 8) hb (by omega) (by omega) (v := S6 23 b) (fun x => by omega)
  have q8 := q7.w_b (k := 9) hb (by omega) (by omega) (v := S6 24 b) (fun x => by omega)
  have q9 := q8.w_b (k := 10) hb (by omega) (by omega) (v := S6 31 b) (fun x => by omega)
  refine ⟨_, ?_, q9⟩
  rw [a8, obs, q6.b3 hb g32, obs, q6.puts (by omega), obs, a9, obs, q7.b4 hb g32, obs]
  rw [show zu S6 (20 + 8) b (S6 23 b) 24 b = S6 24 b from rfl, q7.puts (by omega), obs, a10, obs, show idS S b = S6 31 b from g31.symm, q8.puts (by omega), obs]
end zR5
