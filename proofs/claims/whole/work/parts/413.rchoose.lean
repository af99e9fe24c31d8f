/-! REFERENCE: roles, settling, choosing -/
theorem nodup_len : ∀ (n : Nat) (l : List Nat), l.Nodup → (∀ q ∈ l, q < n) → l.length ≤ n
  | 0, l, _, h => by
    cases l with
    | nil => exact Nat.le_refl _
    | cons a t => exact absurd (h a List.mem_cons_self) (by omega)
  | n + 1, l, d, h => by
    have ih := nodup_len n (l.erase n) (d.erase n) (fun q hq => by
      have h1 := (d.mem_erase_iff).mp hq
      have := h q h1.2
      omega)
    by_cases c : n ∈ l
    · rw [List.length_erase_of_mem c] at ih; omega
    · rw [List.erase_of_not_mem c] at ih; omega
section zR3
variable {N : zN} {m B : Nat} {ν0 ν ν' : zM} {S S' : zS} {R R' : Nat → Int32} {e b l h k : Nat}
/-- scratch of either side -/
theorem MR.hi (q : MR N R S) (nw : NW N) (hR : ∀ k, k < 3000 → R' k = R k) (hS : ∀ f i, f ≠ 48 → f ≠ 38 → f ≠ 47 → f ≠ 49 → f ≠ 60 → f < 33 ∨ 37 < f → S' f i = S f i) (hw : (∀ k, k < 6 → R' (3000 + k) = S' 48 k) ∧ ∀ b, b < 8 → R' (3010 + b) = S' 38 b) : MR N R' S' := by
  obtain ⟨m1, m2, m3, m4, m5, m6, m7, m8, m9, m10, mw, m11⟩ := q
  have b8 := nw.b8; have l14 := nw.l14; have h8 := nw.h8
  have z : ∀ f i, f < 33 ∨ (37 < f ∧ f ≠ 48 ∧ f ≠ 38 ∧ f ≠ 47 ∧ f ≠ 49 ∧ f ≠ 60) → S' f i = S f i := fun f i hf => hS f i (by omega) (by omega) (by omega) (by omega) (by omega) (by omega)
  refine ⟨?_, ?_, ?_, ?_, ?_, ?_, ?_, ?_, ?_, ?_, hw, ?_⟩
  · intro e k he hk hh
    have := nw.pl_48 he
    rw [z 10 _ (by omega)] at hh
    rw [hR _ (by omega), z _ _ (by omega)]; exact m1 e k he hk hh
  · intro e k he h1 h2; rw [z _ _ (by omega)]; exact m2 e k he h1 h2
  · intro b k hb hk hc
    rw [z 32 _ (by omega)] at hc
    rw [hR _ (by omega), z _ _ (by omega)]; exact m3 b k hb hk hc
  · intro b hb; rw [z _ _ (by omega), z _ _ (by omega)]; exact m4 b hb
  · intro l hl; rw [z _ _ (by omega), hR _ (by omega)]; exact m5 l hl
  · intro h hh; rw [z _ _ (by omega), hR _ (by omega)]; exact m6 h hh
  · intro b h hb hh; rw [z _ _ (by omega), z _ _ (by omega), hR _ (by omega), hR _ (by omega)]; exact m7 b h hb hh
  · intro b h hb h1 h2; rw [z _ _ (by omega)]; exact m8 b h hb h1 h2
  · rw [z _ _ (by omega), z _ _ (by omega), hR _ (by omega), hR _ (by omega)]; exact m9
  · obtain ⟨t, t1, t2, t3⟩ := m10
    refine ⟨t, t1, by rw [hR _ (by omega)]; exact t2, fun hb => ?_⟩
    rw [z _ _ (by omega)] at hb
    obtain ⟨t4, t5⟩ := t3 hb
    exact ⟨by rw [z _ _ (by omega)]; exact t4, fun k hk => by rw [z _ _ (by omega), hR _ (by omega)]; exact t5 k hk⟩
  · have hl : (lS S).length ≤ 84 := by
      have := nodup_len (6 * nL N) (lS S) m11.1 (fun q hq => ((m11.2.1 q).mp hq).1)
      omega
    rw [lS_eq (S := S) (S' := S') (fun i => z 62 i (by omega)) (z 63 0 (by omega))]
    refine ⟨m11.1, fun q => by rw [z 61 q (by omega)]; exact m11.2.1 q, (hR 2 (by omega)).trans m11.2.2.1, fun k q hk => ?_⟩
    obtain ⟨a1, a2, a3, a4⟩ := m11.2.2.2 k q hk
    have hk2 : k < (lS S).length := by
      rw [List.getElem?_eq_some_iff] at hk
      exact hk.1
    exact ⟨by rw [hR _ (by omega), z 50 q (by omega)]; exact a1, by rw [hR _ (by omega)]; exact a2, by rw [hR _ (by omega)]; exact a3, fun c c1 c2 => by rw [hR _ (by omega), z (50 + c) q (by omega)]; exact a4 c c1 c2⟩
theorem MS.ign (q : MS N m B ν0 ν S) (hS : ∀ f i, f ≠ 47 → f ≠ 49 → f ≠ 60 → f < 33 ∨ 37 < f → S' f i = S f i) : MS N m B ν0 ν S' :=
  ⟨q.1.hi q.nw (fun _ _ => rfl) (fun f i _ _ h3 h4 h5 h6 => hS f i h3 h4 h5 h6) ⟨fun k hk => by rw [hS _ _ (by omega) (by omega) (by omega) (by omega)]; exact q.1.2.2.2.2.2.2.2.2.2.2.1.1 k hk, fun b hb => by rw [hS _ _ (by omega) (by omega) (by omega) (by omega)]; exact q.1.2.2.2.2.2.2.2.2.2.2.1.2 b hb⟩, q.2.1.eq (fun i => hS _ _ (by omega) (by omega) (by omega) (by omega)) (fun i => hS _ _ (by omega) (by omega) (by omega) (by omega)), q.2.2.1, q.2.2.2⟩
theorem MS.w_was (q : MS N m B ν0 ν S) {v : Int32} (hk : k < 6) : wA ν (m + 27) 6 (nI k) v = some (sA ν (m + 27) k v) ∧ MS N m B ν0 (sA ν (m + 27) k v) (zu S 48 k v) := by
  refine ⟨wA_nI hk (by omega), q.1.hi q.nw ?_ (fun f i h1 _ _ _ _ _ => if_neg (fun x => h1 x.1)) ⟨?_, ?_⟩, q.2.1.eq (fun _ => rfl) (fun _ => rfl), q.2.2.1, q.2.2.2.wW⟩
  · intro k' hk'; rw [rw_lo hk', rw_lo hk', gA_sA, if_neg (by omega)]
  · intro k' hk'
    have r : ∀ ν, rw_ m B ν (3000 + k') = gA ν (m + 27) k' := fun ν => by unfold rw_; rw [if_neg (by omega), if_pos (by omega), Nat.add_sub_cancel_left]
    rw [r, gA_sA]
    show _ = (if 48 = 48 ∧ k' = k then v else S 48 k')
    by_cases c : k' = k
    · rw [if_pos ⟨rfl, c⟩, if_pos ⟨rfl, c⟩]
    · rw [if_neg (fun x => c x.2), if_neg (fun x => c x.2), ← r]; exact q.1.2.2.2.2.2.2.2.2.2.2.1.1 k' hk'
  · intro b' hb'
    have r : ∀ ν, rw_ m B ν (3010 + b') = gA ν (m + 26) b' := fun ν => by unfold rw_; rw [if_neg (by omega), if_neg (by omega), Nat.add_sub_cancel_left]
    rw [r, gA_sA, if_neg (by omega), ← r]; exact q.1.2.2.2.2.2.2.2.2.2.2.1.2 b' hb'
theorem MS.r_was (q : MS N m B ν0 ν S) (hk : k < 6) : rA ν (m + 27) 6 (nI k) = some (S 48 k) := by
  rw [rA_nI hk (by omega), ← q.1.2.2.2.2.2.2.2.2.2.2.1.1 k hk]
  unfold rw_; rw [if_neg (by omega), if_pos (by omega), Nat.add_sub_cancel_left]
theorem MS.w_con (q : MS N m B ν0 ν S) {v : Int32} (hb : b < 8) : wA ν (m + 26) 8 (nI b) v = some (sA ν (m + 26) b v) ∧ MS N m B ν0 (sA ν (m + 26) b v) (zu S 38 b v) := by
  refine ⟨wA_nI hb (by omega), q.1.hi q.nw ?_ (fun f i _ h2 _ _ _ _ => if_neg (fun x => h2 x.1)) ⟨?_, ?_⟩, q.2.1.eq (fun _ => rfl) (fun _ => rfl), q.2.2.1, q.2.2.2.wC⟩
  · intro k' hk'; rw [rw_lo hk', rw_lo hk', gA_sA, if_neg (by omega)]
  · intro k' hk'
    have r : ∀ ν, rw_ m B ν (3000 + k') = gA ν (m + 27) k' := fun ν => by unfold rw_; rw [if_neg (by omega), if_pos (by omega), Nat.add_sub_cancel_left]
    rw [r, gA_sA, if_neg (by omega), ← r]; exact q.1.2.2.2.2.2.2.2.2.2.2.1.1 k' hk'
  · intro b' hb'
    have r : ∀ ν, rw_ m B ν (3010 + b') = gA ν (m + 26) b' := fun ν => by unfold rw_; rw [if_neg (by omega), if_neg (by omega), Nat.add_sub_cancel_left]
    rw [r, gA_sA]
    show _ = (if 38 = 38 ∧ b' = b then v else S 38 b')
    by_cases c : b' = b
    · rw [if_pos ⟨rfl, c⟩, if_pos ⟨rfl, c⟩]
    · rw [if_neg (fun x => c x.2), if_neg (fun x => c x.2), ← r]; exact q.1.2.2.2.2.2.2.2.2.2.2.1.2 b' hb'
theorem MS.r_con (q : MS N m B ν0 ν S) (hb : b < 8) : rA ν (m + 26) 8 (nI b) = some (S 38 b) := by
  rw [rA_nI hb (by omega), ← q.1.2.2.2.2.2.2.2.2.2.2.1.2 b hb]
  unfold rw_; rw [if_neg (by omega), if_neg (by omega), Nat.add_sub_cancel_left]
theorem R_roleFor (q : MS N m B ν0 ν S) (hb : b < nB N) {i : Nat} (hi : i < nP N b) {o : Option Nat} (h25 : S 25 b = oI o) (ho : ∀ p, o = some p → p < nP N b) (h31 : S 31 b = idS S b) (h32 : S 32 b = 1) : f12_roleFor m (nI (pl N (eo N b i))) (oM b o) ν = some (sp_role N b i S) := by
  have nw := q.nw
  have hb8 := nw.b_8 hb
  have hp6 := nw.p6 hb
  have ql := nw.eo_l hb hi
  have qp := nw.pl_48 ql
  have e1 : ceq (nI (pl N (eo N b i))) (oM b o) = ceq (nI i) (S 25 b) := by
    rw [h25, nw.pl_eo hb hi]; exact oM_eq hb8 (by omega) (fun x hx => by have := ho x hx; omega)
  have e2 : f12_idOf m (nI b) ν = some (idS S b) := q.id_ hb
  unfold f12_roleFor sp_role
  rw [q.up_ ql, obs, e1]
  by_cases c : up N S (eo N b i) = true
  · simp only [if_pos c]
    by_cases c2 : ceq (nI i) (S 25 b) = true
    · simp only [if_pos c2]
    · simp only [if_neg c2]
      simp (disch := omega) only [q.p10 ql, obs, iDivR6, iRemR6, nw.pl_d ql, nw.bo_eo hb hi, nw.pl_m ql, nw.po_eo hb hi, e2]
      rcases q.isb ql (k := 10) (by omega) (by omega) with h0 | h1
      · rw [h0]; rfl
      · rw [h1]
        simp (disch := omega) only [show ceq (1 : Int32) 0 = false from rfl, show ceq (1 : Int32) 1 = true from rfl, Bool.false_eq_true, ↓reduceIte, q.p11 ql h1, q.p12 ql h1, q.p13 ql h1, q.p14 ql h1, obs, f12_isLessThanOurs, iDivR6, iRemR6, nw.pl_d ql, nw.bo_eo hb hi, nw.pl_m ql, nw.po_eo hb hi, e2, q.b3 hb h32, q.b4 hb h32, isLess_, Bool.true_and, h31]
        by_cases c3 : vlt (S 11 (eo N b i)) (S 12 (eo N b i)) (S 13 (eo N b i)) (S 14 (eo N b i)) (S 23 b) (S 24 b) (idS S b) (nI i) = true
        · rw [c3]
          simp only [Bool.not_true, Bool.false_eq_true, ↓reduceIte]
          by_cases c4 : ceq (S 13 (eo N b i)) (idS S b) = true
          · simp only [if_pos c4]; rfl
          · simp only [if_neg c4]; rfl
        · rw [Bool.eq_false_iff.mpr c3]; rfl
  · simp only [if_neg c]
theorem roles_oi (i : Nat) : i ≤ nP N b → only (fun f j => ((f = 0 ∨ f = 49) ∧ ∃ p, p < nP N b ∧ j = eo N b p) ∨ f = 48) S (pfold (fun p S => zu (zu (zu S 49 (eo N b p) (S 0 (eo N b p))) 48 p (S 0 (eo N b p))) 0 (eo N b p) (sp_role N b p S)) i S) := fun hi =>
  only.pf (fun p S hp => ((only.rf.zu (Or.inl ⟨Or.inr rfl, p, by omega, rfl⟩)).zu (Or.inr rfl)).zu (Or.inl ⟨Or.inl rfl, p, by omega, rfl⟩))
theorem R_roles (q : MS N m B ν0 ν S) (hb : b < nB N) {o : Option Nat} (h25 : S 25 b = oI o) (ho : ∀ p, o = some p → p < nP N b) (h31 : S 31 b = idS S b) (h32 : S 32 b = 1) : ∃ ν', zloop (fun s => f12_chooses_L1 m (nI b) (oM b o) s.1 s.2) 1000000 (0, ν) = some (nI (nP N b), ν') ∧ MS N m B ν0 ν' (sp_roles N b S) := by
  have nw := q.nw
  have hb8 := nw.b_8 hb
  have hp6 := nw.p6 hb
  refine lp (Q := MS N m B ν0) nI _ (nP N b) ?_ ?_ (by omega) q
  · intro i ν1 hi q1
    have hon := roles_oi (N := N) (b := b) (S := S) i (by omega)
    have k25 := hon 25 b (by omega)
    have k31 := hon 31 b (by omega)
    have k32 := hon 32 b (by omega)
    have k21 := hon 21 b (by omega)
    generalize pfold (fun p S => zu (zu (zu S 49 (eo N b p) (S 0 (eo N b p))) 48 p (S 0 (eo N b p))) 0 (eo N b p) (sp_role N b p S)) i S = S1 at *
    have ql := nw.eo_l hb hi
    show ∃ ν', f12_chooses_L1 m (nI b) (oM b o) (nI i) ν1 = some (.inl (nI (i + 1), ν')) ∧ MS N m B ν0 ν' (zu (zu (zu S1 49 (eo N b i) (S1 0 (eo N b i))) 48 i (S1 0 (eo N b i))) 0 (eo N b i) (sp_role N b i S1))
    have q1a : MS N m B ν0 ν1 (zu S1 49 (eo N b i) (S1 0 (eo N b i))) := q1.ign (fun f i _ h2 _ _ => if_neg (fun x => h2 x.1))
    obtain ⟨e2, q2⟩ := q1a.w_was (k := i) (v := S1 0 (eo N b i)) (by omega)
    have e3 := R_roleFor q2 hb hi (o := o) (k25.trans h25) ho (k31.trans (h31.trans (by show 16 * S 21 b + nI b = 16 * S1 21 b + nI b; rw [k21]))) (k32.trans h32)
    obtain ⟨ν3, e4, q3⟩ := q2.s0 ql (v := sp_role N b i S1)
    refine ⟨ν3, ?_, q3⟩
    unfold f12_chooses_L1
    rw [q1.g_p hb, obs, clt_nI (by omega) (by omega), decide_eq_true hi, if_pos rfl, pl_add, obs, plE nw hb hi, q1.p0 ql, obs, e2, obs, e3, obs]
    have e4' : f12_sets m (nI (pl N (eo N b i))) 0 (sp_role N b i (zu (zu S1 49 (eo N b i) (S1 0 (eo N b i))) 48 i (S1 0 (eo N b i)))) (sA ν1 (m + 27) i (S1 0 (eo N b i))) = some ν3 := e4
    rw [e4', obs, obs, nI_1]
  · intro ν1 q1
    show f12_chooses_L1 m (nI b) (oM b o) (nI (nP N b)) ν1 = _
    unfold f12_chooses_L1
    rw [q1.g_p hb, obs, clt_nI (by omega) (by omega), decide_eq_false (by omega), if_neg (by decide)]
end zR3
