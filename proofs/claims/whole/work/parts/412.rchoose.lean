/-! REFERENCE: how a bridge chooses -/
section zR2
variable {N : zN} {m B : Nat} {ν0 ν ν' : zM} {S S' : zS} {R R' : Nat → Int32} {e b l h k : Nat}
/-- what a choice takes as given: who holds is up; the vector chosen last is known, or no port has a role -/
def RC (N : zN) (b : Nat) (S : zS) : Prop := (∀ p, p < nP N b → S 10 (eo N b p) = 1 → up N S (eo N b p) = true) ∧ (S 32 b = 1 → S 28 b = S 23 b ∧ S 29 b = S 24 b ∧ S 30 b = S 31 b) ∧ (S 32 b ≠ 1 → ∀ p, p < nP N b → S 0 (eo N b p) = 0)
def oM (b : Nat) (o : Option Nat) : Int32 := match o with
  | none => -1
  | some p => nI (6 * b + p)
theorem oM_eq {p : Nat} {o : Option Nat} (hb : b < 8) (hp : p < 6) (ho : ∀ x, o = some x → x < 6) : ceq (nI (6 * b + p)) (oM b o) = ceq (nI p) (oI o) := by
  cases o with
  | none => rw [show oM b none = -1 from rfl, show oI none = -1 from rfl, oI_none (by omega), oI_none (by omega)]
  | some x =>
    have := ho x rfl
    show ceq (nI (6 * b + p)) (nI (6 * b + x)) = ceq (nI p) (nI x)
    rw [ceq_nI (by omega) (by omega), ceq_nI (by omega) (by omega)]
    exact decide_eq_decide.mpr ⟨fun x => by omega, fun x => by omega⟩
theorem pick_h {N : zN} {b : Nat} {S : zS} : ∀ {n p0 : Nat}, sp_pick N b S n = some p0 → S 10 (eo N b p0) = 1
  | 0, p0, h => by cases h
  | n + 1, p0, h => by
    have ih := @pick_h N b S n
    rw [show sp_pick N b S (n + 1) = sp_pk1 N b S n (sp_pick N b S n) from rfl] at h
    unfold sp_pk1 at h
    split at h
    · exact ih h
    · rename_i c
      have c1 : S 10 (eo N b n) = 1 := by
        apply ceq_of
        cases hh : ceq (S 10 (eo N b n)) 1 with
        | true => rfl
        | false => rw [hh] at c; exact absurd rfl c
      split at h
      · cases h; exact c1
      · split at h
        · cases h; exact c1
        · rename_i e1 _
          cases h; exact ih e1
theorem isLess_ (a b c d a1 b1 c1 d1 : Int32) (ν : zM) : f12_isLess a b c d a1 b1 c1 d1 ν = some (vlt a b c d a1 b1 c1 d1) := by
  unfold f12_isLess vlt
  cases ceq a a1 <;> cases ceq b b1 <;> cases ceq c c1 <;> rfl
theorem R_least (q : MS N m B ν0 ν S) (hb : b < nB N) (hu : ∀ p, p < nP N b → S 10 (eo N b p) = 1 → up N S (eo N b p) = true) : f12_leastPort m (nI b) ν = some (oM b (sp_rt N b S)) := by
  have nw := q.nw
  have hb8 := nw.b_8 hb
  have hp6 := nw.p6 hb
  have hid : f12_idOf m (nI b) ν = some (idS S b) := q.id_ hb
  have key := zloop_up (body := fun s => f12_leastPort_L1 m (nI b) ν (idS S b) s.1 s.2) (fun i (_ : Unit) => (oM b (sp_pick N b S i), nI (6 * b + i))) (fun _ _ => True) (nP N b) (fun r => r = (oM b (sp_pick N b S (nP N b)), nI (6 * b + nP N b))) (by
    intro i x hi _
    refine ⟨(), ?_, trivial⟩
    have ql := nw.eo_l hb hi
    have hlt : 6 * b + i < 6 * b + nP N b := by omega
    have hsucc : sp_pick N b S (i + 1) = sp_pk1 N b S i (sp_pick N b S i) := rfl
    show f12_leastPort_L1 m (nI b) ν (idS S b) (oM b (sp_pick N b S i)) (nI (6 * b + i)) = some (.inl (oM b (sp_pick N b S (i + 1)), nI (6 * b + (i + 1))))
    unfold f12_leastPort_L1
    have hinc : nI (pl N (eo N b i)) + 1 = nI (6 * b + (i + 1)) := by rw [nw.pl_eo hb hi, nI_1]; rfl
    rw [q.g_p hb, obs, pl_add, obs, clt_nI (by omega) (by omega), decide_eq_true hlt, if_pos rfl, plE nw hb hi]
    simp only [q.up_ ql, q.p10 ql, obs, zor, hinc]
    rw [hsucc]
    unfold sp_pk1
    rcases q.isb ql (k := 10) (by omega) (by omega) with h0 | h1
    · rw [h0, show ceq (0 : Int32) 0 = true from rfl, Bool.or_true]
      simp only [obs, ↓reduceIte, show ceq (0 : Int32) 1 = false from rfl, Bool.not_false, Bool.true_or]
    · rw [hu i hi h1, h1]
      simp only [Bool.not_true, show ceq (1 : Int32) 0 = false from rfl, show ceq (1 : Int32) 1 = true from rfl, Bool.or_false, Bool.false_or, Bool.false_eq_true, ↓reduceIte, q.p13 ql h1, obs]
      by_cases c : ceq (S 13 (eo N b i)) (idS S b) = true
      · simp only [if_pos c]
      · simp only [if_neg c]
        have l14 := nw.l14
        cases hp : sp_pick N b S i with
        | none =>
          simp only [show ceq (oM b none) (-1) = true from rfl, ↓reduceIte, obs]
          rw [← plE nw hb hi]; rfl
        | some p0 =>
          have hlt0 := pick_lt hp
          have hh0 := pick_h hp
          have ql0 := nw.eo_l hb (show p0 < nP N b by omega)
          have c1 : ceq (oM b (some p0)) (-1) = false := oI_none (p := 6 * b + p0) (by omega)
          have c2 : oM b (some p0) = nI (pl N (eo N b p0)) := plE nw hb (by omega)
          simp only [c1, Bool.false_eq_true, ↓reduceIte]
          rw [c2]
          simp (disch := omega) only [q.p11 ql h1, q.p12 ql h1, q.p13 ql h1, q.p14 ql h1, q.p11 ql0 hh0, q.p12 ql0 hh0, q.p13 ql0 hh0, q.p14 ql0 hh0, q.g_lk ql, q.g_lk ql0, q.g_cst, obs, isLess_]
          show (if sp_better N S (eo N b i) (eo N b p0) = true then _ else _) = some (Sum.inl (oM b (if sp_better N S (eo N b i) (eo N b p0) = true then some i else some p0), _))
          by_cases c3 : sp_better N S (eo N b i) (eo N b p0) = true
          · rw [if_pos c3, if_pos c3, ← plE nw hb hi]; rfl
          · rw [if_neg c3, if_neg c3, ← c2]) (by
    intro x _
    refine ⟨_, ?_, rfl⟩
    show f12_leastPort_L1 m (nI b) ν (idS S b) (oM b (sp_pick N b S (nP N b))) (nI (6 * b + nP N b)) = _
    unfold f12_leastPort_L1
    simp (disch := omega) only [q.g_p hb, obs, pk_mul, nI_add, nI_1, mulR2, mulR3, mulR4, mulR6, mulR7, mulR8, mulR10, mulR12, mulR16, mulQ2, mulQ3, mulQ4, mulQ6, mulQ7, mulQ8, mulQ10, mulQ12, mulQ16, mulQ18, mulQ48, addR2, addR3, addR4, addR5, addR6, addR7, addR8, addR9, addR10, addR16, addR20, addQ4, addQ100, addQ964, addQ978, addQ986, addQ1114, addQ1274, cltR2, cltR3, cltR4, cltR6, cltR8, cltR10, cltR13, cltR14, cltR18, cltR28, cltR40, cltR62, cltR64, cltR84, cltR96, ceqR0, ceqR1, ceqR2, ceqR3, ceqR5, ceqR6, ceqR8, ceqR14, ceqR39, ceqR40, ceqR64, ceqR13, clt_nI, ceq_nI, rI_nI, rA_nI, wA_nI, rZ_nI, wZ_nI, wF, wB, wR, zand, zor, zandn, zorn, ozb2, ozb3, ozb4, decide_true, decide_false, Nat.lt_irrefl, Bool.false_eq_true, ↓reduceIte, pl_add]) (nP N b) 0 1000000 () rfl (Nat.zero_le _) (by omega) trivial
  obtain ⟨r, e1, rfl⟩ := key
  have e0 : f12_placeOf (nI b) 0 ν = some (nI (6 * b + 0)) := pl_add b 0
  unfold f12_leastPort
  rw [hid, obs, e0, obs]
  have e1' : zloop (fun s => f12_leastPort_L1 m (nI b) ν (idS S b) s.1 s.2) 1000000 (-1, nI (6 * b + 0)) = some (oM b (sp_pick N b S (nP N b)), nI (6 * b + nP N b)) := e1
  rw [e1', ozb2]
  unfold sp_rt
  cases hp : sp_pick N b S (nP N b) with
  | none => rfl
  | some p0 =>
    have hlt0 := pick_lt hp
    have hh0 := pick_h hp
    have ql0 := nw.eo_l hb hlt0
    have c1 : ceq (oM b (some p0)) (-1) = false := oI_none (p := 6 * b + p0) (by omega)
    have c2 : oM b (some p0) = nI (pl N (eo N b p0)) := plE nw hb hlt0
    rw [c1, c2]
    simp only [Bool.false_eq_true, ↓reduceIte, q.p11 ql0 hh0, obs]
    by_cases c3 : clt (S 11 (eo N b p0)) (idS S b) = true
    · simp only [if_pos c3, obs]; rw [← c2]
    · simp only [if_neg c3, obs]; rfl
theorem RW.portR (q : RW m B ν0 ν R) (hp : l < 48) (hk : k < 18) : f12_portOf m (nI l) (nI k) ν = some (R (100 + 18 * l + k)) := by
  unfold f12_portOf
  have : ((100 : Int32) + 18 * nI l) + nI k = nI (100 + 18 * l + k) := by
    show (nI 100 + nI 18 * nI l) + nI k = _
    rw [pk_mul, nI_add, nI_add]
  rw [this, q.its (by omega)]; rfl
/-- the four numbers of a bridge's choice are laid -/
theorem MR.lead (q : MR N R S) (nw : NW N) (hb : b < nB N) {x y z t w : Int32} : MR N (uR (uR (uR (uR R (4 + 12 * b + 3) x) (4 + 12 * b + 4) y) (4 + 12 * b + 5) z) (4 + 12 * b + 6) t) (zu (zu (zu (zu (zu (zu S 23 b x) 24 b y) 31 b w) 26 b t) 25 b z) 32 b 1) := by
  have b8 := nw.b8; have l14 := nw.l14; have h8 := nw.h8; have hb8 := nw.b_8 hb
  have g : ∀ k, k < 4 + 12 * b + 3 ∨ 4 + 12 * b + 6 < k → uR (uR (uR (uR R (4 + 12 * b + 3) x) (4 + 12 * b + 4) y) (4 + 12 * b + 5) z) (4 + 12 * b + 6) t k = R k := by
    intro k hk
    unfold uR
    rw [if_neg (by omega), if_neg (by omega), if_neg (by omega), if_neg (by omega)]
  have zz : ∀ f i, (f ≠ 23 ∧ f ≠ 24 ∧ f ≠ 25 ∧ f ≠ 26 ∧ f ≠ 31 ∧ f ≠ 32) ∨ i ≠ b → zu (zu (zu (zu (zu (zu S 23 b x) 24 b y) 31 b w) 26 b t) 25 b z) 32 b 1 f i = S f i := by
    intro f i h
    unfold zu
    rw [if_neg (by omega), if_neg (by omega), if_neg (by omega), if_neg (by omega), if_neg (by omega), if_neg (by omega)]
  obtain ⟨m1, m2, m3, m4, m5, m6, m7, m8, m9, m10, mw, m11⟩ := q
  refine ⟨?_, ?_, ?_, ?_, ?_, ?_, ?_, ?_, ?_, ?_, ?_, ?_⟩
  · intro e k he hk hh
    have := nw.pl_48 he
    rw [zz 10 _ (by omega)] at hh
    rw [g _ (by omega), zz _ _ (by omega)]; exact m1 e k he hk hh
  · intro e k he h1 h2; rw [zz _ _ (by omega)]; exact m2 e k he h1 h2
  · intro b' k hb' hk hc
    have := nw.b_8 hb'
    by_cases c : b' = b
    · subst c
      by_cases c2 : 3 ≤ k ∧ k ≤ 6
      · have : k = 3 ∨ k = 4 ∨ k = 5 ∨ k = 6 := by omega
        rcases this with rfl | rfl | rfl | rfl
        · unfold uR zu
          rw [if_neg (by omega), if_neg (by omega), if_neg (by omega), if_pos (by omega), if_neg (by omega), if_neg (by omega), if_neg (by omega), if_neg (by omega), if_neg (by omega), if_pos (by omega)]
        · unfold uR zu
          rw [if_neg (by omega), if_neg (by omega), if_pos (by omega), if_neg (by omega), if_neg (by omega), if_neg (by omega), if_neg (by omega), if_pos (by omega)]
        · unfold uR zu
          rw [if_neg (by omega), if_pos (by omega), if_neg (by omega), if_pos (by omega)]
        · unfold uR zu
          rw [if_pos (by omega), if_neg (by omega), if_neg (by omega), if_pos (by omega)]
      · rw [g _ (by omega), zz _ _ (by omega)]
        exact m3 b' k hb' hk (fun h1 h2 => absurd ⟨h1, h2⟩ c2)
    · rw [zz 32 _ (by omega)] at hc
      rw [g _ (by omega), zz _ _ (by omega)]; exact m3 b' k hb' hk hc
  · intro b' hb'; rw [zz _ _ (by omega), zz _ _ (by omega)]; exact m4 b' hb'
  · intro l hl; rw [zz _ _ (by omega), g _ (by omega)]; exact m5 l hl
  · intro h hh; rw [zz _ _ (by omega), g _ (by omega)]; exact m6 h hh
  · intro b' h hb' hh; rw [zz _ _ (by omega), zz _ _ (by omega), g _ (by omega), g _ (by omega)]; exact m7 b' h hb' hh
  · intro b' h hb' h1 h2; rw [zz _ _ (by omega)]; exact m8 b' h hb' h1 h2
  · rw [zz _ _ (by omega), zz _ _ (by omega), g _ (by omega), g _ (by omega)]; exact m9
  · obtain ⟨t, t1, t2, t3⟩ := m10
    refine ⟨t, t1, by rw [g _ (by omega)]; exact t2, fun hb => ?_⟩
    rw [zz _ _ (by omega)] at hb
    obtain ⟨t4, t5⟩ := t3 hb
    exact ⟨by rw [zz _ _ (by omega)]; exact t4, fun k hk => by rw [zz _ _ (by omega), g _ (by omega)]; exact t5 k hk⟩
  · exact ⟨fun k hk => by rw [g _ (by omega), zz _ _ (by omega)]; exact mw.1 k hk, fun b hb => by rw [g _ (by omega), zz _ _ (by omega)]; exact mw.2 b hb⟩
  · exact m11.keep (g _ (by omega)) (fun k hk => g _ (by omega)) (fun c q h1 h2 _ => zz _ _ (by omega))
/-- the head of a choice: root, cost, port, age -/
theorem R_lead (q : MS N m B ν0 ν S) (hb : b < nB N) (o : Option Nat) (ho : ∀ p, o = some p → p < nP N b ∧ S 10 (eo N b p) = 1) : ∃ ν4, MS N m B ν0 ν4 (sp_lead N b o S) ∧ ∀ X : zM → Option zM, ((f12_bridgeAt (nI b) 3 ν).bind fun t3 => (if (ceq (oM b o) (-1)) = true then (some (idS S b)) else ((f12_portOf m (oM b o) 11 ν).bind fun t5 => some t5)).bind fun x4 => (f12_puts m t3 x4 ν).bind fun μ6 => (f12_bridgeAt (nI b) 4 μ6).bind fun t7 => (if (ceq (oM b o) (-1)) = true then (some 0) else ((f12_portOf m (oM b o) 12 μ6).bind fun t9 => (rA μ6 (m + 10) 48 (oM b o)).bind fun t10 => (rA μ6 (m + 6) 14 t10).bind fun t11 => some (t9 + t11))).bind fun x8 => (f12_puts m t7 x8 μ6).bind fun μ12 => (f12_bridgeAt (nI b) 5 μ12).bind fun t13 => (if (ceq (oM b o) (-1)) = true then (some (-1)) else ((iRem (oM b o) 6).bind fun t15 => some t15)).bind fun x14 => (f12_puts m t13 x14 μ12).bind fun μ16 => (f12_bridgeAt (nI b) 6 μ16).bind fun t17 => (if (ceq (oM b o) (-1)) = true then (some 0) else ((f12_portOf m (oM b o) 15 μ16).bind fun t19 => some (t19 + 1))).bind fun x18 => (f12_puts m t17 x18 μ16).bind fun μ20 => X μ20) = X ν4 := by
  have nw := q.nw
  have hb8 := nw.b_8 hb
  have l14 := nw.l14
  have a3 : ∀ ν, f12_bridgeAt (nI b) 3 ν = some (nI (4 + 12 * b + 3)) := fun ν => bAt b 3
  have a4 : ∀ ν, f12_bridgeAt (nI b) 4 ν = some (nI (4 + 12 * b + 4)) := fun ν => bAt b 4
  have a5 : ∀ ν, f12_bridgeAt (nI b) 5 ν = some (nI (4 + 12 * b + 5)) := fun ν => bAt b 5
  have a6 : ∀ ν, f12_bridgeAt (nI b) 6 ν = some (nI (4 + 12 * b + 6)) := fun ν => bAt b 6
  cases o with
  | none =>
    simp only [show ceq (oM b none) (-1) = true from rfl, ↓reduceIte, obs, a3, a4, a5, a6]
    obtain ⟨ν1, e1, q1⟩ := q.rw.put (k := 4 + 12 * b + 3) (v := idS S b) (by omega)
    obtain ⟨ν2, e2, q2⟩ := q1.put (k := 4 + 12 * b + 4) (v := 0) (by omega)
    obtain ⟨ν3, e3, q3⟩ := q2.put (k := 4 + 12 * b + 5) (v := -1) (by omega)
    obtain ⟨ν4, e4, q4⟩ := q3.put (k := 4 + 12 * b + 6) (v := 0) (by omega)
    refine ⟨ν4, q.of q4 (q.1.lead nw hb) (q.2.1.eq (fun _ => rfl) (fun _ => rfl)), fun X => ?_⟩
    rw [e1, obs, e2, obs, e3, obs, e4, obs]
  | some p =>
    obtain ⟨hp, hh⟩ := ho p rfl
    have hp6 := nw.p6 hb
    have ql := nw.eo_l hb hp
    have qp := nw.pl_48 ql
    have c1 : ceq (oM b (some p)) (-1) = false := oI_none (p := 6 * b + p) (by omega)
    have c2 : oM b (some p) = nI (pl N (eo N b p)) := plE nw hb hp
    rw [c1, c2]
    simp only [Bool.false_eq_true, ↓reduceIte, obs, a3, a4, a5, a6]
    obtain ⟨ν1, e1, q1⟩ := q.rw.put (k := 4 + 12 * b + 3) (v := S 11 (eo N b p)) (by omega)
    obtain ⟨ν2, e2, q2⟩ := q1.put (k := 4 + 12 * b + 4) (v := S 12 (eo N b p) + nI (cst N (eo N b p / 2))) (by omega)
    obtain ⟨ν3, e3, q3⟩ := q2.put (k := 4 + 12 * b + 5) (v := nI p) (by omega)
    obtain ⟨ν4, e4, q4⟩ := q3.put (k := 4 + 12 * b + 6) (v := S 15 (eo N b p) + 1) (by omega)
    refine ⟨ν4, q.of q4 (q.1.lead nw hb) (q.2.1.eq (fun _ => rfl) (fun _ => rfl)), fun X => ?_⟩
    have r1 : f12_portOf m (nI (pl N (eo N b p))) 12 ν1 = some (S 12 (eo N b p)) := (q1.portR (k := 12) qp (by omega)).trans (congrArg some (by
      unfold uR
      rw [if_neg (by omega)]; exact q.1.1 _ 12 ql (by omega) (fun _ => hh)))
    have r2 : f12_portOf m (nI (pl N (eo N b p))) 15 ν3 = some (S 15 (eo N b p)) := (q3.portR (k := 15) qp (by omega)).trans (congrArg some (by
      unfold uR
      rw [if_neg (by omega), if_neg (by omega), if_neg (by omega)]; exact q.1.1 _ 15 ql (by omega) (fun _ => hh)))
    have r3 : rA ν1 (m + 10) 48 (nI (pl N (eo N b p))) = some (nI (eo N b p / 2)) := by
      rw [rA_nI qp (by omega), q1.2.1.2.2.2.1 _ _ (by omega) (by omega) (by omega)]; exact congrArg some (q.2.2.1.2.1.2.2.1 _ ql).2.2.2.1
    have r4 : rA ν1 (m + 6) 14 (nI (eo N b p / 2)) = some (nI (cst N (eo N b p / 2))) := by
      rw [rA_nI (by omega) (by omega), q1.2.1.2.2.2.1 _ _ (by omega) (by omega) (by omega)]; exact congrArg some (q.2.2.1.2.1.2.2.2.1 _ (by omega)).1
    rw [q.p11 ql hh, obs, obs, e1, obs, r1, obs, r3, obs, r4, obs, obs, e2, obs, iRemR6 (by omega), nw.pl_m ql, nw.po_eo hb hp, obs, obs, e3, obs, r2, obs, obs, e4, obs]
end zR2
