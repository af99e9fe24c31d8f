/-! A FRAME, in the reference -/
def FrR (m : Nat) (ν ν' : zM) : Prop := (∀ k a, ¬ (a = m ∧ 1259 ≤ k ∧ k ≤ 1263) → gF ν' k a = gF ν k a) ∧ (∀ k a, gB ν' k a = gB ν k a) ∧ (∀ k a, gR ν' k a = gR ν k a) ∧ (∀ a j, ¬ (a = m + 24 ∧ j < 2874) → a ≠ m + 35 → a ≠ m + 26 → a ≠ m + 27 → gA ν' a j = gA ν a j) ∧ (∀ a j, gZ ν' a j = gZ ν a j) ∧ ∀ a j, gX ν' a j = gX ν a j
def RQ (m : Nat) (ν : zM) (T : zT) : Prop := gF ν 1259 m = nI (T 0 0) ∧ gF ν 1261 m = nI (T 1 0) ∧ gF ν 1262 m = nI (T 2 0) ∧ gF ν 1263 m = nI (T 3 0) ∧ ∀ k, k < T 0 0 → gA ν (m + 35) k = nI (T 4 k)
def RG (N : zN) (m : Nat) (ν0 ν : zM) (S : zS) (T : zT) : Prop := MS N m 0 ν ν S ∧ RQ m ν T ∧ FrR m ν0 ν ∧ FI N T
def RF (N : zN) (m : Nat) (ν0 ν : zM) (x : zS × zT) : Prop := RG N m ν0 ν x.1 x.2
section zG4
variable {N : zN} {m B : Nat} {ν0 ν ν1 ν' : zM} {S : zS} {T : zT} {x : zS × zT} {h e b p t k c i j n : Nat} {v : Int32}
theorem FrR.rf : FrR m ν ν := ⟨fun _ _ _ => rfl, fun _ _ => rfl, fun _ _ => rfl, fun _ _ _ _ _ _ => rfl, fun _ _ => rfl, fun _ _ => rfl⟩
theorem FrR.tr (h : FrR m ν0 ν) (h2 : FrR m ν ν1) : FrR m ν0 ν1 := ⟨fun k a x => (h2.1 k a x).trans (h.1 k a x), fun k a => (h2.2.1 k a).trans (h.2.1 k a), fun k a => (h2.2.2.1 k a).trans (h.2.2.1 k a), fun a j x y z u => (h2.2.2.2.1 a j x y z u).trans (h.2.2.2.1 a j x y z u), fun k a => (h2.2.2.2.2.1 k a).trans (h.2.2.2.2.1 k a), fun k a => (h2.2.2.2.2.2 k a).trans (h.2.2.2.2.2 k a)⟩
theorem FrR.wf (hk : 1259 ≤ k ∧ k ≤ 1263) : FrR m ν (sF ν k m v) := ⟨fun k' a x => by rw [gF_sF, if_neg (by omega)], fun _ _ => rfl, fun _ _ => rfl, fun _ _ _ _ _ _ => rfl, fun _ _ => rfl, fun _ _ => rfl⟩
theorem FrR.wa : FrR m ν (sA ν (m + 35) j v) := ⟨fun _ _ _ => rfl, fun _ _ => rfl, fun _ _ => rfl, fun a j x y z u => by rw [gA_sA, if_neg (by omega)], fun _ _ => rfl, fun _ _ => rfl⟩
theorem FrR.of (h : FrM m 0 ν ν1) : FrR m ν ν1 := ⟨fun k a _ => h.1 k a, h.2.1, h.2.2.1, fun a j x _ z u => h.2.2.2.1 a j (by omega) z u, h.2.2.2.2.1, h.2.2.2.2.2⟩
theorem MS.self (q : MS N m B ν0 ν S) : MS N m B ν ν S := M0.ms q.row0 q.bs q.2.2.1.2.2.2
theorem MS.wm (q : MS N m B ν0 ν S) (hk : 1259 ≤ k ∧ k ≤ 1263) : MS N m B (sF ν k m v) (sF ν k m v) S := by
  have F : ∀ k', k' < 1259 → gF (sF ν k m v) k' m = gF ν k' m := fun k' h => by rw [gF_sF, if_neg (by omega)]
  exact M0.ms (q.row0.mv (fun k' _ h2 => F k' (by omega)) (fun d j h1 h2 => rfl) (fun j _ _ => rfl) (fun j => rfl) (fun j => rfl)) (by rw [F _ (by omega)]; exact q.bs) q.2.2.1.2.2.2
theorem RG.lrn (q : RG N m ν0 ν S T) (hb : b < nB N) (hh : h < nH N) (hv : okA N b v) : ∃ ν', f12_learns m (nI b) (nI h) v ν = some ν' ∧ RG N m ν0 ν' (lrn b h v S) T := by
  have b8 := q.1.nw.b8; have h8 := q.1.nw.h8
  obtain ⟨ν1, e1, q1⟩ := q.1.pa hb hh hv
  obtain ⟨ν2, e2, q2⟩ := q1.pg hb hh (v := 0)
  refine ⟨ν2, ?_, q2.self, ?_, q.2.2.1.tr (FrR.of q2.2.2.2), q.2.2.2⟩
  · unfold f12_learns
    rw [adAt, obs, e1, obs, adAt, obs, nI_1, e2, obs]
  · obtain ⟨f1, f2, f3, f4, f5⟩ := q.2.1
    have fr := q2.2.2.2
    exact ⟨by rw [fr.1]; exact f1, by rw [fr.1]; exact f2, by rw [fr.1]; exact f3, by rw [fr.1]; exact f4, fun k hk => by rw [fr.2.2.2.1 _ _ (by omega) (by omega) (by omega)]; exact f5 k hk⟩
theorem RG.w62 (q : RG N m ν0 ν S T) (hl : T 2 0 ≠ 64) : RG N m ν0 (sF ν 1262 m (nI (T 2 0) + 1)) S (zu T 2 0 (T 2 0 + 1)) := by
  obtain ⟨q1, ⟨f1, f2, f3, f4, f5⟩, q3, q4⟩ := q
  refine ⟨q1.wm (by omega), ⟨?_, ?_, ?_, ?_, f5⟩, q3.tr (FrR.wf (by omega)), q4.ad hl⟩
  · rw [gF_sF, if_neg (by omega)]; exact f1
  · rw [gF_sF, if_neg (by omega)]; exact f2
  · rw [gF_sF, if_pos ⟨rfl, rfl⟩, nI_1]; rfl
  · rw [gF_sF, if_neg (by omega)]; exact f4
theorem R_enq (q : RG N m ν0 ν S T) (hl : T 0 0 ≤ T 2 0 ∧ T 2 0 ≤ 64) (hc : c / 7 < nB N ∧ (c % 7 = 6 ∨ c % 7 < nP N (c / 7))) : wA ν (m + 35) 66 (gF ν 1259 m) (nI c) = some (sA ν (m + 35) (T 0 0) (nI c)) ∧ RG N m ν0 (sF (sA ν (m + 35) (T 0 0) (nI c)) 1259 m (nI (T 0 0) + 1)) S (enq T c) := by
  obtain ⟨q1, ⟨f1, f2, f3, f4, f5⟩, q3, q4⟩ := q
  refine ⟨by rw [f1, wA_nI (by omega) (by omega)], (q1.wD (by omega)).wm (by omega), ⟨?_, ?_, ?_, ?_, fun k hk => ?_⟩, (q3.tr FrR.wa).tr (FrR.wf (by omega)), q4.enq hl.1 hc⟩
  · rw [gF_sF, if_pos ⟨rfl, rfl⟩, nI_1, enq_0]
  · rw [gF_sF, if_neg (by omega), enq_o (by omega)]; exact f2
  · rw [gF_sF, if_neg (by omega), enq_o (by omega)]; exact f3
  · rw [gF_sF, if_neg (by omega), enq_o (by omega)]; exact f4
  · rw [enq_0] at hk
    rw [enq_4, gA_sF, gA_sA]
    by_cases ck : k = T 0 0
    · rw [if_pos ⟨rfl, ck⟩, if_pos ck]
    · rw [if_neg (fun x => ck x.2), if_neg ck]; exact f5 k (by omega)
theorem R_pass (q : RG N m ν0 ν S T) (he : e < 2 * nL N) (hh : h < nH N) : ∃ ν', f12_passes m (nI (pl N e)) (nI h) ν = some ν' ∧ RF N m ν0 ν' (fps N h e (S, T)) := by
  have nw := q.1.nw
  have fl := fe_lt he
  have fb := nw.bo_b fl
  have po6 := nw.po_6 fl
  have b8 := nw.b8
  have p48 := nw.pl_48 fl
  have fi := q.2.2.2
  have f2 := fi.2.1
  have f0 := fi.1
  have f3 := fi.2.2.1
  have spec : fps N h e (S, T) = if (!(ceq (S 1 e) 2) || decide (T 3 0 = 1)) = true then (S, T) else if T 2 0 = 64 then (S, zu T 3 0 1) else if ceq (S 1 (fe e)) 0 = true then (S, zu T 2 0 (T 2 0 + 1)) else (lrn (bo N (fe e)) h (nI (po N (fe e))) S, if ceq (S 1 (fe e)) 2 = true then enq (zu T 2 0 (T 2 0 + 1)) (7 * bo N (fe e) + po N (fe e)) else zu T 2 0 (T 2 0 + 1)) := rfl
  rw [spec]
  have cond : (((f12_portOf m (nI (pl N e)) 1 ν).bind fun t15 => some (!(ceq t15 2))).bind fun b14 => if b14 = true then (some true) else (some (ceq (gF ν 1263 m) 1))) = some (!(ceq (S 1 e) 2) || decide (T 3 0 = 1)) := by
    rw [q.1.p1 he, obs, obs, q.2.1.2.2.2.1, ceqR1 (by omega)]
    cases ceq (S 1 e) 2 <;> rfl
  unfold f12_passes
  rw [cond, obs]
  by_cases c0 : (!(ceq (S 1 e) 2) || decide (T 3 0 = 1)) = true
  · rw [if_pos c0, if_pos c0]; exact ⟨ν, rfl, q⟩
  · rw [if_neg c0, if_neg c0, q.2.1.2.2.1, ceqR64 (by omega)]
    by_cases c1 : T 2 0 = 64
    · rw [decide_eq_true c1, if_pos rfl, if_pos c1]
      simp only [wF, obs]
      obtain ⟨q1, ⟨f1, f2, f3, f4, f5⟩, q3, q4⟩ := q
      refine ⟨_, rfl, q1.wm (by omega), ⟨?_, ?_, ?_, ?_, f5⟩, q3.tr (FrR.wf (by omega)), ⟨q4.1, q4.2.1, Nat.le_refl _, q4.2.2.2⟩⟩
      · rw [gF_sF, if_neg (by omega)]; exact f1
      · rw [gF_sF, if_neg (by omega)]; exact f2
      · rw [gF_sF, if_neg (by omega)]; exact f3
      · rw [gF_sF, if_pos ⟨rfl, rfl⟩]; rfl
    · rw [decide_eq_false c1, if_neg (by decide), if_neg c1]
      have qa := q.w62 c1
      simp only [wF, obs]
      generalize sF ν 1262 m (nI (T 2 0) + 1) = ν1 at *
      rw [qa.1.op he, obs, qa.1.p1 fl, obs]
      by_cases c2 : ceq (S 1 (fe e)) 0 = true
      · rw [if_pos c2, if_pos c2]; exact ⟨ν1, rfl, qa⟩
      · rw [if_neg c2, if_neg c2, iDivR6 (by omega), obs, iRemR6 (by omega), obs, nw.pl_d fl, nw.pl_m fl]
        obtain ⟨ν2, e2, q2⟩ := RG.lrn qa (h := h) (b := bo N (fe e)) (v := nI (po N (fe e))) fb hh (Or.inr (Or.inr ⟨_, nw.po_p fl, rfl⟩))
        have s1 : lrn (bo N (fe e)) h (nI (po N (fe e))) S 1 (fe e) = S 1 (fe e) := rfl
        rw [e2, obs, q2.1.p1 fl, obs, s1]
        by_cases c3 : ceq (S 1 (fe e)) 2 = true
        · rw [if_pos c3, if_pos c3, obs, obs, mulQ7, nI_add]
          obtain ⟨e3, q3⟩ := R_enq (c := 7 * bo N (fe e) + po N (fe e)) q2 ⟨show T 0 0 ≤ T 2 0 + 1 from f0, show T 2 0 + 1 ≤ 64 by omega⟩ (cd_ok nw fl)
          rw [e3, obs, gF_sA, q2.2.1.1]
          exact ⟨_, rfl, q3⟩
        · rw [if_neg c3, if_neg c3]; exact ⟨ν2, rfl, q2⟩
end zG4
