/-! REFERENCE: messages are read -/
theorem zu_id {S : zS} {f i : Nat} {v : Int32} (h : S f i = v) : zu S f i v = S := by
  funext g j
  show (if g = f ∧ j = i then v else S g j) = S g j
  by_cases c : g = f ∧ j = i
  · rw [if_pos c, c.1, c.2, h]
  · rw [if_neg c]
section zR8
variable {N : zN} {m B : Nat} {ν0 ν ν' : zM} {S S' : zS} {R R' : Nat → Int32} {e b l h k t : Nat}
theorem MS.ll (q : MS N m B ν0 ν S) : (lS S).length ≤ 84 := by
  have m11 := q.1.2.2.2.2.2.2.2.2.2.2.2
  have := nodup_len (6 * nL N) (lS S) m11.1 (fun q hq => ((m11.2.1 q).mp hq).1)
  have := q.nw.l14
  omega
theorem MS.lk84 (q : MS N m B ν0 ν S) (hk : (lS S)[k]? = some t) : k < 84 ∧ t < 6 * nL N ∧ S 61 t = 1 := by
  have h1 := q.ll
  have h2 : k < (lS S).length := by
    rw [List.getElem?_eq_some_iff] at hk
    exact hk.1
  have h3 := (q.1.2.2.2.2.2.2.2.2.2.2.2.2.1 t).mp (List.mem_of_getElem? hk)
  exact ⟨by omega, h3.1, h3.2⟩
theorem msgI (k c : Nat) : ((1274 : Int32) + 10 * nI k) + nI c = nI (1274 + 10 * k + c) := by
  show (nI 1274 + nI 10 * nI k) + nI c = _
  rw [pk_mul, nI_add, nI_add]
theorem MS.msgR (q : MS N m B ν0 ν S) (hk : k < 84) {c : Nat} (hc : c < 10) : f12_msg m (nI k) (nI c) ν = some (rw_ m B ν (1274 + 10 * k + c)) := by
  unfold f12_msg
  rw [msgI, q.its (by omega)]; rfl
theorem RW.msgR (q : RW m B ν0 ν R) (hk : k < 84) {c : Nat} (hc : c < 10) : f12_msg m (nI k) (nI c) ν = some (R (1274 + 10 * k + c)) := by
  unfold f12_msg
  rw [msgI, q.its (by omega)]; rfl
theorem RW.sets (q : RW m B ν0 ν R) (hp : l < 48) (hk : k < 18) {v : Int32} : ∃ ν', f12_sets m (nI l) (nI k) v ν = some ν' ∧ RW m B ν0 ν' (uR R (100 + 18 * l + k) v) := by
  have : ((100 : Int32) + 18 * nI l) + nI k = nI (100 + 18 * l + k) := by
    show (nI 100 + nI 18 * nI l) + nI k = _
    rw [pk_mul, nI_add, nI_add]
  obtain ⟨ν1, e1, q1⟩ := q.put (k := 100 + 18 * l + k) (v := v) (by omega)
  refine ⟨ν1, ?_, q1⟩
  unfold f12_sets
  rw [this, e1]; rfl
theorem MS.m0 (q : MS N m B ν0 ν S) (hk : (lS S)[k]? = some t) : f12_msg m (nI k) 0 ν = some (S 50 t) := (q.msgR (c := 0) (q.lk84 hk).1 (by omega)).trans (congrArg some (q.1.2.2.2.2.2.2.2.2.2.2.2.2.2.2 k t hk).1)
theorem MS.m1 (q : MS N m B ν0 ν S) (hk : (lS S)[k]? = some t) : f12_msg m (nI k) 1 ν = some (nI (bo N (t / 3))) := (q.msgR (c := 1) (q.lk84 hk).1 (by omega)).trans (congrArg some (q.1.2.2.2.2.2.2.2.2.2.2.2.2.2.2 k t hk).2.1)
theorem MS.m2 (q : MS N m B ν0 ν S) (hk : (lS S)[k]? = some t) : f12_msg m (nI k) 2 ν = some (nI (po N (t / 3))) := (q.msgR (c := 2) (q.lk84 hk).1 (by omega)).trans (congrArg some (q.1.2.2.2.2.2.2.2.2.2.2.2.2.2.2 k t hk).2.2.1)
theorem MS.m3 (q : MS N m B ν0 ν S) (hk : (lS S)[k]? = some t) : f12_msg m (nI k) 3 ν = some (S 53 t) := (q.msgR (c := 3) (q.lk84 hk).1 (by omega)).trans (congrArg some ((q.1.2.2.2.2.2.2.2.2.2.2.2.2.2.2 k t hk).2.2.2 3 (by omega) (by omega)))
theorem MS.m4 (q : MS N m B ν0 ν S) (hk : (lS S)[k]? = some t) : f12_msg m (nI k) 4 ν = some (S 54 t) := (q.msgR (c := 4) (q.lk84 hk).1 (by omega)).trans (congrArg some ((q.1.2.2.2.2.2.2.2.2.2.2.2.2.2.2 k t hk).2.2.2 4 (by omega) (by omega)))
theorem MS.m5 (q : MS N m B ν0 ν S) (hk : (lS S)[k]? = some t) : f12_msg m (nI k) 5 ν = some (S 55 t) := (q.msgR (c := 5) (q.lk84 hk).1 (by omega)).trans (congrArg some ((q.1.2.2.2.2.2.2.2.2.2.2.2.2.2.2 k t hk).2.2.2 5 (by omega) (by omega)))
theorem MS.m6 (q : MS N m B ν0 ν S) (hk : (lS S)[k]? = some t) : f12_msg m (nI k) 6 ν = some (S 56 t) := (q.msgR (c := 6) (q.lk84 hk).1 (by omega)).trans (congrArg some ((q.1.2.2.2.2.2.2.2.2.2.2.2.2.2.2 k t hk).2.2.2 6 (by omega) (by omega)))
theorem MS.m7 (q : MS N m B ν0 ν S) (hk : (lS S)[k]? = some t) : f12_msg m (nI k) 7 ν = some (S 57 t) := (q.msgR (c := 7) (q.lk84 hk).1 (by omega)).trans (congrArg some ((q.1.2.2.2.2.2.2.2.2.2.2.2.2.2.2 k t hk).2.2.2 7 (by omega) (by omega)))
theorem MS.m8 (q : MS N m B ν0 ν S) (hk : (lS S)[k]? = some t) : f12_msg m (nI k) 8 ν = some (S 58 t) := (q.msgR (c := 8) (q.lk84 hk).1 (by omega)).trans (congrArg some ((q.1.2.2.2.2.2.2.2.2.2.2.2.2.2.2 k t hk).2.2.2 8 (by omega) (by omega)))
theorem MS.m9 (q : MS N m B ν0 ν S) (hk : (lS S)[k]? = some t) : f12_msg m (nI k) 9 ν = some (S 59 t) := (q.msgR (c := 9) (q.lk84 hk).1 (by omega)).trans (congrArg some ((q.1.2.2.2.2.2.2.2.2.2.2.2.2.2.2 k t hk).2.2.2 9 (by omega) (by omega)))
theorem hasBit_ (x y : Int32) : f12_hasBit x y ν = some (hb_ x y) := rfl
theorem OK.ls (h : OK N S S') : lS S' = lS S := lS_eq (fun i => h.2.2.2.2 62 i (by omega) (by omega)) (h.2.2.2.2 63 0 (by omega) (by omega))
theorem R_isr (q : MS N m B ν0 ν S) (he : e < 2 * nL N) (t : Nat) : ∃ ν1, MS N m B ν0 ν1 (sp_isr N e t S) ∧ ∀ X : zM → Option zM, (((f12_portOf m (nI (pl N e)) 5 ν).bind fun t20 => if (ceq t20 1) = true then ((f12_sets m (nI (pl N e)) 5 0 ν).bind fun μ21 => (f12_shuts m (nI (pl N e)) μ21).bind fun μ22 => (f12_sets m (nI (pl N e)) 2 (gF μ22 1205 m) μ22).bind fun μ23 => some μ23) else (some ν)).bind fun μ9 => ((f12_hasBit (S 59 t) 16 μ9).bind fun t11 => if t11 = true then (some 1) else (some 0)).bind fun x10 => ((if ceq (S 22 (bo N e)) 1 = true then (some false) else ((f12_portOf m (nI (pl N e)) 6 μ9).bind fun t19 => some (!(ceq t19 x10)))).bind fun b16 => if b16 = true then ((f12_sets m (nI (pl N e)) 6 x10 μ9).bind fun μ17 => (f12_sets m (nI (pl N e)) 9 1 μ17).bind fun μ18 => some μ18) else (some μ9)).bind fun μ12 => X μ12) = X ν1 := by
  have h1 : ∃ ν1, ((f12_portOf m (nI (pl N e)) 5 ν).bind fun t20 => if (ceq t20 1) = true then ((f12_sets m (nI (pl N e)) 5 0 ν).bind fun μ21 => (f12_shuts m (nI (pl N e)) μ21).bind fun μ22 => (f12_sets m (nI (pl N e)) 2 (gF μ22 1205 m) μ22).bind fun μ23 => some μ23) else (some ν)) = some ν1 ∧ MS N m B ν0 ν1 (if ceq (S 5 e) 1 = true then zu (sp_shut N e (zu S 5 e 0)) 2 e (nI (nDl N)) else S) := by
    rw [q.p5 he, obs]
    by_cases c : ceq (S 5 e) 1 = true
    · simp only [if_pos c]
      obtain ⟨ν1, e1, q1⟩ := q.s5 he (v := 0) (Or.inl rfl)
      obtain ⟨ν2, e2, q2⟩ := R_shut q1 he
      obtain ⟨ν3, e3, q3⟩ := q2.s2 he (v := nI (nDl N))
      exact ⟨ν3, by rw [e1, obs, e2, obs, q2.g_dl, e3]; rfl, q3⟩
    · simp only [if_neg c]
      exact ⟨_, rfl, q⟩
  obtain ⟨ν1, e1, q1⟩ := h1
  unfold sp_isr
  dsimp only
  generalize (if ceq (S 5 e) 1 = true then zu (sp_shut N e (zu S 5 e 0)) 2 e (nI (nDl N)) else S) = S1 at *
  have hx : (f12_hasBit (S 59 t) 16 ν1).bind (fun t11 => if t11 = true then (some (1 : Int32)) else (some 0)) = some (bI (hb_ (S 59 t) 16)) := by
    rw [hasBit_, obs]
    cases hb_ (S 59 t) 16 <;> rfl
  by_cases c : ((!(ceq (S 22 (bo N e)) 1)) && (!(ceq (S1 6 e) (bI (hb_ (S 59 t) 16))))) = true
  · simp only [if_pos c]
    obtain ⟨ν2, e2, q2⟩ := q1.s6 he (v := bI (hb_ (S 59 t) 16)) (by cases hb_ (S 59 t) 16 <;> decide)
    obtain ⟨ν3, e3, q3⟩ := q2.s9 he (v := 1) (Or.inr rfl)
    refine ⟨ν3, q3, fun X => ?_⟩
    rw [e1, obs, hx, obs]
    simp only [q1.p6 he, obs, zandn]
    rw [if_pos c, e2, obs, e3, obs, obs]
  · simp only [if_neg c]
    refine ⟨ν1, q1, fun X => ?_⟩
    rw [e1, obs, hx, obs]
    simp only [q1.p6 he, obs, zandn]
    rw [if_neg c, obs]
theorem R_sync (q : MS N m B ν0 ν S) (he : e < 2 * nL N) (hr : ceq (S 0 e) 1 = true) : ∃ ν', f12_syncs m (nI (pl N e)) ν = some ν' ∧ MS N m B ν0 ν' (pfold (sp_take1 N (bo N e)) (nP N (bo N e)) S) := by
  have nw := q.nw
  have hp := nw.pl_48 he
  have hb := nw.bo_b he
  have hb8 := nw.bo_8 he
  have hp6 := nw.p6 hb
  obtain ⟨ν1, e1, q1⟩ := lp (Q := MS N m B ν0) (body := fun s => f12_syncs_L1 m (nI (pl N e)) (nI (bo N e)) s.1 s.2) (fun i => nI (6 * bo N e + i)) (sp_take1 N (bo N e)) (nP N (bo N e)) (S := S) (μ := ν) (x0 := nI (6 * bo N e + 0)) (by
    intro i ν1 hi q1
    have on1 : only (XO N (bo N e)) S (pfold (sp_take1 N (bo N e)) i S) := only.pf (fun p S hp => take1_o nw hb (by omega))
    have r0 := on1 0 e (by unfold XO; omega)
    generalize pfold (sp_take1 N (bo N e)) i S = S1 at *
    have ql := nw.eo_l hb hi
    have hinc : nI (pl N (eo N (bo N e) i)) + 1 = nI (6 * bo N e + (i + 1)) := by rw [nw.pl_eo hb hi, nI_1]; rfl
    show ∃ ν', f12_syncs_L1 m (nI (pl N e)) (nI (bo N e)) (nI (6 * bo N e + i)) ν1 = some (.inl (nI (6 * bo N e + (i + 1)), ν')) ∧ _
    unfold f12_syncs_L1 sp_take1
    rw [q1.g_p hb, obs, pl_add, obs, clt_nI (by omega) (by omega), decide_eq_true (show 6 * bo N e + i < 6 * bo N e + nP N (bo N e) by omega), if_pos rfl, plE nw hb hi]
    have qp := nw.pl_48 ql
    have e1 : ceq (nI (pl N (eo N (bo N e) i))) (nI (pl N e)) = decide (eo N (bo N e) i = e) := by
      rw [ceq_nI (by omega) (by omega)]
      exact decide_eq_decide.mpr ⟨fun x => nw.pl_i ql he x, fun x => by rw [x]⟩
    simp only [q1.p0 ql, q1.p5 ql, q1.p4 ql, obs, hinc, zor, e1]
    have eb : ∀ d r2 ed ag : Bool, (d = true → r2 = false) → (((d || !r2) || ed) || ag) = !((r2 && !ed) && !ag) := by decide
    rw [eb _ (ceq (S1 0 (eo N (bo N e) i)) 2) _ _ (fun x => by
      rw [of_decide_eq_true x, r0, ceq_of hr]; rfl)]
    by_cases c2 : ((ceq (S1 0 (eo N (bo N e) i)) 2 && !(ceq (S1 5 (eo N (bo N e) i)) 1)) && !(ceq (S1 4 (eo N (bo N e) i)) 1)) = true
    · rw [if_pos c2, c2, if_neg (by decide)]
      obtain ⟨ν2, e2, q2⟩ := R_shut q1 ql
      obtain ⟨ν3, e3, q3⟩ := q2.s2 ql (v := nI (nDl N))
      obtain ⟨ν4, e4, q4⟩ := q3.s9 ql (v := 1) (Or.inr rfl)
      exact ⟨ν4, by rw [e2, obs, q2.g_dl, e3, obs, e4]; rfl, q4⟩
    · rw [if_neg c2, Bool.eq_false_iff.mpr c2, if_pos (show (!false) = true from rfl)]
      exact ⟨_, rfl, q1⟩) (by
    intro ν1 q1
    show f12_syncs_L1 m (nI (pl N e)) (nI (bo N e)) (nI (6 * bo N e + nP N (bo N e))) ν1 = _
    unfold f12_syncs_L1
    rw [q1.g_p hb, obs, pl_add, obs, clt_nI (by omega) (by omega), decide_eq_false (by omega), if_neg (by decide)]) (by omega) q
  have e0 : f12_placeOf (nI (bo N e)) 0 ν = some (nI (6 * bo N e + 0)) := pl_add (bo N e) 0
  unfold f12_syncs
  rw [iDivR6 (by omega), nw.pl_d he, obs, e0, obs]
  exact ⟨ν1, zb_lp e1, q1⟩
theorem R_reply (q : MS N m B ν0 ν S) (he : e < 2 * nL N) (hk : (lS S)[k]? = some t) (hbr : BR N (bo N e) S) : ∃ ν', f12_readsReply m (nI k) (nI (pl N e)) (S 59 t) ν = some ν' ∧ MS N m B ν0 ν' (sp_reply N e t S) := by
  have nw := q.nw
  have hp := nw.pl_48 he
  have hb := nw.bo_b he
  have hid : f12_idOf m (nI (bo N e)) ν = some (S 31 (bo N e)) := (q.id_ hb).trans (congrArg some (show idS S (bo N e) = _ from hbr.1.2.1.symm))
  unfold f12_readsReply sp_reply
  rw [q.p0 he, obs]
  by_cases c : ceq (S 0 e) 2 = true
  · simp only [if_pos c]
    simp (disch := omega) only [iDivR6, iRemR6, nw.pl_d he, nw.pl_m he, obs, q.m4 hk, q.m5 hk, q.m6 hk, q.m7 hk, q.b3 hb hbr.1.1, q.b4 hb hbr.1.1, hid, zand, hasBit_]
    have h1 : ∃ ν1, (if (hb_ (S 59 t) 2 && (((ceq (S 54 t) (S 23 (bo N e)) && ceq (S 55 t) (S 24 (bo N e))) && ceq (S 56 t) (S 31 (bo N e))) && ceq (S 57 t) (nI (po N e)))) = true then (f12_sets m (nI (pl N e)) 4 1 ν).bind fun μ22 => (f12_opens m (nI (pl N e)) μ22).bind fun μ23 => some μ23 else some ν) = some ν1 ∧ MS N m B ν0 ν1 (if (hb_ (S 59 t) 2 && (((ceq (S 54 t) (S 23 (bo N e)) && ceq (S 55 t) (S 24 (bo N e))) && ceq (S 56 t) (S 31 (bo N e))) && ceq (S 57 t) (nI (po N e)))) = true then sp_open N e (zu S 4 e 1) else S) := by
      by_cases c2 : (hb_ (S 59 t) 2 && (((ceq (S 54 t) (S 23 (bo N e)) && ceq (S 55 t) (S 24 (bo N e))) && ceq (S 56 t) (S 31 (bo N e))) && ceq (S 57 t) (nI (po N e)))) = true
      · simp only [if_pos c2]
        obtain ⟨ν1, e1, q1⟩ := q.s4 he (v := 1) (Or.inr rfl)
        obtain ⟨ν2, e2, q2⟩ := R_open q1 he
        exact ⟨ν2, by rw [e1, obs, e2]; rfl, q2⟩
      · simp only [if_neg c2]
        exact ⟨_, rfl, q⟩
    obtain ⟨ν1, e1, q1⟩ := h1
    rw [e1, obs]
    generalize (if (hb_ (S 59 t) 2 && (((ceq (S 54 t) (S 23 (bo N e)) && ceq (S 55 t) (S 24 (bo N e))) && ceq (S 56 t) (S 31 (bo N e))) && ceq (S 57 t) (nI (po N e)))) = true then sp_open N e (zu S 4 e 1) else S) = S1 at *
    by_cases c2 : hb_ (S 59 t) 4 = true
    · simp only [if_pos c2]
      obtain ⟨ν3, e3, q3⟩ := R_spread q1 he
      rw [e3, obs]
      by_cases c3 : hb_ (S 59 t) 16 = true
      · simp only [if_pos c3]
        obtain ⟨ν4, e4, q4⟩ := q3.s8 he (v := 1) (Or.inr rfl)
        obtain ⟨ν5, e5, q5⟩ := q4.s9 he (v := 1) (Or.inr rfl)
        exact ⟨ν5, by rw [e4, obs, e5]; rfl, q5⟩
      · simp only [if_neg c3]
        exact ⟨_, rfl, q3⟩
    · simp only [if_neg c2]
      exact ⟨_, rfl, q1⟩
  · simp only [if_neg c]
    exact ⟨_, rfl, q⟩
end zR8
