/-! CLASS: what is read -/
def hb_ (x k : Int32) : Bool := !(ceq (x &&& k) 0)
/-- what any message that is read does to its port; q: its slot -/
def sp_isr (N : zN) (e q : Nat) (S : zS) : zS :=
  let S1 := if ceq (S 5 e) 1 = true then zu (sp_shut N e (zu S 5 e 0)) 2 e (nI (nDl N)) else S
  if ((!(ceq (S 22 (bo N e)) 1)) && (!(ceq (S1 6 e) (bI (hb_ (S 59 q) 16))))) = true then zu (zu S1 6 e (bI (hb_ (S 59 q) 16))) 9 e 1 else S1
def sp_read? (N : zN) (e q : Nat) (S : zS) : Bool := !((ceq (S 22 (bo N e)) 1) && (!(hb_ (S 59 q) 16)))
def sp_take1 (N : zN) (b p : Nat) (S : zS) : zS := if ((ceq (S 0 (eo N b p)) 2 && !(ceq (S 5 (eo N b p)) 1)) && !(ceq (S 4 (eo N b p)) 1)) = true then zu (zu (sp_shut N (eo N b p) S) 2 (eo N b p) (nI (nDl N))) 9 (eo N b p) 1 else S
def sp_prop (N : zN) (e : Nat) (S : zS) : zS := zu (zu (if ceq (S 0 e) 1 = true then pfold (sp_take1 N (bo N e)) (nP N (bo N e)) S else S) 7 e 1) 9 e 1
def sp_mk2 (N : zN) (b p : Nat) (S : zS) : zS := if ceq (S 0 (eo N b p)) 2 = true then zu S 9 (eo N b p) 1 else S
def sp_foll (N : zN) (e q : Nat) (S : zS) : zS :=
  let S1 := if ceq (S 22 (bo N e)) 1 = true then pfold (sp_mk2 N (bo N e)) (nP N (bo N e)) S else S
  let S2 := if hb_ (S 59 q) 8 = true then zu S1 3 e 0 else S1
  if hb_ (S 59 q) 4 = true then sp_spread N e S2 else S2
def sp_hold (e q : Nat) (S : zS) : zS := zu (zu (zu (zu (zu (zu (zu S 10 e 1) 11 e (S 54 q)) 12 e (S 55 q)) 13 e (S 56 q)) 14 e (S 57 q)) 15 e (S 58 q)) 16 e 3
/-- behind the choice -/
def sp_cfg2 (N : zN) (e q : Nat) (S : zS) : zS := if ceq (S 0 e) 2 = true then S else
  (fun S1 => if ceq (S1 0 e) 1 = true then sp_foll N e q S1 else S1) (if hb_ (S 59 q) 1 = true then sp_prop N e S else S)
def sp_config (N : zN) (e q : Nat) (S : zS) : zS :=
  if clt (nI (nAg N)) (S 58 q + 1) = true then (if ceq (S 10 e) 1 = true then sp_choose N (bo N e) (zu S 10 e 0) else S)
  else if (!(ceq (S 10 e) 1) && !(vlt (S 54 q) (S 55 q) (S 56 q) (S 57 q) (S 23 (bo N e)) (S 24 (bo N e)) (S 31 (bo N e)) (nI (po N e)))) = true then zu S 9 e 1
  else sp_cfg2 N e q (sp_choose N (bo N e) (sp_hold e q S))
def sp_reply (N : zN) (e q : Nat) (S : zS) : zS := if ceq (S 0 e) 2 = true then
  (fun S1 => if hb_ (S 59 q) 4 = true then (if hb_ (S 59 q) 16 = true then zu (zu (sp_spread N e S1) 8 e 1) 9 e 1 else sp_spread N e S1) else S1)
  (if (hb_ (S 59 q) 2 && (((ceq (S 54 q) (S 23 (bo N e)) && ceq (S 55 q) (S 24 (bo N e))) && ceq (S 56 q) (S 31 (bo N e))) && ceq (S 57 q) (nI (po N e)))) = true then sp_open N e (zu S 4 e 1) else S) else S
def sp_read (N : zN) (e q : Nat) (S : zS) : zS := if sp_read? N e q S = true then (if ceq (S 53 q) 1 = true then sp_reply N e q (sp_isr N e q S) else sp_config N e q (sp_isr N e q S)) else S
section zC9
variable {N : zN} {s w : Nat} {μ0 μ μ' : zM} {S S' : zS} {e b l q : Nat}
theorem C_car (h : CS N s w μ0 μ S) (hq : q < 84) {k : Int32} : f3_carries (s + 93 + 2 * q) k μ = some (hb_ (S 59 q) k) := by
  unfold f3_carries hb_
  rw [h.r_bits hq]; rfl
theorem bI_ne (x : Int32) (b : Bool) : ceq (bI (ceq x 1)) (bI b) = ceq (bI (ceq x 1)) (bI b) := rfl
theorem C_isr (h : CS N s w μ0 μ S) (he : e < 2 * nL N) (hq : q < 84) : ∃ μ', f8_isRead s (nI e) (s + 93 + 2 * q) μ = some (sp_read? N e q S, μ') ∧ CS N s w μ0 μ' (if sp_read? N e q S = true then sp_isr N e q S else S) := by
  have nw := h.nw
  have e28 := nw.e28 he
  have hb8 := nw.bo_8 he
  unfold f8_isRead sp_read? sp_isr
  simp (disch := omega) only [h.c_wir, h.v_bo he, obs, pk_mul, nI_add, nI_1, mulR2, mulR3, mulR4, mulR6, mulR7, mulR8, mulR10, mulR12, mulR16, mulQ2, mulQ3, mulQ4, mulQ6, mulQ7, mulQ8, mulQ10, mulQ12, mulQ16, mulQ18, mulQ48, addR2, addR3, addR4, addR5, addR6, addR7, addR8, addR9, addR10, addR16, addR20, addQ4, addQ100, addQ964, addQ978, addQ986, addQ1114, addQ1274, cltR2, cltR3, cltR4, cltR6, cltR8, cltR10, cltR13, cltR14, cltR18, cltR28, cltR40, cltR62, cltR64, cltR84, cltR96, ceqR0, ceqR1, ceqR2, ceqR3, ceqR5, ceqR6, ceqR8, ceqR14, ceqR39, ceqR40, ceqR64, ceqR13, clt_nI, ceq_nI, rI_nI, rA_nI, wA_nI, rZ_nI, wZ_nI, wF, wB, wR, zand, zor, zandn, zorn, ozb2, ozb3, ozb4, decide_true, decide_false, Nat.lt_irrefl, Bool.false_eq_true, ↓reduceIte, h.r_old, C_car h hq, h.r_edge]
  by_cases c : ((ceq (S 22 (bo N e)) 1) && (!(hb_ (S 59 q) 16))) = true
  · rw [if_pos c, c]
    exact ⟨_, rfl, h⟩
  · rw [if_neg c, Bool.eq_false_iff.mpr c]
    simp only [Bool.not_false, ↓reduceIte]
    have h1 : ∃ μ1, (if ceq (S 5 e) 1 = true then (f8_shut s (nI e) (sB μ 410 (s + 37 + 2 * e) false)).bind fun μ12 => (gR μ12 812 s).bind fun w13 => some (sF μ12 407 (s + 37 + 2 * e) (gF μ12 1014 w13)) else some μ) = some μ1 ∧ CS N s w μ0 μ1 (if ceq (S 5 e) 1 = true then zu (sp_shut N e (zu S 5 e 0)) 2 e (nI (nDl N)) else S) := by
      by_cases c2 : ceq (S 5 e) 1 = true
      · simp only [if_pos c2]
        obtain ⟨μ2, e2, h2⟩ := C_shut (h.w_edge e28 (v := false)) he
        refine ⟨_, ?_, h2.w_wait e28 (v := nI (nDl N))⟩
        rw [e2, obs, h2.c_wir, obs, h2.w_dl]
      · simp only [if_neg c2]
        exact ⟨_, rfl, h⟩
    obtain ⟨μ1, e1, h1⟩ := h1
    rw [e1, obs]
    have hold : (if ceq (S 5 e) 1 = true then zu (sp_shut N e (zu S 5 e 0)) 2 e (nI (nDl N)) else S) 6 e = S 6 e := by
      split
      · show sp_shut N e (zu S 5 e 0) 6 e = S 6 e
        exact shut_o nw he 6 e (by unfold XO; omega)
      · rfl
    generalize (if ceq (S 5 e) 1 = true then zu (sp_shut N e (zu S 5 e 0)) 2 e (nI (nDl N)) else S) = S1 at *
    have hbi : bI (gB μ1 411 (s + 37 + 2 * e)) = S1 6 e := h1.c_spk e e28
    rw [hbi]
    by_cases c3 : ((!(ceq (S 22 (bo N e)) 1)) && (!(ceq (S1 6 e) (bI (hb_ (S 59 q) 16))))) = true
    · simp only [if_pos c3]
      exact ⟨_, rfl, (h1.w_spk e28).w_mark e28⟩
    · simp only [if_neg c3]
      exact ⟨_, rfl, h1⟩
end zC9
