/-! WHERE LEARNT ADDRESSES LEAD -/
def ldF (N : zN) (S : zS) (h : Nat) : Nat → Nat → Nat → Int32
  | 0, _, _ => -1
  | k + 1, b, n => if ceq (S 42 (b * 8 + h)) (-1) = true then -1 else if ceq (S 42 (b * 8 + h)) 6 = true then (if ceq (S 41 h) (nI b) = true then nI n else -1) else if up N S (eo N b (S 42 (b * 8 + h)).toNatClampNeg) = true then ldF N S h k (bo N (fe (eo N b (S 42 (b * 8 + h)).toNatClampNeg))) (n + 1) else -1
section zE8
variable {N : zN} {s w m B : Nat} {μ0 μ ν0 ν : zM} {S : zS} {h : Nat}
theorem zl_inl {σ ρ : Type} {body : σ → Option (σ ⊕ ρ)} {x y : σ} {f : Nat} (e : body x = some (.inl y)) : zloop body (f + 1) x = zloop body f y := by simp [zloop, e]
theorem zl_inr {σ ρ : Type} {body : σ → Option (σ ⊕ ρ)} {x : σ} {r : ρ} {f : Nat} (e : body x = some (.inr r)) : zloop body (f + 1) x = some r := by simp [zloop, e]
theorem C_leadto (hc : CS N s w μ0 μ S) (hh : h < nH N) : ∀ k b n fuel, k + n = 9 → k < fuel → b < nB N → ∃ r, zloop (fun q => f8_linksTo_L1 s (nI h) μ q.1 q.2) fuel (nI b, nI n) = some r ∧ Sum.elim (fun v => some v) (zq2 fun _ _ => some (-1)) r = some (ldF N S h k b n) := by
  have nw := hc.nw
  have b8 := nw.b8; have h8 := nw.h8
  intro k
  induction k with
  | zero =>
    intro b n fuel hk hf hb
    cases fuel with
    | zero => omega
    | succ f =>
      refine ⟨.inr (nI b, nI n), zl_inr ?_, rfl⟩
      show f8_linksTo_L1 s (nI h) μ (nI b) (nI n) = _
      unfold f8_linksTo_L1
      rw [show clt 8 (nI n) = true from by rw [show (8 : Int32) = nI 8 from rfl, clt_nI (by omega) (by omega)]; exact decide_eq_true (by omega), if_pos rfl]
  | succ k ih =>
    intro b n fuel hk hf hb
    cases fuel with
    | zero => omega
    | succ f =>
      have e0 : clt 8 (nI n) = false := by rw [show (8 : Int32) = nI 8 from rfl, clt_nI (by omega) (by omega)]; exact decide_eq_false (by omega)
      have p6 := nw.p6 hb
      have ea : rA μ (s + 6) 64 ((nI b * 8) + nI h) = some (S 42 (b * 8 + h)) := by rw [mulR8, nI_add, rA_nI (by omega) (by omega), hc.c_la _ (by omega)]
      have eh : rA μ (s + 5) 8 (nI h) = some (S 41 h) := by rw [rA_nI (by omega) (by omega), hc.c_home _ (by omega)]
      have body : f8_linksTo_L1 s (nI h) μ (nI b) (nI n) = (if (ceq (S 42 (b * 8 + h)) (-1)) = true then (some (.inr (.inl (-1)))) else (if (ceq (S 42 (b * 8 + h)) 6) = true then (((some (S 41 h)).bind fun t13 => if (ceq t13 (nI b)) = true then (some (nI n)) else (some (-1))).bind fun x12 => some (.inr (.inl x12))) else ((some w).bind fun w6 => (f10_endOf w6 (nI b) (S 42 (b * 8 + h)) μ).bind fun t7 => (f8_isUp s t7 μ).bind fun t8 => if t8 = true then ((some w).bind fun w9 => (f10_farBridge w9 t7 μ).bind fun t10 => (some (nI n + 1)).bind fun v_passed_11 => some (.inl (t10, v_passed_11))) else (some (.inr (.inl (-1))))))) := by
        unfold f8_linksTo_L1
        rw [e0, if_neg (by decide), ea, obs, eh, hc.c_wir]
      unfold ldF
      rcases hc.c_so.1 b h hb (by omega) with hv | hv | ⟨p, hp, hv⟩
      · rw [hv] at body ⊢
        rw [show ceq (-1 : Int32) (-1) = true from rfl, if_pos rfl] at body
        exact ⟨.inl (-1), zl_inr body, rfl⟩
      · rw [hv] at body ⊢
        rw [show ceq (6 : Int32) (-1) = false from rfl, if_neg (by decide), show ceq (6 : Int32) 6 = true from rfl, if_pos rfl, obs] at body
        rw [show ceq (6 : Int32) (-1) = false from rfl, if_neg (by decide), show ceq (6 : Int32) 6 = true from rfl, if_pos rfl]
        by_cases c : ceq (S 41 h) (nI b) = true
        · rw [if_pos c] at body ⊢
          rw [obs] at body
          exact ⟨.inl (nI n), zl_inr body, rfl⟩
        · rw [if_neg c] at body ⊢
          rw [obs] at body
          exact ⟨.inl (-1), zl_inr body, rfl⟩
      · rw [hv] at body ⊢
        have el := nw.eo_l hb hp
        rw [nI_clamp (by omega), oI_none (by omega), if_neg (by decide), ceqR6 (by omega), decide_eq_false (by omega), if_neg (by decide)]
        rw [oI_none (by omega), if_neg (by decide), ceqR6 (by omega), decide_eq_false (by omega), if_neg (by decide), obs, hc.w_eo hb hp, obs, C_up hc el, obs, obs, hc.w_far el, obs, obs, nI_1] at body
        by_cases c : up N S (eo N b p) = true
        · rw [if_pos c] at body ⊢
          obtain ⟨r, e1, e2⟩ := ih (bo N (fe (eo N b p))) (n + 1) f (by omega) (by omega) (nw.bo_b (fe_lt el))
          exact ⟨r, (zl_inl (body := fun q => f8_linksTo_L1 s (nI h) μ q.1 q.2) body).trans e1, e2⟩
        · rw [if_neg c] at body ⊢
          exact ⟨.inl (-1), zl_inr body, rfl⟩
theorem R_leadto (q : MS N m B ν0 ν S) (hh : h < nH N) : ∀ k b n fuel, k + n = 9 → k < fuel → b < nB N → ∃ r, zloop (fun s => f12_leads_L1 m (nI h) ν s.1 s.2) fuel (nI b, nI n) = some r ∧ Sum.elim (fun v => some v) (zq2 fun _ _ => some ((-1), ν)) r = some (ldF N S h k b n, ν) := by
  have nw := q.nw
  have b8 := nw.b8; have h8 := nw.h8
  intro k
  induction k with
  | zero =>
    intro b n fuel hk hf hb
    cases fuel with
    | zero => omega
    | succ f =>
      refine ⟨.inr (nI b, nI n), zl_inr ?_, rfl⟩
      show f12_leads_L1 m (nI h) ν (nI b) (nI n) = _
      unfold f12_leads_L1
      rw [show clt 8 (nI n) = true from by rw [show (8 : Int32) = nI 8 from rfl, clt_nI (by omega) (by omega)]; exact decide_eq_true (by omega), if_pos rfl]
  | succ k ih =>
    intro b n fuel hk hf hb
    cases fuel with
    | zero => omega
    | succ f =>
      have e0 : clt 8 (nI n) = false := by rw [show (8 : Int32) = nI 8 from rfl, clt_nI (by omega) (by omega)]; exact decide_eq_false (by omega)
      have p6 := nw.p6 hb
      have eh : f12_its m (978 + nI h) ν = some (S 41 h) := by
        rw [addQ978, q.its (by omega)]
        exact congrArg some (q.1.2.2.2.2.2.1 h hh)
      have body : f12_leads_L1 m (nI h) ν (nI b) (nI n) = if (ceq (S 42 (b * 8 + h)) 6) = true then (((some (S 41 h)).bind fun t16 => if (ceq t16 (nI b)) = true then (some (nI n)) else (some (-1))).bind fun x15 => some (.inr (.inl (x15, ν)))) else ((if (ceq (S 42 (b * 8 + h)) (-1)) = true then (some true) else ((f12_placeOf (nI b) (S 42 (b * 8 + h)) ν).bind fun t13 => (f12_isUp m t13 ν).bind fun t14 => some (!t14))).bind fun b9 => if b9 = true then (some (.inr (.inl ((-1), ν)))) else ((f12_placeOf (nI b) (S 42 (b * 8 + h)) ν).bind fun t10 => (f12_otherBridge m t10 ν).bind fun t11 => (some (nI n + 1)).bind fun v_n_12 => some (.inl (t11, v_n_12)))) := by
        unfold f12_leads_L1
        rw [e0, if_neg (by decide), adAt, obs, q.a_ hb hh, obs, eh]
      unfold ldF
      rcases q.2.1.1 b h hb (by omega) with hv | hv | ⟨p, hp, hv⟩
      · rw [hv] at body ⊢
        rw [show ceq (-1 : Int32) 6 = false from rfl, if_neg (by decide), show ceq (-1 : Int32) (-1) = true from rfl, if_pos rfl, obs, if_pos rfl] at body
        exact ⟨.inl (-1, ν), zl_inr body, rfl⟩
      · rw [hv] at body ⊢
        rw [show ceq (6 : Int32) 6 = true from rfl, if_pos rfl, obs] at body
        rw [show ceq (6 : Int32) (-1) = false from rfl, if_neg (by decide), show ceq (6 : Int32) 6 = true from rfl, if_pos rfl]
        by_cases c : ceq (S 41 h) (nI b) = true
        · rw [if_pos c] at body ⊢
          rw [obs] at body
          exact ⟨.inl (nI n, ν), zl_inr body, rfl⟩
        · rw [if_neg c] at body ⊢
          rw [obs] at body
          exact ⟨.inl (-1, ν), zl_inr body, rfl⟩
      · rw [hv] at body ⊢
        have el := nw.eo_l hb hp
        rw [nI_clamp (by omega), oI_none (by omega), if_neg (by decide), ceqR6 (by omega), decide_eq_false (by omega), if_neg (by decide)]
        rw [ceqR6 (by omega), decide_eq_false (by omega), if_neg (by decide), oI_none (by omega), if_neg (by decide), pl_add, obs, plE nw hb hp, q.up_ el, obs, obs, obs, q.ob el, obs, obs, nI_1] at body
        by_cases c : up N S (eo N b p) = true
        · rw [if_pos c]
          rw [c, if_neg (show ¬ (!true) = true by decide)] at body
          obtain ⟨r, e1, e2⟩ := ih (bo N (fe (eo N b p))) (n + 1) f (by omega) (by omega) (nw.bo_b (fe_lt el))
          exact ⟨r, (zl_inl (body := fun s => f12_leads_L1 m (nI h) ν s.1 s.2) body).trans e1, e2⟩
        · rw [if_neg c]
          have cf : up N S (eo N b p) = false := by cases hh : up N S (eo N b p) with
            | false => rfl
            | true => exact absurd hh c
          rw [cf, if_pos (show (!false) = true from rfl)] at body
          exact ⟨.inl (-1, ν), zl_inr body, rfl⟩
end zE8
