/-! A BRIDGE COMES BACK: closed forms -/
/-- what the class sees -/
def csF (f : Nat) : Prop := f < 28 ∨ f = 31 ∨ (33 ≤ f ∧ f ≤ 37) ∨ (40 ≤ f ∧ f ≤ 47) ∨ (49 ≤ f ∧ f ≤ 60)
def sq_ons (N : zN) (b : Nat) (S0 : zS) (p : Nat) (S : zS) : zS := if up N S0 (eo N b p) = true then zu (sp_clr (fe (eo N b p)) (nI (tE N (fe (eo N b p)))) (sp_clr (eo N b p) (nI (tE N (eo N b p))) S)) 47 (bo N (fe (eo N b p))) 1 else S
def rq_on1 (N : zN) (b l : Nat) (S : zS) : zS := if atb N b l S = true then sp_clr (2 * l + 1) (nI (tE N (2 * l + 1))) (sp_clr (2 * l) (nI (tE N (2 * l))) (zu (zu S 38 (bo N (2 * l)) 1) 38 (bo N (2 * l + 1)) 1)) else S
def rq_ons (N : zN) (b : Nat) (S0 : zS) (l : Nat) (S : zS) : zS := if atb N b l S0 = true then sp_clr (2 * l + 1) (nI (tE N (2 * l + 1))) (sp_clr (2 * l) (nI (tE N (2 * l))) (zu (zu S 38 (bo N (2 * l)) 1) 38 (bo N (2 * l + 1)) 1)) else S
section zR32
variable {N : zN} {s w m B : Nat} {μ0 μ : zM} {ν0 ν ν' : zM} {S S0 S' X R : zS} {e e1 e2 b a l h k n t st f i : Nat}
theorem CS.ig (h : CS N s w μ0 μ S) (hS : ∀ f i, csF f → S' f i = S f i) : CS N s w μ0 μ S' := by
  have z : ∀ f i, (f < 28 ∨ f = 31 ∨ (33 ≤ f ∧ f ≤ 37) ∨ (40 ≤ f ∧ f ≤ 47) ∨ (49 ≤ f ∧ f ≤ 60)) → S' f i = S f i := hS
  refine ⟨fun i hi => by rw [z _ _ (by omega)]; exact h.c_role i hi,
    fun i hi => by rw [z _ _ (by omega)]; exact h.c_state i hi,
    fun i hi => by rw [z _ _ (by omega)]; exact h.c_wait i hi,
    fun i hi => by rw [z _ _ (by omega)]; exact h.c_chg i hi,
    fun i hi => by rw [z _ _ (by omega)]; exact h.c_hage i hi,
    fun i hi => by rw [z _ _ (by omega)]; exact h.c_life i hi,
    fun i hi => by rw [z _ _ (by omega)]; exact h.c_was i hi,
    fun i hi => by rw [z _ _ (by omega)]; exact h.c_hroot i hi,
    fun i hi => by rw [z _ _ (by omega)]; exact h.c_hcost i hi,
    fun i hi => by rw [z _ _ (by omega)]; exact h.c_hid i hi,
    fun i hi => by rw [z _ _ (by omega)]; exact h.c_hport i hi,
    fun i hi => by rw [z _ _ (by omega)]; exact h.c_agr i hi,
    fun i hi => by rw [z _ _ (by omega)]; exact h.c_edge i hi,
    fun i hi => by rw [z _ _ (by omega)]; exact h.c_spk i hi,
    fun i hi => by rw [z _ _ (by omega)]; exact h.c_owes i hi,
    fun i hi => by rw [z _ _ (by omega)]; exact h.c_answ i hi,
    fun i hi => by rw [z _ _ (by omega)]; exact h.c_mark i hi,
    fun i hi => by rw [z _ _ (by omega)]; exact h.c_holds i hi,
    fun i hi => by rw [z _ _ (by omega)]; exact h.c_on i hi,
    fun i hi => by rw [z _ _ (by omega)]; exact h.c_prio i hi,
    fun i hi => by rw [z _ _ (by omega)]; exact h.c_old i hi,
    fun i hi => by rw [z _ _ (by omega)]; exact h.c_rport i hi,
    fun i hi => by rw [z _ _ (by omega)]; exact h.c_bage i hi,
    fun i hi => by rw [z _ _ (by omega)]; exact h.c_short i hi,
    fun i hi => by rw [z _ _ (by omega)]; exact h.c_root i hi,
    fun i hi => by rw [z _ _ (by omega)]; exact h.c_cost i hi,
    fun i hi => by rw [z _ _ (by omega)]; exact h.c_cid i hi,
    fun i hi => by rw [z _ _ (by omega)]; exact h.c_cport i hi,
    fun i hi => by rw [z _ _ (by omega)]; exact h.c_froot i hi,
    fun i hi => by rw [z _ _ (by omega)]; exact h.c_fcost i hi,
    fun i hi => by rw [z _ _ (by omega)]; exact h.c_fid i hi,
    fun i hi => by rw [z _ _ (by omega)]; exact h.c_fport i hi,
    fun i hi => by rw [z _ _ (by omega)]; exact h.c_whole i hi,
    fun i hi => by rw [z _ _ (by omega)]; exact h.c_home i hi,
    fun i hi => by rw [z _ _ (by omega)]; exact h.c_la i hi,
    fun i hi => by rw [z _ _ (by omega)]; exact h.c_lg i hi,
    fun i hi => by rw [z _ _ (by omega)]; exact h.c_tch i hi,
    fun i hi => by rw [z _ _ (by omega)]; exact h.c_arr i hi,
    fun i hi => by rw [z _ _ (by omega)]; exact h.c_mage i hi,
    fun i hi => by rw [z _ _ (by omega)]; exact h.c_bits i hi,
    fun i hi => by rw [z _ _ (by omega)]; exact h.c_mroot i hi,
    fun i hi => by rw [z _ _ (by omega)]; exact h.c_mcost i hi,
    fun i hi => by rw [z _ _ (by omega)]; exact h.c_mid i hi,
    fun i hi => by rw [z _ _ (by omega)]; exact h.c_mport i hi,
    fun i hi => by rw [z _ _ (by omega)]; exact h.c_there i hi,
    fun i hi => by rw [z _ _ (by omega)]; exact h.c_reply i hi,
    by rw [z _ _ (by omega)]; exact h.c_step, by rw [z _ _ (by omega)]; exact h.c_flu, by rw [z _ _ (by omega)]; exact h.c_beg,
    fun i hi => h.c_num i hi, h.c_wir, ?_,
    ⟨fun b h1 hb hh => by rw [z _ _ (by omega)]; exact h.c_so.1 b h1 hb hh, fun h1 hh => by rw [z _ _ (by omega)]; exact h.c_so.2 h1 hh⟩, h.c_ct, h.c_fr⟩
  obtain ⟨f, t, h1, h2, h3, h4, h5, h6⟩ := h.c_kept
  exact ⟨f, t, h1, h2, h3, h4, by rw [z _ _ (by omega)]; exact h5, fun k c hk hc => by rw [z _ _ (by omega)]; exact h6 k c hk hc⟩
theorem fe_2 : fe e / 2 = e / 2 := by
  unfold fe
  by_cases c : e % 2 = 0
  · rw [if_pos c]; omega
  · rw [if_neg c]; omega
theorem fe_or (h : i / 2 = e / 2) : i = e ∨ i = fe e := by
  unfold fe
  by_cases c : e % 2 = 0
  · rw [if_pos c]; omega
  · rw [if_neg c]; omega
/-- two ends fresh -/
theorem clr2_f (he : e2 = fe e1) : sp_clr e2 (nI (tE N e2)) (sp_clr e1 (nI (tE N e1)) S) f i = if i / 2 = e1 / 2 ∧ (f ≤ 10 ∨ f = 15 ∨ f = 16 ∨ f = 49) then (if f = 5 then nI (tE N i) else 0) else S f i := by
  rw [clr_f, clr_f]
  by_cases ck : f ≤ 10 ∨ f = 15 ∨ f = 16 ∨ f = 49
  · by_cases c2 : i = e2
    · have z : i / 2 = e1 / 2 := by rw [c2, he, fe_2]
      rw [if_pos ⟨c2, ck⟩, if_pos (show i / 2 = e1 / 2 ∧ (f ≤ 10 ∨ f = 15 ∨ f = 16 ∨ f = 49) from ⟨z, ck⟩), c2]
    · rw [if_neg (fun x => c2 x.1)]
      by_cases c1 : i = e1
      · rw [if_pos ⟨c1, ck⟩, if_pos (show i / 2 = e1 / 2 ∧ (f ≤ 10 ∨ f = 15 ∨ f = 16 ∨ f = 49) from ⟨by rw [c1], ck⟩), c1]
      · rw [if_neg (fun x => c1 x.1), if_neg (fun x => by
          rcases fe_or x.1 with y | y
          · exact c1 y
          · exact c2 (y.trans he.symm))]
  · rw [if_neg (fun x => ck x.2), if_neg (fun x => ck x.2), if_neg (fun x => ck x.2)]
theorem on1_f (h47 : f ≠ 47) : ((up N S0 (eo N b k) = true ∧ i / 2 = eo N b k / 2 ∧ (f ≤ 10 ∨ f = 15 ∨ f = 16 ∨ f = 49)) → sq_ons N b S0 k S f i = (if f = 5 then nI (tE N i) else 0)) ∧ (¬ (up N S0 (eo N b k) = true ∧ i / 2 = eo N b k / 2 ∧ (f ≤ 10 ∨ f = 15 ∨ f = 16 ∨ f = 49)) → sq_ons N b S0 k S f i = S f i) := by
  unfold sq_ons
  by_cases c : up N S0 (eo N b k) = true
  · rw [if_pos c, zu_47 h47, clr2_f rfl]
    exact ⟨fun h => if_pos h.2, fun h => if_neg (fun x => h ⟨c, x⟩)⟩
  · rw [if_neg c]
    exact ⟨fun h => absurd h.1 c, fun _ => rfl⟩
theorem ons_f (h47 : f ≠ 47) : ((∃ p, p < n ∧ (up N S0 (eo N b p) = true ∧ i / 2 = eo N b p / 2 ∧ (f ≤ 10 ∨ f = 15 ∨ f = 16 ∨ f = 49))) → pfold (sq_ons N b S0) n S f i = (if f = 5 then nI (tE N i) else 0)) ∧ ((∀ p, p < n → ¬ (up N S0 (eo N b p) = true ∧ i / 2 = eo N b p / 2 ∧ (f ≤ 10 ∨ f = 15 ∨ f = 16 ∨ f = 49))) → pfold (sq_ons N b S0) n S f i = S f i) :=
  pf_pt (sq_ons N b S0) (fun p _ => up N S0 (eo N b p) = true ∧ i / 2 = eo N b p / 2 ∧ (f ≤ 10 ∨ f = 15 ∨ f = 16 ∨ f = 49)) _ (fun p S => on1_f h47) n S
theorem onC_eq : ∀ n, pfold (sq_on1 N b) n S = pfold (sq_ons N b S) n S
  | 0 => rfl
  | n + 1 => by
    show sq_on1 N b n (pfold (sq_on1 N b) n S) = sq_ons N b S n (pfold (sq_ons N b S) n S)
    rw [onC_eq n]
    have z : up N (pfold (sq_ons N b S) n S) (eo N b n) = up N S (eo N b n) := up_of (fun i => (ons_f (by omega)).2 (fun l _ h => by omega)) (fun i => (ons_f (by omega)).2 (fun l _ h => by omega))
    generalize pfold (sq_ons N b S) n S = Y at *
    unfold sq_on1 sq_ons
    rw [z]
theorem ons_47 : ((∃ p, p < n ∧ (up N S0 (eo N b p) = true ∧ a = bo N (fe (eo N b p)))) → pfold (sq_ons N b S0) n S 47 a = 1) ∧ ((∀ p, p < n → ¬ (up N S0 (eo N b p) = true ∧ a = bo N (fe (eo N b p)))) → pfold (sq_ons N b S0) n S 47 a = S 47 a) :=
  pf_pt (sq_ons N b S0) (fun p _ => up N S0 (eo N b p) = true ∧ a = bo N (fe (eo N b p))) 1 (fun p S => by
    unfold sq_ons
    by_cases c : up N S0 (eo N b p) = true
    · have z : sp_clr (fe (eo N b p)) (nI (tE N (fe (eo N b p)))) (sp_clr (eo N b p) (nI (tE N (eo N b p))) S) 47 a = S 47 a := by rw [clr_f, if_neg (by omega), clr_f, if_neg (by omega)]
      rw [if_pos c, zu_eq, z]
      exact ⟨fun h => if_pos h.2, fun h => if_neg (fun x => h ⟨c, x⟩)⟩
    · rw [if_neg c]
      exact ⟨fun h => absurd h.1 c, fun _ => rfl⟩) n S
theorem rons_f (h38 : f ≠ 38) : ((∃ l, l < n ∧ (atb N b l S0 = true ∧ i / 2 = l ∧ (f ≤ 10 ∨ f = 15 ∨ f = 16 ∨ f = 49))) → pfold (rq_ons N b S0) n S f i = (if f = 5 then nI (tE N i) else 0)) ∧ ((∀ l, l < n → ¬ (atb N b l S0 = true ∧ i / 2 = l ∧ (f ≤ 10 ∨ f = 15 ∨ f = 16 ∨ f = 49))) → pfold (rq_ons N b S0) n S f i = S f i) :=
  pf_pt (rq_ons N b S0) (fun l _ => atb N b l S0 = true ∧ i / 2 = l ∧ (f ≤ 10 ∨ f = 15 ∨ f = 16 ∨ f = 49)) _ (fun l S => by
    unfold rq_ons
    by_cases c : atb N b l S0 = true
    · rw [if_pos c, clr2_f (show 2 * l + 1 = fe (2 * l) by unfold fe; rw [if_pos (by omega)]), zu_38 h38, zu_38 h38, show 2 * l / 2 = l by omega]
      exact ⟨fun h => if_pos h.2, fun h => if_neg (fun x => h ⟨c, x⟩)⟩
    · rw [if_neg c]
      exact ⟨fun h => absurd h.1 c, fun _ => rfl⟩) n S
theorem rons_38 : ((∃ l, l < n ∧ (atb N b l S0 = true ∧ (a = bo N (2 * l) ∨ a = bo N (2 * l + 1)))) → pfold (rq_ons N b S0) n S 38 a = 1) ∧ ((∀ l, l < n → ¬ (atb N b l S0 = true ∧ (a = bo N (2 * l) ∨ a = bo N (2 * l + 1)))) → pfold (rq_ons N b S0) n S 38 a = S 38 a) :=
  pf_pt (rq_ons N b S0) (fun l _ => atb N b l S0 = true ∧ (a = bo N (2 * l) ∨ a = bo N (2 * l + 1))) 1 (fun l S => by
    unfold rq_ons
    by_cases c : atb N b l S0 = true
    · rw [if_pos c, clr_f, if_neg (by omega), clr_f, if_neg (by omega), zu_eq, zu_eq]
      by_cases c1 : a = bo N (2 * l + 1)
      · rw [if_pos c1]
        exact ⟨fun _ => rfl, fun h => absurd ⟨c, Or.inr c1⟩ h⟩
      · rw [if_neg c1]
        by_cases c2 : a = bo N (2 * l)
        · rw [if_pos c2]
          exact ⟨fun _ => rfl, fun h => absurd ⟨c, Or.inl c2⟩ h⟩
        · rw [if_neg c2]
          exact ⟨fun h => by rcases h.2 with x | x <;> contradiction, fun _ => rfl⟩
    · rw [if_neg c]
      exact ⟨fun h => absurd h.1 c, fun _ => rfl⟩) n S
theorem onR_eq : ∀ n, pfold (rq_on1 N b) n S = pfold (rq_ons N b S) n S
  | 0 => rfl
  | n + 1 => by
    show rq_on1 N b n (pfold (rq_on1 N b) n S) = rq_ons N b S n (pfold (rq_ons N b S) n S)
    rw [onR_eq n]
    have z : atb N b n (pfold (rq_ons N b S) n S) = atb N b n S := atb_of (fun i => (rons_f (by omega)).2 (fun l _ h => by omega)) (fun i => (rons_f (by omega)).2 (fun l _ h => by omega))
    generalize pfold (rq_ons N b S) n S = Y at *
    unfold rq_on1 rq_ons
    rw [z]
end zR32
