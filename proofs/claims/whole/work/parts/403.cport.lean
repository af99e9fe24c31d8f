/-! CLASS: states of ports -/
theorem rA_sA {μ : zM} {a j a' n : Nat} {v i : Int32} (h : a' ≠ a) : rA (sA μ a j v) a' n i = rA μ a' n i := by
  unfold rA
  congr 1; funext k
  rw [gA_sA, if_neg (fun x => h x.1)]
theorem rA_sF (μ : zM) (k a a' n : Nat) (v i : Int32) : rA (sF μ k a v) a' n i = rA μ a' n i := rfl
theorem rA_sB (μ : zM) (k a a' n : Nat) (v : Bool) (i : Int32) : rA (sB μ k a v) a' n i = rA μ a' n i := rfl
theorem rA_sZ (μ : zM) (k a a' n : Nat) (v : Bool) (i : Int32) : rA (sZ μ k a v) a' n i = rA μ a' n i := rfl
theorem iRemR40 {a : Nat} (ha : a < 2 ^ 31) : iRem (nI a) 40 = some (nI (a % 40)) := iRem_nI (d := 40) ha (by omega) (by omega)
theorem iRemR3 {a : Nat} (ha : a < 2 ^ 31) : iRem (nI a) 3 = some (nI (a % 3)) := iRem_nI (d := 3) ha (by omega) (by omega)
theorem iRemR6 {a : Nat} (ha : a < 2 ^ 31) : iRem (nI a) 6 = some (nI (a % 6)) := iRem_nI (d := 6) ha (by omega) (by omega)
theorem iRemR8 {a : Nat} (ha : a < 2 ^ 31) : iRem (nI a) 8 = some (nI (a % 8)) := iRem_nI (d := 8) ha (by omega) (by omega)
theorem iDivR6 {a : Nat} (ha : a < 2 ^ 31) : iDiv (nI a) 6 = some (nI (a / 6)) := iDiv_nI (d := 6) ha (by omega) (by omega)
theorem iDivR8 {a : Nat} (ha : a < 2 ^ 31) : iDiv (nI a) 8 = some (nI (a / 8)) := iDiv_nI (d := 8) ha (by omega) (by omega)
theorem iDivR3 {a : Nat} (ha : a < 2 ^ 31) : iDiv (nI a) 3 = some (nI (a / 3)) := iDiv_nI (d := 3) ha (by omega) (by omega)
theorem gA_ne {μ : zM} {a j a' j' : Nat} {v : Int32} (h : a' ≠ a) : gA (sA μ a j v) a' j' = gA μ a' j' := by rw [gA_sA, if_neg (fun x => h x.1)]
section zC3
variable {N : zN} {s w : Nat} {μ0 μ μ' : zM} {S S' : zS} {e b l : Nat}
theorem CS.v_p (h : CS N s w μ0 μ S) (hb : b < nB N) : gA μ (w + 5) b = nI (nP N b) := ((h.c_fr _ (h.wo (by omega))).2.2.2.1 _).trans (h.c_ct.2.1.2.1 b hb)
theorem CS.v_bo (h : CS N s w μ0 μ S) (he : e < 2 * nL N) : gA μ (w + 7) e = nI (bo N e) := ((h.c_fr _ (h.wo (by omega))).2.2.2.1 _).trans (h.c_ct.2.1.2.2.2.1 e he).1
theorem CS.v_po (h : CS N s w μ0 μ S) (he : e < 2 * nL N) : gA μ (w + 8) e = nI (po N e) := ((h.c_fr _ (h.wo (by omega))).2.2.2.1 _).trans (h.c_ct.2.1.2.2.2.1 e he).2.1
theorem CS.v_te (h : CS N s w μ0 μ S) (he : e < 2 * nL N) : gZ μ (w + 9) e = ceq (nI (tE N e)) 1 := by
  rw [← (h.c_ct.2.1.2.2.2.1 e he).2.2, bI_c]; exact (h.c_fr _ (h.wo (by omega))).2.2.2.2.1 _
theorem CS.v_cst (h : CS N s w μ0 μ S) (hl : l < nL N) : gA μ (w + 10) l = nI (cst N l) := ((h.c_fr _ (h.wo (by omega))).2.2.2.1 _).trans (h.c_ct.2.1.2.2.2.2.1 l hl).1
theorem CS.v_tks (h : CS N s w μ0 μ S) (hl : l < nL N) : gA μ (w + 11) l = nI (tks N l) := ((h.c_fr _ (h.wo (by omega))).2.2.2.1 _).trans (h.c_ct.2.1.2.2.2.2.1 l hl).2
/-- what touches the rows kept alone -/
theorem CS.k_any (h : CS N s w μ0 μ S) (hF : ∀ k a, k ≠ 815 ∧ k ≠ 816 → gF μ' k a = gF μ k a) (hF2 : ∀ k a, a ≠ s → gF μ' k a = gF μ k a) (hA : ∀ a j, a ≠ s + 8 → gA μ' a j = gA μ a j) (hB : ∀ k a, gB μ' k a = gB μ k a) (hZ : ∀ a j, gZ μ' a j = gZ μ a j) (hR : ∀ k a, gR μ' k a = gR μ k a) (hX : ∀ a j, gX μ' a j = gX μ a j) (hS : ∀ f i, f ≠ 45 → f ≠ 44 ∨ i ≠ 3 → S' f i = S f i) (hk : CK s μ' S') : CS N s w μ0 μ' S' := by
  refine ⟨fun i hi => by rw [hF _ _ (by omega), hS _ _ (by omega) (by omega)]; exact h.c_role i hi,
    fun i hi => by rw [hF _ _ (by omega), hS _ _ (by omega) (by omega)]; exact h.c_state i hi,
    fun i hi => by rw [hF _ _ (by omega), hS _ _ (by omega) (by omega)]; exact h.c_wait i hi,
    fun i hi => by rw [hF _ _ (by omega), hS _ _ (by omega) (by omega)]; exact h.c_chg i hi,
    fun i hi => by rw [hF _ _ (by omega), hS _ _ (by omega) (by omega)]; exact h.c_hage i hi,
    fun i hi => by rw [hF _ _ (by omega), hS _ _ (by omega) (by omega)]; exact h.c_life i hi,
    fun i hi => by rw [hF _ _ (by omega), hS _ _ (by omega) (by omega)]; exact h.c_was i hi,
    fun i hi => by rw [hF _ _ (by omega), hS _ _ (by omega) (by omega)]; exact h.c_hroot i hi,
    fun i hi => by rw [hF _ _ (by omega), hS _ _ (by omega) (by omega)]; exact h.c_hcost i hi,
    fun i hi => by rw [hF _ _ (by omega), hS _ _ (by omega) (by omega)]; exact h.c_hid i hi,
    fun i hi => by rw [hF _ _ (by omega), hS _ _ (by omega) (by omega)]; exact h.c_hport i hi,
    fun i hi => by rw [hB, hS _ _ (by omega) (by omega)]; exact h.c_agr i hi,
    fun i hi => by rw [hB, hS _ _ (by omega) (by omega)]; exact h.c_edge i hi,
    fun i hi => by rw [hB, hS _ _ (by omega) (by omega)]; exact h.c_spk i hi,
    fun i hi => by rw [hB, hS _ _ (by omega) (by omega)]; exact h.c_owes i hi,
    fun i hi => by rw [hB, hS _ _ (by omega) (by omega)]; exact h.c_answ i hi,
    fun i hi => by rw [hB, hS _ _ (by omega) (by omega)]; exact h.c_mark i hi,
    fun i hi => by rw [hB, hS _ _ (by omega) (by omega)]; exact h.c_holds i hi,
    fun i hi => by rw [hB, hS _ _ (by omega) (by omega)]; exact h.c_on i hi,
    fun i hi => by rw [hF _ _ (by omega), hS _ _ (by omega) (by omega)]; exact h.c_prio i hi,
    fun i hi => by rw [hB, hS _ _ (by omega) (by omega)]; exact h.c_old i hi,
    fun i hi => by rw [hF _ _ (by omega), hS _ _ (by omega) (by omega)]; exact h.c_rport i hi,
    fun i hi => by rw [hF _ _ (by omega), hS _ _ (by omega) (by omega)]; exact h.c_bage i hi,
    fun i hi => by rw [hF _ _ (by omega), hS _ _ (by omega) (by omega)]; exact h.c_short i hi,
    fun i hi => by rw [hF _ _ (by omega), hS _ _ (by omega) (by omega)]; exact h.c_root i hi,
    fun i hi => by rw [hF _ _ (by omega), hS _ _ (by omega) (by omega)]; exact h.c_cost i hi,
    fun i hi => by rw [hF _ _ (by omega), hS _ _ (by omega) (by omega)]; exact h.c_cid i hi,
    fun i hi => by rw [hF _ _ (by omega), hS _ _ (by omega) (by omega)]; exact h.c_cport i hi,
    fun i hi => by rw [hF _ _ (by omega), hS _ _ (by omega) (by omega)]; exact h.c_froot i hi,
    fun i hi => by rw [hF _ _ (by omega), hS _ _ (by omega) (by omega)]; exact h.c_fcost i hi,
    fun i hi => by rw [hF _ _ (by omega), hS _ _ (by omega) (by omega)]; exact h.c_fid i hi,
    fun i hi => by rw [hF _ _ (by omega), hS _ _ (by omega) (by omega)]; exact h.c_fport i hi,
    fun i hi => by rw [hZ, hS _ _ (by omega) (by omega)]; exact h.c_whole i hi,
    fun i hi => by rw [hA _ _ (by omega), hS _ _ (by omega) (by omega)]; exact h.c_home i hi,
    fun i hi => by rw [hA _ _ (by omega), hS _ _ (by omega) (by omega)]; exact h.c_la i hi,
    fun i hi => by rw [hA _ _ (by omega), hS _ _ (by omega) (by omega)]; exact h.c_lg i hi,
    fun i hi => by rw [hZ, hS _ _ (by omega) (by omega)]; exact h.c_tch i hi,
    fun i hi => by rw [hF _ _ (by omega), hS _ _ (by omega) (by omega)]; exact h.c_arr i hi,
    fun i hi => by rw [hF _ _ (by omega), hS _ _ (by omega) (by omega)]; exact h.c_mage i hi,
    fun i hi => by rw [hF _ _ (by omega), hS _ _ (by omega) (by omega)]; exact h.c_bits i hi,
    fun i hi => by rw [hF _ _ (by omega), hS _ _ (by omega) (by omega)]; exact h.c_mroot i hi,
    fun i hi => by rw [hF _ _ (by omega), hS _ _ (by omega) (by omega)]; exact h.c_mcost i hi,
    fun i hi => by rw [hF _ _ (by omega), hS _ _ (by omega) (by omega)]; exact h.c_mid i hi,
    fun i hi => by rw [hF _ _ (by omega), hS _ _ (by omega) (by omega)]; exact h.c_mport i hi,
    fun i hi => by rw [hB, hS _ _ (by omega) (by omega)]; exact h.c_there i hi,
    fun i hi => by rw [hB, hS _ _ (by omega) (by omega)]; exact h.c_reply i hi,
    by rw [hF _ _ (by omega), hS _ _ (by omega) (by omega)]; exact h.c_step, by rw [hF _ _ (by omega), hS _ _ (by omega) (by omega)]; exact h.c_flu, by rw [hB, hS _ _ (by omega) (by omega)]; exact h.c_beg,
    fun i hi => by rw [hF _ _ (by omega)]; exact h.c_num i hi, by rw [hR]; exact h.c_wir, hk,
    ⟨fun b h1 hb hh => by rw [hS _ _ (by omega) (by omega)]; exact h.c_so.1 b h1 hb hh, fun h1 hh => by rw [hS _ _ (by omega) (by omega)]; exact h.c_so.2 h1 hh⟩, h.c_ct,
    fun a ha => ⟨fun k => (hF2 _ _ (by omega)).trans ((h.c_fr a ha).1 k), fun k => (hB _ _).trans ((h.c_fr a ha).2.1 k), fun k => (hR _ _).trans ((h.c_fr a ha).2.2.1 k), fun j => (hA _ _ (by omega)).trans ((h.c_fr a ha).2.2.2.1 j), fun j => (hZ _ _).trans ((h.c_fr a ha).2.2.2.2.1 j), fun j => (hX _ _).trans ((h.c_fr a ha).2.2.2.2.2 j)⟩⟩
/-- how many rows are kept -/
def tN (S : zS) : Nat := (S 44 3).toNatClampNeg
def sp_row (N : zN) (e : Nat) (v : Int32) (S : zS) : zS :=
  if tN S = 40 then fun f i => if f = 45 then (if i < 156 then S 45 (i + 4) else if i = 156 then S 44 0 else if i = 157 then nI (bo N e) else if i = 158 then nI (po N e) else if i = 159 then v else S 45 i) else S f i
  else fun f i => if f = 45 then (if i = 4 * tN S then S 44 0 else if i = 4 * tN S + 1 then nI (bo N e) else if i = 4 * tN S + 2 then nI (po N e) else if i = 4 * tN S + 3 then v else S 45 i) else if f = 44 ∧ i = 3 then nI (tN S + 1) else S f i
def sp_enter (N : zN) (e : Nat) (v : Int32) (S : zS) : zS := if ceq (S 46 0) 1 = true then zu S 1 e v else sp_row N e v (zu S 1 e v)
theorem CK.tn (h : CK s μ S) : ∃ f, f < 40 ∧ tN S ≤ 40 ∧ gF μ 815 s = nI f ∧ gF μ 816 s = nI (tN S) ∧ S 44 3 = nI (tN S) ∧ ∀ k c, k < tN S → c < 4 → gA μ (s + 8) ((f + k) % 40 * 4 + c) = S 45 (4 * k + c) := by
  obtain ⟨f, t, h1, h2, h3, h4, h5, h6⟩ := h
  have e : tN S = t := by unfold tN; rw [h5, nI_clamp (by omega)]
  rw [e]
  exact ⟨f, h1, h2, h3, h4, h5, h6⟩
theorem C_row (h : CS N s w μ0 μ S) {v : Int32} {f : Nat} (hf : f < 40) (hf2 : gF μ 815 s = nI f) (k1 : Option zM) (hk1 : k1 = if tN S = 40 then some (sF μ 815 s (nI ((f + 1) % 40))) else some (sF μ 816 s (nI (tN S + 1)))) : ∃ μ1, k1 = some μ1 ∧ CS N s w μ0 (sA (sA (sA (sA μ1 (s + 8) ((f + tN S) % 40 * 4) (S 44 0)) (s + 8) ((f + tN S) % 40 * 4 + 1) (nI (bo N e))) (s + 8) ((f + tN S) % 40 * 4 + 2) (nI (po N e))) (s + 8) ((f + tN S) % 40 * 4 + 3) v) (sp_row N e v S) := by
  obtain ⟨f0, f1, f2, f3, f4, f5, f6⟩ := h.c_kept.tn
  have ff : f0 = f := (nI_eq (by omega) (by omega)).mp (f3.symm.trans hf2)
  subst ff
  by_cases ht : tN S = 40
  · rw [if_pos ht] at hk1
    refine ⟨_, hk1, h.k_any ?_ ?_ ?_ (fun _ _ => rfl) (fun _ _ => rfl) (fun _ _ => rfl) (fun _ _ => rfl) ?_ ?_⟩
    · intro k a hk; simp only [gF_sA, gF_sF]; rw [if_neg (by omega)]
    · intro k a hk; simp only [gF_sA, gF_sF]; rw [if_neg (by omega)]
    · intro a j ha; simp only [gA_sA, gA_sF]; rw [if_neg (by omega), if_neg (by omega), if_neg (by omega), if_neg (by omega)]
    · intro g i h1 h2; unfold sp_row; rw [if_pos ht, if_neg h1]
    · refine ⟨(f0 + 1) % 40, 40, by omega, by omega, ?_, ?_, ?_, ?_⟩
      · rw [gF_sA, gF_sA, gF_sA, gF_sA, gF_sF, if_pos ⟨rfl, rfl⟩]
      · simp only [gF_sA, gF_sF]; rw [if_neg (by omega), f4, ht]
      · unfold sp_row; rw [if_pos ht, if_neg (by omega), f5, ht]
      · intro k c hk hc
        unfold sp_row
        rw [if_pos ht, if_pos rfl]
        rw [ht, gA_sA, gA_sA, gA_sA, gA_sA, gA_sF]
        by_cases h39 : k = 39
        · rw [if_neg (show ¬ 4 * k + c < 156 by omega)]
          have hc4 : c = 0 ∨ c = 1 ∨ c = 2 ∨ c = 3 := by omega
          rcases hc4 with c0 | c0 | c0 | c0
          · rw [if_neg (by omega), if_neg (by omega), if_neg (by omega), if_pos (by omega), if_pos (by omega)]
          · rw [if_neg (by omega), if_neg (by omega), if_pos (by omega), if_neg (by omega), if_pos (by omega)]
          · rw [if_neg (by omega), if_pos (by omega), if_neg (by omega), if_neg (by omega), if_pos (by omega)]
          · rw [if_pos (by omega), if_neg (by omega), if_neg (by omega), if_neg (by omega), if_pos (by omega)]
        · rw [if_neg (by omega), if_neg (by omega), if_neg (by omega), if_neg (by omega), if_pos (by omega)]
          have := f6 (k + 1) c (by omega) hc
          rw [show 4 * k + c + 4 = 4 * (k + 1) + c by omega, ← this]
          congr 1; omega
  · rw [if_neg ht] at hk1
    refine ⟨_, hk1, h.k_any ?_ ?_ ?_ (fun _ _ => rfl) (fun _ _ => rfl) (fun _ _ => rfl) (fun _ _ => rfl) ?_ ?_⟩
    · intro k a hk; simp only [gF_sA, gF_sF]; rw [if_neg (by omega)]
    · intro k a hk; simp only [gF_sA, gF_sF]; rw [if_neg (by omega)]
    · intro a j ha; simp only [gA_sA, gA_sF]; rw [if_neg (by omega), if_neg (by omega), if_neg (by omega), if_neg (by omega)]
    · intro g i h1 h2; unfold sp_row; rw [if_neg ht, if_neg h1, if_neg (by omega)]
    · refine ⟨f0, tN S + 1, by omega, by omega, ?_, ?_, ?_, ?_⟩
      · simp only [gF_sA, gF_sF]; rw [if_neg (by omega), f3]
      · rw [gF_sA, gF_sA, gF_sA, gF_sA, gF_sF, if_pos ⟨rfl, rfl⟩]
      · unfold sp_row; rw [if_neg ht, if_neg (by omega), if_pos ⟨rfl, rfl⟩]
      · intro k c hk hc
        unfold sp_row
        rw [if_neg ht, if_pos rfl]
        rw [gA_sA, gA_sA, gA_sA, gA_sA, gA_sF]
        by_cases h39 : k = tN S
        · have hc4 : c = 0 ∨ c = 1 ∨ c = 2 ∨ c = 3 := by omega
          rcases hc4 with c0 | c0 | c0 | c0
          · rw [if_neg (by omega), if_neg (by omega), if_neg (by omega), if_pos (by omega), if_pos (by omega)]
          · rw [if_neg (by omega), if_neg (by omega), if_pos (by omega), if_neg (by omega), if_pos (by omega)]
          · rw [if_neg (by omega), if_pos (by omega), if_neg (by omega), if_neg (by omega), if_pos (by omega)]
          · rw [if_pos (by omega), if_neg (by omega), if_neg (by omega), if_neg (by omega), if_pos (by omega)]
        · rw [if_neg (by omega), if_neg (by omega), if_neg (by omega), if_neg (by omega), if_neg (by omega), if_neg (by omega), if_neg (by omega), if_neg (by omega)]
          exact f6 k c (by omega) hc
theorem C_enter (h : CS N s w μ0 μ S) {v : Int32} (he : e < 2 * nL N) : ∃ μ', f8_enter s (nI e) v μ = some μ' ∧ CS N s w μ0 μ' (sp_enter N e v S) := by
  have nw := h.nw
  have e28 := nw.e28 he
  have h1 := h.w_state e28 (v := v)
  unfold f8_enter sp_enter
  simp (disch := omega) only [obs, pk_mul, nI_add, nI_1, mulR2, mulR3, mulR4, mulR6, mulR7, mulR8, mulR10, mulR12, mulR16, mulQ2, mulQ3, mulQ4, mulQ6, mulQ7, mulQ8, mulQ10, mulQ12, mulQ16, mulQ18, mulQ48, addR2, addR3, addR4, addR5, addR6, addR7, addR8, addR9, addR10, addR16, addR20, addQ4, addQ100, addQ964, addQ978, addQ986, addQ1114, addQ1274, cltR2, cltR3, cltR4, cltR6, cltR8, cltR10, cltR13, cltR14, cltR18, cltR28, cltR40, cltR62, cltR64, cltR84, cltR96, ceqR0, ceqR1, ceqR2, ceqR3, ceqR5, ceqR6, ceqR8, ceqR14, ceqR39, ceqR40, ceqR64, ceqR13, clt_nI, ceq_nI, rI_nI, rA_nI, wA_nI, rZ_nI, wZ_nI, wF, wB, wR, zand, zor, zandn, zorn, ozb2, ozb3, ozb4, decide_true, decide_false, Nat.lt_irrefl, Bool.false_eq_true, ↓reduceIte, h1.r_beg]
  show ∃ μ', (if ceq (S 46 0) 1 = true then _ else _) = _ ∧ _
  by_cases c : ceq (S 46 0) 1 = true
  · simp only [if_pos c]
    exact ⟨_, rfl, h1⟩
  · simp only [if_neg c]
    obtain ⟨f, f1, f2, f3, f4, f5, f6⟩ := h1.c_kept.tn
    obtain ⟨μ2, e2, h2⟩ := C_row (e := e) (v := v) h1 f1 f3 (if tN (zu S 1 e v) = 40 then some (sF (sF μ 406 (s + 37 + 2 * e) v) 815 s (nI ((f + 1) % 40))) else some (sF (sF μ 406 (s + 37 + 2 * e) v) 816 s (nI (tN (zu S 1 e v) + 1)))) rfl
    refine ⟨_, ?_, h2⟩
    have hw := h.c_ct.2.2
    have st := h1.c_step
    have e3 : (if tN (zu S 1 e v) = 40 then some (sF (sF μ 406 (s + 37 + 2 * e) v) 815 s (nI ((f + 1) % 40))) else some (sF (sF μ 406 (s + 37 + 2 * e) v) 816 s (nI (tN (zu S 1 e v) + 1)))) = some μ2 := e2
    have hm : gR μ2 812 s = some w ∧ gF μ2 813 s = S 44 0 ∧ gA μ2 (w + 7) e = nI (bo N e) ∧ gA μ2 (w + 8) e = nI (po N e) := by
      split at e3
      · cases e3; exact ⟨h1.c_wir, st, h1.v_bo he, h1.v_po he⟩
      · cases e3; exact ⟨h1.c_wir, st, h1.v_bo he, h1.v_po he⟩
    obtain ⟨m1, m2, m3, m4⟩ := hm
    have ev : (if decide (tN (zu S 1 e v) = 40) = true then some (sF (sF μ 406 (s + 37 + 2 * e) v) 815 s (nI ((f + 1) % 40))) else some (sF (sF μ 406 (s + 37 + 2 * e) v) 816 s (nI (tN (zu S 1 e v) + 1)))) = some μ2 := by
      rw [← e3]; simp only [decide_eq_true_eq]
    simp (disch := omega) only [f3, f4, iRemR40, obs, pk_mul, nI_add, nI_1, mulR2, mulR3, mulR4, mulR6, mulR7, mulR8, mulR10, mulR12, mulR16, mulQ2, mulQ3, mulQ4, mulQ6, mulQ7, mulQ8, mulQ10, mulQ12, mulQ16, mulQ18, mulQ48, addR2, addR3, addR4, addR5, addR6, addR7, addR8, addR9, addR10, addR16, addR20, addQ4, addQ100, addQ964, addQ978, addQ986, addQ1114, addQ1274, cltR2, cltR3, cltR4, cltR6, cltR8, cltR10, cltR13, cltR14, cltR18, cltR28, cltR40, cltR62, cltR64, cltR84, cltR96, ceqR0, ceqR1, ceqR2, ceqR3, ceqR5, ceqR6, ceqR8, ceqR14, ceqR39, ceqR40, ceqR64, ceqR13, clt_nI, ceq_nI, rI_nI, rA_nI, wA_nI, rZ_nI, wZ_nI, wF, wB, wR, zand, zor, zandn, zorn, ozb2, ozb3, ozb4, decide_true, decide_false, Nat.lt_irrefl, Bool.false_eq_true, ↓reduceIte, ev, m1, m2, gR_sA, gA_ne, m3, m4]
    rfl
end zC3
