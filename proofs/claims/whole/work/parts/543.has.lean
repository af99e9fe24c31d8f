/-! QUESTIONS, both: has, letter, kept -/
def K0 (N : zN) (S : zS) (st x m w : Nat) (μ ν : zM) : Prop := CS N (x + 51) w μ μ S ∧ gR μ 1111 x = some w ∧ (w = x + 23 ∧ gR μ 1112 x = some (x + 36) ∨ w = x + 36 ∧ gR μ 1112 x = some (x + 23)) ∧ M0 N m 0 ν S ∧ INV N st S ∧ S 44 0 = nI st ∧ st ≤ 9999 ∧ T0 N S ∧ S 46 0 = 0
section zJ3
variable {N : zN} {x m w s B st a b i n t q o l h : Nat} {μ μ0 ν0 ν : zM} {S : zS} {k c r r' v : Int32}
theorem K0.cs (h : K0 N S st x m w μ ν) : CS N (x + 51) w μ μ S := h.1
theorem K0.wr (h : K0 N S st x m w μ ν) : gR μ 1111 x = some w := h.2.1
theorem K0.m0 (h : K0 N S st x m w μ ν) : M0 N m 0 ν S := h.2.2.2.1
theorem K0.inv (h : K0 N S st x m w μ ν) : INV N st S := h.2.2.2.2.1
theorem K0.s0 (h : K0 N S st x m w μ ν) : S 44 0 = nI st := h.2.2.2.2.2.1
theorem K0.st9 (h : K0 N S st x m w μ ν) : st ≤ 9999 := h.2.2.2.2.2.2.1
theorem K0.t0 (h : K0 N S st x m w μ ν) : T0 N S := h.2.2.2.2.2.2.2.1
theorem K0.bg (h : K0 N S st x m w μ ν) : S 46 0 = 0 := h.2.2.2.2.2.2.2.2
theorem K0.nw (h : K0 N S st x m w μ ν) : NW N := h.1.nw
theorem K0.ww (h : K0 N S st x m w μ ν) : w = x + 23 ∨ w = x + 36 := h.2.2.1.elim (fun y => Or.inl y.1) (fun y => Or.inr y.1)
theorem rngT (hn : n < 2 ^ 31) (hi : i < n) : (!(clt (nI i) 0) && clt (nI i) (nI n)) = true := by
  rw [show (0 : Int32) = nI 0 from rfl, clt_nI (by omega) (by omega), clt_nI (by omega) (by omega), decide_eq_false (by omega), decide_eq_true hi]; rfl
theorem rngC (n : Nat) (hn : n < 2 ^ 31) (c : Int32) : (∃ c', c' < n ∧ c = nI c') ∨ ((∀ j, j < n → ceq c (nI j) = false) ∧ (!(clt c 0) && clt c (nI n)) = false) := by
  cases h1 : clt c 0 with
  | true =>
    refine Or.inr ⟨fun j hj => ?_, rfl⟩
    cases h2 : ceq c (nI j) with
    | false => rfl
    | true =>
      rw [ceq_of h2, show (0 : Int32) = nI 0 from rfl, clt_nI (by omega) (by omega)] at h1
      exact absurd (of_decide_eq_true h1) (by omega)
  | false =>
    cases h2 : clt c (nI n) with
    | true =>
      obtain ⟨j, hj, rfl⟩ := rI_of h1 h2 hn
      exact Or.inl ⟨j, hj, rfl⟩
    | false =>
      refine Or.inr ⟨fun j hj => ?_, rfl⟩
      cases h3 : ceq c (nI j) with
      | false => rfl
      | true =>
        rw [ceq_of h3, clt_nI (by omega) (by omega)] at h2
        exact absurd hj (of_decide_eq_false h2)
theorem C_isB (h : CS N s w μ0 μ S) : f10_isBridge w v μ = some (!(clt v 0) && clt v (nI (nB N))) := by unfold f10_isBridge; rw [h.w_b, obs]
theorem C_isL (h : CS N s w μ0 μ S) : f10_isLink w v μ = some (!(clt v 0) && clt v (nI (nL N))) := by unfold f10_isLink; rw [h.w_l, obs]
theorem C_isH (h : CS N s w μ0 μ S) : f10_isHost w v μ = some (!(clt v 0) && clt v (nI (nH N))) := by unfold f10_isHost; rw [h.w_h, obs]
theorem R_isB (h : MS N m B ν0 ν S) : f12_isBridge m v ν = some (!(clt v 0) && clt v (nI (nB N))) := by have := h.nw.b8; unfold f12_isBridge; rw [h.g_b, isIn0 (by omega), obs]
theorem R_isL (h : MS N m B ν0 ν S) : f12_isLink m v ν = some (!(clt v 0) && clt v (nI (nL N))) := by have := h.nw.l14; unfold f12_isLink; rw [h.g_l, isIn0 (by omega), obs]
theorem R_isH (h : MS N m B ν0 ν S) : f12_isHost m v ν = some (!(clt v 0) && clt v (nI (nH N))) := by have := h.nw.h8; unfold f12_isHost; rw [h.g_h, isIn0 (by omega), obs]
/-- a bridge and one of its ports, or none -/
theorem isP_in (h : CS N s w μ0 μ S) (q : MS N m B ν0 ν S) (b p : Int32) : (∃ b' p', b' < nB N ∧ p' < nP N b' ∧ b = nI b' ∧ p = nI p' ∧ f10_isPort w b p μ = some true ∧ f12_isPort m b p ν = some true) ∨ (f10_isPort w b p μ = some false ∧ f12_isPort m b p ν = some false) := by
  have nw := h.nw
  have b8 := nw.b8
  unfold f10_isPort f12_isPort
  rw [C_isB h, R_isB q]
  rcases rngC (nB N) (by omega) b with ⟨b', hb, rfl⟩ | ⟨_, e⟩
  · have p6 := nw.p6 hb
    rw [rngT (by omega) hb, h.w_p hb, q.g_p hb]
    simp only [obs, ↓reduceIte]
    rw [isIn0 (by omega)]
    rcases rngC (nP N b') (by omega) p with ⟨p', hp, rfl⟩ | ⟨_, e⟩
    · have e2 := rngT (n := nP N b') (by omega) hp
      have e3 : clt (nI p') 0 = false := by rw [show (0 : Int32) = nI 0 from rfl, clt_nI (by omega) (by omega), decide_eq_false (by omega)]
      have e4 : clt (nI p') (nI (nP N b')) = true := by rw [clt_nI (by omega) (by omega), decide_eq_true hp]
      refine Or.inl ⟨b', p', hb, hp, rfl, rfl, ?_, ?_⟩
      · rw [e3, e4]; rfl
      · rw [e2]; rfl
    · refine Or.inr ⟨?_, ?_⟩
      · revert e; cases clt p 0 <;> cases clt p (nI (nP N b')) <;> intro e <;> first | rfl | exact absurd e (by decide)
      · rw [e]; rfl
  · rw [e]; exact Or.inr ⟨rfl, rfl⟩
theorem q_has0 (h : K0 N S st x m w μ ν) (h10 : gF μ 703 (x + 17) = gF ν 1252 m) (h11 : gF μ 1115 x = gF ν 1245 m) (h12 : gF μ 1117 x = gF ν 1264 m) : ∃ r, f11_has x c μ = some r ∧ f12_has m c ν = some (r, sF ν 1244 m 0) := by
  have cs := h.cs
  have q := h.m0.b0
  have nw := h.nw
  have b8 := nw.b8; have l14 := nw.l14
  have e10 : gF (sF ν 1244 m 0) 1252 m = gF ν 1252 m := by rw [gF_sF, if_neg (by omega)]
  have e11 : gF (sF ν 1244 m 0) 1245 m = gF ν 1245 m := by rw [gF_sF, if_neg (by omega)]
  have e12 : gF (sF ν 1244 m 0) 1264 m = gF ν 1264 m := by rw [gF_sF, if_neg (by omega)]
  unfold f11_has f12_has
  rw [show wF ν 1244 m 0 = some (sF ν 1244 m 0) from rfl, obs]
  generalize sF ν 1244 m 0 = ν1 at q e10 e11 e12 ⊢
  have i0 : f12_its m 0 ν1 = some (S 44 0) := (q.its (k := 0) (by omega)).trans (congrArg some q.1.2.2.2.2.2.2.2.2.1.1)
  have i1 : f12_its m 1 ν1 = some (S 44 1) := (q.its (k := 1) (by omega)).trans (congrArg some q.1.2.2.2.2.2.2.2.2.1.2)
  have i3 : f12_its m 3 ν1 = some (S 44 3) := by
    obtain ⟨t, _, e1, e2⟩ := q.1.2.2.2.2.2.2.2.2.2.1
    rw [(e2 (by rw [h.bg]; decide)).1]
    exact (q.its (k := 3) (by omega)).trans (congrArg some e1)
  obtain ⟨f, t, _, _, _, k4, k5, _⟩ := cs.c_kept
  rcases rngC 13 (by omega) c with ⟨c', hc, rfl⟩ | ⟨hc, _⟩
  · have : c' = 0 ∨ c' = 1 ∨ c' = 2 ∨ c' = 3 ∨ c' = 4 ∨ c' = 5 ∨ c' = 6 ∨ c' = 7 ∨ c' = 8 ∨ c' = 9 ∨ c' = 10 ∨ c' = 11 ∨ c' = 12 := by omega
    rcases this with rfl | rfl | rfl | rfl | rfl | rfl | rfl | rfl | rfl | rfl | rfl | rfl | rfl
    · exact ⟨_, by rw [if_pos (by decide), h.wr, obs, cs.w_b], by rw [if_pos (by decide), q.g_b]⟩
    · exact ⟨_, by rw [if_neg (by decide), if_pos (by decide), h.wr, obs, cs.w_l], by rw [if_neg (by decide), if_pos (by decide), q.g_l]⟩
    · exact ⟨_, by rw [if_neg (by decide), if_neg (by decide), if_pos (by decide), h.wr, obs, cs.w_h], by rw [if_neg (by decide), if_neg (by decide), if_pos (by decide), q.g_h]⟩
    · exact ⟨_, by rw [if_neg (by decide), if_neg (by decide), if_neg (by decide), if_pos (by decide), cs.c_step], by rw [if_neg (by decide), if_neg (by decide), if_neg (by decide), if_pos (by decide), i0, obs]⟩
    · exact ⟨_, by rw [if_neg (by decide), if_neg (by decide), if_neg (by decide), if_neg (by decide), if_pos (by decide), C_cntMl cs, obs], by rw [if_neg (by decide), if_neg (by decide), if_neg (by decide), if_neg (by decide), if_pos (by decide), R_cntMl q h.inv.2.1, obs]⟩
    · exact ⟨_, by rw [if_neg (by decide), if_neg (by decide), if_neg (by decide), if_neg (by decide), if_neg (by decide), if_pos (by decide), C_cntOn cs, obs], by rw [if_neg (by decide), if_neg (by decide), if_neg (by decide), if_neg (by decide), if_neg (by decide), if_pos (by decide), show f12_bridgeAt 0 0 ν1 = some (nI 4) from rfl, obs, q.g_b, show (12 : Int32) = nI 12 from rfl, R_cntOf (g := fun b => S 20 b) q (by omega) (by omega) (fun b hb => ⟨show rw_ m 0 ν1 (4 + 12 * b + 0) = S 20 b from q.1.2.2.1 b 0 hb (by omega) (fun z => absurd z (by omega)), (q.1.2.2.2.1 b hb).1⟩), obs]⟩
    · exact ⟨_, by rw [if_neg (by decide), if_neg (by decide), if_neg (by decide), if_neg (by decide), if_neg (by decide), if_neg (by decide), if_pos (by decide), C_cntWh cs, obs], by rw [if_neg (by decide), if_neg (by decide), if_neg (by decide), if_neg (by decide), if_neg (by decide), if_neg (by decide), if_pos (by decide), q.g_l, show (964 : Int32) = nI 964 from rfl, show f12_countOf m (nI 964) (nI (nL N)) 1 ν1 = f12_countOf m (nI 964) (nI (nL N)) (nI 1) ν1 from rfl, R_cntOf (g := fun l => S 40 l) q (by omega) (by omega) (fun l hl => by rw [Nat.one_mul]; exact q.1.2.2.2.2.1 l hl), obs]⟩
    · exact ⟨_, by rw [if_neg (by decide), if_neg (by decide), if_neg (by decide), if_neg (by decide), if_neg (by decide), if_neg (by decide), if_neg (by decide), if_pos (by decide), C_cntOpen cs, obs], by rw [if_neg (by decide), if_neg (by decide), if_neg (by decide), if_neg (by decide), if_neg (by decide), if_neg (by decide), if_neg (by decide), if_pos (by decide), R_cntOpen q, obs]⟩
    · exact ⟨_, by rw [if_neg (by decide), if_neg (by decide), if_neg (by decide), if_neg (by decide), if_neg (by decide), if_neg (by decide), if_neg (by decide), if_neg (by decide), if_pos (by decide), cs.c_flu], by rw [if_neg (by decide), if_neg (by decide), if_neg (by decide), if_neg (by decide), if_neg (by decide), if_neg (by decide), if_neg (by decide), if_neg (by decide), if_pos (by decide), i1, obs]⟩
    · exact ⟨_, by rw [if_neg (by decide), if_neg (by decide), if_neg (by decide), if_neg (by decide), if_neg (by decide), if_neg (by decide), if_neg (by decide), if_neg (by decide), if_neg (by decide), if_pos (by decide), k4, ← k5], by rw [if_neg (by decide), if_neg (by decide), if_neg (by decide), if_neg (by decide), if_neg (by decide), if_neg (by decide), if_neg (by decide), if_neg (by decide), if_neg (by decide), if_pos (by decide), i3, obs]⟩
    · exact ⟨_, by rw [if_neg (by decide), if_neg (by decide), if_neg (by decide), if_neg (by decide), if_neg (by decide), if_neg (by decide), if_neg (by decide), if_neg (by decide), if_neg (by decide), if_neg (by decide), if_pos (by decide), h10], by rw [if_neg (by decide), if_neg (by decide), if_neg (by decide), if_neg (by decide), if_neg (by decide), if_neg (by decide), if_neg (by decide), if_neg (by decide), if_neg (by decide), if_neg (by decide), if_pos (by decide), e10]⟩
    · exact ⟨_, by rw [if_neg (by decide), if_neg (by decide), if_neg (by decide), if_neg (by decide), if_neg (by decide), if_neg (by decide), if_neg (by decide), if_neg (by decide), if_neg (by decide), if_neg (by decide), if_neg (by decide), if_pos (by decide), h11], by rw [if_neg (by decide), if_neg (by decide), if_neg (by decide), if_neg (by decide), if_neg (by decide), if_neg (by decide), if_neg (by decide), if_neg (by decide), if_neg (by decide), if_neg (by decide), if_neg (by decide), if_pos (by decide), e11]⟩
    · exact ⟨_, by rw [if_neg (by decide), if_neg (by decide), if_neg (by decide), if_neg (by decide), if_neg (by decide), if_neg (by decide), if_neg (by decide), if_neg (by decide), if_neg (by decide), if_neg (by decide), if_neg (by decide), if_neg (by decide), if_pos (by decide), h12], by rw [if_neg (by decide), if_neg (by decide), if_neg (by decide), if_neg (by decide), if_neg (by decide), if_neg (by decide), if_neg (by decide), if_neg (by decide), if_neg (by decide), if_neg (by decide), if_neg (by decide), if_neg (by decide), if_pos (by decide), e12]⟩
  · have z : ∀ j, j < 13 → ¬ ceq c (nI j) = true := fun j hj => by rw [hc j hj]; decide
    exact ⟨-1, by rw [if_neg (show ¬ ceq c 0 = true from z 0 (by omega)), if_neg (show ¬ ceq c 1 = true from z 1 (by omega)), if_neg (show ¬ ceq c 2 = true from z 2 (by omega)), if_neg (show ¬ ceq c 3 = true from z 3 (by omega)), if_neg (show ¬ ceq c 4 = true from z 4 (by omega)), if_neg (show ¬ ceq c 5 = true from z 5 (by omega)), if_neg (show ¬ ceq c 6 = true from z 6 (by omega)), if_neg (show ¬ ceq c 7 = true from z 7 (by omega)), if_neg (show ¬ ceq c 8 = true from z 8 (by omega)), if_neg (show ¬ ceq c 9 = true from z 9 (by omega)), if_neg (show ¬ ceq c 10 = true from z 10 (by omega)), if_neg (show ¬ ceq c 11 = true from z 11 (by omega)), if_neg (show ¬ ceq c 12 = true from z 12 (by omega))], by rw [if_neg (show ¬ ceq c 0 = true from z 0 (by omega)), if_neg (show ¬ ceq c 1 = true from z 1 (by omega)), if_neg (show ¬ ceq c 2 = true from z 2 (by omega)), if_neg (show ¬ ceq c 3 = true from z 3 (by omega)), if_neg (show ¬ ceq c 4 = true from z 4 (by omega)), if_neg (show ¬ ceq c 5 = true from z 5 (by omega)), if_neg (show ¬ ceq c 6 = true from z 6 (by omega)), if_neg (show ¬ ceq c 7 = true from z 7 (by omega)), if_neg (show ¬ ceq c 8 = true from z 8 (by omega)), if_neg (show ¬ ceq c 9 = true from z 9 (by omega)), if_neg (show ¬ ceq c 10 = true from z 10 (by omega)), if_neg (show ¬ ceq c 11 = true from z 11 (by omega)), if_neg (show ¬ ceq c 12 = true from z 12 (by omega))]⟩
theorem q_kept0 (h : K0 N S st x m w μ ν) : ∃ r, f11_kept x k c μ = some r ∧ f12_kept m k c ν = some (r, sF ν 1244 m 0) := by
  have cs := h.cs
  have q := h.m0.b0
  obtain ⟨f, t, f40, t40, k3, k4, k5, k6⟩ := cs.c_kept
  unfold f11_kept f12_kept
  rw [show wF ν 1244 m 0 = some (sF ν 1244 m 0) from rfl, obs]
  generalize sF ν 1244 m 0 = ν1 at q ⊢
  obtain ⟨t', t40', e1, e2⟩ := q.1.2.2.2.2.2.2.2.2.2.1
  obtain ⟨e2, e3⟩ := e2 (by rw [h.bg]; decide)
  have et : t' = t := nI_inj (by omega) (by omega) (e2.symm.trans k5)
  subst et
  have i3 : f12_its m 3 ν1 = some (nI t') := (q.its (k := 3) (by omega)).trans (congrArg some e1)
  rw [i3, obs, isIn0 (by omega), obs, obs, k4, show f12_isIn c 0 3 ν1 = some (!(clt c 0) && clt c (nI 4)) from isIn0 (n := 4) (by omega), show (4 : Int32) = nI 4 from rfl]
  rcases rngC t' (by omega) k with ⟨k', hk, rfl⟩ | ⟨_, e⟩
  · rw [rngT (by omega) hk, if_pos rfl, obs, obs]
    have a1 : clt (nI k') 0 = false := by rw [show (0 : Int32) = nI 0 from rfl, clt_nI (by omega) (by omega), decide_eq_false (by omega)]
    have a2 : clt (nI k') (nI t') = true := by rw [clt_nI (by omega) (by omega), decide_eq_true hk]
    rw [a1, a2]
    rcases rngC 4 (by omega) c with ⟨c', hc, rfl⟩ | ⟨_, e⟩
    · have a3 : clt (nI c') 0 = false := by rw [show (0 : Int32) = nI 0 from rfl, clt_nI (by omega) (by omega), decide_eq_false (by omega)]
      have a4 : clt (nI c') (nI 4) = true := by rw [clt_nI (by omega) (by omega), decide_eq_true hc]
      rw [rngT (by omega) hc, a3, a4, if_neg (by decide), if_pos rfl]
      have v1 := k6 k' c' hk hc
      rw [show x + 51 + 8 = x + 59 by omega] at v1
      refine ⟨S 45 (4 * k' + c'), ?_, ?_⟩
      · rw [k3, nI_add, show (40 : Int32) = nI 40 from rfl, iRem_nI (by omega) (by omega) (by omega), obs, pk_mul, nI_add, rA_nI (by omega) (by omega), obs, v1]
      · rw [show (1114 : Int32) + nI 4 * nI k' + nI c' = nI (1114 + (4 * k' + c')) by rw [show (1114 : Int32) = nI 1114 from rfl, pk_mul, nI_add, nI_add, Nat.add_assoc], q.its (by omega), obs, obs, e3 _ (by omega)]
    · refine ⟨-1, ?_, by rw [e, if_neg (by decide), obs]⟩
      rw [if_pos]
      revert e; cases clt c 0 <;> cases clt c (nI 4) <;> decide
  · refine ⟨-1, ?_, by rw [e, if_neg (by decide), obs, if_neg (by decide), obs]⟩
    rw [if_pos]
    revert e; cases clt k 0 <;> cases clt k (nI t') <;> cases clt c 0 <;> cases clt c (nI 4) <;> decide
theorem q_letter0 {d : Int32} (h : K0 N S st x m w μ ν) : ∃ r, f11_letter x d v c μ = some r ∧ f12_letter m d v c ν = some r := by
  have cs := h.cs
  have wi := cs.wi
  have q := h.m0.b0
  have nw := h.nw
  have b8 := nw.b8; have h8 := nw.h8
  have ri := h.m0.2.2.2
  unfold f11_letter f12_letter
  rw [h.wr]
  simp only [obs]
  rw [C_isB cs, C_isH cs, ri.1.1, ri.1.2.2.1, show f12_isIn d 0 1 ν = some (!(clt d 0) && clt d (nI 2)) from isIn0 (n := 2) (by omega), show f12_isIn c 0 5 ν = some (!(clt c 0) && clt c (nI 6)) from isIn0 (n := 6) (by omega), show (6 : Int32) = nI 6 from rfl]
  simp only [obs]
  rcases rngC 6 (by omega) c with ⟨c', hc, rfl⟩ | ⟨_, e⟩
  · have a3 : clt (nI c') 0 = false := by rw [show (0 : Int32) = nI 0 from rfl, clt_nI (by omega) (by omega), decide_eq_false (by omega)]
    have a4 : clt (nI c') (nI 6) = true := by rw [clt_nI (by omega) (by omega), decide_eq_true hc]
    rw [a3, a4]
    rcases rngC 2 (by omega) d with ⟨d', hd, rfl⟩ | ⟨hd, e⟩
    · rw [rngT (by omega) hd]
      have : d' = 0 ∨ d' = 1 := by omega
      rcases this with rfl | rfl
      · rw [show ceq (nI 0) 0 = true from rfl, show ceq (nI 0) 1 = false from rfl]
        simp only [↓reduceIte, obs, Bool.not_true, Bool.false_eq_true, Bool.not_false, Bool.or_false, Bool.and_self]
        rw [isIn0 (by omega)]
        rcases rngC (nB N) (by omega) v with ⟨v', hv, rfl⟩ | ⟨_, e⟩
        · rw [rngT (by omega) hv]
          simp only [↓reduceIte, obs, Bool.not_true, Bool.false_eq_true]
          refine ⟨nI (nmB N (v' * 6 + c')), ?_, ?_⟩
          · rw [pk_mul, nI_add, rA_nI (by omega) (by omega), wi.2.2.2.2.2.2.2.1 _ (by omega), obs]
          · rw [show nI 6 * (8 * nI 0 + nI v') + nI c' = nI (v' * 6 + c') by
              rw [show (8 : Int32) = nI 8 from rfl, pk_mul, nI_add, pk_mul, nI_add]; congr 1; omega, rA_nI (by omega) (by omega), ri.2.2.2.2.2.2.1 _ (by omega), obs]
        · rw [e]
          simp only [↓reduceIte, obs, Bool.not_true, Bool.false_eq_true, Bool.not_false]
          exact ⟨-1, rfl, rfl⟩
      · rw [show ceq (nI 1) 0 = false from rfl, show ceq (nI 1) 1 = true from rfl]
        simp only [↓reduceIte, obs, Bool.not_true, Bool.false_eq_true, Bool.not_false, Bool.or_false, Bool.and_self]
        rw [isIn0 (by omega)]
        rcases rngC (nH N) (by omega) v with ⟨v', hv, rfl⟩ | ⟨_, e⟩
        · rw [rngT (by omega) hv]
          simp only [↓reduceIte, obs, Bool.not_true, Bool.false_eq_true]
          refine ⟨nI (nmH N (v' * 6 + c')), ?_, ?_⟩
          · rw [pk_mul, nI_add, rA_nI (by omega) (by omega), wi.2.2.2.2.2.2.2.2 _ (by omega), obs]
          · rw [show nI 6 * (8 * nI 1 + nI v') + nI c' = nI (48 + (v' * 6 + c')) by
              rw [show (8 : Int32) = nI 8 from rfl, pk_mul, nI_add, pk_mul, nI_add]; congr 1; omega, rA_nI (by omega) (by omega), ri.2.2.2.2.2.2.2 _ (by omega), obs]
        · rw [e]
          simp only [↓reduceIte, obs, Bool.not_true, Bool.false_eq_true, Bool.not_false]
          exact ⟨-1, rfl, rfl⟩
    · have z0 : ceq d 0 = false := hd 0 (by omega)
      have z1 : ceq d 1 = false := hd 1 (by omega)
      rw [e, z0, z1]
      simp only [↓reduceIte, obs, Bool.not_true, Bool.false_eq_true, Bool.not_false, Bool.or_false, Bool.and_self]
      exact ⟨-1, rfl, rfl⟩
  · have e1 : (clt c 0 || !clt c (nI 6)) = true := by revert e; cases clt c 0 <;> cases clt c (nI 6) <;> decide
    rw [e1, e, if_pos rfl]
    refine ⟨-1, rfl, ?_⟩
    simp only [Bool.not_false]
    cases !(clt d 0) && clt d (nI 2) with
    | false => rfl
    | true =>
      simp only [Bool.not_true, Bool.false_eq_true, ↓reduceIte]
      cases ceq d 0 with
      | true =>
        simp only [↓reduceIte, obs]
        rw [isIn0 (by omega), obs]
        cases !(clt v 0) && clt v (nI (nB N)) <;> rfl
      | false =>
        simp only [↓reduceIte, obs, Bool.false_eq_true]
        rw [isIn0 (by omega), obs]
        cases !(clt v 0) && clt v (nI (nH N)) <;> rfl
end zJ3
