/-! WHAT IS KEPT: the relation moved by tape and refusals; rows remembered -/
section zL0
variable {N : zN} {x m w s B st top n k i f c p j b l t e : Nat} {μ0 μ μ' μ1 ν0 ν ν' ν1 : zM} {S S' X : zS}
/-- the class's memory, but for tape, reader, drawn number, image, refusals -/
def FE (x : Nat) (μ μ' : zM) : Prop := (∀ a, a ≠ x → a ≠ x + 1 → a ≠ x + 49 → a ≠ x + 50 → a ≠ x + 21 → a ≠ x + 22 → SA a μ μ') ∧ (∀ k, k ≠ 1113 → k ≠ 1116 → k ≠ 1117 → gF μ' k x = gF μ k x) ∧ ∀ k, gR μ' k x = gR μ k x
/-- the reference's memory, but for such things -/
def FE2 (m : Nat) (ν ν' : zM) : Prop := (∀ k, (1201 ≤ k ∧ k ≤ 1205) ∨ k = 1245 ∨ k = 1252 ∨ k = 1253 ∨ (1261 ≤ k ∧ k ≤ 1263) → gF ν' k m = gF ν k m) ∧ (∀ k, gB ν' k m = gB ν k m) ∧ ∀ d j, (1 ≤ d ∧ d ≤ 11) ∨ (23 ≤ d ∧ d ≤ 27) ∨ d = 31 ∨ d = 32 → gA ν' (m + d) j = gA ν (m + d) j
theorem FE.rf : FE x μ μ := ⟨fun _ _ _ _ _ _ _ => SA.rf, fun _ _ _ _ => rfl, fun _ => rfl⟩
theorem FE.tr (h : FE x μ μ1) (h2 : FE x μ1 μ') : FE x μ μ' := ⟨fun a p q r s t u => (h.1 a p q r s t u).tr (h2.1 a p q r s t u), fun k p q r => (h2.2.1 k p q r).trans (h.2.1 k p q r), fun k => (h2.2.2 k).trans (h.2.2 k)⟩
theorem FE2.rf : FE2 m ν ν := ⟨fun _ _ => rfl, fun _ => rfl, fun _ _ _ => rfl⟩
theorem FE2.tr (h : FE2 m ν ν1) (h2 : FE2 m ν1 ν') : FE2 m ν ν' := ⟨fun k hk => (h2.1 k hk).trans (h.1 k hk), fun k => (h2.2.1 k).trans (h.2.1 k), fun d j hd => (h2.2.2 d j hd).trans (h.2.2 d j hd)⟩
theorem M0.fe2 (h : M0 N m 0 ν S) (f : FE2 m ν ν') : M0 N m 0 ν' S := h.mv (fun k h1 h2 => f.1 k (by omega)) (fun d j h1 h2 => f.2.2 d j (by omega)) (fun j _ _ => f.2.2 24 j (by omega)) (fun j => f.2.2 26 j (by omega)) (fun j => f.2.2 27 j (by omega))
theorem JJ.ee (h : JJ N S st w x m top μ ν) (fe : FE x μ μ') (fe2 : FE2 m ν ν') (r5 : R5 x m μ' ν') : JJ N S st w x m top μ' ν' := by
  have hw := h.ww
  obtain ⟨⟨cs, wr, sw, m0, inv, s0, s9, t0, bg⟩, td, _, fz, sg, fm, ps, ol, ht⟩ := h
  have A : ∀ a, a ≠ x ∧ a ≠ x + 1 ∧ a ≠ x + 49 ∧ a ≠ x + 50 ∧ a ≠ x + 21 ∧ a ≠ x + 22 → SA a μ μ' := fun a z => fe.1 a z.1 z.2.1 z.2.2.1 z.2.2.2.1 z.2.2.2.2.1 z.2.2.2.2.2
  have W := A w (by omega)
  obtain ⟨hb, f, c, a1, a2, a3, a4, a5, a6⟩ := ps
  have hb' : PSb x top μ' := hb.mv (A _ (by omega)) (fun a ha => A a (by omega))
  refine ⟨⟨cs.mv (fun a h1 h2 => A a (by omega)) (fun a h1 h2 => A a (by omega)), by rw [fe.2.2]; exact wr, by rw [fe.2.2]; exact sw, m0.fe2 fe2, inv, s0, s9, t0, bg⟩, ⟨by rw [W.2.1, fe2.2.1]; exact td.1, by rw [W.2.1]; exact td.2⟩, r5, fz.mv (fun a h1 h2 => A a (by omega)), sg.mv (fun k hk => (A (x + 17) (by omega)).1 k) (A (x + 18) (by omega)) (fe2.1 _ (by omega)) (fe2.1 _ (by omega)) (fun j => fe2.2.2 31 j (by omega)) (fun j => fe2.2.2 32 j (by omega)), fm.mv (A _ (by omega)) (fun k h1 h2 => fe2.1 k (by omega)) (fe2.2.1 _), ⟨hb', f, c, a1, a2, by rw [fe.2.1 _ (by omega) (by omega) (by omega)]; exact a3, by rw [fe.2.1 _ (by omega) (by omega) (by omega)]; exact a4, by rw [fe2.1 _ (by omega)]; exact a5, fun k hk => (a6 k hk).mv hb (A _ (by omega)) (fun a ha => A a (by omega)) (fun a h1 h2 => A a (by omega)) (fun i hi => fe2.2.2 25 _ (by omega))⟩, fun j hj => by rw [fe2.2.2 23 j (by omega)]; exact ol j hj, ht⟩
theorem fe2_b0 : FE2 m ν (sF ν 1244 m 0) := ⟨fun k hk => by rw [gF_sF, if_neg (by omega)], fun _ => rfl, fun _ _ _ => rfl⟩
theorem JJ.b1 (h : JJ N S st w x m top μ ν) : JJ N S st w x m top μ (sF ν 1244 m 0) := h.ee FE.rf fe2_b0 (h.2.2.1.mv (fun _ _ => rfl) (fun _ _ => SA.rf) (fun k hk => by rw [gF_sF, if_neg (by omega)]) (fun _ _ _ => rfl))
theorem JJ.rfs (h : JJ N S st w x m top μ ν) (hk : k < 6) : JJ N S st w x m top (sA μ (x + 22) k (gA μ (x + 22) k + 1)) (sA ν (m + 22) k (gA ν (m + 22) k + 1)) := by
  refine h.ee ⟨fun a h1 h2 h3 h4 h5 h6 => ⟨fun _ => rfl, fun _ => rfl, fun _ => rfl, fun j => by rw [gA_sA, if_neg (by omega)], fun _ => rfl, fun _ => rfl⟩, fun _ _ _ _ => rfl, fun _ => rfl⟩ ⟨fun _ _ => rfl, fun _ => rfl, fun d j hd => by rw [gA_sA, if_neg (by omega)]⟩ ?_
  obtain ⟨⟨t1, t4⟩, r1, f1, s1, ⟨q, i1, i2, i3, i4⟩⟩ := h.2.2.1
  exact ⟨⟨t1, fun j hj => by rw [gA_sA, if_neg (by omega), gA_sA, if_neg (by omega)]; exact t4 j hj⟩, rR_up r1 hk, f1, s1, ⟨q, i1, i2, i3, fun j hj => by rw [gA_sA, if_neg (by omega), gA_sA, if_neg (by omega)]; exact i4 j hj⟩⟩
/-- a refusal, both -/
theorem rf_int (h : JJ N S st w x m top μ ν) (hk : k < 6) : ∃ μ' ν', f11_refuse x (nI k) μ = some (-1, μ') ∧ f12_refuses m (nI k) ν = some (-1, ν') ∧ JR x m top μ' ν' := ⟨_, _, v11_refuse hk, v12_refuses hk, _, _, _, _, h.rfs hk⟩
theorem rf_bool (h : JJ N S st w x m top μ ν) (hk : k < 6) : ∃ μ' ν', f11_refuses x (nI k) μ = some (false, μ') ∧ f12_isRefused m (nI k) ν = some (false, ν') ∧ JR x m top μ' ν' := ⟨_, _, v11_refuses hk, v12_isRefused hk, _, _, _, _, h.rfs hk⟩
theorem R_rem (hc : gF ν 1245 m = nI c) (c20 : c ≤ 20) : ∃ ν', f12_remembers m ν = some ν' ∧ gF ν' 1244 m = nI 0 ∧ gF ν' 1245 m = nI (if c = 20 then 20 else c + 1) ∧ (∀ k, k ≠ 1244 → k ≠ 1245 → gF ν' k m = gF ν k m) ∧ (∀ k, gB ν' k m = gB ν k m) ∧ (∀ a j, a ≠ m + 25 → gA ν' a j = gA ν a j) ∧ (∀ i, i < 2874 → gA ν' (m + 25) (2874 * (if c = 20 then 19 else c) + i) = gA ν (m + 24) i) ∧ ∀ k i, i < 2874 → k < (if c = 20 then 19 else c) → gA ν' (m + 25) (2874 * k + i) = gA ν (m + 25) (2874 * (if c = 20 then k + 1 else k) + i) := by
  have L1 : ∀ (ν : zM) d, d ≤ 19 → gF ν 1245 m = nI d → zloop (fun s => f12_remembers_L1 m s.1 s.2) 1000000 (0, ν) = some (nI 2874, cpW ν (m + 24) (m + 25) 0 (2874 * d) 2874) := by
    intro ν d hd h45
    refine lpR (μ := ν) (s := m + 24) (d := m + 25) (E := 0) (D := 2874 * d) (body := fun s => f12_remembers_L1 m s.1 s.2) 2874 (by omega) (fun k hk => Or.inl (by omega)) (fun k hk => ?_) ?_
    · show f12_remembers_L1 m (nI k) _ = _
      have z : (0 : Int32) + nI k = nI (0 + k) := by rw [← nI_add]; rfl
      unfold f12_remembers_L1
      rw [show clt (nI k) 2874 = true from by rw [show (2874 : Int32) = nI 2874 from rfl, clt_nI (by omega) (by omega), decide_eq_true hk], if_pos rfl, z, rA_nI (by omega) (by omega), obs, show gF (cpW ν (m + 24) (m + 25) 0 (2874 * d) k) 1245 m = nI d from h45, show (2874 : Int32) * nI d + nI k = nI (2874 * d + k) by rw [show (2874 : Int32) = nI 2874 from rfl, pk_mul, nI_add], wA_nI (by omega) (by omega), obs, obs, nI_1]
    · show f12_remembers_L1 m (nI 2874) _ = _
      unfold f12_remembers_L1
      rw [show clt (nI 2874) 2874 = false from by decide, if_neg (by decide)]
  have fin : ∀ (ν1 : zM) d, d ≤ 19 → gF ν1 1245 m = nI d → (zb2 (zloop (fun s => f12_remembers_L1 m s.1 s.2) 1000000 (0, ν1)) fun v_k_4 μ5 => (wF μ5 1245 m ((gF μ5 1245 m) + 1)).bind fun μ9 => (wF μ9 1244 m 0).bind fun μ10 => some μ10) = some (sF (sF (cpW ν1 (m + 24) (m + 25) 0 (2874 * d) 2874) 1245 m (nI (d + 1))) 1244 m 0) := by
    intro ν1 d hd h45
    rw [L1 ν1 d hd h45, ozb2, show gF (cpW ν1 (m + 24) (m + 25) 0 (2874 * d) 2874) 1245 m = nI d from h45, nI_1]
    rfl
  unfold f12_remembers
  rw [hc]
  by_cases cc : c = 20
  · subst cc
    have L2 : zloop (fun s => f12_remembers_L2 m s.1 s.2) 1000000 (0, ν) = some (nI 54606, cpW ν (m + 25) (m + 25) 2874 0 54606) := by
      refine lpR (μ := ν) (s := m + 25) (d := m + 25) (E := 2874) (D := 0) (body := fun s => f12_remembers_L2 m s.1 s.2) 54606 (by omega) (fun k hk => Or.inr (Or.inl (by omega))) (fun k hk => ?_) ?_
      · show f12_remembers_L2 m (nI k) _ = _
        unfold f12_remembers_L2
        rw [show clt (nI k) 54606 = true from by rw [show (54606 : Int32) = nI 54606 from rfl, clt_nI (by omega) (by omega), decide_eq_true hk], if_pos rfl, show nI k + 2874 = nI (2874 + k) by rw [show (2874 : Int32) = nI 2874 from rfl, nI_add, Nat.add_comm], rA_nI (by omega) (by omega), obs, wA_nI (by omega) (by omega), obs, obs, nI_1, Nat.zero_add]
      · show f12_remembers_L2 m (nI 54606) _ = _
        unfold f12_remembers_L2
        rw [show clt (nI 54606) 54606 = false from by decide, if_neg (by decide)]
    rw [show ceq (nI 20) 20 = true from by decide, if_pos rfl, L2, ozb2, show gF (cpW ν (m + 25) (m + 25) 2874 0 54606) 1245 m = nI 20 from hc, show nI 20 - 1 = nI 19 from by decide]
    simp only [wF, obs]
    have h19 : gF (sF (cpW ν (m + 25) (m + 25) 2874 0 54606) 1245 m (nI 19)) 1245 m = nI 19 := by rw [gF_sF, if_pos ⟨rfl, rfl⟩]
    have e := fin (sF (cpW ν (m + 25) (m + 25) 2874 0 54606) 1245 m (nI 19)) 19 (by omega) h19
    simp only [wF, obs] at e
    rw [e]
    refine ⟨_, rfl, by rw [gF_sF, if_pos ⟨rfl, rfl⟩]; rfl, by rw [gF_sF, if_neg (by omega), gF_sF, if_pos ⟨rfl, rfl⟩]; rfl, fun k h1 h2 => ?_, fun _ => rfl, fun a j ha => ?_, fun i hi => ?_, fun k i hi hk => ?_⟩
    · rw [gF_sF, if_neg (by omega), gF_sF, if_neg (by omega)]
      show gF (sF (cpW ν (m + 25) (m + 25) 2874 0 54606) 1245 m (nI 19)) k m = _
      rw [gF_sF, if_neg (by omega)]; rfl
    · rw [gA_sF, gA_sF, gA_cpW, if_neg (by omega), gA_sF, gA_cpW, if_neg (by omega)]
    · rw [if_pos trivial, gA_sF, gA_sF, gA_cpW, if_pos (by omega), gA_sF, gA_cpW, if_neg (by omega)]; exact congrArg (gA ν (m + 24)) (by omega)
    · rw [if_pos trivial] at hk
      rw [if_pos trivial, gA_sF, gA_sF, gA_cpW, if_neg (by omega), gA_sF, gA_cpW, if_pos (by omega)]; exact congrArg (gA ν (m + 25)) (by omega)
  · rw [show ceq (nI c) 20 = false from by rw [show (20 : Int32) = nI 20 from rfl, ceq_nI (by omega) (by omega), decide_eq_false cc], if_neg (by decide), obs, fin ν c (by omega) hc]
    refine ⟨_, rfl, by rw [gF_sF, if_pos ⟨rfl, rfl⟩]; rfl, by rw [gF_sF, if_neg (by omega), gF_sF, if_pos ⟨rfl, rfl⟩, if_neg cc], fun k h1 h2 => ?_, fun _ => rfl, fun a j ha => ?_, fun i hi => ?_, fun k i hi hk => ?_⟩
    · rw [gF_sF, if_neg (by omega), gF_sF, if_neg (by omega)]; rfl
    · rw [gA_sF, gA_sF, gA_cpW, if_neg (by omega)]
    · rw [if_neg cc, gA_sF, gA_sF, gA_cpW, if_pos (by omega)]; exact congrArg (gA ν (m + 24)) (by omega)
    · rw [if_neg cc] at hk
      rw [if_neg cc, gA_sF, gA_sF, gA_cpW, if_neg (by omega)]
end zL0
