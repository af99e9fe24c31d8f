/-! READING: the reference takes over what was told -/
def TFr (m : Nat) (ν ν' : zM) : Prop := (∀ k a, gF ν' k a = gF ν k a) ∧ (∀ k a, gB ν' k a = gB ν k a) ∧ (∀ k a, gR ν' k a = gR ν k a) ∧ (∀ a j, ¬ (m + 1 ≤ a ∧ a ≤ m + 11) → gA ν' a j = gA ν a j) ∧ (∀ a j, gZ ν' a j = gZ ν a j) ∧ ∀ a j, gX ν' a j = gX ν a j
section zNn
variable {m n p q e k i j a b l E E' : Nat} {ν ν' ν1 ν2 : zM} {N : zN} {u v : Int32}
theorem TFr.sa (h : TFr m ν ν1) (ha : m + 1 ≤ a ∧ a ≤ m + 11) : TFr m ν (sA ν1 a j u) := ⟨h.1, h.2.1, h.2.2.1, fun a' j' z => by rw [gA_sA, if_neg (by omega)]; exact h.2.2.2.1 a' j' z, h.2.2.2.2.1, h.2.2.2.2.2⟩
theorem QW.nw (Q : QW N (2 * N 0 1)) : NW N := by
  obtain ⟨⟨a1, a2, a3⟩, a4, a5, a6, a7, a8, a9, a10, a11, a12⟩ := Q
  exact ⟨a1, a2, a3, a4, a6, a7, a8, a9, a10, a11, a12⟩
/-- ends taken over -/
def TE (N : zN) (m : Nat) (ν' : zM) (E : Nat) : Prop := ∀ E', E' < E → gA ν' (m + 4) (2 * E') = nI (bo N E') ∧ gA ν' (m + 4) (2 * E' + 1) = nI (po N E') ∧ gA ν' (m + 5) E' = nI (tE N E') ∧ gA ν' (m + 10) (pl N E') = nI (E' / 2) ∧ gA ν' (m + 11) (pl N E') = nI (E' % 2)
theorem TE.mv (h : TE N m ν1 E) (h2 : ∀ a j, a = m + 4 ∨ a = m + 5 ∨ a = m + 10 ∨ a = m + 11 → gA ν2 a j = gA ν1 a j) : TE N m ν2 E := fun E' hE => by
  rw [h2 _ _ (by omega), h2 _ _ (by omega), h2 _ _ (by omega), h2 _ _ (by omega), h2 _ _ (by omega)]
  exact h E' hE
theorem tl3 (h : RP N (vN N (2 * N 0 1)) m ν) (nw : NW N) (hl : l < nL N) (he : e < 2) (t : TFr m ν ν1) (hE : TE N m ν1 (2 * l + e)) : ∃ ν2, f12_tellsAll_L3 m (nI l) (nI e) ν1 = some (.inl (nI (e + 1), ν2)) ∧ TFr m ν ν2 ∧ TE N m ν2 (2 * l + (e + 1)) ∧ ∀ a j, a ≠ m + 4 → a ≠ m + 5 → a ≠ m + 10 → a ≠ m + 11 → gA ν2 a j = gA ν1 a j := by
  have l14 := nw.l14
  have l14' : nL N = N 0 1 := rfl
  have hE2 : 2 * l + e < 2 * nL N := by omega
  have e28 := nw.e28 hE2
  have p48 := nw.pl_48 hE2
  have rb : gA ν (m + 15) (2 * (2 * l + e)) = nI (bo N (2 * l + e)) := h 3 (2 * l + e) ⟨by omega, by omega, by omega, by omega⟩ (by unfold vN; omega)
  have rp : gA ν (m + 15) (2 * (2 * l + e) + 1) = nI (po N (2 * l + e)) := h 4 (2 * l + e) ⟨by omega, by omega, by omega, by omega⟩ (by unfold vN; omega)
  have rt : gA ν (m + 16) (2 * l + e) = nI (tE N (2 * l + e)) := h 5 (2 * l + e) ⟨by omega, by omega, by omega, by omega⟩ (by unfold vN; omega)
  have i1 : (4 : Int32) * nI l + 2 * nI e = nI (2 * (2 * l + e)) := by
    rw [show (4 : Int32) = nI 4 from rfl, show (2 : Int32) = nI 2 from rfl, pk_mul, pk_mul, nI_add]
    exact congrArg nI (by omega)
  have i2 : (2 : Int32) * nI l + nI e = nI (2 * l + e) := by
    rw [show (2 : Int32) = nI 2 from rfl, pk_mul, nI_add]
  have i3 : (6 : Int32) * nI (bo N (2 * l + e)) + nI (po N (2 * l + e)) = nI (pl N (2 * l + e)) := by
    rw [show (6 : Int32) = nI 6 from rfl, pk_mul, nI_add]; rfl
  have inj : ∀ {E'}, E' < 2 * l + e → pl N E' ≠ pl N (2 * l + e) := fun {E'} hE y => by
    have := nw.pl_i (e := E') (e' := 2 * l + e) (by omega) hE2 y
    omega
  refine ⟨sA (sA (sA (sA (sA ν1 (m + 4) (2 * (2 * l + e)) (nI (bo N (2 * l + e)))) (m + 4) (2 * (2 * l + e) + 1) (nI (po N (2 * l + e)))) (m + 5) (2 * l + e) (nI (tE N (2 * l + e)))) (m + 10) (pl N (2 * l + e)) (nI l)) (m + 11) (pl N (2 * l + e)) (nI e), ?_, ((((t.sa (by omega)).sa (by omega)).sa (by omega)).sa (by omega)).sa (by omega), fun E' hE' => ?_, fun a j h1 h2 h3 h4 => ?_⟩
  · unfold f12_tellsAll_L3
    rw [show clt (nI e) 2 = decide (e < 2) from clt_nI (b := 2) (by omega) (by omega), decide_eq_true he, if_pos rfl, i1, i2, nI_1]
    rw [rA_nI (by omega) (by omega), t.2.2.2.1 _ _ (by omega), rb, obs, wA_nI (by omega) (by omega), obs, rA_nI (by omega) (by omega), gA_sA, if_neg (by omega), t.2.2.2.1 _ _ (by omega), rp, obs, wA_nI (by omega) (by omega), obs, rA_nI (by omega) (by omega), gA_sA, if_neg (by omega), gA_sA, if_neg (by omega), t.2.2.2.1 _ _ (by omega), rt, obs, wA_nI (by omega) (by omega), obs, rA_nI (by omega) (by omega), gA_sA, if_neg (by omega), gA_sA, if_neg (by omega), gA_sA, if_pos ⟨rfl, rfl⟩, obs, rA_nI (by omega) (by omega), gA_sA, if_neg (by omega), gA_sA, if_pos ⟨rfl, rfl⟩, obs, i3, obs, wA_nI (by omega) (by omega), obs, wA_nI (by omega) (by omega), obs, obs, nI_1]
  · by_cases c : E' = 2 * l + e
    · subst c
      refine ⟨?_, ?_, ?_, ?_, ?_⟩
      · rw [gA_sA, if_neg (by omega), gA_sA, if_neg (by omega), gA_sA, if_neg (by omega), gA_sA, if_neg (by omega), gA_sA, if_pos ⟨rfl, rfl⟩]
      · rw [gA_sA, if_neg (by omega), gA_sA, if_neg (by omega), gA_sA, if_neg (by omega), gA_sA, if_pos ⟨rfl, rfl⟩]
      · rw [gA_sA, if_neg (by omega), gA_sA, if_neg (by omega), gA_sA, if_pos ⟨rfl, rfl⟩]
      · rw [gA_sA, if_neg (by omega), gA_sA, if_pos ⟨rfl, rfl⟩]
        exact congrArg nI (by omega)
      · rw [gA_sA, if_pos ⟨rfl, rfl⟩]
        exact congrArg nI (by omega)
    · have hE3 : E' < 2 * l + e := by omega
      obtain ⟨x1, x2, x3, x4, x5⟩ := hE E' hE3
      have ij := inj hE3
      refine ⟨?_, ?_, ?_, ?_, ?_⟩
      · rw [gA_sA, if_neg (by omega), gA_sA, if_neg (by omega), gA_sA, if_neg (by omega), gA_sA, if_neg (by omega), gA_sA, if_neg (by omega)]; exact x1
      · rw [gA_sA, if_neg (by omega), gA_sA, if_neg (by omega), gA_sA, if_neg (by omega), gA_sA, if_neg (by omega), gA_sA, if_neg (by omega)]; exact x2
      · rw [gA_sA, if_neg (by omega), gA_sA, if_neg (by omega), gA_sA, if_neg (by omega), gA_sA, if_neg (by omega), gA_sA, if_neg (by omega)]; exact x3
      · rw [gA_sA, if_neg (by omega), gA_sA, if_neg (fun y => ij y.2), gA_sA, if_neg (by omega), gA_sA, if_neg (by omega), gA_sA, if_neg (by omega)]; exact x4
      · rw [gA_sA, if_neg (fun y => ij y.2), gA_sA, if_neg (by omega), gA_sA, if_neg (by omega), gA_sA, if_neg (by omega), gA_sA, if_neg (by omega)]; exact x5
  · rw [gA_sA, if_neg (by omega), gA_sA, if_neg (by omega), gA_sA, if_neg (by omega), gA_sA, if_neg (by omega), gA_sA, if_neg (by omega)]
/-- a link taken over -/
theorem tl2 (h : RP N (vN N (2 * N 0 1)) m ν) (nw : NW N) (hl : l < nL N) (h2 : gF ν1 1202 m = nI (nL N)) (t : TFr m ν ν1) (hE : TE N m ν1 (2 * l)) : ∃ ν2, f12_tellsAll_L2 m (nI l) ν1 = some (.inl (nI (l + 1), ν2)) ∧ TFr m ν ν2 ∧ TE N m ν2 (2 * (l + 1)) ∧ gA ν2 (m + 6) l = nI (cst N l) ∧ gA ν2 (m + 7) l = nI (tks N l) ∧ (∀ a j, j ≠ l → a = m + 6 ∨ a = m + 7 → gA ν2 a j = gA ν1 a j) ∧ ∀ a j, a = m + 1 ∨ a = m + 2 ∨ a = m + 3 → gA ν2 a j = gA ν1 a j := by
  have l14 := nw.l14
  have l14' : nL N = N 0 1 := rfl
  have rc : gA ν (m + 17) l = nI (cst N l) := h 6 l ⟨by omega, by omega, by omega, by omega⟩ (by unfold vN; omega)
  have rt : gA ν (m + 18) l = nI (tks N l) := h 7 l ⟨by omega, by omega, by omega, by omega⟩ (by unfold vN; omega)
  have t2 : TFr m ν (sA (sA ν1 (m + 6) l (nI (cst N l))) (m + 7) l (nI (tks N l))) := (t.sa (by omega)).sa (by omega)
  have hE0 : TE N m (sA (sA ν1 (m + 6) l (nI (cst N l))) (m + 7) l (nI (tks N l))) (2 * l + 0) := hE.mv (fun a j ha => by rw [gA_sA, if_neg (by omega), gA_sA, if_neg (by omega)])
  obtain ⟨ν2, x1, x2, x3, x4⟩ := tl3 (e := 0) h nw hl (by omega) t2 hE0
  obtain ⟨ν3, y1, y2, y3, y4⟩ := tl3 (e := 1) h nw hl (by omega) x2 x3
  have z1 : f12_tellsAll_L3 m (nI l) (nI 2) ν3 = some (.inr (nI 2, ν3)) := by
    unfold f12_tellsAll_L3
    rw [show clt (nI 2) 2 = false from by decide, if_neg (by decide)]
  have zz : zloop (fun s => f12_tellsAll_L3 m (nI l) s.1 s.2) 1000000 (0, sA (sA ν1 (m + 6) l (nI (cst N l))) (m + 7) l (nI (tks N l))) = some (nI 2, ν3) := zl_in2 (f := 999999) (body := fun s => f12_tellsAll_L3 m (nI l) s.1 s.2) x1 (zl_in2 (f := 999998) (body := fun s => f12_tellsAll_L3 m (nI l) s.1 s.2) y1 (zloop_out (by omega) z1))
  refine ⟨ν3, ?_, y2, by rw [show 2 * (l + 1) = 2 * l + (1 + 1) by omega]; exact y3, ?_, ?_, fun a j hj ha => ?_, fun a j ha => ?_⟩
  · unfold f12_tellsAll_L2
    rw [h2, clt_nI (by omega) (by omega), decide_eq_true hl, if_pos rfl, rA_nI (by omega) (by omega), t.2.2.2.1 _ _ (by omega), rc, obs, wA_nI (by omega) (by omega), obs, rA_nI (by omega) (by omega), gA_sA, if_neg (by omega), t.2.2.2.1 _ _ (by omega), rt, obs, wA_nI (by omega) (by omega), obs, zz, ozb2, obs, nI_1]
  · rw [y4 _ _ (by omega) (by omega) (by omega) (by omega), x4 _ _ (by omega) (by omega) (by omega) (by omega), gA_sA, if_neg (by omega), gA_sA, if_pos ⟨rfl, rfl⟩]
  · rw [y4 _ _ (by omega) (by omega) (by omega) (by omega), x4 _ _ (by omega) (by omega) (by omega) (by omega), gA_sA, if_pos ⟨rfl, rfl⟩]
  · rw [y4 _ _ (by omega) (by omega) (by omega) (by omega), x4 _ _ (by omega) (by omega) (by omega) (by omega), gA_sA, if_neg (by omega), gA_sA, if_neg (by omega)]
  · rw [y4 _ _ (by omega) (by omega) (by omega) (by omega), x4 _ _ (by omega) (by omega) (by omega) (by omega), gA_sA, if_neg (by omega), gA_sA, if_neg (by omega)]
theorem R_tells (h : RP N (vN N (2 * N 0 1)) m ν) (nw : NW N) : ∃ ν', f12_tellsAll m ν = some ν' ∧ RI N m ν' ∧ TFr m (sF (sF (sF (sF (sF ν 1201 m (nI (nB N))) 1202 m (nI (nL N))) 1203 m (nI (nH N))) 1204 m (nI (nAg N))) 1205 m (nI (nDl N))) ν' := by
  have b8 := nw.b8; have l14 := nw.l14; have h8 := nw.h8
  have b8' : nB N = N 0 0 := rfl
  have l14' : nL N = N 0 1 := rfl
  have h8' : nH N = N 0 2 := rfl
  have f1 : gF ν 1217 m = nI (nB N) := h 0 0 ⟨by omega, by omega, by omega, by omega⟩ (by unfold vN; omega)
  have f2 : gF ν 1218 m = nI (nL N) := h 0 1 ⟨by omega, by omega, by omega, by omega⟩ (by unfold vN; omega)
  have f3 : gF ν 1219 m = nI (nH N) := h 0 2 ⟨by omega, by omega, by omega, by omega⟩ (by unfold vN; omega)
  have f4 : gF ν 1220 m = nI (nAg N) := h 0 3 ⟨by omega, by omega, by omega, by omega⟩ (by unfold vN; omega)
  have f5 : gF ν 1221 m = nI (nDl N) := h 0 4 ⟨by omega, by omega, by omega, by omega⟩ (by unfold vN; omega)
  have start : f12_tellsAll m ν = zb2 (zloop (fun s => f12_tellsAll_L1 m s.1 s.2) 1000000 (nI 0, (sF (sF (sF (sF (sF ν 1201 m (nI (nB N))) 1202 m (nI (nL N))) 1203 m (nI (nH N))) 1204 m (nI (nAg N))) 1205 m (nI (nDl N))))) fun v_b_8 μ9 => zb2 (zloop (fun s => f12_tellsAll_L2 m s.1 s.2) 1000000 (nI 0, μ9)) fun v_l_19 μ20 => zb2 (zloop (fun s => f12_tellsAll_L4 m s.1 s.2) 1000000 (nI 0, μ20)) fun v_h_44 μ45 => zb2 (zloop (fun s => f12_tellsAll_L5 m s.1 s.2) 1000000 (nI 0, μ45)) fun v_k_51 μ52 => some μ52 := by
    unfold f12_tellsAll
    simp only [wF, obs]
    rw [f1, sF_ne (k' := 1218) (by omega), f2, sF_ne (k' := 1219) (by omega), sF_ne (k' := 1219) (by omega), f3, sF_ne (k' := 1220) (by omega), sF_ne (k' := 1220) (by omega), sF_ne (k' := 1220) (by omega), f4, sF_ne (k' := 1221) (by omega), sF_ne (k' := 1221) (by omega), sF_ne (k' := 1221) (by omega), sF_ne (k' := 1221) (by omega), f5]
    rfl
  rw [start]
  have h' : RP N (vN N (2 * N 0 1)) m (sF (sF (sF (sF (sF ν 1201 m (nI (nB N))) 1202 m (nI (nL N))) 1203 m (nI (nH N))) 1204 m (nI (nAg N))) 1205 m (nI (nDl N))) := by
    intro f i hr hv
    refine Eq.trans ?_ (h f i hr hv)
    unfold rf
    by_cases c : f = 0
    · have := hr.2.2.1 c
      rw [if_pos c, if_pos c, sF_ne (by omega), sF_ne (by omega), sF_ne (by omega), sF_ne (by omega), sF_ne (by omega)]
    · rw [if_neg c, if_neg c]; rfl
  have c1 : gF (sF (sF (sF (sF (sF ν 1201 m (nI (nB N))) 1202 m (nI (nL N))) 1203 m (nI (nH N))) 1204 m (nI (nAg N))) 1205 m (nI (nDl N))) 1201 m = nI (nB N) := by rw [sF_ne (by omega), sF_ne (by omega), sF_ne (by omega), sF_ne (by omega), sF_eq]
  have c2 : gF (sF (sF (sF (sF (sF ν 1201 m (nI (nB N))) 1202 m (nI (nL N))) 1203 m (nI (nH N))) 1204 m (nI (nAg N))) 1205 m (nI (nDl N))) 1202 m = nI (nL N) := by rw [sF_ne (by omega), sF_ne (by omega), sF_ne (by omega), sF_eq]
  have c3 : gF (sF (sF (sF (sF (sF ν 1201 m (nI (nB N))) 1202 m (nI (nL N))) 1203 m (nI (nH N))) 1204 m (nI (nAg N))) 1205 m (nI (nDl N))) 1203 m = nI (nH N) := by rw [sF_ne (by omega), sF_ne (by omega), sF_eq]
  have c4 : gF (sF (sF (sF (sF (sF ν 1201 m (nI (nB N))) 1202 m (nI (nL N))) 1203 m (nI (nH N))) 1204 m (nI (nAg N))) 1205 m (nI (nDl N))) 1204 m = nI (nAg N) := by rw [sF_ne (by omega), sF_eq]
  have c5 : gF (sF (sF (sF (sF (sF ν 1201 m (nI (nB N))) 1202 m (nI (nL N))) 1203 m (nI (nH N))) 1204 m (nI (nAg N))) 1205 m (nI (nDl N))) 1205 m = nI (nDl N) := sF_eq
  generalize sF (sF (sF (sF (sF ν 1201 m (nI (nB N))) 1202 m (nI (nL N))) 1203 m (nI (nH N))) 1204 m (nI (nAg N))) 1205 m (nI (nDl N)) = ν5 at h' c1 c2 c3 c4 c5 ⊢
  clear start f1 f2 f3 f4 f5 h
  obtain ⟨⟨r1, ν6⟩, e1, t6, g6⟩ := zloop_up (body := fun s => f12_tellsAll_L1 m s.1 s.2) (fun i y => (nI i, y)) (fun i y => TFr m ν5 y ∧ ∀ b, b < i → gA y (m + 1) b = nI (tPr N b) ∧ gA y (m + 2) b = nI (tOl N b) ∧ gA y (m + 3) b = nI (nP N b)) (nB N) (fun r => TFr m ν5 r.2 ∧ ∀ b, b < nB N → gA r.2 (m + 1) b = nI (tPr N b) ∧ gA r.2 (m + 2) b = nI (tOl N b) ∧ gA r.2 (m + 3) b = nI (nP N b)) (fun i y hi hy => by
    obtain ⟨t, hy⟩ := hy
    have q1 : gA ν5 (m + 12) i = nI (tPr N i) := h' 8 i ⟨by omega, by omega, by omega, by omega⟩ (by unfold vN; omega)
    have q2 : gA ν5 (m + 13) i = nI (tOl N i) := h' 9 i ⟨by omega, by omega, by omega, by omega⟩ (by unfold vN; omega)
    have q3 : gA ν5 (m + 14) i = nI (nP N i) := h' 1 i ⟨by omega, by omega, by omega, by omega⟩ (by unfold vN; omega)
    refine ⟨sA (sA (sA y (m + 1) i (nI (tPr N i))) (m + 2) i (nI (tOl N i))) (m + 3) i (nI (nP N i)), ?_, ((t.sa (by omega)).sa (by omega)).sa (by omega), fun b hb => ?_⟩
    · show f12_tellsAll_L1 m (nI i) y = _
      unfold f12_tellsAll_L1
      rw [t.1, c1, clt_nI (by omega) (by omega), decide_eq_true hi, if_pos rfl, rA_nI (by omega) (by omega), t.2.2.2.1 _ _ (by omega), q1, obs, wA_nI (by omega) (by omega), obs, rA_nI (by omega) (by omega), gA_sA, if_neg (by omega), t.2.2.2.1 _ _ (by omega), q2, obs, wA_nI (by omega) (by omega), obs, rA_nI (by omega) (by omega), gA_sA, if_neg (by omega), gA_sA, if_neg (by omega), t.2.2.2.1 _ _ (by omega), q3, obs, wA_nI (by omega) (by omega), obs, obs, nI_1]
    · by_cases c : b = i
      · subst c
        exact ⟨by rw [gA_sA, if_neg (by omega), gA_sA, if_neg (by omega), gA_sA, if_pos ⟨rfl, rfl⟩], by rw [gA_sA, if_neg (by omega), gA_sA, if_pos ⟨rfl, rfl⟩], by rw [gA_sA, if_pos ⟨rfl, rfl⟩]⟩
      · rw [gA_sA, if_neg (by omega), gA_sA, if_neg (by omega), gA_sA, if_neg (by omega), gA_sA, if_neg (by omega), gA_sA, if_neg (by omega), gA_sA, if_neg (by omega), gA_sA, if_neg (by omega), gA_sA, if_neg (by omega), gA_sA, if_neg (by omega)]
        exact hy b (by omega)) (fun y hy => ⟨(nI (nB N), y), by
    show f12_tellsAll_L1 m (nI (nB N)) y = _
    unfold f12_tellsAll_L1
    rw [hy.1.1, c1, clt_nI (by omega) (by omega), decide_eq_false (by omega), if_neg (by decide)], hy⟩) (nB N) 0 1000000 ν5 (by omega) (by omega) (by omega) ⟨⟨fun _ _ => rfl, fun _ _ => rfl, fun _ _ => rfl, fun _ _ _ => rfl, fun _ _ => rfl, fun _ _ => rfl⟩, fun b hb => absurd hb (by omega)⟩
  rw [e1, ozb2]
  replace t6 : TFr m ν5 ν6 := t6
  replace g6 : ∀ b, b < nB N → gA ν6 (m + 1) b = nI (tPr N b) ∧ gA ν6 (m + 2) b = nI (tOl N b) ∧ gA ν6 (m + 3) b = nI (nP N b) := g6
  obtain ⟨⟨r2, ν7⟩, e2, t7, E7, g7, k7⟩ := zloop_up (body := fun s => f12_tellsAll_L2 m s.1 s.2) (fun i y => (nI i, y)) (fun i y => TFr m ν5 y ∧ TE N m y (2 * i) ∧ (∀ l, l < i → gA y (m + 6) l = nI (cst N l) ∧ gA y (m + 7) l = nI (tks N l)) ∧ ∀ a j, a = m + 1 ∨ a = m + 2 ∨ a = m + 3 → gA y a j = gA ν6 a j) (nL N) (fun r => TFr m ν5 r.2 ∧ TE N m r.2 (2 * nL N) ∧ (∀ l, l < nL N → gA r.2 (m + 6) l = nI (cst N l) ∧ gA r.2 (m + 7) l = nI (tks N l)) ∧ ∀ a j, a = m + 1 ∨ a = m + 2 ∨ a = m + 3 → gA r.2 a j = gA ν6 a j) (fun i y hi hy => by
    obtain ⟨t, tE, g, kk⟩ := hy
    obtain ⟨ν2, x1, x2, x3, x4, x5, x6, x7⟩ := tl2 h' nw hi (by rw [t.1]; exact c2) t tE
    refine ⟨ν2, x1, x2, x3, fun l hl => ?_, fun a j ha => (x7 a j ha).trans (kk a j ha)⟩
    by_cases c : l = i
    · subst c; exact ⟨x4, x5⟩
    · rw [x6 _ _ c (by omega), x6 _ _ c (by omega)]; exact g l (by omega)) (fun y hy => ⟨(nI (nL N), y), by
    show f12_tellsAll_L2 m (nI (nL N)) y = _
    unfold f12_tellsAll_L2
    rw [hy.1.1, c2, clt_nI (by omega) (by omega), decide_eq_false (by omega), if_neg (by decide)], hy⟩) (nL N) 0 1000000 ν6 (by omega) (by omega) (by omega) ⟨t6, fun E hE => absurd hE (by omega), fun l hl => absurd hl (by omega), fun _ _ _ => rfl⟩
  rw [e2, ozb2]
  replace t7 : TFr m ν5 ν7 := t7
  replace E7 : TE N m ν7 (2 * nL N) := E7
  replace g7 : ∀ l, l < nL N → gA ν7 (m + 6) l = nI (cst N l) ∧ gA ν7 (m + 7) l = nI (tks N l) := g7
  replace k7 : ∀ a j, a = m + 1 ∨ a = m + 2 ∨ a = m + 3 → gA ν7 a j = gA ν6 a j := k7
  obtain ⟨⟨r3, ν8⟩, e3, t8, g8, k8⟩ := zloop_up (body := fun s => f12_tellsAll_L4 m s.1 s.2) (fun i y => (nI i, y)) (fun i y => TFr m ν5 y ∧ (∀ l, l < i → gA y (m + 8) l = nI (tHm N l)) ∧ ∀ a j, a ≠ m + 8 → gA y a j = gA ν7 a j) (nH N) (fun r => TFr m ν5 r.2 ∧ (∀ l, l < nH N → gA r.2 (m + 8) l = nI (tHm N l)) ∧ ∀ a j, a ≠ m + 8 → gA r.2 a j = gA ν7 a j) (fun i y hi hy => by
    obtain ⟨t, g, kk⟩ := hy
    have q1 : gA ν5 (m + 19) i = nI (tHm N i) := h' 10 i ⟨by omega, by omega, by omega, by omega⟩ (by unfold vN; omega)
    refine ⟨sA y (m + 8) i (nI (tHm N i)), ?_, t.sa (by omega), fun l hl => ?_, fun a j ha => by rw [gA_sA, if_neg (by omega)]; exact kk a j ha⟩
    · show f12_tellsAll_L4 m (nI i) y = _
      unfold f12_tellsAll_L4
      rw [t.1, c3, clt_nI (by omega) (by omega), decide_eq_true hi, if_pos rfl, rA_nI (by omega) (by omega), t.2.2.2.1 _ _ (by omega), q1, obs, wA_nI (by omega) (by omega), obs, obs, nI_1]
    · by_cases c : l = i
      · subst c; rw [gA_sA, if_pos ⟨rfl, rfl⟩]
      · rw [gA_sA, if_neg (by omega)]; exact g l (by omega)) (fun y hy => ⟨(nI (nH N), y), by
    show f12_tellsAll_L4 m (nI (nH N)) y = _
    unfold f12_tellsAll_L4
    rw [hy.1.1, c3, clt_nI (by omega) (by omega), decide_eq_false (by omega), if_neg (by decide)], hy⟩) (nH N) 0 1000000 ν7 (by omega) (by omega) (by omega) ⟨t7, fun l hl => absurd hl (by omega), fun _ _ _ => rfl⟩
  rw [e3, ozb2]
  replace t8 : TFr m ν5 ν8 := t8
  replace g8 : ∀ l, l < nH N → gA ν8 (m + 8) l = nI (tHm N l) := g8
  replace k8 : ∀ a j, a ≠ m + 8 → gA ν8 a j = gA ν7 a j := k8
  obtain ⟨⟨r4, ν9⟩, e4, t9, g9, k9⟩ := zloop_up (body := fun s => f12_tellsAll_L5 m s.1 s.2) (fun i y => (nI i, y)) (fun i y => TFr m ν5 y ∧ (∀ l, l < i → gA y (m + 9) l = gA ν5 (m + 20) l) ∧ ∀ a j, a ≠ m + 9 → gA y a j = gA ν8 a j) 96 (fun r => TFr m ν5 r.2 ∧ (∀ l, l < 96 → gA r.2 (m + 9) l = gA ν5 (m + 20) l) ∧ ∀ a j, a ≠ m + 9 → gA r.2 a j = gA ν8 a j) (fun i y hi hy => by
    obtain ⟨t, g, kk⟩ := hy
    refine ⟨sA y (m + 9) i (gA ν5 (m + 20) i), ?_, t.sa (by omega), fun l hl => ?_, fun a j ha => by rw [gA_sA, if_neg (by omega)]; exact kk a j ha⟩
    · show f12_tellsAll_L5 m (nI i) y = _
      unfold f12_tellsAll_L5
      rw [show clt (nI i) 96 = decide (i < 96) from clt_nI (b := 96) (by omega) (by omega), decide_eq_true hi, if_pos rfl, rA_nI (by omega) (by omega), t.2.2.2.1 _ _ (by omega), obs, wA_nI (by omega) (by omega), obs, obs, nI_1]
    · by_cases c : l = i
      · subst c; rw [gA_sA, if_pos ⟨rfl, rfl⟩]
      · rw [gA_sA, if_neg (by omega)]; exact g l (by omega)) (fun y hy => ⟨(nI 96, y), by
    show f12_tellsAll_L5 m (nI 96) y = _
    unfold f12_tellsAll_L5
    rw [show clt (nI 96) 96 = false from by decide, if_neg (by decide)], hy⟩) 96 0 1000000 ν8 (by omega) (by omega) (by omega) ⟨t8, fun l hl => absurd hl (by omega), fun _ _ _ => rfl⟩
  rw [e4, ozb2]
  replace t9 : TFr m ν5 ν9 := t9
  replace g9 : ∀ l, l < 96 → gA ν9 (m + 9) l = gA ν5 (m + 20) l := g9
  replace k9 : ∀ a j, a ≠ m + 9 → gA ν9 a j = gA ν8 a j := k9
  have kk : ∀ a j, a ≠ m + 8 → a ≠ m + 9 → gA ν9 a j = gA ν7 a j := fun a j h1 h2 => (k9 a j h2).trans (k8 a j h1)
  refine ⟨ν9, rfl, ⟨⟨by rw [t9.1]; exact c1, by rw [t9.1]; exact c2, by rw [t9.1]; exact c3, by rw [t9.1]; exact c4, by rw [t9.1]; exact c5⟩, fun b hb => ?_, fun e he => ?_, fun l hl => ?_, fun b hb => ?_, fun l hl => ?_, fun k hk => ?_, fun k hk => ?_⟩, t9⟩
  · rw [kk _ _ (by omega) (by omega), k7 _ _ (by omega)]; exact (g6 b hb).2.2
  · obtain ⟨z1, z2, z3, z4, z5⟩ := E7 e he
    rw [kk _ _ (by omega) (by omega), kk _ _ (by omega) (by omega), kk _ _ (by omega) (by omega), kk _ _ (by omega) (by omega), kk _ _ (by omega) (by omega)]
    exact ⟨z1, z2, z3, z4, z5⟩
  · rw [kk _ _ (by omega) (by omega), kk _ _ (by omega) (by omega)]; exact g7 l hl
  · rw [kk _ _ (by omega) (by omega), k7 _ _ (by omega), kk _ _ (by omega) (by omega), k7 _ _ (by omega)]
    exact ⟨(g6 b hb).1, (g6 b hb).2.1⟩
  · rw [k9 _ _ (by omega)]; exact g8 l hl
  · rw [g9 _ (by omega)]
    exact h' 11 k ⟨by omega, by omega, by omega, by omega⟩ (by unfold vN; omega)
  · rw [g9 _ (by omega)]
    exact h' 12 k ⟨by omega, by omega, by omega, by omega⟩ (by unfold vN; omega)
end zNn
