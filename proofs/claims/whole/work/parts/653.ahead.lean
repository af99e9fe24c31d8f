/-! QUESTIONS that look ahead: centre, when, rings, heal, worst -/
section zJ8
variable {N : zN} {x m w s B st top n k i f c p j b l t : Nat} {μ0 μ μ' μ1 ν0 ν ν' ν1 : zM} {S S' : zS}
theorem cen_lt {W : Nat → Nat} : ∀ n a, pfold (cenF N S W) n none = some a → a < n
  | 0, a, h => by cases h
  | n + 1, a, h => by
    rw [pf_s] at h
    by_cases c : ceq (S 20 n) 1 = true
    · cases e : pfold (cenF N S W) n none with
      | none =>
        rw [e, cenF_none c] at h
        have := Option.some.inj h
        omega
      | some d =>
        have hd := cen_lt n d e
        rw [e, cenF_some c] at h
        split at h
        · have := Option.some.inj h
          omega
        · have := Option.some.inj h
          omega
    · rw [cenF_off c] at h
      have := cen_lt n a h
      omega
theorem q_centre (h : JR x m top μ ν) (c : Int32) : ∃ r μ' ν', f11_centre x c μ = some (r, μ') ∧ f12_centre m c ν = some (r, ν') ∧ JR x m top μ' ν' := by
  obtain ⟨N, S, st, w, h⟩ := h
  have cs := h.1.cs
  have q := h.b0
  have nw := h.1.nw
  have b8 := nw.b8
  have wl : ∀ k, wW N S k ≤ 1000000 ∧ (wW N S k < 1000000 → wW N S k ≤ 51200) := fun k => ⟨(wW_lt nw (n := 8) (by omega) k).1, fun z => ((wW_lt nw (n := 8) (by omega) k).2 z).1⟩
  obtain ⟨μ1, f1, f2, v1, v2, v3⟩ := C_cen cs (out5 h.ww)
  obtain ⟨ν2, g1, g2⟩ := R_far q
  have hr2 := h.scr f2.2.1 (by omega) (by omega) (ft_fd g2.2.1 (by omega) (by omega))
  have hr3 := h.scr f2.2.1 (by omega) (by omega) (ft_b0 (ν := ν))
  have key := R_cen1 g2 wl (fun b hb h20 => by
    show decide (wW N S (8 * b + b) < 1000000) = true
    rw [wW_on hb (by omega) h20]; decide) (fun b c hb hc h20 => wW_off nw (by omega) (by omega) h20)
  have isin : f12_isIn c 0 2 (sF ν 1244 m 0) = some (!(clt c 0) && clt c (nI 3)) := isIn0 (n := 3) (by omega)
  unfold f11_centre f12_centre
  rw [show wF ν 1244 m 0 = some (sF ν 1244 m 0) from rfl, obs, isin, obs, f1, obs, v1, v2, v3, g1]
  generalize sF ν 1244 m 0 = ν1 at q g1 g2 hr3 ⊢
  rcases rngC 3 (by omega) c with ⟨c', hc, rfl⟩ | ⟨hc, e⟩
  · rw [rngT (by omega) hc, if_pos rfl, obs, key, ozb4]
    show ∃ r μ' ν', _ ∧ ((if (ceq (oI (cen N S)) (-1) || ceq (nI c') 0) = true then _ else _ : Option Int32).bind _) = _ ∧ _
    have : c' = 0 ∨ c' = 1 ∨ c' = 2 := by omega
    cases ec : cen N S with
    | none =>
      have ec2 : pfold (cenF N S (wW N S)) (nB N) none = none := ec
      rw [ec2]
      rcases this with rfl | rfl | rfl
      · exact ⟨-1, μ1, ν2, rfl, rfl, hr2⟩
      · exact ⟨-1, μ1, ν2, rfl, rfl, hr2⟩
      · exact ⟨-1, μ1, ν2, rfl, rfl, hr2⟩
    | some a =>
      have ec2 : pfold (cenF N S (wW N S)) (nB N) none = some a := ec
      rw [ec2]
      have al : a < 2 ^ 31 := by
        have := cen_lt _ _ ec2
        omega
      have e1 : ceq (oI (some a)) (-1) = false := oI_none al
      rw [e1]
      rcases this with rfl | rfl | rfl
      · exact ⟨_, μ1, ν2, rfl, rfl, hr2⟩
      · exact ⟨_, μ1, ν2, rfl, rfl, hr2⟩
      · exact ⟨_, μ1, ν2, rfl, rfl, hr2⟩
  · rw [e]
    have z : ∀ j, j < 3 → ¬ ceq c (nI j) = true := fun j hj => by rw [hc j hj]; decide
    exact ⟨-1, μ1, ν1, by rw [if_neg (show ¬ ceq c 0 = true from z 0 (by omega)), if_neg (show ¬ ceq c 1 = true from z 1 (by omega)), if_neg (show ¬ ceq c 2 = true from z 2 (by omega))], rfl, hr3⟩
/-- nobody touched, told of all eight -/
def T8 (S : zS) : Prop := ∀ b, b < 8 → S 47 b = 0
theorem FZ.t8 (h : FZ t μ) : T8 (cpS μ t S) := fun b hb => by
  show bI (gZ μ (t + 9) b) = 0
  rw [h.2.1 b hb]; rfl
theorem FZ.of (h : CS N t w μ0 μ S) (h8 : T8 S) (h46 : S 46 0 = 0) : FZ t μ := by
  refine ⟨fun i hi => h.c_num i hi, fun b hb => ?_, ?_⟩
  · rw [h.r_tch hb, h8 b hb]; decide
  · rw [h.r_beg, h46]; decide
theorem T8.t0 (h : T8 S) (nw : NW N) : T0 N S := fun b hb => h b (by have := nw.b8; omega)
/-- a copy to look ahead with -/
theorem C_ahead (h : JJ N S st w x m top μ ν) : ∃ μ', f8_copyFrom (x + 312) (x + 51) μ = some μ' ∧ CS N (x + 312) w μ' μ' (cpS μ (x + 312) S) ∧ FrA x μ μ' ∧ T8 (cpS μ (x + 312) S) ∧ INV N st (cpS μ (x + 312) S) ∧ cpS μ (x + 312) S 44 0 = nI st ∧ cpS μ (x + 312) S 46 0 = 0 := by
  have hw := h.ww
  obtain ⟨μ', e, q⟩ := C_copy (t := x + 312) h.1.cs (by omega) (by omega) h.2.2.2.1.1
  exact ⟨μ', e, q.self, FrA.fc q.c_fr, h.2.2.2.1.t8, cp_inv h.1.inv, by rw [cp_f (by omega) (by omega) (by omega)]; exact h.1.s0, cp_46 h.2.2.2.1.2.2⟩
theorem R_ahead (h : JJ N S st w x m top μ ν) (t : Nat) : f12_tries m ν = some (sF (cpW ν (m + 24) (m + 24) 0 2874 2874) 1244 m 2874) ∧ MS N m 2874 (sF (cpW ν (m + 24) (m + 24) 0 2874 2874) 1244 m 2874) (sF (cpW ν (m + 24) (m + 24) 0 2874 2874) 1244 m 2874) (cpS μ t S) ∧ FrT m ν (sF (cpW ν (m + 24) (m + 24) 0 2874 2874) 1244 m 2874) := ⟨R_tries, cp_ms h.1.m0.tries.1 h.1.inv.2.1 (by rw [h.1.bg]; decide), tries_ft⟩
theorem stp_t8 (nw : NW N) (h : T8 S) : T8 (stp N st n S) := fun b hb => by rw [stp_k nw (by omega)]; exact h b hb
theorem ct_47 (nw : NW N) : ∀ n, n ≤ nB N → ∀ b, n ≤ b → pfold (sp_ct1 N) n S 47 b = S 47 b
  | 0, _, b, _ => rfl
  | n + 1, hn, b, hb => by
    rw [pf_s]
    unfold sp_ct1
    rw [show ∀ X : zS, zu X 47 n 0 47 b = X 47 b from fun X => if_neg (by omega)]
    split
    · rw [choose_o nw (by omega) 47 b (fun z => by unfold XC at z; omega)]
      exact ct_47 nw n (by omega) b (by omega)
    · exact ct_47 nw n (by omega) b (by omega)
theorem ct_o (nw : NW N) (hf : f = 46 ∨ (f = 44 ∧ i = 0)) : ∀ n, n ≤ nB N → pfold (sp_ct1 N) n S f i = S f i
  | 0, _ => rfl
  | n + 1, hn => by
    rw [pf_s]
    unfold sp_ct1
    rw [show ∀ X : zS, zu X 47 n 0 f i = X f i from fun X => if_neg (by omega)]
    split
    · rw [choose_o nw (by omega) f i (fun z => by unfold XC at z; omega)]
      exact ct_o nw hf n (by omega)
    · exact ct_o nw hf n (by omega)
theorem cut_k (nw : NW N) (hf : f = 46 ∨ (f = 44 ∧ i = 0)) : sq_cut N l S f i = S f i := by
  rw [cut_eq]
  unfold sp_ct
  rw [ct_o nw hf (nB N) (Nat.le_refl _), xcut_f (by omega) (by omega), dn2_f (by omega) (by omega), if_neg (by omega)]
theorem cut_t8 (nw : NW N) (hl : l < nL N) (h : T8 S) (h0 : T0 N (sq_cut N l S)) : T8 (sq_cut N l S) := fun b hb => by
  by_cases c : b < nB N
  · exact h0 b c
  · have b1 := nw.bo_b (e := 2 * l) (by omega)
    have b2 := nw.bo_b (e := 2 * l + 1) (by omega)
    rw [cut_eq]
    unfold sp_ct
    rw [ct_47 nw (nB N) (Nat.le_refl _) b (by omega)]
    unfold xcut tch2
    rw [show ∀ X : zS, zu X 47 (bo N (2 * l + 1)) 1 47 b = X 47 b from fun X => if_neg (by omega), show ∀ X : zS, zu X 47 (bo N (2 * l)) 1 47 b = X 47 b from fun X => if_neg (by omega), zu_4n (by omega), dn2_f (by omega) (by omega), if_neg (by omega)]
    exact h b hb
theorem q_when (h : JR x m top μ ν) : ∃ r μ' ν', f11_when x μ = some (r, μ') ∧ f12_when m ν = some (r, ν') ∧ JR x m top μ' ν' := by
  have h0 := h
  obtain ⟨N, S, st, w, h⟩ := h
  have nw := h.1.nw
  have s9 := h.1.st9
  have hw := h.ww
  unfold f11_when f12_when
  rw [h.1.wr, obs, ← h.2.1.1]
  cases et : gB μ 1012 w with
  | false => exact ⟨-1, μ, ν, rfl, rfl, h0⟩
  | true =>
    rw [if_pos rfl, if_pos rfl]
    obtain ⟨μ2, e1, c1, fa, t8, iv, k0, k46⟩ := C_ahead h
    obtain ⟨e2, q2, ft⟩ := R_ahead h (x + 312)
    generalize sF (cpW ν (m + 24) (m + 24) 0 2874 2874) 1244 m 2874 = ν2 at e2 q2 ft
    generalize cpS μ (x + 312) S = S2 at c1 t8 iv k0 k46 q2
    obtain ⟨μ3, T, e3, d3, o3⟩ := C_find c1 (o := x + 3) ⟨by omega, by omega⟩
    have d4 : DF N (x + 312) w (x + 3) S2 μ3 μ3 (wW N S2) T := ⟨⟨d3.1.1, FrD.rf, d3.1.2.2⟩, d3.2⟩
    have fa3 : FrA x μ μ3 := fa.tr (FrA.fd d3.1.2.1 (by omega) (by omega))
    rw [e1, obs, e3, obs, e2, obs]
    rcases C_whl nw iv k0 (by omega) o3 hw d4 with ⟨a, e5, n, en, fn, cs5, fa5⟩ | ⟨r, e5, fn, cs5, fa5⟩
    · rcases R_whl q2 iv k0 (by omega) with ⟨a', e6, n', en', fn', ft6⟩ | ⟨r', e6, fn', ft6⟩
      · rw [e5, obs, e6, obs]
        have := fst_u fn fn'
        subst this
        refine ⟨nI n, a.2, a'.2, ?_, ?_, _, _, _, _, h.look (fa3.tr fa5) (FZ.of cs5 (stp_t8 nw t8) (by rw [stp_k nw (by omega)]; exact k46)) (ft.tr ft6)⟩
        · show some a = _
          rw [← en]
        · show some a' = _
          rw [← en']
      · exact absurd fn.2.1 (fn' n fn.1)
    · rcases R_whl q2 iv k0 (by omega) with ⟨a', e6, n', en', fn', ft6⟩ | ⟨r', e6, fn', ft6⟩
      · exact absurd fn'.2.1 (fn n' fn'.1)
      · rw [e5, obs, e6, obs]
        exact ⟨-1, r.2, r'.2, rfl, rfl, _, _, _, _, h.look (fa3.tr fa5) (FZ.of cs5 (stp_t8 nw t8) (by rw [stp_k nw (by omega)]; exact k46)) (ft.tr ft6)⟩
theorem q_rings (h : JR x m top μ ν) (c : Int32) : ∃ r μ' ν', f11_rings x c μ = some (r, μ') ∧ f12_rings m c ν = some (r, ν') ∧ JR x m top μ' ν' := by
  have h0 := h
  obtain ⟨N, S, st, w, h⟩ := h
  have nw := h.1.nw
  have s9 := h.1.st9
  have hw := h.ww
  unfold f11_rings f12_rings
  rw [show f12_isIn c 1 200 ν = some (!(clt c 1) && !(clt 200 c)) from rfl]
  simp only [h.1.wr, obs]
  rw [← h.2.1.1]
  cases e1 : clt c 1 with
  | true =>
    refine ⟨-1, μ, ν, rfl, ?_, h0⟩
    cases gB μ 1012 w <;> rfl
  | false =>
    cases e2 : clt 200 c with
    | true =>
      refine ⟨-1, μ, ν, rfl, ?_, h0⟩
      cases gB μ 1012 w <;> rfl
    | false =>
      cases et : gB μ 1012 w with
      | false => exact ⟨-1, μ, ν, rfl, rfl, h0⟩
      | true =>
        simp only [Bool.or_false, Bool.false_eq_true, ↓reduceIte, Bool.not_true, Bool.not_false, Bool.and_self, obs]
        have c0 : clt c 0 = false := by
          cases z : clt c 0 with
          | false => rfl
          | true =>
            have a1 : c < 0 := of_decide_eq_true z
            have a2 : ¬ c < 1 := of_decide_eq_false e1
            exact absurd (Int32.lt_trans a1 (by decide)) a2
        have c2 : clt c (nI 201) = true := by
          rw [← clt_le (i := c) (n := 200) (by omega)]
          show (!clt 200 c) = true
          rw [e2]; rfl
        obtain ⟨n, hn, rfl⟩ := rI_of c0 c2 (by omega)
        obtain ⟨μ2, e4, c1, fa, t8, iv, k0, k46⟩ := C_ahead h
        obtain ⟨e5, q2, ft⟩ := R_ahead h (x + 312)
        generalize sF (cpW ν (m + 24) (m + 24) 0 2874 2874) 1244 m 2874 = ν2 at e5 q2 ft
        generalize cpS μ (x + 312) S = S2 at c1 t8 iv k0 k46 q2
        obtain ⟨μ3, e6, cs6, fa6⟩ := C_rgs (n := n) k0 (by omega) hw (by omega) c1
        obtain ⟨ν3, e7, ft7⟩ := R_rgs (n := n) q2 iv k0 (by omega) (by omega)
        rw [e4, obs, e6, ozb3, e5, obs, e7, ozb3]
        exact ⟨_, _, _, rfl, rfl, _, _, _, _, h.look (fa.tr fa6) (FZ.of cs6 (stp_t8 nw t8) (by rw [stp_k nw (by omega)]; exact k46)) (ft.tr ft7)⟩
/-- in how many steps a cut link is healed: the class's answer, the reference's answer -/
theorem heal2 (h : JJ N S st w x m top μ ν) (hl : l < nL N) : ∃ r r' μ' ν', f11_countHealing x (nI l) μ = some (r, μ') ∧ f12_healsIn m (nI l) ν = some (r', ν') ∧ ((r = -1 ∧ r' = 321) ∨ ∃ n, n ≤ 320 ∧ r = nI n ∧ r' = nI n) ∧ FrA x μ μ' ∧ FZ (x + 312) μ' ∧ FrT m ν ν' := by
  have nw := h.1.nw
  have s9 := h.1.st9
  have hw := h.ww
  obtain ⟨μ2, e4, c1, fa, t8, iv, k0, k46⟩ := C_ahead h
  obtain ⟨e5, q2, ft⟩ := R_ahead h (x + 312)
  generalize sF (cpW ν (m + 24) (m + 24) 0 2874 2874) 1244 m 2874 = ν2 at e5 q2 ft
  generalize cpS μ (x + 312) S = S2 at c1 t8 iv k0 k46 q2
  obtain ⟨μ3, e6, c6⟩ := C_cut c1 hl
  obtain ⟨⟨ν3, e7, q7⟩, iv7, t7⟩ := R_cut q2 iv (t8.t0 nw) hl
  have k7 : sq_cut N l S2 44 0 = nI st ∧ sq_cut N l S2 46 0 = 0 := ⟨(cut_k nw (by omega)).trans k0, (cut_k nw (by omega)).trans k46⟩
  have t87 := cut_t8 nw hl t8 t7
  have fa7 : FrA x μ μ3 := fa.tr (FrA.fc c6.c_fr)
  have ft7 : FrT m ν ν3 := ft.tr (FrT.fm q7.2.2.2)
  have q7 := q7.self
  have c6 := c6.self
  generalize sq_cut N l S2 = S3 at c6 q7 iv7 k7 t87
  unfold f11_countHealing f12_healsIn
  rw [e4, obs, e6, obs, e5, obs, e7, obs]
  have fz : ∀ {μ' n}, CS N (x + 312) w μ' μ' (stp N st n S3) → FZ (x + 312) μ' := fun cs => FZ.of cs (stp_t8 nw t87) (by rw [stp_k nw (by omega)]; exact k7.2)
  rcases C_hll nw iv7 k7.1 (by omega) hw c6 with ⟨a, e8, n, en, fn, cs8, fa8⟩ | ⟨r, e8, fn, cs8, fa8⟩
  · rcases R_hll q7 iv7 k7.1 (by omega) with ⟨a', e9, n', en', fn', ft9⟩ | ⟨r', e9, fn', ft9⟩
    · rw [e8, obs, e9, obs]
      have := fst_u fn fn'
      subst this
      exact ⟨a.1, a'.1, a.2, a'.2, rfl, rfl, Or.inr ⟨n, fn.1, en, en'⟩, fa7.tr fa8, fz cs8, ft7.tr ft9⟩
    · exact absurd fn.2.1 (fn' n fn.1)
  · rcases R_hll q7 iv7 k7.1 (by omega) with ⟨a', e9, n', en', fn', ft9⟩ | ⟨r', e9, fn', ft9⟩
    · exact absurd fn'.2.1 (fn n' fn'.1)
    · rw [e8, obs, e9, obs]
      exact ⟨-1, 321, r.2, r'.2, rfl, rfl, Or.inl ⟨rfl, rfl⟩, fa7.tr fa8, fz cs8, ft7.tr ft9⟩
end zJ8
