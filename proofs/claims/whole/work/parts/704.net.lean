/-! NET, both -/
section zNo
variable {N N' : zN} {x m w w' s B st top n k i f c p j b l t e P : Nat} {μ0 μ μ' μ1 μ2 ν0 ν ν' ν1 ν2 M : zM} {S S' S1 X : zS} {v : Int32} {g : Nat → Nat}
theorem CNf.at (h : CNf x w' μ μ') (a : Nat) (h1 : a ≠ x + 49) (h2 : a ≠ x + 50) (h3 : a < w' ∨ w' + 13 ≤ a) : SA a μ μ' := ⟨fun k => h.1 k a (by omega) (by omega), fun k => h.2.1 k a (by omega), fun k => h.2.2.1 k a (by omega), fun j => h.2.2.2.1 a j h2 (by omega), fun j => h.2.2.2.2.1 a j (by omega), fun j => h.2.2.2.2.2 a j⟩
theorem FE2.rn (h : RNf m ν ν') : FE2 m ν ν' := ⟨fun k hk => h.1 k m (by omega) (by omega), fun k => h.2.1 k m, fun d j hd => h.2.2.2.1 _ j (by omega)⟩
/-- R5 after reading -/
theorem R5.rd (h : R5 x m μ ν) (hc : CNf x w' μ μ') (hr : RNf m ν ν') (hw : w' = x + 23 ∨ w' = x + 36) (h1 : gF μ' 507 (x + 49) = gF ν' 1234 m) (h2 : gF μ' 508 (x + 49) = gF ν' 1235 m) : R5 x m μ' ν' := by
  obtain ⟨⟨⟨n, t1, t2, t3⟩, t4⟩, r1, _, ⟨s1, s2⟩, ⟨q, i1, i2, i3, i4⟩⟩ := h
  have A := fun a => hc.at a
  have A0 := A x (by omega) (by omega) (by omega)
  have A1 := A (x + 1) (by omega) (by omega) (by omega)
  have A23 := A (x + 21) (by omega) (by omega) (by omega)
  have A24 := A (x + 22) (by omega) (by omega) (by omega)
  have F : ∀ k, k = 1232 ∨ k = 1264 ∨ k = 1266 → gF ν' k m = gF ν k m := fun k hk => hr.1 k m (by omega) (by omega)
  have G : ∀ a j, a = m + 21 ∨ a = m + 22 ∨ a = m + 36 → gA ν' a j = gA ν a j := fun a j ha => hr.2.2.2.1 a j (by omega)
  exact ⟨⟨⟨n, t1, by rw [A0.1]; exact t2, by rw [F _ (by omega)]; exact t3⟩, fun j hj => by rw [A1.2.2.2.1, G _ _ (by omega)]; exact t4 j hj⟩, fun k hk => by rw [A24.2.2.2.1, G _ _ (by omega)]; exact r1 k hk, ⟨h1, h2⟩, ⟨by rw [A0.1, F _ (by omega)]; exact s1, by rw [A0.1]; exact s2⟩, ⟨q, i1, by rw [A0.1]; exact i2, by rw [F _ (by omega)]; exact i3, fun j hj => by rw [A23.2.2.2.1, G _ _ (by omega)]; exact i4 j hj⟩⟩
/-- a text that was refused -/
theorem JJ.rd (h : JJ N S st w x m top μ ν) (hc : CNf x w' μ μ') (hr : RNf m ν ν') (hw' : (w = x + 23 ∧ w' = x + 36) ∨ (w = x + 36 ∧ w' = x + 23)) (h1 : gF μ' 507 (x + 49) = gF ν' 1234 m) (h2 : gF μ' 508 (x + 49) = gF ν' 1235 m) : JJ N S st w x m top μ' ν' := by
  have r5' := h.2.2.1.rd hc hr (by omega) h1 h2
  obtain ⟨⟨cs, wr, sw, m0, inv, s0, s9, t0, bg⟩, td, _, fz, sg, fm, ps, ol, ht⟩ := h
  have fe2 := FE2.rn hr
  have A : ∀ a, a ≠ x + 49 ∧ a ≠ x + 50 ∧ (a < w' ∨ w' + 13 ≤ a) → SA a μ μ' := fun a z => hc.at a z.1 z.2.1 z.2.2
  have W := A w (by omega)
  have X0 := A x (by omega)
  obtain ⟨hb, f, c, a1, a2, a3, a4, a5, a6⟩ := ps
  have hb' : PSb x top μ' := hb.mv (A _ (by omega)) (fun a ha => A a (by omega))
  refine ⟨⟨cs.mv (fun a h1 h2 => A a (by omega)) (fun a h1 h2 => A a (by omega)), by rw [X0.2.2.1]; exact wr, by rw [X0.2.2.1]; exact sw, m0.fe2 fe2, inv, s0, s9, t0, bg⟩, ⟨by rw [W.2.1, fe2.2.1]; exact td.1, by rw [W.2.1]; exact td.2⟩, r5', fz.mv (fun a h1 h2 => A a (by omega)), sg.mv (fun k hk => (A (x + 17) (by omega)).1 k) (A (x + 18) (by omega)) (fe2.1 _ (by omega)) (fe2.1 _ (by omega)) (fun j => fe2.2.2 31 j (by omega)) (fun j => fe2.2.2 32 j (by omega)), fm.mv (A _ (by omega)) (fun k h1 h2 => fe2.1 k (by omega)) (fe2.2.1 _), ⟨hb', f, c, a1, a2, by rw [X0.1]; exact a3, by rw [X0.1]; exact a4, by rw [fe2.1 _ (by omega)]; exact a5, fun k hk => (a6 k hk).mv hb (A _ (by omega)) (fun a ha => A a (by omega)) (fun a h1 h2 => A a (by omega)) (fun i hi => fe2.2.2 25 _ (by omega))⟩, fun j hj => by rw [fe2.2.2 23 _ (by omega)]; exact ol j hj, ht⟩
theorem PC.wi (h : PC N w μ) : WI N w μ := by
  refine ⟨⟨h 0 0 (by omega) (by omega), h 0 1 (by omega) (by omega), h 0 2 (by omega) (by omega), h 0 3 (by omega) (by omega), h 0 4 (by omega) (by omega)⟩, fun b _ => h 1 b (by omega) (by omega), fun b p _ _ => ?_, fun e _ => ⟨h 3 e (by omega) (by omega), h 4 e (by omega) (by omega), h 5 e (by omega) (by omega)⟩, fun l _ => ⟨h 6 l (by omega) (by omega), h 7 l (by omega) (by omega)⟩, fun b _ => ⟨h 8 b (by omega) (by omega), h 9 b (by omega) (by omega)⟩, fun k _ => h 10 k (by omega) (by omega), fun k _ => h 11 k (by omega) (by omega), fun k _ => h 12 k (by omega) (by omega)⟩
  rw [show b * 6 + p = 6 * b + p by omega]
  exact h 2 (6 * b + p) (by omega) (by omega)
theorem q_net (h : JR x m top μ ν) : ∃ r μ' ν', f11_net x μ = some (r, μ') ∧ f12_net m ν = some (r, ν') ∧ JR x m top μ' ν' := by
  obtain ⟨N, S, st, w, h⟩ := h
  obtain ⟨n, t1, t2, t3⟩ := h.2.2.1.1.1
  have h1 := h.tp (n := 0) (by omega)
  have k1 : f11_takeTape x μ = some (nI n, sF μ 1113 x (nI 0)) := by unfold f11_takeTape; rw [t2]; rfl
  have k2 : f12_taken m ν = some (nI n, sF ν 1232 m (nI 0)) := by unfold f12_taken; rw [t3]; rfl
  unfold f11_net f12_net
  rw [k1, k2, ozb2, ozb2]
  generalize sF μ 1113 x (nI 0) = μ1 at h1 ⊢
  generalize sF ν 1232 m (nI 0) = ν1 at h1 ⊢
  have hgx : ∃ g : Nat → Nat, ∀ j, j < 1600 → g j < 256 ∧ gA ν1 (m + 21) j = nI (g j) := by
    have t4 := h1.2.2.1.1.2
    refine ⟨fun j => (gA ν1 (m + 21) j).toNatClampNeg, fun j hj => ?_⟩
    obtain ⟨k, hk, ek⟩ := (t4 j hj).2
    show (gA ν1 (m + 21) j).toNatClampNeg < 256 ∧ gA ν1 (m + 21) j = nI (gA ν1 (m + 21) j).toNatClampNeg
    rw [ek, nI_clamp (by omega)]
    exact ⟨hk, rfl⟩
  obtain ⟨g, hgg⟩ := hgx
  obtain ⟨w', hw', e12⟩ : ∃ w', ((w = x + 23 ∧ w' = x + 36) ∨ (w = x + 36 ∧ w' = x + 23)) ∧ gR μ1 1112 x = some w' := by
    rcases h1.1.2.2.1 with ⟨y1, y2⟩ | ⟨y1, y2⟩
    · exact ⟨x + 36, Or.inl ⟨y1, rfl⟩, y2⟩
    · exact ⟨x + 23, Or.inr ⟨y1, rfl⟩, y2⟩
  have e11 : gR μ1 1111 x = some w := h1.1.wr
  rw [e12, obs]
  simp only [wF, wR, wB, obs]
  show ∃ r μ' ν', zb2 (f5_statements (x + 49) (nI n) w' μ1) _ = _ ∧ zb2 (f12_readsAll m (r6 m n ν1)) _ = _ ∧ _
  rcases readP (x := x) (m := m) (w := w') (μ := μ1) (ν := ν1) (g := g) t1 (fun j hj => ⟨(h1.2.2.1.1.2 j hj).1.trans (hgg j hj).2, (hgg j hj).1⟩) (fun j hj => ⟨(hgg j hj).2, (hgg j hj).1⟩) h1.2.2.2.2.2.2.2.1 (by omega) with ⟨c, N', μa, νa, y0, y1, y2, P, Q⟩ | ⟨r, μa, νa, y1, y2, P⟩
  · have nw' := Q.nw
    rw [y1, y2, ozb2, ozb2]
    obtain ⟨rs, p9, pc, rp, cf, rn, _⟩ := P
    have a9 : gF νa 1239 m = 0 := rs.2.2.2.2.2.2.2.1
    obtain ⟨kp7, kp8, kp0⟩ := rs.2.2.2.2.2.2.2.2
    have cm1 : ceq (nI c) (-1) = false := decide_eq_false (fun y => m1_ne (p := c) (by omega) y.symm)
    have s1 : gF (sF (sF νa 1234 m (gF νa 1239 m)) 1235 m (gF (sF νa 1234 m (gF νa 1239 m)) 1240 m)) 1239 m = 0 := by rw [sF_ne (by omega), sF_ne (by omega)]; exact a9
    have s4 : gF (sF (sF νa 1234 m (gF νa 1239 m)) 1235 m (gF (sF νa 1234 m (gF νa 1239 m)) 1240 m)) 1234 m = 0 := by rw [sF_ne (by omega), sF_eq]; exact a9
    have s5 : gF (sF (sF νa 1234 m (gF νa 1239 m)) 1235 m (gF (sF νa 1234 m (gF νa 1239 m)) 1240 m)) 1235 m = -1 := by rw [sF_eq, sF_ne (by omega)]; exact kp0
    have rn2 : RNf m ν1 (sF (sF νa 1234 m (gF νa 1239 m)) 1235 m (gF (sF νa 1234 m (gF νa 1239 m)) 1240 m)) := (rn.sf (by omega)).sf (by omega)
    have rp2 : RP N' (vN N' (2 * N' 0 1)) m (sF (sF νa 1234 m (gF νa 1239 m)) 1235 m (gF (sF νa 1234 m (gF νa 1239 m)) 1240 m)) := fun f i hr hv => by
      refine Eq.trans ?_ (rp f i hr hv)
      unfold rf
      by_cases y : f = 0
      · have := hr.2.2.1 y
        rw [if_pos y, if_pos y, sF_ne (by omega), sF_ne (by omega)]
      · rw [if_neg y, if_neg y]; rfl
    rw [cm1, if_neg (by decide), s1, show ceq (0 : Int32) 0 = true from rfl, if_pos rfl]
    generalize sF (sF νa 1234 m (gF νa 1239 m)) 1235 m (gF (sF νa 1234 m (gF νa 1239 m)) 1240 m) = νb at s1 s4 s5 rn2 rp2 ⊢
    obtain ⟨νc, z1, z2, z3⟩ := R_tells rp2 nw'
    rw [z1, obs]
    have g11 : gR (sB μa 1012 w' true) 1111 x = some w := by
      show gR μa 1111 x = _
      rw [cf.2.2.1 _ _ (by omega)]; exact e11
    have g12 : gR (sB μa 1012 w' true) 1112 x = some w' := by
      show gR μa 1112 x = _
      rw [cf.2.2.1 _ _ (by omega)]; exact e12
    rw [g11, obs, g12, obs]
    have cA : ∀ a, a ≠ x → a ≠ x + 49 → a ≠ x + 50 → (a < w' ∨ w' + 13 ≤ a) → SA a μ1 (sR (sR (sB μa 1012 w' true) 1111 x (some w')) 1112 x (some w)) := fun a q0 q1 q2 q3 => (cf.at a q1 q2 q3).tr ⟨fun _ => rfl, fun k => by
      show gB (sB μa 1012 w' true) k a = _
      rw [gB_sB, if_neg (by omega)], fun k => by rw [gR_sR, if_neg (by omega), gR_sR, if_neg (by omega)]; rfl, fun _ => rfl, fun _ => rfl, fun _ => rfl⟩
    have cX : ∀ k, gF (sR (sR (sB μa 1012 w' true) 1111 x (some w')) 1112 x (some w)) k x = gF μ1 k x := fun k => (cf.at x (by omega) (by omega) (by omega)).1 k
    have hwi : WI N' w' (sR (sR (sB μa 1012 w' true) 1111 x (some w')) 1112 x (some w)) := PC.wi (fun f i q1 q2 => pc f i q1 q2)
    have u1 : gR (sR (sR (sB μa 1012 w' true) 1111 x (some w')) 1112 x (some w)) 1111 x = some w' := by rw [gR_sR, if_neg (by omega), gR_sR, if_pos ⟨rfl, rfl⟩]
    have u2 : gR (sR (sR (sB μa 1012 w' true) 1111 x (some w')) 1112 x (some w)) 1112 x = some w := by rw [gR_sR, if_pos ⟨rfl, rfl⟩]
    have u3 : gB (sR (sR (sB μa 1012 w' true) 1111 x (some w')) 1112 x (some w)) 1012 w' = true := if_pos ⟨rfl, rfl⟩
    have kc7 : gF (sR (sR (sB μa 1012 w' true) 1111 x (some w')) 1112 x (some w)) 507 (x + 49) = 0 := kp7
    have kc8 : gF (sR (sR (sB μa 1012 w' true) 1111 x (some w')) 1112 x (some w)) 508 (x + 49) = -1 := kp8
    rw [u1, obs]
    generalize sR (sR (sB μa 1012 w' true) 1111 x (some w')) 1112 x (some w) = μ9 at cA cX hwi u1 u2 u3 kc7 kc8 ⊢
    have b0 : gF (sF (sB (sF νc 1200 m (nI c)) 1246 m true) 1244 m 0) 1244 m = nI 0 := sF_eq
    have b1 : gB (sF (sB (sF νc 1200 m (nI c)) 1246 m true) 1244 m 0) 1246 m = true := if_pos ⟨rfl, rfl⟩
    have bF : ∀ k, k ≠ 1200 → k ≠ 1244 → gF (sF (sB (sF νc 1200 m (nI c)) 1246 m true) 1244 m 0) k m = gF νc k m := fun k q1 q2 => by
      rw [sF_ne q2]
      show gF (sF νc 1200 m (nI c)) k m = _
      rw [sF_ne q1]
    have bA : ∀ a j, gA (sF (sB (sF νc 1200 m (nI c)) 1246 m true) 1244 m 0) a j = gA νc a j := fun _ _ => rfl
    generalize sF (sB (sF νc 1200 m (nI c)) 1246 m true) 1244 m 0 = νd at b0 b1 bF bA ⊢
    have rid : RI N' m νd := z2.mv (fun k q1 q2 => bF k (by omega) (by omega)) (fun d j _ _ => bA _ j)
    obtain ⟨S1, c1, ⟨νe, e3, q3⟩, iv, t0, s0⟩ := R_begin (H := fun j => gA μ9 (w' + 12) j) b0 nw' rid (fun k hk => hwi.2.2.2.2.2.2.1 k hk) h1.1.inv.1.1
    have csO : CS N (x + 51) w μ9 μ9 S1 := (h1.1.cs.mv (fun a q1 q2 => cA a (by omega) (by omega) (by omega) (by omega)) (fun a q1 q2 => cA a (by omega) (by omega) (by omega) (by omega))).ig c1
    obtain ⟨μe, e4, q4⟩ := C_begin csO nw' hwi (by omega)
    have hL : ((f12_clears m νd).bind fun μ15 => zb2 (zloop (fun s => f12_net_L1 m s.1 s.2) 1000000 (0, μ15)) fun v_b_18 μ19 => zb2 (zloop (fun s => f12_net_L2 m s.1 s.2) 1000000 (0, μ19)) fun v_l_31 μ32 => zb2 (zloop (fun s => f12_net_L3 m s.1 s.2) 1000000 (0, μ32)) fun v_h_37 μ38 => (f12_allBegin m μ38).bind fun μ42 => some (nI c, sB (sF (sF (sF μ42 1245 m 0) 1252 m 0) 1253 m 0) 1260 m false)) = some (nI c, sB (sF (sF (sF νe 1245 m 0) 1252 m 0) 1253 m 0) 1260 m false) := by
      cases e5 : f12_clears m νd with
      | none => rw [e5] at e3; cases e3
      | some ν4 =>
        rw [e5, obs] at e3
        rw [obs]
        cases e6 : zloop (fun s => f12_net_L1 m s.1 s.2) 1000000 (0, ν4) with
        | none => rw [e6] at e3; cases e3
        | some p6 =>
          obtain ⟨p, ν5⟩ := p6
          rw [e6, ozb2] at e3
          rw [ozb2]
          cases e7 : zloop (fun s => f12_net_L2 m s.1 s.2) 1000000 (0, ν5) with
          | none => rw [e7] at e3; cases e3
          | some p7 =>
            obtain ⟨p, ν6⟩ := p7
            rw [e7, ozb2] at e3
            rw [ozb2]
            cases e8 : zloop (fun s => f12_net_L3 m s.1 s.2) 1000000 (0, ν6) with
            | none => rw [e8] at e3; cases e3
            | some p8 =>
              obtain ⟨p, ν7⟩ := p8
              rw [e8, ozb2] at e3
              rw [ozb2, e3, obs]
    rw [hL, e4, obs]
    unfold f7_clear
    simp only [wF, obs]
    refine ⟨nI c, _, _, rfl, rfl, N', zu (sp_ct N' (xbg N' (fun j => gA μ9 (w' + 12) j) S1)) 46 0 0, 0, w', ?_⟩
    have hw2 : w' = x + 23 ∨ w' = x + 36 := by omega
    have A9 : ∀ a, a < x + 51 ∨ x + 312 ≤ a → SA a μ9 μe := fun a ha => q4.c_fr a (by omega)
    have Af : ∀ a, a ≠ x → a ≠ x + 14 → a ≠ x + 17 → SA a μe (sF (sB (sF (sF μe 703 (x + 17) 0) 704 (x + 17) 0) 203 (x + 14) false) 1115 x 0) := fun a r1 r2 r3 => ⟨fun k => by
      rw [gF_sF, if_neg (by omega)]
      show gF (sF (sF μe 703 (x + 17) 0) 704 (x + 17) 0) k a = _
      rw [gF_sF, if_neg (by omega), gF_sF, if_neg (by omega)], fun k => by
      show gB (sB (sF (sF μe 703 (x + 17) 0) 704 (x + 17) 0) 203 (x + 14) false) k a = _
      rw [gB_sB, if_neg (by omega)]; rfl, fun _ => rfl, fun _ => rfl, fun _ => rfl, fun _ => rfl⟩
    have X3 : gB (sF (sB (sF (sF μe 703 (x + 17) 0) 704 (x + 17) 0) 203 (x + 14) false) 1115 x 0) 203 (x + 14) = false := if_pos ⟨rfl, rfl⟩
    have X4 : gF (sF (sB (sF (sF μe 703 (x + 17) 0) 704 (x + 17) 0) 203 (x + 14) false) 1115 x 0) 703 (x + 17) = nI 0 := by
      rw [gF_sF, if_neg (by omega)]
      show gF (sF (sF μe 703 (x + 17) 0) 704 (x + 17) 0) 703 (x + 17) = _
      rw [sF_ne (by omega), sF_eq]; rfl
    have X5 : gF (sF (sB (sF (sF μe 703 (x + 17) 0) 704 (x + 17) 0) 203 (x + 14) false) 1115 x 0) 704 (x + 17) = nI 0 := by
      rw [gF_sF, if_neg (by omega)]
      show gF (sF (sF μe 703 (x + 17) 0) 704 (x + 17) 0) 704 (x + 17) = _
      rw [sF_eq]; rfl
    have X6 : ∀ k, k ≠ 1115 → gF (sF (sB (sF (sF μe 703 (x + 17) 0) 704 (x + 17) 0) 203 (x + 14) false) 1115 x 0) k x = gF μe k x := fun k hk => by
      rw [sF_ne hk]
      show gF (sF (sF μe 703 (x + 17) 0) 704 (x + 17) 0) k x = _
      rw [gF_sF, if_neg (by omega), gF_sF, if_neg (by omega)]
    have X7 : gF (sF (sB (sF (sF μe 703 (x + 17) 0) 704 (x + 17) 0) 203 (x + 14) false) 1115 x 0) 1115 x = nI 0 := sF_eq
    have X8 : ∀ k, gR (sF (sB (sF (sF μe 703 (x + 17) 0) 704 (x + 17) 0) 203 (x + 14) false) 1115 x 0) k x = gR μe k x := fun _ => rfl
    generalize sF (sB (sF (sF μe 703 (x + 17) 0) 704 (x + 17) 0) 203 (x + 14) false) 1115 x 0 = μf at Af X3 X4 X5 X6 X7 X8 ⊢
    have Y1 : gB (sB (sF (sF (sF νe 1245 m 0) 1252 m 0) 1253 m 0) 1260 m false) 1260 m = false := if_pos ⟨rfl, rfl⟩
    have Y2 : ∀ k, k ≠ 1260 → gB (sB (sF (sF (sF νe 1245 m 0) 1252 m 0) 1253 m 0) 1260 m false) k m = gB νe k m := fun k hk => if_neg (by omega)
    have Y3 : ∀ k, k ≠ 1245 → k ≠ 1252 → k ≠ 1253 → gF (sB (sF (sF (sF νe 1245 m 0) 1252 m 0) 1253 m 0) 1260 m false) k m = gF νe k m := fun k r1 r2 r3 => by
      show gF (sF (sF (sF νe 1245 m 0) 1252 m 0) 1253 m 0) k m = _
      rw [sF_ne r3, sF_ne r2, sF_ne r1]
    have Y4 : gF (sB (sF (sF (sF νe 1245 m 0) 1252 m 0) 1253 m 0) 1260 m false) 1245 m = nI 0 := by
      show gF (sF (sF (sF νe 1245 m 0) 1252 m 0) 1253 m 0) 1245 m = _
      rw [sF_ne (by omega), sF_ne (by omega), sF_eq]; rfl
    have Y5 : gF (sB (sF (sF (sF νe 1245 m 0) 1252 m 0) 1253 m 0) 1260 m false) 1252 m = nI 0 := by
      show gF (sF (sF (sF νe 1245 m 0) 1252 m 0) 1253 m 0) 1252 m = _
      rw [sF_ne (by omega), sF_eq]; rfl
    have Y6 : gF (sB (sF (sF (sF νe 1245 m 0) 1252 m 0) 1253 m 0) 1260 m false) 1253 m = nI 0 := by
      show gF (sF (sF (sF νe 1245 m 0) 1252 m 0) 1253 m 0) 1253 m = _
      rw [sF_eq]; rfl
    have Y7 : ∀ a j, gA (sB (sF (sF (sF νe 1245 m 0) 1252 m 0) 1253 m 0) 1260 m false) a j = gA νe a j := fun _ _ => rfl
    generalize sB (sF (sF (sF νe 1245 m 0) 1252 m 0) 1253 m 0) 1260 m false = νf at Y1 Y2 Y3 Y4 Y5 Y6 Y7 ⊢
    have fm2 := q3.2.2.2
    have FF : ∀ k, k ≠ 1245 → k ≠ 1252 → k ≠ 1253 → k ≠ 1200 → k ≠ 1244 → ¬ (1201 ≤ k ∧ k ≤ 1205) → gF νf k m = gF νb k m := fun k r1 r2 r3 r4 r5 r6 => by
      rw [Y3 k r1 r2 r3, fm2.1, bF k r4 r5, z3.1, sF_ne (by omega), sF_ne (by omega), sF_ne (by omega), sF_ne (by omega), sF_ne (by omega)]
    have GG : ∀ a j, a ≠ m + 24 → a ≠ m + 26 → a ≠ m + 27 → ¬ (m + 1 ≤ a ∧ a ≤ m + 20) → gA νf a j = gA ν1 a j := fun a j r1 r2 r3 r4 => by
      rw [Y7, fm2.2.2.2.1 a j (by omega) r2 r3, bA, z3.2.2.2.1 a j (by omega)]
      exact rn2.2.2.2.1 a j (by omega)
    have AA : ∀ a, a ≠ x → a ≠ x + 49 → a ≠ x + 50 → a ≠ x + 14 → a ≠ x + 17 → (a < w' ∨ w' + 13 ≤ a) → (a < x + 51 ∨ x + 312 ≤ a) → SA a μ1 μf := fun a r0 r1 r2 r3 r4 r5 r6 => ((cA a r0 r1 r2 r5).tr (A9 a r6)).tr (Af a r0 r3 r4)
    have X0 : ∀ k, k ≠ 1115 → gF μf k x = gF μ1 k x := fun k hk => by rw [X6 k hk, (A9 x (by omega)).1, cX]
    obtain ⟨⟨_, _, _, _, _, _, _, _, _⟩, td, ⟨⟨⟨n0, v1, v2, v3⟩, v4⟩, r1, _, ⟨s6, s7⟩, ⟨q, i1, i2, i3, i4⟩⟩, fz, sg, fm, ⟨hb, f, c0, a1, a2, a3, a4, a5, a6⟩, ol, ht⟩ := h1
    refine ⟨⟨q4.mv (fun a r1 r2 => Af a (by omega) (by omega) (by omega)) (fun a r1 r2 => Af a (by omega) (by omega) (by omega)), ?_, ?_, ?_, iv, s0, by omega, t0, rfl⟩, ⟨?_, fun y => ?_⟩, ⟨⟨⟨n0, v1, ?_, ?_⟩, fun j hj => ?_⟩, fun k hk => ?_, ⟨?_, ?_⟩, ⟨?_, ?_⟩, ⟨q, i1, ?_, ?_, fun j hj => ?_⟩⟩, fz.mv (fun a r1 r2 => AA a (by omega) (by omega) (by omega) (by omega) (by omega) (by omega) (by omega)), ⟨0, 0, by omega, by omega, X4, Y5, X5, Y6, fun k hk => absurd hk (by omega)⟩, ⟨by rw [X3, Y1], fun y => ?_⟩, ⟨hb.mv (AA _ (by omega) (by omega) (by omega) (by omega) (by omega) (by omega) (by omega)) (fun a ha => AA a (by omega) (by omega) (by omega) (by omega) (by omega) (by omega) (by omega)), f, 0, a1, by omega, by rw [X0 _ (by omega)]; exact a3, X7, Y4, fun k hk => absurd hk (by omega)⟩, fun j hj => by rw [GG _ _ (by omega) (by omega) (by omega) (by omega)]; exact ol j hj, ht⟩
    · rw [X8, (A9 x (by omega)).2.2.1]; exact u1
    · rw [X8, (A9 x (by omega)).2.2.1, u2]
      rcases hw' with ⟨y1, y2⟩ | ⟨y1, y2⟩
      · exact Or.inr ⟨y2, by rw [y1]⟩
      · exact Or.inl ⟨y2, by rw [y1]⟩
    · exact q3.row0.mv (fun k r1 r2 => Y3 k (by omega) (by omega) (by omega)) (fun d j _ _ => Y7 _ _) (fun j _ _ => Y7 _ _) (fun j => Y7 _ _) (fun j => Y7 _ _)
    · rw [(Af w' (by omega) (by omega) (by omega)).2.1, (A9 w' (by omega)).2.1, u3, Y2 _ (by omega), fm2.2.1, b1]
    · rw [(Af w' (by omega) (by omega) (by omega)).2.1, (A9 w' (by omega)).2.1, u3] at y
      cases y
    · rw [X0 _ (by omega)]; exact v2
    · rw [FF _ (by omega) (by omega) (by omega) (by omega) (by omega) (by omega), rn2.1 _ _ (by omega) (by omega)]; exact v3
    · rw [(AA (x + 1) (by omega) (by omega) (by omega) (by omega) (by omega) (by omega) (by omega)).2.2.2.1, GG _ _ (by omega) (by omega) (by omega) (by omega)]; exact v4 j hj
    · rw [(AA (x + 22) (by omega) (by omega) (by omega) (by omega) (by omega) (by omega) (by omega)).2.2.2.1, GG _ _ (by omega) (by omega) (by omega) (by omega)]; exact r1 k hk
    · rw [(Af (x + 49) (by omega) (by omega) (by omega)).1, (A9 (x + 49) (by omega)).1, kc7, FF _ (by omega) (by omega) (by omega) (by omega) (by omega) (by omega), s4]
    · rw [(Af (x + 49) (by omega) (by omega) (by omega)).1, (A9 (x + 49) (by omega)).1, kc8, FF _ (by omega) (by omega) (by omega) (by omega) (by omega) (by omega), s5]
    · rw [X0 _ (by omega), FF _ (by omega) (by omega) (by omega) (by omega) (by omega) (by omega), rn2.1 _ _ (by omega) (by omega)]; exact s6
    · rw [X0 _ (by omega)]; exact s7
    · rw [X0 _ (by omega)]; exact i2
    · rw [FF _ (by omega) (by omega) (by omega) (by omega) (by omega) (by omega), rn2.1 _ _ (by omega) (by omega)]; exact i3
    · rw [(AA (x + 21) (by omega) (by omega) (by omega) (by omega) (by omega) (by omega) (by omega)).2.2.2.1, GG _ _ (by omega) (by omega) (by omega) (by omega)]; exact i4 j hj
    · rw [X3] at y; cases y
  · rw [y1, y2, ozb2, ozb2, show ceq (-1 : Int32) (-1) = true from rfl, if_pos rfl]
    obtain ⟨⟨c, b1, b2, b3, b4, b5⟩, cf, rn⟩ := P
    have s1 : ceq (gF (sF (sF νa 1234 m (gF νa 1239 m)) 1235 m (gF (sF νa 1234 m (gF νa 1239 m)) 1240 m)) 1239 m) 0 = false := by
      rw [sF_ne (by omega), sF_ne (by omega), b4]
      exact (ceq_nI (b := 0) (by omega) (by omega)).trans (decide_eq_false (by omega))
    rw [s1, if_neg (by decide)]
    have h2 := h1.rd (ν' := sF (sF νa 1234 m (gF νa 1239 m)) 1235 m (gF (sF νa 1234 m (gF νa 1239 m)) 1240 m)) cf ((rn.sf (by omega)).sf (by omega)) hw' (by rw [sF_ne (by omega), sF_eq, b3, b4]) (by rw [sF_eq, sF_ne (by omega)]; exact b5)
    obtain ⟨μr, νr, u1, u2, u3⟩ := rf_int (k := 1) h2 (by omega)
    rw [show (1 : Int32) = nI 1 from rfl, u1, u2, ozb2, ozb2]
    exact ⟨_, _, _, rfl, rfl, u3⟩
end zNo
