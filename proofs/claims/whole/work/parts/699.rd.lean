/-! READING: a link's and a host's statement, both in one -/
def rhT (m : Nat) (μ4 : zM) : Option zM := zb2 (f12_knownBridge m μ4) fun t5 μ6 => (wA μ6 (m + 19) 8 (gF μ4 1219 m) t5).bind fun μ7 => (wF μ7 1219 m ((gF μ7 1219 m) + 1)).bind fun μ8 => some μ8
theorem rh_def (m : Nat) (μ : zM) : f12_readsHost m μ = (if (ceq (gF μ 1219 m) 8) = true then ((f12_fails m 5 (gF μ 1238 m) μ).bind fun μ9 => some μ9) else (some μ)).bind fun μ1 => (f12_goes m μ1).bind fun t2 => if t2 = true then ((f12_freshName m (8 + (gF μ1 1219 m)) μ1).bind fun μ3 => (f12_must m 12 μ3).bind fun μ4 => rhT m μ4) else (some μ1) := rfl
def chT (o_ : Nat) (v_host_5 : Int32) (μ11 : zM) : Option (Bool × zM) := zb2 (f5_bridgeName o_ μ11) fun t12 μ13 => if (ceq t12 (-1)) = true then (some (false, μ13)) else ((gR μ13 509 o_).bind fun w14 => (wA μ13 (w14 + 12) 8 v_host_5 t12).bind fun μ15 => some (true, μ15))
theorem ch_def (o_ : Nat) (μ : zM) : f5_hostStatement o_ μ = (gR μ 509 o_).bind fun w1 => if (ceq (gF μ 1017 w1) 8) = true then (zb2 (f5_fails o_ 5 (gF μ 503 o_) μ) fun t22 μ23 => some (t22, μ23)) else (zb2 (zb2 (zb2 (f5_word o_ 11 μ) fun t20 μ21 => some ((!t20), μ21)) fun b16 μ17 => if b16 = true then (some (true, μ17)) else (zb2 (f5_newName o_ μ17) fun t18 μ19 => some ((!t18), μ19))) fun b2 μ3 => if b2 = true then (some (false, μ3)) else ((gR μ3 509 o_).bind fun w4 => (some (gF μ3 1017 w4)).bind fun v_host_5 => (gR μ3 509 o_).bind fun w6 => (fJ_copy (o_ + 1) 6 0 (w6 + 2) 48 (v_host_5 * 6) 6 μ3).bind fun μ7 => (gR μ7 509 o_).bind fun w8 => (wF μ7 1017 w8 ((gF μ7 1017 w8) + 1)).bind fun μ9 => zb2 (f5_word o_ 12 μ9) fun t10 μ11 => if t10 = true then chT o_ v_host_5 μ11 else (some (false, μ11)))) := rfl
section zNj
variable {x m w n p q e k i j a z r c f v o b P ne l d : Nat} {μ0 ν0 μ ν μ' ν' μ1 ν1 μ2 ν2 μ6 : zM} {g T : Nat → Nat} {N N' : zN} {V V' : Nat → Nat → Prop} {u u1 u2 : Int32} {t : Bool}
theorem STM.mono {p' : Nat} {A : Option (Bool × zM)} {B : Option zM} (h : STM x m w n g μ0 ν0 p A B) (hp : p' ≤ p) : STM x m w n g μ0 ν0 p' A B := by
  rcases h with ⟨e, N', μ', ν', s0, s1, s2, s3, s4⟩ | S | S
  · exact Or.inl ⟨e, N', μ', ν', by omega, s1, s2, s3, s4⟩
  · exact Or.inr (Or.inl S)
  · exact Or.inr (Or.inr S)
theorem linkP (h0 : PT x m w n g μ0 ν0 N V q μ1 ν1) (hw : f5_word (x + 49) 6 μ1 = some (true, μ2)) (h : PT x m w n g μ0 ν0 N (vN N (2 * N 0 1)) p μ2 ν2) (h8 : gF ν2 1238 m = nI q) (Q : QW N (2 * N 0 1)) : STM x m w n g μ0 ν0 p (f5_linkStatement (x + 49) μ1) (f12_readsLink m ν2) := by
  have k15 : gF μ1 1016 w = nI (N 0 1) := h0.gc 0 1 (by omega) (by omega)
  have k17 : gF ν2 1218 m = nI (N 0 1) := h.gr 0 1 ⟨by omega, by omega, by omega, by omega⟩ (by unfold vN; omega)
  have g9 : gF ν2 1239 m = 0 := h.1.2.2.2.2.2.2.2.1
  have b8 := Q.1.2.1
  have hg : f12_goes m ν2 = some true := by unfold f12_goes; rw [g9]; rfl
  have gX : ∀ {y : zM}, ceq (gF y 1239 m) 0 = false → f12_goes m y = some false := fun hy => by unfold f12_goes; rw [hy]; rfl
  have e8 : ceq (nI (N 0 1)) 14 = decide (N 0 1 = 14) := ceq_nI (b := 14) (by omega) (by omega)
  rw [rl_def, cl_def, h0.2.1, obs, k15, k17, e8]
  by_cases c8 : N 0 1 = 14
  · have hd : ceq (gF (sF (sF ν2 1239 m 5) 1240 m (nI q)) 1239 m) 0 = false := by rw [sF_ne (by omega), sF_eq]; rfl
    rw [decide_eq_true c8, if_pos rfl, if_pos rfl, h8, R_fails0 g9, obs, obs, gX hd, obs, if_neg (by decide), h0.1.2.2.2.2.1]
    exact Or.inr (Or.inl ⟨sF (sF μ1 507 (x + 49) 5) 508 (x + 49) (nI q), _, rfl, rfl, ⟨5, by omega, by omega, by rw [sF_ne (by omega), sF_eq]; rfl, by rw [sF_ne (by omega), sF_eq]; rfl, by rw [sF_eq, sF_eq]⟩, h0.2.2.2.2.1.tr (CNf.ct ((CTf.w (by omega)).tr (CTf.w (by omega)))), h.2.2.2.2.2.1.tr (RNf.rt ((RTf.w (by omega)).tr (RTf.w (by omega))))⟩)
  · rw [decide_eq_false c8, if_neg (by decide), if_neg (by decide), obs, obs, obs, hg, obs, if_pos rfl, hw, ozb2, ozb2, Bool.not_true, if_neg (by decide), k15, show (2 : Int32) * nI (N 0 1) = nI (2 * N 0 1) from pk_mul _ _, nI_1]
    have E1 := endP (l := N 0 1) (d := 0) (k := 8) h Q rfl (by omega) (by omega) (by omega) (by omega)
    have E1' : ENP x m w n g μ0 ν0 N (2 * N 0 1) p 8 ν2 (f5_linkEnd (x + 49) (nI (2 * N 0 1)) μ2) (f12_readsEnd m 0 8 ν2) := E1
    rcases E1' with ⟨e, N1, μa, μb, ν3, c0, c1, c2, c3, c4, c5, c6⟩ | ⟨μa, ν3, c1, c2, c3, c4⟩
    · have g3 : gF ν3 1239 m = 0 := c4.1.2.2.2.2.2.2.2.1
      have hg3 : f12_goes m ν3 = some true := by unfold f12_goes; rw [g3]; rfl
      rw [c1, c3, ozb2, ozb2, Bool.not_true, if_neg (by decide), c2, ozb2, ozb2, Bool.not_true, if_neg (by decide), obs, hg3, obs, if_pos rfl]
      have E2 := endP (l := N 0 1) (d := 1) (k := 9) c4 c5 c6 (by omega) (by omega) (by omega) (by omega)
      have E2' : ENP x m w n g μ0 ν0 N1 (2 * N 0 1 + 1) e 9 ν3 (f5_linkEnd (x + 49) (nI (2 * N 0 1 + 1)) μb) (f12_readsEnd m 1 9 ν3) := E2
      have l3 : gF ν3 1218 m = nI (N 0 1) := by rw [← c6]; exact c4.gr 0 1 ⟨by omega, by omega, by omega, by omega⟩ (by unfold vN; omega)
      rcases E2' with ⟨e2, N2, μc, μd, ν4, d0, d1, d2, d3, d4, d5, d6⟩ | ⟨μc, ν4, d1, d2, d3, d4⟩
      · rw [d1, d3, ozb2, ozb2, Bool.not_true, if_neg (by decide), obs]
        exact (costP (l := N 0 1) d4 d5 (d6.trans c6) (by omega) d2).mono (by omega)
      · rw [d1, obs]
        obtain ⟨ν5, y1, y2⟩ := rlT_x (l := N 0 1) d2.1.nz (d3.trans l3) (by omega) d2
        rw [y1]
        rcases d4 with d4 | ⟨μd, d4, d5⟩
        · rw [d4, ozb2, ozb2, Bool.not_false, if_pos rfl]
          exact Or.inr (Or.inl ⟨_, _, rfl, rfl, y2⟩)
        · rw [d4, ozb2, ozb2, Bool.not_true, if_neg (by decide)]
          unfold clC cTold
          rw [d5, ozb2, ozb2, Bool.not_false, if_pos rfl, ozb2, if_pos rfl]
          exact Or.inr (Or.inl ⟨_, _, rfl, rfl, y2⟩)
    · rw [c1, obs, gX c2.1.nz, obs, if_neg (by decide)]
      rcases c4 with c4 | ⟨μb, c4, c5⟩
      · rw [c4, ozb2, ozb2, Bool.not_false, if_pos rfl, ozb2, if_pos rfl, ozb2, if_pos rfl]
        exact Or.inr (Or.inl ⟨_, _, rfl, rfl, c2⟩)
      · rw [c4, ozb2, ozb2, Bool.not_true, if_neg (by decide), c5, ozb2, ozb2, Bool.not_false, if_pos rfl, ozb2, if_pos rfl]
        exact Or.inr (Or.inl ⟨_, _, rfl, rfl, c2⟩)
theorem QW.ho (Q : QW N ne) (hh : N 0 2 = k) (h8 : k < 8) (hb : b < N 0 0) : QW (nu (nu (nub N 12 (6 * k) T) 0 2 (k + 1)) 10 k b) ne := by
  have e0 : nu (nu (nub N 12 (6 * k) T) 0 2 (k + 1)) 10 k b 0 2 = k + 1 := by rw [nu_ne (by omega), nu_eq]
  have eo : ∀ f i, f ≠ 12 → f ≠ 10 → ¬ (f = 0 ∧ i = 2) → nu (nu (nub N 12 (6 * k) T) 0 2 (k + 1)) 10 k b f i = N f i := fun f i h1 h2 h4 => by rw [nu_ne (fun y => h2 y.1), nu_ne h4, nub_ne (fun y => h1 y.1)]
  have ev : nu (nu (nub N 12 (6 * k) T) 0 2 (k + 1)) 10 k b 10 k = b := nu_eq
  have ei : ∀ i, i ≠ k → nu (nu (nub N 12 (6 * k) T) 0 2 (k + 1)) 10 k b 10 i = N 10 i := fun i h2 => by rw [nu_ne (by omega), nu_ne (by omega), nub_ne (by omega)]
  generalize nu (nu (nub N 12 (6 * k) T) 0 2 (k + 1)) 10 k b = M at e0 eo ev ei ⊢
  obtain ⟨⟨a1, a2, a3⟩, a4, a5, a6, a7, a8, a9, a10, a11, a12⟩ := Q
  have f0 : M 0 0 = N 0 0 := eo 0 0 (by omega) (by omega) (by omega)
  have f01 : M 0 1 = N 0 1 := eo 0 1 (by omega) (by omega) (by omega)
  have f1 : ∀ i, M 1 i = N 1 i := fun i => eo 1 i (by omega) (by omega) (by omega)
  have f2 : ∀ i, M 2 i = N 2 i := fun i => eo 2 i (by omega) (by omega) (by omega)
  have f3 : ∀ i, M 3 i = N 3 i := fun i => eo 3 i (by omega) (by omega) (by omega)
  have f4 : ∀ i, M 4 i = N 4 i := fun i => eo 4 i (by omega) (by omega) (by omega)
  refine ⟨⟨by omega, by omega, by omega⟩, fun c hc => ?_, fun c hc h => ?_, fun d hd => ?_, fun c p hc hp => ?_, fun j hj => ?_, ?_, fun h hh => ?_, fun c hc => ?_, fun d hd => ?_⟩
  · rw [f1]; exact a4 c (by omega)
  · rw [f1]; exact a5 c (by omega) h
  · rw [f0, f3, f4, f1, f2]; exact a6 d hd
  · rw [f1] at hp
    rw [f2, f3, f4]; exact a7 c p (by omega) hp
  · rw [eo 6 j (by omega) (by omega) (by omega), eo 7 j (by omega) (by omega) (by omega)]; exact a8 j (by omega)
  · rw [eo 0 3 (by omega) (by omega) (by omega), eo 0 4 (by omega) (by omega) (by omega)]; exact a9
  · rw [f0]
    by_cases y : h = k
    · rw [y, ev]; exact hb
    · rw [ei h y]; exact a10 h (by omega)
  · rw [eo 8 c (by omega) (by omega) (by omega), eo 9 c (by omega) (by omega) (by omega)]; exact a11 c (by omega)
  · rw [eo 5 d (by omega) (by omega) (by omega)]; exact a12 d hd
/-- a host read no further -/
theorem rhT_x (hd : ceq (gF ν 1239 m) 0 = false) (hl : gF ν 1219 m = nI l) (l8 : l < 8) (hb : BDD x m w μ0 ν0 μ ν) : ∃ ν', rhT m ν = some ν' ∧ BDD x m w μ0 ν0 μ ν' := by
  refine ⟨sF (sA ν (m + 19) l 0) 1219 m (nI l + 1), ?_, ?_⟩
  · unfold rhT
    rw [R_knownD hd, ozb2, hl, wA_nI l8 (by omega), obs, show gF (sA ν (m + 19) l 0) 1219 m = nI l from hl]
    rfl
  · obtain ⟨⟨c, c1, c2, c3, c4, c5⟩, b2, b3⟩ := hb
    exact ⟨⟨c, c1, c2, c3, by rw [sF_ne (by omega)]; exact c4, by rw [sF_ne (by omega)]; exact c5⟩, b2, (b3.sa (by omega)).sf (by omega)⟩
theorem hostP (h0 : PT x m w n g μ0 ν0 N V q μ1 ν1) (hw : f5_word (x + 49) 11 μ1 = some (true, μ2)) (h : PT x m w n g μ0 ν0 N (vN N (2 * N 0 1)) p μ2 ν2) (h8 : gF ν2 1238 m = nI q) (Q : QW N (2 * N 0 1)) : STM x m w n g μ0 ν0 p (f5_hostStatement (x + 49) μ1) (f12_readsHost m ν2) := by
  have k15 : gF μ1 1017 w = nI (N 0 2) := h0.gc 0 2 (by omega) (by omega)
  have k17 : gF ν2 1219 m = nI (N 0 2) := h.gr 0 2 ⟨by omega, by omega, by omega, by omega⟩ (by unfold vN; omega)
  have g9 : gF ν2 1239 m = 0 := h.1.2.2.2.2.2.2.2.1
  have b8 := Q.1.2.2
  have bb8 := Q.1.1
  have hg : f12_goes m ν2 = some true := by unfold f12_goes; rw [g9]; rfl
  have gX : ∀ {y : zM}, ceq (gF y 1239 m) 0 = false → f12_goes m y = some false := fun hy => by unfold f12_goes; rw [hy]; rfl
  have e8 : ceq (nI (N 0 2)) 8 = decide (N 0 2 = 8) := ceq_nI (b := 8) (by omega) (by omega)
  rw [rh_def, ch_def, h0.2.1, obs, k15, k17, e8]
  by_cases c8 : N 0 2 = 8
  · have hd : ceq (gF (sF (sF ν2 1239 m 5) 1240 m (nI q)) 1239 m) 0 = false := by rw [sF_ne (by omega), sF_eq]; rfl
    rw [decide_eq_true c8, if_pos rfl, if_pos rfl, h8, R_fails0 g9, obs, obs, gX hd, obs, if_neg (by decide), h0.1.2.2.2.2.1]
    exact Or.inr (Or.inl ⟨sF (sF μ1 507 (x + 49) 5) 508 (x + 49) (nI q), _, rfl, rfl, ⟨5, by omega, by omega, by rw [sF_ne (by omega), sF_eq]; rfl, by rw [sF_ne (by omega), sF_eq]; rfl, by rw [sF_eq, sF_eq]⟩, h0.2.2.2.2.1.tr (CNf.ct ((CTf.w (by omega)).tr (CTf.w (by omega)))), h.2.2.2.2.2.1.tr (RNf.rt ((RTf.w (by omega)).tr (RTf.w (by omega))))⟩)
  · rw [decide_eq_false c8, if_neg (by decide), if_neg (by decide), obs, hg, obs, if_pos rfl, hw, ozb2, ozb2, Bool.not_true, if_neg (by decide), k17, show (8 : Int32) + nI (N 0 2) = nI (8 + N 0 2) from nI_add _ _]
    rcases freshP (f := 12) (k := N 0 2) h (VN.of Q (fun f i _ y => y)) (Or.inr rfl) (by omega) with ⟨e2, T, μ3, μ4, ν4, c0, c1, c2, c3, c4, c5, c6, c7, c8⟩ | ⟨μ3, ν4, c1, c2, cR, c3⟩
    · have c5' : fJ_copy (x + 49 + 1) 6 0 (w + 2) 48 (nI (N 0 2) * 6) 6 μ3 = some μ4 := c5
      have c6' : f12_freshName m (nI (8 + N 0 2)) ν2 = some ν4 := c6
      have l4 : gF ν4 1219 m = nI (N 0 2) := by rw [c7 _ (by omega)]; exact k17
      have k4 : gF μ4 1017 w = nI (N 0 2) := by
        have y : gF μ4 1017 w = nI (nub N 12 (6 * N 0 2) T 0 2) := c8.gc 0 2 (by omega) (by omega)
        rw [y, nub_ne (by omega)]
      have P1 := c8.cf (i := 2) (v := N 0 2 + 1) (by omega)
      rw [c1, ozb2, ozb2, Bool.not_true, if_neg (by decide), c2, obs, c4, obs, obs, c5', obs, c8.2.1, obs, k4, nI_1, c6', obs]
      have hwf : wF μ4 1017 w (nI (N 0 2 + 1)) = some (sF μ4 1017 w (nI (N 0 2 + 1))) := rfl
      rw [hwf, obs]
      rcases mustP (k := 12) P1 (by omega) with ⟨e3, μ5, ν5, d0, d1, d2, d3, d4⟩ | ⟨μ5, ν5, d1, d2, dR, d3⟩
      · have d1' : f5_word (x + 49) 12 (sF μ4 1017 w (nI (N 0 2 + 1))) = some (true, μ5) := d1
        have d2' : f12_must m 12 ν4 = some ν5 := d2
        have l5 : gF ν5 1219 m = nI (N 0 2) := by rw [d3.1 _ _ (by omega)]; exact l4
        rw [d1', ozb2, if_pos rfl, d2', obs]
        have e00 : nu (nub N 12 (6 * N 0 2) T) 0 2 (N 0 2 + 1) 0 0 = N 0 0 := by rw [nu_ne (by omega), nub_ne (by omega)]
        unfold chT rhT
        have hK : (∃ q e b μ' ν', e3 < e ∧ b < N 0 0 ∧ f5_bridgeName (x + 49) μ5 = some (nI b, μ') ∧ f12_knownBridge m ν5 = some (nI b, ν') ∧ gF μ' 506 (x + 49) = nI q ∧ gF ν' 1238 m = nI q ∧ RTf m ν5 ν' ∧ PT x m w n g μ0 ν0 (nu (nub N 12 (6 * N 0 2) T) 0 2 (N 0 2 + 1)) (fun f' i' => (vN N (2 * N 0 1) f' i' ∨ (f' = 12 ∧ 6 * N 0 2 ≤ i' ∧ i' < 6 * N 0 2 + 6)) ∧ ¬ (f' = 0 ∧ i' = 2)) e μ' ν') ∨ (∃ μ' ν', f5_bridgeName (x + 49) μ5 = some (-1, μ') ∧ f12_knownBridge m ν5 = some (0, ν') ∧ RTf m ν5 ν' ∧ BDD x m w μ0 ν0 μ' ν') := by
          have y := knownB d4 (by rw [e00]; exact Q.1.1) (show (vN N (2 * N 0 1) 0 0 ∨ _) ∧ _ from ⟨Or.inl (by unfold vN; omega), by omega⟩) (fun i hi => by
            rw [e00] at hi
            exact (⟨Or.inl (by unfold vN; omega), by omega⟩ : (vN N (2 * N 0 1) 11 i ∨ (11 = 12 ∧ 6 * N 0 2 ≤ i ∧ i < 6 * N 0 2 + 6)) ∧ ¬ (11 = 0 ∧ i = 2)))
          rw [e00] at y
          exact y
        rcases hK with ⟨q2, e4, b, μ6, ν6, f0, f1, f2, f3, f4, f5, f6, f7⟩ | ⟨μ6, ν6, f2, f3, fR, f4⟩
        · have l6 : gF ν6 1219 m = nI (N 0 2) := by rw [f6.1 _ _ (by omega)]; exact l5
          rw [f2, f3, ozb2, ozb2, show ceq (nI b) (-1) = false from decide_eq_false (fun y => m1_ne (p := b) (by omega) y.symm), if_neg (by decide), f7.2.1, obs, wA_nI (by omega) (by omega), obs, l5, wA_nI (by omega) (by omega), obs, show gF (sA ν6 (m + 19) (N 0 2) (nI b)) 1219 m = nI (N 0 2) from l6, nI_1]
          have P2 := (f7.ca (f := 10) (i := N 0 2) (v := b) (by omega) (by omega) (by omega)).wa (f := 10) (i := N 0 2) (u := nI b) ⟨by omega, by omega, by omega, by omega⟩ (by omega) (by rw [nu_eq])
          have e02 : nu (nu (nub N 12 (6 * N 0 2) T) 0 2 (N 0 2 + 1)) 10 (N 0 2) b 0 2 = N 0 2 + 1 := by rw [nu_ne (by omega), nu_eq]
          have e00' : nu (nu (nub N 12 (6 * N 0 2) T) 0 2 (N 0 2 + 1)) 10 (N 0 2) b 0 0 = N 0 0 := by rw [nu_ne (by omega), nu_ne (by omega), nub_ne (by omega)]
          have e01' : nu (nu (nub N 12 (6 * N 0 2) T) 0 2 (N 0 2 + 1)) 10 (N 0 2) b 0 1 = N 0 1 := by rw [nu_ne (by omega), nu_ne (by omega), nub_ne (by omega)]
          have P3 := P2.wf (i := 2) (u := nI (N 0 2 + 1)) (by omega) (by rw [e02])
          have Q3 := Q.ho (T := T) rfl (by omega) f1
          refine Or.inl ⟨e4, nu (nu (nub N 12 (6 * N 0 2) T) 0 2 (N 0 2 + 1)) 10 (N 0 2) b, _, _, by omega, rfl, rfl, P3.wk (fun f i hr hh => ?_), by rw [e01']; exact Q3⟩
          unfold vN at hh
          rw [e00', e01', e02] at hh
          show (((((vN N (2 * N 0 1) f i ∨ (f = 12 ∧ 6 * N 0 2 ≤ i ∧ i < 6 * N 0 2 + 6)) ∧ ¬ (f = 0 ∧ i = 2)) ∧ ¬ (f = 10 ∧ i = N 0 2)) ∨ (f = 10 ∧ i = N 0 2)) ∨ (f = 0 ∧ i = 2))
          have go : (vN N (2 * N 0 1) f i ∨ (f = 12 ∧ 6 * N 0 2 ≤ i ∧ i < 6 * N 0 2 + 6)) → ¬ (f = 0 ∧ i = 2) → ¬ (f = 10 ∧ i = N 0 2) → (((((vN N (2 * N 0 1) f i ∨ (f = 12 ∧ 6 * N 0 2 ≤ i ∧ i < 6 * N 0 2 + 6)) ∧ ¬ (f = 0 ∧ i = 2)) ∧ ¬ (f = 10 ∧ i = N 0 2)) ∨ (f = 10 ∧ i = N 0 2)) ∨ (f = 0 ∧ i = 2)) := fun a1 a2 a3 => Or.inl (Or.inl ⟨⟨a1, a2⟩, a3⟩)
          by_cases z0 : f = 0 ∧ i = 2
          · exact Or.inr z0
          · by_cases z7 : f = 10 ∧ i = N 0 2
            · exact Or.inl (Or.inr z7)
            · refine go ?_ z0 z7
              clear go
              unfold vN
              rcases hh with h1 | h1 | h1 | h1 | ⟨h1, h2⟩ | h1 | ⟨h1, h2⟩
              · exact Or.inl (Or.inl h1)
              · exact Or.inl (Or.inr (Or.inl h1))
              · exact Or.inl (Or.inr (Or.inr (Or.inl h1)))
              · exact Or.inl (Or.inr (Or.inr (Or.inr (Or.inl h1))))
              · exact Or.inl (Or.inr (Or.inr (Or.inr (Or.inr (Or.inl ⟨h1, by omega⟩)))))
              · exact Or.inl (Or.inr (Or.inr (Or.inr (Or.inr (Or.inr (Or.inl h1))))))
              · by_cases c : i < 6 * N 0 2
                · exact Or.inl (Or.inr (Or.inr (Or.inr (Or.inr (Or.inr (Or.inr ⟨h1, c⟩))))))
                · exact Or.inr ⟨h1, by omega, by omega⟩
        · rw [f2, f3, ozb2, ozb2, show ceq (-1 : Int32) (-1) = true from rfl, if_pos rfl, l5, wA_nI (by omega) (by omega), obs]
          obtain ⟨⟨c, y1, y2, y3, y4, y5⟩, b2, b3⟩ := f4
          refine Or.inr (Or.inl ⟨μ6, _, rfl, rfl, ⟨c, y1, y2, y3, ?_, ?_⟩, b2, (b3.sa (by omega)).sf (by omega)⟩)
          · rw [sF_ne (by omega)]; exact y4
          · rw [sF_ne (by omega)]; exact y5
      · have d1' : f5_word (x + 49) 12 (sF μ4 1017 w (nI (N 0 2 + 1))) = some (false, μ5) := d1
        have d2' : f12_must m 12 ν4 = some ν5 := d2
        obtain ⟨ν6, y1, y2⟩ := rhT_x (l := N 0 2) d3.1.nz (by rw [dR.1 _ _ (by omega)]; exact l4) (by omega) d3
        rw [d1', ozb2, if_neg (by decide), d2', obs, y1]
        exact Or.inr (Or.inl ⟨_, _, rfl, rfl, y2⟩)
    · have c2' : f12_freshName m (nI (8 + N 0 2)) ν2 = some ν4 := c2
      obtain ⟨ν6, y1, y2⟩ := rhT_x (l := N 0 2) c3.1.nz (by rw [cR _ (by omega)]; exact k17) (by omega) c3
      rw [c1, ozb2, ozb2, Bool.not_false, if_pos rfl, c2', obs, R_mustD c3.1.nz, obs, y1]
      exact Or.inr (Or.inl ⟨_, _, rfl, rfl, y2⟩)
end zNj
