/-! READING: a link, both -/
def rlT (m : Nat) (μ5 : zM) : Option zM := zb2 (f12_number m 1 200 μ5) fun t6 μ7 => (wA μ7 (m + 17) 14 (gF μ5 1218 m) t6).bind fun μ8 => zb2 (f12_told m 10 1 3 μ8) fun t9 μ10 => (wA μ10 (m + 18) 14 (gF μ8 1218 m) t9).bind fun μ11 => (wF μ11 1218 m ((gF μ11 1218 m) + 1)).bind fun μ12 => some μ12
theorem rl_def (m : Nat) (μ : zM) : f12_readsLink m μ = (if (ceq (gF μ 1218 m) 14) = true then ((f12_fails m 5 (gF μ 1238 m) μ).bind fun μ13 => some μ13) else (some μ)).bind fun μ1 => (f12_goes m μ1).bind fun t2 => if t2 = true then ((f12_readsEnd m 0 8 μ1).bind fun μ3 => (f12_goes m μ3).bind fun t4 => if t4 = true then ((f12_readsEnd m 1 9 μ3).bind fun μ5 => rlT m μ5) else (some μ3)) else (some μ1) := rfl
def clT (o_ : Nat) (v_link_3 : Int32) (μ9 : zM) : Option (Bool × zM) := zb2 (cTold o_ 10 1 3 μ9) fun b10 μ11 => if b10 = true then (some (false, μ11)) else ((gR μ11 509 o_).bind fun w12 => (wA μ11 (w12 + 11) 14 v_link_3 (gF μ11 505 o_)).bind fun μ13 => (gR μ13 509 o_).bind fun w14 => (wF μ13 1016 w14 ((gF μ13 1016 w14) + 1)).bind fun μ15 => some (true, μ15))
def clC (o_ : Nat) (v_link_3 : Int32) (μ5 : zM) : Option (Bool × zM) := zb2 (cTold o_ 9 1 200 μ5) fun b6 μ7 => if b6 = true then (some (false, μ7)) else ((gR μ7 509 o_).bind fun w8 => (wA μ7 (w8 + 10) 14 v_link_3 (gF μ7 505 o_)).bind fun μ9 => clT o_ v_link_3 μ9)
theorem cl_def (o_ : Nat) (μ : zM) : f5_linkStatement o_ μ = (gR μ 509 o_).bind fun w1 => if (ceq (gF μ 1016 w1) 14) = true then (zb2 (f5_fails o_ 5 (gF μ 503 o_) μ) fun t42 μ43 => some (t42, μ43)) else ((gR μ 509 o_).bind fun w2 => (some (gF μ 1016 w2)).bind fun v_link_3 => zb2 (zb2 (zb2 (zb2 (zb2 (f5_word o_ 6 μ) fun t40 μ41 => some ((!t40), μ41)) fun b36 μ37 => if b36 = true then (some (true, μ37)) else (zb2 (f5_linkEnd o_ (2 * v_link_3) μ37) fun t38 μ39 => some ((!t38), μ39))) fun b32 μ33 => if b32 = true then (some (true, μ33)) else (zb2 (f5_word o_ 8 μ33) fun t34 μ35 => some ((!t34), μ35))) fun b28 μ29 => if b28 = true then (some (true, μ29)) else (zb2 (f5_linkEnd o_ ((2 * v_link_3) + 1) μ29) fun t30 μ31 => some ((!t30), μ31))) fun b4 μ5 => if b4 = true then (some (false, μ5)) else clC o_ v_link_3 μ5) := rfl
theorem le_def (o_ : Nat) (v_end : Int32) (μ : zM) : f5_linkEnd o_ v_end μ = zb2 (f5_bridgeName o_ μ) fun t1 μ2 => if (ceq t1 (-1)) = true then (some (false, μ2)) else ((gR μ2 509 o_).bind fun w3 => (rA μ2 (w3 + 5) 8 t1).bind fun t4 => if (ceq t4 6) = true then (zb2 (f5_fails o_ 5 (gF μ2 506 o_) μ2) fun t13 μ14 => some (t13, μ14)) else ((gR μ2 509 o_).bind fun w5 => (f10_addPort w5 t1 v_end μ2).bind fun μ6 => clE o_ v_end μ6)) := rfl
section zNi
variable {x m w n p q e k i j a z r c f v o b P ne l d : Nat} {μ0 ν0 μ ν μ' ν' μ1 ν1 μ2 ν2 μ6 : zM} {g T : Nat → Nat} {N N' : zN} {V V' : Nat → Nat → Prop} {u u1 u2 : Int32} {t : Bool}
theorem addP (hb : b < 8) (hP : P < 6) (hne : ne < 28) (h1 : gA μ (w + 5) b = nI P) : f10_addPort w (nI b) (nI ne) μ = some (sA (sZ (sA (sA (sA μ (w + 6) (6 * b + P) (nI ne)) (w + 7) ne (nI b)) (w + 8) ne (nI P)) (w + 9) ne false) (w + 5) b (nI (P + 1))) := by
  unfold f10_addPort
  rw [rA_nI hb (by omega), h1, obs, show (6 : Int32) = nI 6 from rfl, pk_mul, nI_add, show b * 6 + P = 6 * b + P by omega, wA_nI (by omega) (by omega), obs, wA_nI hne (by omega), obs, rA_nI hb (by omega), show gA (sA (sA μ (w + 6) (6 * b + P) (nI ne)) (w + 7) ne (nI b)) (w + 5) b = nI P from by rw [gA_sA, if_neg (by omega), gA_sA, if_neg (by omega)]; exact h1, obs, wA_nI hne (by omega), obs, wZ_nI hne (by omega), obs, rA_nI hb (by omega), show gA (sZ (sA (sA (sA μ (w + 6) (6 * b + P) (nI ne)) (w + 7) ne (nI b)) (w + 8) ne (nI P)) (w + 9) ne false) (w + 5) b = nI P from by
    show gA (sA (sA (sA μ (w + 6) (6 * b + P) (nI ne)) (w + 7) ne (nI b)) (w + 8) ne (nI P)) (w + 5) b = nI P
    rw [gA_sA, if_neg (by omega), gA_sA, if_neg (by omega), gA_sA, if_neg (by omega)]; exact h1, obs, nI_1, wA_nI hb (by omega), obs]
theorem ENP.mono {p' : Nat} {A : Option (Bool × zM)} {B : Option zM} (h : ENP x m w n g μ0 ν0 N ne p k ν A B) (hp : p' ≤ p) (hl : gF ν 1218 m = gF ν' 1218 m) : ENP x m w n g μ0 ν0 N ne p' k ν' A B := by
  rcases h with ⟨e, N', μa, μb, ν1, a0, a1, a2, a3, a4, a5, a6⟩ | ⟨μa, ν1, a1, a2, a3, a4⟩
  · exact Or.inl ⟨e, N', μa, μb, ν1, by omega, a1, a2, a3, a4, a5, a6⟩
  · exact Or.inr ⟨μa, ν1, a1, a2, a3.trans hl, a4⟩
theorem endP (h : PT x m w n g μ0 ν0 N (vN N ne) p μ ν) (Q : QW N ne) (hl : N 0 1 = l) (l14 : l < 14) (hd : d < 2) (hx : 2 * l + d = ne) (hk : k = 8 ∨ k = 9) : ENP x m w n g μ0 ν0 N ne p k ν (f5_linkEnd (x + 49) (nI ne) μ) (f12_readsEnd m (nI d) (nI k) ν) := by
  have l18 : gF ν 1218 m = nI l := by rw [← hl]; exact h.gr 0 1 ⟨by omega, by omega, by omega, by omega⟩ (by unfold vN; omega)
  have b8 := Q.1.1
  rw [le_def, re_def]
  rcases knownP h (VN.of Q (fun f i _ y => y)) with ⟨q, e, b, μ1, ν1, c0, cb, c1, c2, c3, c4, cR, c5⟩ | ⟨μ1, ν1, c1, c2, cR, c3⟩
  · have hP : gA μ1 (w + 5) b = nI (N 1 b) := c5.gc 1 b (by omega) (by omega)
    have rP : gA ν1 (m + 14) b = nI (N 1 b) := c5.gr 1 b ⟨by omega, by omega, by omega, by omega⟩ (by unfold vN; omega)
    have P6 := Q.2.1 b cb
    have g9 : gF ν1 1239 m = 0 := c5.1.2.2.2.2.2.2.2.1
    have l1 : gF ν1 1218 m = nI l := by rw [cR.1 _ _ (by omega)]; exact l18
    have hg : f12_goes m ν1 = some true := by unfold f12_goes; rw [g9]; rfl
    rw [c1, c2, ozb2, ozb2, show ceq (nI b) (-1) = false from decide_eq_false (fun y => m1_ne (p := b) (by omega) y.symm), if_neg (by decide), c5.2.1, obs, rA_nI (by omega) (by omega), hP, obs, hg, obs, obs, obs, if_pos rfl, rA_nI (by omega) (by omega), rP, obs, obs, show ceq (nI (N 1 b)) 6 = decide (N 1 b = 6) from ceq_nI (b := 6) (by omega) (by omega)]
    by_cases c6 : N 1 b = 6
    · rw [decide_eq_true c6, if_pos rfl, if_pos rfl, c3, c4, R_fails0 g9, obs, obs]
      have hx9 : ceq (gF (sF (sF ν1 1239 m 5) 1240 m (nI q)) 1239 m) 0 = false := by rw [sF_ne (by omega), sF_eq]; rfl
      have hg2 : f12_goes m (sF (sF ν1 1239 m 5) 1240 m (nI q)) = some false := by unfold f12_goes; rw [hx9]; rfl
      rw [hg2, obs, if_neg (by decide)]
      refine Or.inr ⟨sF (sF μ1 507 (x + 49) 5) 508 (x + 49) (nI q), _, rfl, ⟨⟨5, by omega, by omega, by rw [sF_ne (by omega), sF_eq]; rfl, by rw [sF_ne (by omega), sF_eq]; rfl, by rw [sF_eq, sF_eq]⟩, c5.2.2.2.2.1.tr (CNf.ct ((CTf.w (by omega)).tr (CTf.w (by omega)))), (c5.2.2.2.2.2.1.sf (by omega)).sf (by omega)⟩, ?_, Or.inl rfl⟩
      rw [sF_ne (by omega), sF_ne (by omega), l1, l18]
    · rw [decide_eq_false c6, if_neg (by decide), if_neg (by decide), addP (P := N 1 b) (by omega) (by omega) (by omega) hP, obs, obs, hg, obs, if_pos rfl]
      have ix : ∀ {ν3 : zM}, gF ν3 1218 m = nI l → (4 * (gF ν3 1218 m)) + (2 * nI d) = nI (2 * ne) := fun h3 => by
        rw [h3, show (4 : Int32) = nI 4 from rfl, show (2 : Int32) = nI 2 from rfl, pk_mul, pk_mul, nI_add]
        exact congrArg nI (by omega)
      rw [ix l1, wA_nI (by omega) (by omega), obs, rA_nI (by omega) (by omega), show gA (sA ν1 (m + 15) (2 * ne) (nI b)) (m + 14) b = nI (N 1 b) from by rw [gA_sA, if_neg (by omega)]; exact rP, obs, ix (show gF (sA ν1 (m + 15) (2 * ne) (nI b)) 1218 m = nI l from l1), nI_1, wA_nI (by omega) (by omega), obs, rA_nI (by omega) (by omega), show gA (sA (sA ν1 (m + 15) (2 * ne) (nI b)) (m + 15) (2 * ne + 1) (nI (N 1 b))) (m + 14) b = nI (N 1 b) from by rw [gA_sA, if_neg (by omega), gA_sA, if_neg (by omega)]; exact rP, obs, nI_1, wA_nI (by omega) (by omega), obs]
      have hE := EN.mk N b (N 1 b) ne
      have h5 : nu (nu (nu (nu (nu N 2 (6 * b + N 1 b) ne) 3 ne b) 4 ne (N 1 b)) 5 ne 0) 1 b (N 1 b + 1) 5 ne = 0 := by rw [nu_ne (by omega), nu_eq]
      have P1 := ((((c5.ca (f := 2) (i := 6 * b + N 1 b) (v := ne) (by omega) (by omega) (by omega)).ca (f := 3) (i := ne) (v := b) (by omega) (by omega) (by omega)).ca (f := 4) (i := ne) (v := N 1 b) (by omega) (by omega) (by omega)).cz (f := 5) (i := ne) (v := 0) (b := false) (by omega) rfl).ca (f := 1) (i := b) (v := N 1 b + 1) (by omega) (by omega) (by omega)
      have P2 := ((P1.wa (f := 3) (i := ne) (u := nI b) ⟨by omega, by omega, by omega, by omega⟩ (by omega) (by rw [hE.2.1])).wa (f := 4) (i := ne) (u := nI (N 1 b)) ⟨by omega, by omega, by omega, by omega⟩ (by omega) (by rw [hE.2.2.1])).wa (f := 1) (i := b) (u := nI (N 1 b + 1)) ⟨by omega, by omega, by omega, by omega⟩ (by omega) (by rw [hE.2.2.2.2.1])
      have E := endT (l := l) (d := d) (k := k) P2 Q hE h5 cb rfl (by omega) (by omega) l1 hx hk (fun f i hr y y5 => by
        show (((((((vN N ne f i ∧ ¬ (f = 2 ∧ i = 6 * b + N 1 b)) ∧ ¬ (f = 3 ∧ i = ne)) ∧ ¬ (f = 4 ∧ i = ne)) ∧ ¬ (f = 5 ∧ i = ne)) ∧ ¬ (f = 1 ∧ i = b)) ∨ (f = 3 ∧ i = ne)) ∨ (f = 4 ∧ i = ne)) ∨ (f = 1 ∧ i = b)
        have y2 := hr.2.1
        by_cases z3 : f = 3 ∧ i = ne
        · exact Or.inl (Or.inl (Or.inr z3))
        · by_cases z4 : f = 4 ∧ i = ne
          · exact Or.inl (Or.inr z4)
          · by_cases z1 : f = 1 ∧ i = b
            · exact Or.inr z1
            · refine Or.inl (Or.inl (Or.inl ⟨⟨⟨⟨⟨?_, fun y => y2 y.1⟩, z3⟩, z4⟩, y5⟩, z1⟩))
              rcases y with y | y | y
              · exact y
              · exact absurd y z3
              · exact absurd y z4)
      exact E.mono (by omega) (l1.trans l18.symm)
  · have hx9 := c3.1.nz
    have hg : f12_goes m ν1 = some false := by unfold f12_goes; rw [hx9]; rfl
    rw [c1, c2, ozb2, ozb2, show ceq (-1 : Int32) (-1) = true from rfl, if_pos rfl, hg, obs, obs, if_neg (by decide), obs, if_neg (by decide), obs, hg, obs, if_neg (by decide)]
    exact Or.inr ⟨μ1, ν1, rfl, c3, cR.1 _ _ (by omega), Or.inl rfl⟩
theorem QW.li (Q : QW N (2 * l + 2)) (hl : N 0 1 = l) (h14 : l < 14) (h1 : 1 ≤ v) (h2 : v ≤ 200) (h3 : 1 ≤ o) (h4 : o ≤ 3) : QW (nu (nu (nu N 6 l v) 7 l o) 0 1 (l + 1)) (2 * (l + 1)) := by
  have e0 : nu (nu (nu N 6 l v) 7 l o) 0 1 (l + 1) 0 1 = l + 1 := nu_eq
  have eo : ∀ f i, f ≠ 6 → f ≠ 7 → ¬ (f = 0 ∧ i = 1) → nu (nu (nu N 6 l v) 7 l o) 0 1 (l + 1) f i = N f i := fun f i h1 h2 h4 => by rw [nu_ne h4, nu_ne (fun y => h2 y.1), nu_ne (fun y => h1 y.1)]
  have ev : nu (nu (nu N 6 l v) 7 l o) 0 1 (l + 1) 6 l = v := by rw [nu_ne (by omega), nu_ne (by omega), nu_eq]
  have ew : nu (nu (nu N 6 l v) 7 l o) 0 1 (l + 1) 7 l = o := by rw [nu_ne (by omega), nu_eq]
  have ei : ∀ f i, f = 6 ∨ f = 7 → i ≠ l → nu (nu (nu N 6 l v) 7 l o) 0 1 (l + 1) f i = N f i := fun f i h1 h2 => by rw [nu_ne (by omega), nu_ne (by omega), nu_ne (by omega)]
  generalize nu (nu (nu N 6 l v) 7 l o) 0 1 (l + 1) = M at e0 eo ev ew ei ⊢
  rw [show 2 * (l + 1) = 2 * l + 2 by omega]
  obtain ⟨⟨a1, a2, a3⟩, a4, a5, a6, a7, a8, a9, a10, a11, a12⟩ := Q
  have f0 : M 0 0 = N 0 0 := eo 0 0 (by omega) (by omega) (by omega)
  have f1 : ∀ i, M 1 i = N 1 i := fun i => eo 1 i (by omega) (by omega) (by omega)
  have f2 : ∀ i, M 2 i = N 2 i := fun i => eo 2 i (by omega) (by omega) (by omega)
  have f3 : ∀ i, M 3 i = N 3 i := fun i => eo 3 i (by omega) (by omega) (by omega)
  have f4 : ∀ i, M 4 i = N 4 i := fun i => eo 4 i (by omega) (by omega) (by omega)
  refine ⟨⟨by omega, by omega, by rw [eo 0 2 (by omega) (by omega) (by omega)]; exact a3⟩, fun c hc => ?_, fun c hc h => ?_, fun d hd => ?_, fun c p hc hp => ?_, fun j hj => ?_, ?_, fun h hh => ?_, fun c hc => ?_, fun d hd => ?_⟩
  · rw [f1]; exact a4 c (by omega)
  · rw [f1]; exact a5 c (by omega) h
  · rw [f0, f3, f4, f1, f2]; exact a6 d hd
  · rw [f1] at hp
    rw [f2, f3, f4]; exact a7 c p (by omega) hp
  · by_cases y : j = l
    · rw [y, ev, ew]; exact ⟨⟨h1, h2⟩, h3, h4⟩
    · rw [ei 6 j (by omega) y, ei 7 j (by omega) y]; exact a8 j (by omega)
  · rw [eo 0 3 (by omega) (by omega) (by omega), eo 0 4 (by omega) (by omega) (by omega)]; exact a9
  · rw [eo 0 2 (by omega) (by omega) (by omega)] at hh
    rw [eo 10 h (by omega) (by omega) (by omega), f0]; exact a10 h hh
  · rw [eo 8 c (by omega) (by omega) (by omega), eo 9 c (by omega) (by omega) (by omega)]; exact a11 c (by omega)
  · rw [eo 5 d (by omega) (by omega) (by omega)]; exact a12 d hd
/-- a link read no further -/
theorem rlT_x (hd : ceq (gF ν 1239 m) 0 = false) (hl : gF ν 1218 m = nI l) (l14 : l < 14) (hb : BDD x m w μ0 ν0 μ ν) : ∃ ν', rlT m ν = some ν' ∧ BDD x m w μ0 ν0 μ ν' := by
  have hd2 : ceq (gF (sA ν (m + 17) l 0) 1239 m) 0 = false := hd
  refine ⟨sF (sA (sA ν (m + 17) l 0) (m + 18) l 0) 1218 m (nI l + 1), ?_, ?_⟩
  · unfold rlT
    rw [R_numD hd, ozb2, hl, wA_nI l14 (by omega), obs, R_toldD hd2, ozb2, show gF (sA ν (m + 17) l 0) 1218 m = nI l from hl, wA_nI l14 (by omega), obs, show gF (sA (sA ν (m + 17) l 0) (m + 18) l 0) 1218 m = nI l from hl]
    rfl
  · obtain ⟨⟨c, c1, c2, c3, c4, c5⟩, b2, b3⟩ := hb
    exact ⟨⟨c, c1, c2, c3, by rw [sF_ne (by omega)]; exact c4, by rw [sF_ne (by omega)]; exact c5⟩, b2, ((b3.sa (by omega)).sa (by omega)).sf (by omega)⟩
/-- cost and steps of a link -/
theorem costP (h : PT x m w n g μ0 ν0 N (vN N (2 * l + 2)) p μ ν) (Q : QW N (2 * l + 2)) (hl : N 0 1 = l) (l14 : l < 14) (hw : f5_word (x + 49) 9 μ1 = some (true, μ)) : STM x m w n g μ0 ν0 p (clC (x + 49) (nI l) μ1) (rlT m ν) := by
  have l18 : gF ν 1218 m = nI l := by rw [← hl]; exact h.gr 0 1 ⟨by omega, by omega, by omega, by omega⟩ (by unfold vN; omega)
  have hT : ∀ {t μ3}, f5_number (x + 49) (nI 1) (nI 200) μ = some (t, μ3) → cTold (x + 49) 9 1 200 μ1 = some (!t, μ3) := fun hn => by
    have hn' : f5_number (x + 49) 1 200 μ = some (_, _) := hn
    unfold cTold
    rw [hw, ozb2, ozb2, Bool.not_true, if_neg (by decide), hn', ozb2]
  unfold clC
  rcases numP (lo := 1) (hi := 200) h (by omega) (by omega) with ⟨e, v, μ3, ν3, c0, c1, c2, c3, c4, c5, cR, c6⟩ | ⟨μ3, ν3, c1, c2, cR, c3⟩
  · have c4' : f12_number m 1 200 ν = some (nI v, ν3) := c4
    have l3 : gF ν3 1218 m = nI l := by rw [cR.1 _ _ (by omega)]; exact l18
    unfold rlT
    rw [hT c3, ozb2, Bool.not_true, if_neg (by decide), c6.2.1, obs, c5, wA_nI l14 (by omega), obs, c4', ozb2, l18, wA_nI l14 (by omega), obs]
    have e6 : nu N 6 l v 6 l = v := nu_eq
    have P1 := (c6.ca (f := 6) (i := l) (v := v) (by omega) (by omega) (by omega)).wa (f := 6) (i := l) (u := nI v) ⟨by omega, by omega, by omega, by omega⟩ (by omega) (by rw [e6])
    unfold clT
    rcases toldP (k := 10) (lo := 1) (hi := 3) P1 (by omega) (by omega) (by omega) with ⟨e2, o, μ4, ν4, d0, d1, d2, d3, d4, d5, dR, d6⟩ | ⟨μ4, ν4, d1, d2, d3⟩
    · have d4' : f12_told m 10 1 3 (sA ν3 (m + 17) l (nI v)) = some (nI o, ν4) := d4
      have d3' : cTold (x + 49) 10 1 3 (sA μ3 (w + 10) l (nI v)) = some (false, μ4) := d3
      have l4 : gF ν4 1218 m = nI l := by rw [dR.1 _ _ (by omega)]; exact l3
      have k4 : gF μ4 1016 w = nI l := by
        have y : gF μ4 1016 w = nI (nu N 6 l v 0 1) := d6.gc 0 1 (by omega) (by omega)
        rw [y, nu_ne (by omega), hl]
      rw [d3', ozb2, if_neg (by decide), d6.2.1, obs, d5, wA_nI l14 (by omega), obs, show gR (sA μ4 (w + 11) l (nI o)) 509 (x + 49) = some w from d6.2.1, obs, show gF (sA μ4 (w + 11) l (nI o)) 1016 w = nI l from k4, nI_1, d4', ozb2, show gF (sA ν3 (m + 17) l (nI v)) 1218 m = nI l from l3, wA_nI l14 (by omega), obs, show gF (sA ν4 (m + 18) l (nI o)) 1218 m = nI l from l4, nI_1]
      have e7 : nu (nu N 6 l v) 7 l o 7 l = o := nu_eq
      have P2 := ((d6.ca (f := 7) (i := l) (v := o) (by omega) (by omega) (by omega)).wa (f := 7) (i := l) (u := nI o) ⟨by omega, by omega, by omega, by omega⟩ (by omega) (by rw [e7])).cf (i := 1) (v := l + 1) (by omega)
      have P3 := P2.wf (i := 1) (u := nI (l + 1)) (by omega) (by rw [nu_eq])
      have Q3 := Q.li hl l14 c1 c2 d1 d2
      have e01 : nu (nu (nu N 6 l v) 7 l o) 0 1 (l + 1) 0 1 = l + 1 := nu_eq
      have e00 : nu (nu (nu N 6 l v) 7 l o) 0 1 (l + 1) 0 0 = N 0 0 := by rw [nu_ne (by omega), nu_ne (by omega), nu_ne (by omega)]
      have e02 : nu (nu (nu N 6 l v) 7 l o) 0 1 (l + 1) 0 2 = N 0 2 := by rw [nu_ne (by omega), nu_ne (by omega), nu_ne (by omega)]
      refine Or.inl ⟨e2, nu (nu (nu N 6 l v) 7 l o) 0 1 (l + 1), _, _, by omega, rfl, rfl, P3.wk (fun f i hr hh => ?_), by rw [e01]; exact Q3⟩
      unfold vN at hh
      rw [e00, e01, e02] at hh
      show ((((((vN N (2 * l + 2) f i ∧ ¬ (f = 6 ∧ i = l)) ∨ (f = 6 ∧ i = l)) ∧ ¬ (f = 7 ∧ i = l)) ∨ (f = 7 ∧ i = l)) ∧ ¬ (f = 0 ∧ i = 1)) ∨ (f = 0 ∧ i = 1))
      have go : vN N (2 * l + 2) f i → ¬ (f = 6 ∧ i = l) → ¬ (f = 7 ∧ i = l) → ¬ (f = 0 ∧ i = 1) → ((((((vN N (2 * l + 2) f i ∧ ¬ (f = 6 ∧ i = l)) ∨ (f = 6 ∧ i = l)) ∧ ¬ (f = 7 ∧ i = l)) ∨ (f = 7 ∧ i = l)) ∧ ¬ (f = 0 ∧ i = 1)) ∨ (f = 0 ∧ i = 1)) := fun a1 a2 a3 a4 => Or.inl ⟨Or.inl ⟨Or.inl ⟨a1, a2⟩, a3⟩, a4⟩
      by_cases z0 : f = 0 ∧ i = 1
      · exact Or.inr z0
      · by_cases z7 : f = 7 ∧ i = l
        · exact Or.inl ⟨Or.inr z7, z0⟩
        · by_cases z6 : f = 6 ∧ i = l
          · exact Or.inl ⟨Or.inl ⟨Or.inr z6, z7⟩, z0⟩
          · refine go ?_ z6 z7 z0
            clear go
            unfold vN
            rw [hl]
            rcases hh with h1 | h1 | ⟨h1, h2⟩ | ⟨h1, h2⟩ | h1 | h1 | h1
            · exact Or.inl h1
            · exact Or.inr (Or.inl h1)
            · exact Or.inr (Or.inr (Or.inl ⟨h1, by omega⟩))
            · exact Or.inr (Or.inr (Or.inr (Or.inl ⟨h1, by omega⟩)))
            · exact Or.inr (Or.inr (Or.inr (Or.inr (Or.inl h1))))
            · exact Or.inr (Or.inr (Or.inr (Or.inr (Or.inr (Or.inl h1)))))
            · exact Or.inr (Or.inr (Or.inr (Or.inr (Or.inr (Or.inr h1)))))
    · have d2' : f12_told m 10 1 3 (sA ν3 (m + 17) l (nI v)) = some (0, ν4) := d2
      have d1' : cTold (x + 49) 10 1 3 (sA μ3 (w + 10) l (nI v)) = some (true, μ4) := d1
      rw [d1', ozb2, if_pos rfl, d2', ozb2, show gF (sA ν3 (m + 17) l (nI v)) 1218 m = nI l from l3, wA_nI l14 (by omega), obs]
      obtain ⟨⟨c, y1, y2, y3, y4, y5⟩, b2, b3⟩ := d3
      refine Or.inr (Or.inl ⟨μ4, _, rfl, rfl, ⟨c, y1, y2, y3, ?_, ?_⟩, b2, (b3.sa (by omega)).sf (by omega)⟩)
      · rw [sF_ne (by omega)]; exact y4
      · rw [sF_ne (by omega)]; exact y5
  · have c2' : f12_number m 1 200 ν = some (0, ν3) := c2
    have l3 : gF ν3 1218 m = nI l := by rw [cR.1 _ _ (by omega)]; exact l18
    have hd2 : ceq (gF (sA ν3 (m + 17) l 0) 1239 m) 0 = false := c3.1.nz
    unfold rlT
    rw [hT c1, ozb2, Bool.not_false, if_pos rfl, c2', ozb2, l18, wA_nI l14 (by omega), obs, R_toldD hd2, ozb2, show gF (sA ν3 (m + 17) l 0) 1218 m = nI l from l3, wA_nI l14 (by omega), obs]
    obtain ⟨⟨c, y1, y2, y3, y4, y5⟩, b2, b3⟩ := c3
    refine Or.inr (Or.inl ⟨μ3, _, rfl, rfl, ⟨c, y1, y2, y3, ?_, ?_⟩, b2, ((b3.sa (by omega)).sa (by omega)).sf (by omega)⟩)
    · rw [sF_ne (by omega)]; exact y4
    · rw [sF_ne (by omega)]; exact y5
end zNi
