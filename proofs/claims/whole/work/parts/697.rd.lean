/-! READING: an end of a link, both -/
/-- an end more -/
def EN (N N' : zN) (b P ne : Nat) : Prop := N' 2 (6 * b + P) = ne ∧ N' 3 ne = b ∧ N' 4 ne = P ∧ N' 5 ne ≤ 1 ∧ N' 1 b = P + 1 ∧ ∀ f i, ¬ (f = 2 ∧ i = 6 * b + P) → ¬ (f = 3 ∧ i = ne) → ¬ (f = 4 ∧ i = ne) → ¬ (f = 5 ∧ i = ne) → ¬ (f = 1 ∧ i = b) → N' f i = N f i
def reT (m : Nat) (v_behind : Int32) (ix : Int32) (μ9 : zM) : Option zM := (f12_word m μ9).bind fun μ10 => (((f12_goes m μ10).bind fun t14 => some t14).bind fun b12 => if b12 = true then ((f12_own m μ10).bind fun t13 => some (ceq t13 7)) else (some false)).bind fun b11 => (if b11 = true then (some 1) else (some 0)).bind fun x15 => (wA μ10 (m + 16) 28 ((2 * (gF μ10 1218 m)) + ix) x15).bind fun μ16 => (if b11 = true then ((f12_word m μ16).bind fun μ23 => some μ23) else (some μ16)).bind fun μ17 => (((f12_goes m μ17).bind fun t22 => some t22).bind fun b20 => if b20 = true then ((f12_own m μ17).bind fun t21 => some (!(ceq t21 v_behind))) else (some false)).bind fun b18 => if b18 = true then ((f12_fails m 1 (gF μ17 1238 m) μ17).bind fun μ19 => some μ19) else (some μ17)
theorem re_def (m : Nat) (v_end v_behind : Int32) (μ : zM) : f12_readsEnd m v_end v_behind μ = zb2 (f12_knownBridge m μ) fun t1 μ2 => ((((f12_goes m μ2).bind fun t28 => some t28).bind fun b26 => if b26 = true then ((rA μ2 (m + 14) 8 t1).bind fun t27 => some (ceq t27 6)) else (some false)).bind fun b24 => if b24 = true then ((f12_fails m 5 (gF μ2 1238 m) μ2).bind fun μ25 => some μ25) else (some μ2)).bind fun μ3 => (f12_goes m μ3).bind fun t4 => if t4 = true then ((wA μ3 (m + 15) 56 ((4 * (gF μ3 1218 m)) + (2 * v_end)) t1).bind fun μ5 => (rA μ5 (m + 14) 8 t1).bind fun t6 => (wA μ5 (m + 15) 56 (((4 * (gF μ5 1218 m)) + (2 * v_end)) + 1) t6).bind fun μ7 => (rA μ7 (m + 14) 8 t1).bind fun t8 => (wA μ7 (m + 14) 8 t1 (t8 + 1)).bind fun μ9 => reT m v_behind v_end μ9) else (some μ3) := rfl
section zNh
variable {x m w n p q e k i j a z r c f v o b P ne l d : Nat} {μ0 ν0 μ ν μ' ν' μ1 ν1 μ2 ν2 μ6 : zM} {g T : Nat → Nat} {N N' : zN} {V V' : Nat → Nat → Prop} {u u1 u2 : Int32} {t : Bool}
theorem QW.en (Q : QW N ne) (hE : EN N N' b P ne) (hb : b < N 0 0) (hP : N 1 b = P) (h6 : P < 6) : QW N' (ne + 1) := by
  obtain ⟨n2, n3, n4, n5, n1, no⟩ := hE
  obtain ⟨⟨a1, a2, a3⟩, a4, a5, a6, a7, a8, a9, a10, a11, a12⟩ := Q
  have e0 : ∀ i, N' 0 i = N 0 i := fun i => no 0 i (by omega) (by omega) (by omega) (by omega) (by omega)
  have e1 : ∀ i, i ≠ b → N' 1 i = N 1 i := fun i hi => no 1 i (by omega) (by omega) (by omega) (by omega) (by omega)
  have e2 : ∀ i, i ≠ 6 * b + P → N' 2 i = N 2 i := fun i hi => no 2 i (by omega) (by omega) (by omega) (by omega) (by omega)
  have e3 : ∀ i, i ≠ ne → N' 3 i = N 3 i := fun i hi => no 3 i (by omega) (by omega) (by omega) (by omega) (by omega)
  have e4 : ∀ i, i ≠ ne → N' 4 i = N 4 i := fun i hi => no 4 i (by omega) (by omega) (by omega) (by omega) (by omega)
  have e5 : ∀ i, i ≠ ne → N' 5 i = N 5 i := fun i hi => no 5 i (by omega) (by omega) (by omega) (by omega) (by omega)
  have eh : ∀ f i, 5 < f → N' f i = N f i := fun f i hf => no f i (by omega) (by omega) (by omega) (by omega) (by omega)
  refine ⟨⟨by rw [e0]; exact a1, by rw [e0]; exact a2, by rw [e0]; exact a3⟩, fun c hc => ?_, fun c hc h => ?_, fun d hd => ?_, fun c p hc hp => ?_, fun l hl => ?_, by rw [e0, e0]; exact a9, fun h hh => ?_, fun c hc => ?_, fun d hd => ?_⟩
  · rw [e0] at hc
    by_cases y : c = b
    · rw [y, n1]; omega
    · rw [e1 c y]; exact a4 c hc
  · rw [e0] at hc
    rw [e1 c (by omega)]; exact a5 c hc h
  · rw [e0]
    by_cases y : d = ne
    · rw [y, n3, n4, n1]
      exact ⟨hb, by omega, n2⟩
    · obtain ⟨b1, b2, b3⟩ := a6 d (by omega)
      have b6' := a4 (N 3 d) b1
      rw [e3 d y, e4 d y]
      refine ⟨b1, ?_, ?_⟩
      · by_cases y2 : N 3 d = b
        · rw [y2, n1]; rw [y2] at b2; omega
        · rw [e1 _ y2]; exact b2
      · rw [e2 _ (fun y3 => by
          have y4 : N 3 d = b := by omega
          rw [y4] at b2 y3
          omega)]
        exact b3
  · rw [e0] at hc
    by_cases y : c = b
    · rw [y] at hp ⊢
      rw [n1] at hp
      by_cases y2 : p = P
      · rw [y2, n2, n3, n4]
        exact ⟨by omega, rfl, rfl⟩
      · obtain ⟨b1, b2, b3⟩ := a7 b p hb (by omega)
        rw [e2 _ (by omega), e3 _ (by omega), e4 _ (by omega)]
        exact ⟨by omega, b2, b3⟩
    · rw [e1 c y] at hp
      obtain ⟨b1, b2, b3⟩ := a7 c p hc hp
      have := a4 c hc
      rw [e2 _ (by omega), e3 _ (by omega), e4 _ (by omega)]
      exact ⟨by omega, b2, b3⟩
  · rw [e0] at hl
    rw [eh 6 l (by omega), eh 7 l (by omega)]; exact a8 l hl
  · rw [e0] at hh
    rw [eh 10 h (by omega), e0]; exact a10 h hh
  · rw [e0] at hc
    rw [eh 8 c (by omega), eh 9 c (by omega)]; exact a11 c hc
  · by_cases y : d = ne
    · rw [y]; exact n5
    · rw [e5 d y]; exact a12 d (by omega)
theorem EN.mk (N : zN) (b P ne : Nat) : EN N (nu (nu (nu (nu (nu N 2 (6 * b + P) ne) 3 ne b) 4 ne P) 5 ne 0) 1 b (P + 1)) b P ne := by
  refine ⟨?_, ?_, ?_, ?_, nu_eq, fun f i h1 h2 h3 h4 h5 => ?_⟩
  · rw [nu_ne (by omega), nu_ne (by omega), nu_ne (by omega), nu_ne (by omega), nu_eq]
  · rw [nu_ne (by omega), nu_ne (by omega), nu_ne (by omega), nu_eq]
  · rw [nu_ne (by omega), nu_ne (by omega), nu_eq]
  · rw [nu_ne (by omega), nu_eq]; omega
  · rw [nu_ne h5, nu_ne h4, nu_ne h3, nu_ne h2, nu_ne h1]
theorem EN.r5 (h : EN N N' b P ne) (ho : o ≤ 1) : EN N (nu N' 5 ne o) b P ne := by
  obtain ⟨n2, n3, n4, n5, n1, no⟩ := h
  exact ⟨by rw [nu_ne (by omega)]; exact n2, by rw [nu_ne (by omega)]; exact n3, by rw [nu_ne (by omega)]; exact n4, by rw [nu_eq]; exact ho, by rw [nu_ne (by omega)]; exact n1, fun f i h1 h2 h3 h4 h5 => by rw [nu_ne h4]; exact no f i h1 h2 h3 h4 h5⟩
/-- how an end and the word behind it are read -/
def ENP (x m w n : Nat) (g : Nat → Nat) (μ0 ν0 : zM) (N : zN) (ne p k : Nat) (ν : zM) (A : Option (Bool × zM)) (B : Option zM) : Prop := (∃ e N' μa μb ν', p < e ∧ A = some (true, μa) ∧ f5_word (x + 49) k μa = some (true, μb) ∧ B = some ν' ∧ PT x m w n g μ0 ν0 N' (vN N' (ne + 1)) e μb ν' ∧ QW N' (ne + 1) ∧ N' 0 1 = N 0 1) ∨ (∃ μa ν', B = some ν' ∧ BDD x m w μ0 ν0 μa ν' ∧ gF ν' 1218 m = gF ν 1218 m ∧ (A = some (false, μa) ∨ ∃ μb, A = some (true, μb) ∧ f5_word (x + 49) k μb = some (false, μa)))
def clE (o_ : Nat) (v_end : Int32) (μ6 : zM) : Option (Bool × zM) := zb2 (f5_nextIs o_ 7 μ6) fun t7 μ8 => if t7 = true then ((gR μ8 509 o_).bind fun w9 => (wZ μ8 (w9 + 9) 28 v_end true).bind fun μ10 => zb2 (f5_word o_ 7 μ10) fun t11 μ12 => some (t11, μ12)) else (some (true, μ8))
theorem PT.end1 (h : PT x m w n g μ0 ν0 N' V p μ ν) (Q : QW N ne) (hE : EN N N' b P ne) (hb : b < N 0 0) (hP : N 1 b = P) (h6 : P < 6) (h5 : o = N' 5 ne) (hV : ∀ f i, rv f i → vN N ne f i ∨ (f = 3 ∧ i = ne) ∨ (f = 4 ∧ i = ne) → ¬ (f = 5 ∧ i = ne) → V f i) : PT x m w n g μ0 ν0 N' (vN N' (ne + 1)) p μ (sA ν (m + 16) ne (nI o)) ∧ QW N' (ne + 1) := by
  refine ⟨(h.wa (f := 5) (i := ne) (u := nI o) ⟨by omega, by omega, by omega, by omega⟩ (by omega) (by rw [h5])).wk (fun f i hr hh => ?_), Q.en hE hb hP h6⟩
  have e0 : ∀ i, N' 0 i = N 0 i := fun i => hE.2.2.2.2.2 0 i (by omega) (by omega) (by omega) (by omega) (by omega)
  unfold vN at hh
  rw [e0, e0, e0] at hh
  show V f i ∨ (f = 5 ∧ i = ne)
  by_cases y : f = 5 ∧ i = ne
  · exact Or.inr y
  · refine Or.inl (hV f i hr ?_ y)
    unfold vN
    clear hV
    rcases hh with h1 | h1 | ⟨h1, h2⟩ | h1 | h1 | h1 | h1
    · exact Or.inl (Or.inl h1)
    · exact Or.inl (Or.inr (Or.inl h1))
    · by_cases c : i = ne
      · exact Or.inr (by omega)
      · exact Or.inl (Or.inr (Or.inr (Or.inl ⟨h1, by omega⟩)))
    · exact Or.inl (Or.inr (Or.inr (Or.inr (Or.inl h1))))
    · exact Or.inl (Or.inr (Or.inr (Or.inr (Or.inr (Or.inl h1)))))
    · exact Or.inl (Or.inr (Or.inr (Or.inr (Or.inr (Or.inr (Or.inl h1))))))
    · exact Or.inl (Or.inr (Or.inr (Or.inr (Or.inr (Or.inr (Or.inr h1))))))
/-- the tail of an end -/
theorem endT (h : PT x m w n g μ0 ν0 N' V p μ ν) (Q : QW N ne) (hE : EN N N' b P ne) (hz : N' 5 ne = 0) (hb : b < N 0 0) (hP : N 1 b = P) (h6 : P < 6) (hne : ne < 28) (hl : gF ν 1218 m = nI l) (hx : 2 * l + d = ne) (hk : k = 8 ∨ k = 9) (hV : ∀ f i, rv f i → vN N ne f i ∨ (f = 3 ∧ i = ne) ∨ (f = 4 ∧ i = ne) → ¬ (f = 5 ∧ i = ne) → V f i) : ENP x m w n g μ0 ν0 N ne (p - 1) k ν (clE (x + 49) (nI ne) μ) (reT m (nI k) (nI d) ν) := by
  have k13 : k < 13 := by omega
  obtain ⟨q, s⟩ := SK.ex g n (n - p) p rfl h.1.2.2.2.1
  obtain ⟨e, w1⟩ := WE.ex g n (n - q) q rfl s.2.1
  have s1 := s.1
  have tn := h.1.1.1
  have s2 := s.2.1
  have hsk := h.tk (h.1.sk s) (CTf.w (by omega)) (RTf.w (by omega))
  have e01 : N' 0 1 = N 0 1 := hE.2.2.2.2.2 0 1 (by omega) (by omega) (by omega) (by omega) (by omega)
  have ix : ∀ {ν3 : zM}, gF ν3 1218 m = nI l → (2 * (gF ν3 1218 m)) + nI d = nI ne := fun h3 => by
    rw [h3, show (2 : Int32) = nI 2 from rfl, pk_mul, nI_add, hx]
  unfold reT
  rw [rw_sk h.1.2.1 h.1.2.2.2.2.2.1 h.1.2.2.2.2.2.2.2.1 s w1]
  have hC : clE (x + 49) (nI ne) μ = zb2 (f5_nextIs (x + 49) 7 (sF μ 503 (x + 49) (nI q))) fun t7 μ8 => if t7 = true then ((gR μ8 509 (x + 49)).bind fun w9 => (wZ μ8 (w9 + 9) 28 (nI ne) true).bind fun μ10 => zb2 (f5_word (x + 49) 7 μ10) fun t11 μ12 => some (t11, μ12)) else (some (true, μ8)) := by
    unfold clE
    rw [nx_sk h.1.1 h.1.2.2.2.2.1 s]
  rw [hC]
  have hl2 : gF (sF ν 1237 m (nI q)) 1218 m = nI l := by rw [sF_ne (by omega)]; exact hl
  generalize sF μ 503 (x + 49) (nI q) = μ1 at hsk ⊢
  generalize sF ν 1237 m (nI q) = ν1 at hsk hl2 ⊢
  rcases C_nx (k := 7) hsk.1.1 hsk.1.2.2.2.2.1 hsk.1.2.2.2.2.2.2.1 s.self w1 (by omega) with ⟨a1, a2, a3⟩ | ⟨a1, a3⟩
  · skip
    have h7 := hsk.cz (f := 5) (i := ne) (v := 1) (b := true) (by omega) rfl
    have hE7 := hE.r5 (o := 1) (by omega)
    obtain ⟨ν5, f1, f2, TT⟩ := tok2 h7.1 s.self w1
    have hn7 : f5_nextIs (x + 49) 7 (sZ μ1 (w + oc 5) ne true) = some (true, sZ μ1 (w + oc 5) ne true) := by
      rcases C_nx (k := 7) h7.1.1 h7.1.2.2.2.2.1 h7.1.2.2.2.2.2.2.1 s.self w1 (by omega) with ⟨_, _, y⟩ | ⟨y, _⟩
      · exact y
      · exact absurd ⟨a1, a2⟩ y
    rcases TT with ⟨r, r1, r2, r3, r4, r5, r6, r7, r8, r9, r10, r11⟩ | ⟨r, r1, _⟩
    · have r7' : r = 7 := by
        have y := r10 7 (by omega)
        rw [hn7] at y
        by_cases c : 7 = r
        · exact c.symm
        · rw [decide_eq_false c] at y; cases y
      subst r7'
      have l5 : gF ν5 1218 m = nI l := by rw [f2.1 _ _ (by omega)]; exact hl2
      have P7 := h7.tk (e := e) r7 ((CTf.w (by omega)).tr (CTf.w (by omega))) f2
      obtain ⟨P8, Q8⟩ := P7.end1 Q hE7 hb hP h6 (o := 1) (by rw [nu_eq]) (fun f i hr y y5 => ⟨hV f i hr y y5, y5⟩)
      have r8' : f5_word (x + 49) 7 (sZ μ1 (w + 9) ne true) = some (true, sF (sF (sZ μ1 (w + 9) ne true) 503 (x + 49) (nI e)) 504 (x + 49) (nI e)) := r8
      have o5 : f12_own m ν5 = some 7 := r9 ν5 r7.2.1 r7.2.2.1 r6 r7.2.2.2.2.2.1
      have g5 : ceq (gF ν5 1239 m) 0 = true := by rw [r5]; rfl
      rw [f1, a3, ozb2, if_pos rfl, hsk.2.1, obs, wZ_nI hne (by omega), obs, r8', ozb2, obs]
      have hm : ∀ (y : zM), (f12_word m y).bind (fun μ17 => (((f12_goes m μ17).bind fun t22 => some t22).bind fun b20 => if b20 = true then ((f12_own m μ17).bind fun t21 => some (!(ceq t21 (nI k)))) else (some false)).bind fun b18 => if b18 = true then ((f12_fails m 1 (gF μ17 1238 m) μ17).bind fun μ19 => some μ19) else (some μ17)) = f12_must m (nI k) y := fun y => rfl
      have hg : f12_goes m ν5 = some true := by unfold f12_goes; rw [g5]; rfl
      rw [hg, obs, obs, if_pos rfl, o5, obs, show ceq (7 : Int32) 7 = true from rfl, obs, if_pos rfl, obs, ix l5, wA_nI hne (by omega), obs, if_pos rfl]
      have hb2 : ∀ (X : Option zM), (X.bind fun μ23 => some μ23) = X := fun X => by cases X <;> rfl
      rw [hb2, hm]
      rcases mustP (k := k) P8 k13 with ⟨e2, μ8, ν8, c0, c1, c2, c3, c4⟩ | ⟨μ8, ν8, c1, c2, cR, c3⟩
      · have c2' : f12_must m (nI k) (sA ν5 (m + 16) ne 1) = some ν8 := c2
        rw [c2']
        have := w1.1
        exact Or.inl ⟨e2, _, _, μ8, ν8, by omega, rfl, c1, rfl, c4, Q8, by rw [nu_ne (by omega)]; exact e01⟩
      · have c2' : f12_must m (nI k) (sA ν5 (m + 16) ne 1) = some ν8 := c2
        rw [c2']
        refine Or.inr ⟨μ8, ν8, rfl, c3, ?_, Or.inr ⟨_, rfl, c1⟩⟩
        rw [cR.1 _ _ (by omega)]
        show gF ν5 1218 m = _
        rw [l5, hl]
    · have y := (r1 7 (by omega)).1
      rw [hn7] at y
      cases y
  · obtain ⟨ν5, f1, f2, TT⟩ := tok2 hsk.1 s.self w1
    have l5 : gF ν5 1218 m = nI l := by rw [f2.1 _ _ (by omega)]; exact hl2
    have P5 : ∀ {μ' : zM}, RS x m n g e μ' ν5 → CTf x μ1 μ' → PT x m w n g μ0 ν0 N' (vN N' (ne + 1)) e μ' (sA ν5 (m + 16) ne 0) ∧ QW N' (ne + 1) := fun y1 y2 => (hsk.tk y1 y2 f2).end1 Q hE hb hP h6 (o := 0) hz.symm hV
    rw [f1, a3, ozb2, if_neg (by decide), obs]
    rcases TT with ⟨r, r1, r2, r3, r4, r5, r6, r7, r8, r9, r10, r11⟩ | ⟨r, r1, r6, TT⟩
    · have n7 : r ≠ 7 := fun y => a1 ⟨r3, by rw [← y]; exact r4⟩
      have o5 : f12_own m ν5 = some (nI r) := r9 ν5 r7.2.1 r7.2.2.1 r6 r7.2.2.2.2.2.1
      have o6 : f12_own m (sA ν5 (m + 16) ne 0) = some (nI r) := r9 _ ⟨r7.2.1.1, r7.2.1.2.1, fun j hj => by rw [gA_sA, if_neg (by omega)]; exact r7.2.1.2.2 j hj⟩ (fun j hj => by rw [gA_sA, if_neg (by omega)]; exact r7.2.2.1 j hj) r6 r7.2.2.2.2.2.1
      have hg : f12_goes m ν5 = some true := by unfold f12_goes; rw [r5]; rfl
      have hg6 : f12_goes m (sA ν5 (m + 16) ne 0) = some true := hg
      rw [hg, obs, obs, if_pos rfl, o5, obs, show ceq (nI r) 7 = false from (ceq_nI (b := 7) (by omega) (by omega)).trans (decide_eq_false n7), obs, if_neg (by decide), obs, ix l5, wA_nI hne (by omega), obs, if_neg (by decide), obs, hg6, obs, obs, if_pos rfl, o6, obs, obs, ceq_nI (by omega) (by omega)]
      by_cases c : r = k
      · subst c
        rw [decide_eq_true rfl, Bool.not_true, if_neg (by decide)]
        obtain ⟨y1, y2⟩ := P5 r7 ((CTf.w (by omega)).tr (CTf.w (by omega)))
        exact Or.inl ⟨e, N', μ1, _, _, by omega, rfl, r8, rfl, y1, y2, e01⟩
      · rw [decide_eq_false c, Bool.not_false, if_pos rfl, show gF (sA ν5 (m + 16) ne 0) 1238 m = nI q from r6, R_fails0 (show gF (sA ν5 (m + 16) ne 0) 1239 m = 0 from r5)]
        refine Or.inr ⟨sF (sF μ1 507 (x + 49) 1) 508 (x + 49) (nI q), _, rfl, ⟨⟨1, by omega, by omega, by rw [sF_ne (by omega), sF_eq]; rfl, by rw [sF_ne (by omega), sF_eq]; rfl, by rw [sF_eq, sF_eq]⟩, hsk.2.2.2.2.1.tr (CNf.ct ((CTf.w (by omega)).tr (CTf.w (by omega)))), (((hsk.2.2.2.2.2.1.tr (RNf.rt f2)).sa (by omega)).sf (by omega)).sf (by omega)⟩, ?_, Or.inr ⟨_, rfl, r11 k k13 (fun y => c y.symm)⟩⟩
        rw [sF_ne (by omega), sF_ne (by omega)]
        show gF ν5 1218 m = _
        rw [l5, hl]
    · have r1k := (r1 k k13).2
      have bad : ∀ {ν' : zM}, gF ν' 1239 m = 1 → gF ν' 1240 m = nI q → RNf m ν0 ν' → BDD x m w μ0 ν0 (sF (sF μ1 507 (x + 49) 1) 508 (x + 49) (nI q)) ν' := fun y1 y2 y3 => ⟨⟨1, by omega, by omega, by rw [sF_ne (by omega), sF_eq]; rfl, y1, by rw [sF_eq, y2]⟩, hsk.2.2.2.2.1.tr (CNf.ct ((CTf.w (by omega)).tr (CTf.w (by omega)))), y3⟩
      rcases TT with ⟨y1, y2, y3, y4, y5, y6⟩ | ⟨y1, y2, y3⟩
      · have t5 := hsk.1.2.1.fr f2
        have ol5 := hsk.1.2.2.1.fr f2
        have o5 : f12_own m ν5 = some (-1) := y6 ν5 t5 ol5 r6 y5
        have o6 : f12_own m (sA ν5 (m + 16) ne 0) = some (-1) := y6 _ ⟨t5.1, t5.2.1, fun j hj => by rw [gA_sA, if_neg (by omega)]; exact t5.2.2 j hj⟩ (fun j hj => by rw [gA_sA, if_neg (by omega)]; exact ol5 j hj) r6 y5
        have hg : f12_goes m ν5 = some true := by unfold f12_goes; rw [y1]; rfl
        have hg6 : f12_goes m (sA ν5 (m + 16) ne 0) = some true := hg
        rw [hg, obs, obs, if_pos rfl, o5, obs, show ceq (-1 : Int32) 7 = false from by decide, obs, if_neg (by decide), obs, ix l5, wA_nI hne (by omega), obs, if_neg (by decide), obs, hg6, obs, obs, if_pos rfl, o6, obs, obs, show ceq (-1 : Int32) (nI k) = false from decide_eq_false (m1_ne (by omega)), Bool.not_false, if_pos rfl, show gF (sA ν5 (m + 16) ne 0) 1238 m = nI q from r6, R_fails0 (show gF (sA ν5 (m + 16) ne 0) 1239 m = 0 from y1)]
        refine Or.inr ⟨_, _, rfl, bad (by rw [sF_ne (by omega), sF_eq]) sF_eq ((((hsk.2.2.2.2.2.1.tr (RNf.rt f2)).sa (by omega)).sf (by omega)).sf (by omega)), ?_, Or.inr ⟨_, rfl, r1k⟩⟩
        rw [sF_ne (by omega), sF_ne (by omega)]
        show gF ν5 1218 m = _
        rw [l5, hl]
      · have hg : f12_goes m ν5 = some false := by unfold f12_goes; rw [y1]; rfl
        have hg6 : f12_goes m (sA ν5 (m + 16) ne 0) = some false := hg
        rw [hg, obs, obs, if_neg (by decide), obs, if_neg (by decide), obs, ix l5, wA_nI hne (by omega), obs, if_neg (by decide), obs, hg6, obs, obs, if_neg (by decide), obs, if_neg (by decide)]
        refine Or.inr ⟨_, _, rfl, bad (ν' := sA ν5 (m + 16) ne 0) y1 y2 ((hsk.2.2.2.2.2.1.tr (RNf.rt f2)).sa (by omega)), ?_, Or.inr ⟨_, rfl, r1k⟩⟩
        show gF ν5 1218 m = _
        rw [l5, hl]
end zNh
