/-! READING: statement by statement, both -/
def cSt (o_ : Nat) (μ13 : zM) : Option (Bool × zM) := zb2 (f5_nextIs o_ 3 μ13) fun t23 μ24 => if t23 = true then (zb2 (f5_bridgeStatement o_ μ24) fun t35 μ36 => some (t35, μ36)) else (zb2 (f5_nextIs o_ 6 μ24) fun t25 μ26 => if t25 = true then (zb2 (f5_linkStatement o_ μ26) fun t33 μ34 => some (t33, μ34)) else (zb2 (f5_nextIs o_ 11 μ26) fun t27 μ28 => if t27 = true then (zb2 (f5_hostStatement o_ μ28) fun t31 μ32 => some (t31, μ32)) else (zb2 (f5_fails o_ 1 (gF μ28 503 o_) μ28) fun t29 μ30 => some (t29, μ30))))
def rSt (m : Nat) (μ18 : zM) : Option zM := ((f12_goes m μ18).bind fun t20 => if t20 = true then ((f12_own m μ18).bind fun t21 => some t21) else (some (-1))).bind fun x19 => (if (ceq x19 3) = true then ((f12_readsBridge m μ18).bind fun μ28 => some μ28) else (if (ceq x19 6) = true then ((f12_readsLink m μ18).bind fun μ27 => some μ27) else (if (ceq x19 11) = true then ((f12_readsHost m μ18).bind fun μ26 => some μ26) else ((f12_fails m 1 (gF μ18 1238 m) μ18).bind fun μ25 => some μ25))))
theorem oba {A B C : Type} (X : Option A) (f : A → Option B) (h : B → Option C) : (X.bind f).bind h = X.bind (fun y => (f y).bind h) := by cases X <;> rfl
theorem ra_h {A B C D : Type} (X : Option A) (F : A → Option B) (E : B → Option C) (K : C → Option D) : (X.bind fun y => (F y).bind fun b => (E b).bind K) = ((X.bind F).bind E).bind K := by
  cases X with
  | none => rfl
  | some a =>
    show (F a).bind (fun b => (E b).bind K) = ((F a).bind E).bind K
    cases F a <;> rfl
theorem zb2_id {A B : Type} (X : Option (A × B)) : zb2 X (fun t μ => some (t, μ)) = X := by cases X <;> rfl
theorem ob_id {A : Type} (X : Option A) : (X.bind fun μ => some μ) = X := by cases X <;> rfl
theorem ra_def (m : Nat) (n : Int32) (μ : zM) : f12_readsAll_L1 m n μ = zb2 (((f12_goes m μ).bind fun t32 => some t32).bind fun b29 => if b29 = true then (zb2 (f12_here m μ) fun t30 μ31 => some ((!(ceq t30 (-1))), μ31)) else (some (false, μ))) fun b16 μ17 => if b16 = true then ((f12_word m μ17).bind fun μ18 => ((rSt m μ18).bind fun μ22 => f12_endsWell m μ22).bind fun μ23 => some (.inl (n + 1, μ23))) else (some (.inr (n, μ17))) := by
  unfold f12_readsAll_L1 rSt
  refine congrArg (zb2 _) ?_
  funext b16 μ17
  by_cases c : b16 = true
  · rw [if_pos c, if_pos c]
    refine congrArg _ ?_
    funext μ18
    exact ra_h _ _ _ _
  · rw [if_neg c, if_neg c]
theorem cs_def (o_ : Nat) (c : Int32) (μ : zM) (h : ceq c 0 = false) : f5_statements_L1 o_ c μ = if (clt c 1600) = true then ((f5_skipBlanks o_ μ).bind fun μ13 => if ((clt 0 c) && (!(clt (gF μ13 503 o_) (gF μ13 502 o_)))) = true then ((gR μ13 509 o_).bind fun w14 => (wB μ13 1012 w14 true).bind fun μ15 => some (.inr (.inl (c, μ15)))) else (zb2 (cSt o_ μ13) fun v_good_16 μ17 => zb2 (if v_good_16 = true then (zb2 (f5_semicolon o_ μ17) fun t21 μ22 => some ((!t21), μ22)) else (some (true, μ17))) fun b18 μ19 => if b18 = true then (some (.inr (.inl ((-1), μ19)))) else (some (.inl (c + 1, μ19))))) else (some (.inr (.inr (c, μ)))) := by
  unfold f5_statements_L1
  rw [h]
  rfl
section zNl
variable {x m w n p q e k i j a z r c f v o b P ne l d : Nat} {μ0 ν0 μ ν μ' ν' μ1 ν1 μ2 ν2 μ6 : zM} {g T : Nat → Nat} {N N' : zN} {V V' : Nat → Nat → Prop} {u u1 u2 : Int32} {t : Bool}
theorem nx1 {b : Bool} (h : f5_nextIs (x + 49) k μ = some (b, μ)) {F : Bool → zM → Option (Bool × zM)} : zb2 (f5_nextIs (x + 49) k μ) F = F b μ := by rw [h, ozb2]
/-- one statement -/
theorem oneP (h : PT x m w n g μ0 ν0 N (vN N (2 * N 0 1)) q μ ν) (Q : QW N (2 * N 0 1)) (s : SK g n q q) : ∃ ν2, f12_word m ν = some ν2 ∧ STM x m w n g μ0 ν0 q (cSt (x + 49) μ) (rSt m ν2) := by
  obtain ⟨e, w1⟩ := WE.ex g n (n - q) q rfl s.2.1
  obtain ⟨ν2, f1, f2, TT⟩ := tok2 h.1 s w1
  refine ⟨ν2, f1, ?_⟩
  have bad : ∀ {ν' : zM}, gF ν' 1239 m = 1 → gF ν' 1240 m = nI q → RNf m ν0 ν' → BDD x m w μ0 ν0 (sF (sF μ 507 (x + 49) 1) 508 (x + 49) (nI q)) ν' := fun y1 y2 y3 => ⟨⟨1, by omega, by omega, by rw [sF_ne (by omega), sF_eq]; rfl, y1, by rw [sF_eq, y2]⟩, h.2.2.2.2.1.tr (CNf.ct ((CTf.w (by omega)).tr (CTf.w (by omega)))), y3⟩
  have r2 : RNf m ν0 ν2 := h.2.2.2.2.2.1.tr (RNf.rt f2)
  have cF : (∀ k, k = 3 ∨ k = 6 ∨ k = 11 → f5_nextIs (x + 49) k μ = some (false, μ)) → cSt (x + 49) μ = some (false, sF (sF μ 507 (x + 49) 1) 508 (x + 49) (nI q)) := fun y => by
    unfold cSt
    rw [nx1 (y 3 (by omega)), if_neg (by decide), nx1 (y 6 (by omega)), if_neg (by decide), nx1 (y 11 (by omega)), if_neg (by decide), h.1.2.2.2.2.1]
    rfl
  rcases TT with ⟨r, r1, r2', r3, r4, r5, r6, r7, r8, r9, r10, r11⟩ | ⟨r, r1, r6, TT⟩
  · have o5 : f12_own m ν2 = some (nI r) := r9 ν2 r7.2.1 r7.2.2.1 r6 r7.2.2.2.2.2.1
    have hg : f12_goes m ν2 = some true := by unfold f12_goes; rw [r5]; rfl
    have P2 := h.tk r7 ((CTf.w (by omega)).tr (CTf.w (by omega))) f2
    have rS : rSt m ν2 = (if (ceq (nI r) 3) = true then ((f12_readsBridge m ν2).bind fun μ28 => some μ28) else (if (ceq (nI r) 6) = true then ((f12_readsLink m ν2).bind fun μ27 => some μ27) else (if (ceq (nI r) 11) = true then ((f12_readsHost m ν2).bind fun μ26 => some μ26) else ((f12_fails m 1 (gF ν2 1238 m) ν2).bind fun μ25 => some μ25)))) := by
      unfold rSt
      rw [hg, obs, if_pos rfl, o5, obs, obs]
    rw [rS, ob_id, ob_id, ob_id, ob_id]
    by_cases c3 : r = 3
    · subst c3
      unfold cSt
      rw [show ceq (nI 3) 3 = true from by decide, if_pos rfl, nx1 (r10 3 (by omega)), decide_eq_true rfl, if_pos rfl, zb2_id]
      exact (bridgeP h r8 P2 r6 Q).mono (by omega)
    · rw [show ceq (nI r) 3 = false from (ceq_nI (b := 3) (by omega) (by omega)).trans (decide_eq_false c3), if_neg (by decide)]
      by_cases c6 : r = 6
      · subst c6
        unfold cSt
        rw [show ceq (nI 6) 6 = true from by decide, if_pos rfl, nx1 (r10 3 (by omega)), decide_eq_false (by omega), if_neg (by decide), nx1 (r10 6 (by omega)), decide_eq_true rfl, if_pos rfl, zb2_id]
        exact (linkP h r8 P2 r6 Q).mono (by omega)
      · rw [show ceq (nI r) 6 = false from (ceq_nI (b := 6) (by omega) (by omega)).trans (decide_eq_false c6), if_neg (by decide)]
        by_cases c11 : r = 11
        · subst c11
          unfold cSt
          rw [show ceq (nI 11) 11 = true from by decide, if_pos rfl, nx1 (r10 3 (by omega)), decide_eq_false (by omega), if_neg (by decide), nx1 (r10 6 (by omega)), decide_eq_false (by omega), if_neg (by decide), nx1 (r10 11 (by omega)), decide_eq_true rfl, if_pos rfl, zb2_id]
          exact (hostP h r8 P2 r6 Q).mono (by omega)
        · rw [show ceq (nI r) 11 = false from (ceq_nI (b := 11) (by omega) (by omega)).trans (decide_eq_false c11), if_neg (by decide), r6, R_fails0 r5]
          refine Or.inr (Or.inl ⟨_, _, cF (fun k hk => by rw [r10 k (by omega), decide_eq_false (by omega)]), rfl, bad (by rw [sF_ne (by omega), sF_eq]) sF_eq ((r2.sf (by omega)).sf (by omega))⟩)
  · have c0 := cF (fun k hk => (r1 k (by omega)).1)
    rcases TT with ⟨y1, y2, y3, y4, y5, y6⟩ | ⟨y1, y2, y3⟩
    · have o5 : f12_own m ν2 = some (-1) := y6 ν2 (h.1.2.1.fr f2) (h.1.2.2.1.fr f2) r6 y5
      have hg : f12_goes m ν2 = some true := by unfold f12_goes; rw [y1]; rfl
      have rS : rSt m ν2 = some (sF (sF ν2 1239 m 1) 1240 m (nI q)) := by
        unfold rSt
        rw [hg, obs, if_pos rfl, o5, obs, obs, show ceq (-1 : Int32) 3 = false from by decide, if_neg (by decide), show ceq (-1 : Int32) 6 = false from by decide, if_neg (by decide), show ceq (-1 : Int32) 11 = false from by decide, if_neg (by decide), r6, R_fails0 y1]
        rfl
      exact Or.inr (Or.inl ⟨_, _, c0, rS, bad (by rw [sF_ne (by omega), sF_eq]) sF_eq ((r2.sf (by omega)).sf (by omega))⟩)
    · have hd : ceq (gF ν2 1239 m) 0 = false := by rw [y1]; rfl
      have hg : f12_goes m ν2 = some false := by unfold f12_goes; rw [hd]; rfl
      have rS : rSt m ν2 = some ν2 := by
        unfold rSt
        rw [hg, obs, if_neg (by decide), obs, show ceq (-1 : Int32) 3 = false from by decide, if_neg (by decide), show ceq (-1 : Int32) 6 = false from by decide, if_neg (by decide), show ceq (-1 : Int32) 11 = false from by decide, if_neg (by decide), R_failsX hd]
        rfl
      exact Or.inr (Or.inl ⟨_, _, c0, rS, bad y1 y2 r2⟩)
/-- all further statements -/
theorem loopP : ∀ (d p c F G : Nat) (N : zN) (μ ν : zM), n - p = d → d < F → d + 1 < G → 1 ≤ c → 2 * c ≤ p → PT x m w n g μ0 ν0 N (vN N (2 * N 0 1)) p μ ν → QW N (2 * N 0 1) → (∃ c' N' μ' ν', c' < 1600 ∧ zloop (fun s => f5_statements_L1 (x + 49) s.1 s.2) F (nI c, μ) = some (.inl (nI c', sB μ' 1012 w true)) ∧ zloop (fun s => f12_readsAll_L1 m s.1 s.2) G (nI c, ν) = some (nI c', ν') ∧ PT x m w n g μ0 ν0 N' (vN N' (2 * N' 0 1)) n μ' ν' ∧ QW N' (2 * N' 0 1)) ∨ (∃ r μ' ν', zloop (fun s => f5_statements_L1 (x + 49) s.1 s.2) F (nI c, μ) = some (.inl (-1, μ')) ∧ zloop (fun s => f12_readsAll_L1 m s.1 s.2) G (nI c, ν) = some (r, ν') ∧ BDD x m w μ0 ν0 μ' ν') := by
  intro d
  induction d using Nat.strongRecOn with
  | ind d ih =>
    intro p c F G N μ ν hd hF hG hc hp h Q
    have pn := h.1.2.2.2.1
    have tn := h.1.1.1
    obtain ⟨q, s⟩ := SK.ex g n (n - p) p rfl pn
    have s1 := s.1
    have s2 := s.2.1
    have hsk := h.tk (h.1.sk s) (CTf.w (by omega)) (RTf.w (by omega))
    have g9 : gF ν 1239 m = 0 := h.1.2.2.2.2.2.2.2.1
    have hg : f12_goes m ν = some true := by unfold f12_goes; rw [g9]; rfl
    have cz : ceq (nI c) 0 = false := (ceq_nI (b := 0) (by omega) (by omega)).trans (decide_eq_false (by omega))
    have bC := cs_def (x + 49) (nI c) μ cz
    rw [show clt (nI c) 1600 = decide (c < 1600) from clt_nI (b := 1600) (by omega) (by omega), decide_eq_true (show c < 1600 by omega), if_pos rfl, C_sk s h.1.1 h.1.2.2.2.2.1, obs, hsk.1.2.2.2.2.1, hsk.1.1.2.1, clt_nI (by omega) (by omega), show clt 0 (nI c) = decide (0 < c) from clt_nI (a := 0) (by omega) (by omega), decide_eq_true (show 0 < c by omega), Bool.true_and] at bC
    have bR := ra_def m (nI c) ν
    rw [hg, obs, obs, if_pos rfl, R_here s h.1.2.1 h.1.2.2.2.2.2.1, ozb2, ozb2] at bR
    cases F with
    | zero => omega
    | succ F =>
      cases G with
      | zero => omega
      | succ G =>
        by_cases c0 : q < n
        · have gq := (h.1.2.1.2.2 q (by omega)).2
          rw [decide_eq_true c0, Bool.not_true, if_neg (by decide)] at bC
          rw [if_pos c0, show ceq (nI (g q)) (-1) = false from decide_eq_false (fun y => m1_ne (p := g q) (by omega) y.symm), Bool.not_false, if_pos rfl] at bR
          obtain ⟨ν2, w1, S⟩ := oneP hsk Q s.self
          rw [w1, obs] at bR
          rcases S.st with ⟨e, N', μa, μ', ν', a0, a1, a2, a3, a4, a5⟩ | ⟨μ', ν', a1, a2, a3⟩
          · rw [a3, obs, nI_1] at bR
            rw [a1, ozb2, if_pos rfl, a2, ozb2, ozb2, Bool.not_true, if_neg (by decide), nI_1] at bC
            have en := a4.1.2.2.2.1
            rcases ih (n - e) (by omega) e (c + 1) F G N' μ' ν' rfl (by omega) (by omega) (by omega) (by omega) a4 a5 with ⟨c', N2, μ3, ν3, y0, y1, y2, y3⟩ | ⟨r, μ3, ν3, y1, y2, y3⟩
            · exact Or.inl ⟨c', N2, μ3, ν3, y0, zl_in2 (body := fun s => f5_statements_L1 (x + 49) s.1 s.2) bC y1, zl_in2 (body := fun s => f12_readsAll_L1 m s.1 s.2) bR y2, y3⟩
            · exact Or.inr ⟨r, μ3, ν3, zl_in2 (body := fun s => f5_statements_L1 (x + 49) s.1 s.2) bC y1, zl_in2 (body := fun s => f12_readsAll_L1 m s.1 s.2) bR y2, y3⟩
          · rw [a1, obs, nI_1] at bR
            have hd := a2.1.nz
            have hg2 : f12_goes m ν' = some false := by unfold f12_goes; rw [hd]; rfl
            have bR2 := ra_def m (nI (c + 1)) ν'
            rw [hg2, obs, obs, if_neg (by decide), ozb2, if_neg (by decide)] at bR2
            refine Or.inr ⟨nI (c + 1), μ', ν', zloop_out (by omega) ?_, zl_in2 (body := fun s => f12_readsAll_L1 m s.1 s.2) bR (zloop_out (by omega) bR2), a2⟩
            rcases a3 with a3 | ⟨μa, a3, a4⟩
            · rw [a3, ozb2, if_neg (by decide), ozb2, if_pos rfl] at bC
              exact bC
            · rw [a3, ozb2, if_pos rfl, a4, ozb2, ozb2, Bool.not_false, if_pos rfl] at bC
              exact bC
        · have qn : q = n := by omega
          subst qn
          rw [decide_eq_false c0, Bool.not_false, if_pos rfl, hsk.2.1, obs] at bC
          rw [if_neg c0, show ceq (-1 : Int32) (-1) = true from rfl, Bool.not_true, if_neg (by decide)] at bR
          exact Or.inl ⟨c, N, _, _, by omega, zloop_out (by omega) bC, zloop_out (by omega) bR, hsk, Q⟩
end zNl
