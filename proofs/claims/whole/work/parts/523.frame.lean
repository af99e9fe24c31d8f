/-! A FRAME, in the class: all of it -/
section zG3
variable {N : zN} {s w o : Nat} {μ0 μ μ' : zM} {S : zS} {T : zT} {x : zS × zT} {h e b p t k c i j n : Nat} {v : Int32}
theorem C_go (q : CF N s w o μ0 μ x) (ho : Out o 3 s w) (hh : h < 8) (ht : t < 8) (hk : k < x.2 0 0) (hs : x.2 3 0 ≠ 1) : ∃ μ', f2_carry_L1 o s (nI h) (nI t) (nI k) μ = some (.inl (nI (k + 1), μ')) ∧ CF N s w o μ0 μ' (fgo N h t (x.2 4 k) x) := by
  obtain ⟨S, T⟩ := x
  have q : CG N s w o μ0 μ S T := q
  have hk : k < T 0 0 := hk
  have hs : T 3 0 ≠ 1 := hs
  have nw := q.1.nw
  have b8 := nw.b8
  have f0 := q.2.2.2.1
  have f2 := q.2.2.2.2.1
  obtain ⟨c1, c2⟩ := q.2.2.2.2.2.2 k hk
  obtain ⟨g1, g2⟩ := q.2.1.2.2.2.2 k hk
  show ∃ μ', f2_carry_L1 o s (nI h) (nI t) (nI k) μ = some (.inl (nI (k + 1), μ')) ∧ CF N s w o μ0 μ' (fgo N h t (T 4 k) (S, T))
  generalize hc : T 4 k = c at *
  have p6 := nw.p6 c1
  have cond : ((clt (nI k) (gF μ 202 o)) && (!(clt 64 (nI k))) && (!(gB μ 206 o))) = true := by
    rw [q.2.1.1, q.2.1.2.2.2.1, clt_nI (by omega) (by omega), decide_eq_true hk, show clt 64 (nI k) = false from by rw [show (64 : Int32) = nI 64 from rfl, clt_nI (by omega) (by omega)]; exact decide_eq_false (by omega), decide_eq_false hs]; rfl
  have ea : rA μ (s + 6) 64 ((nI (c / 7) * 8) + nI t) = some (S 42 (c / 7 * 8 + t)) := by rw [mulR8, nI_add, rA_nI (by omega) (by omega), q.1.c_la _ (by omega)]
  have start : f2_carry_L1 o s (nI h) (nI t) (nI k) μ = if (ceq (S 42 (c / 7 * 8 + t)) (-1)) = true then ((f2_flood o s (nI h) (nI t) (nI k) μ).bind fun μ24 => some (.inl (nI (k + 1), μ24))) else (if (ceq (S 42 (c / 7 * 8 + t)) 6) = true then ((f2_reach o s (nI (c / 7)) (nI t) μ).bind fun μ22 => some (.inl (nI (k + 1), μ22))) else (if (ceq (S 42 (c / 7 * 8 + t)) (qpt c)) = true then some (.inl (nI (k + 1), μ)) else ((f10_endOf w (nI (c / 7)) (S 42 (c / 7 * 8 + t)) μ).bind fun t19 => (f2_pass o s t19 (nI h) μ).bind fun μ20 => some (.inl (nI (k + 1), μ20))))) := by
    unfold f2_carry_L1
    rw [if_pos cond, rA_nI (by omega) (by omega), obs, g1, ea, obs, rA_nI (by omega) (by omega), obs, g2, q.1.c_wir, nI_1]
    simp only [obs]
  have spec : fgo N h t c (S, T) = if ceq (S 42 (c / 7 * 8 + t)) (-1) = true then (if (pfold (ffl N h (c / 7) (c % 7)) (nP N (c / 7)) (S, T)).2 3 0 = 1 then pfold (ffl N h (c / 7) (c % 7)) (nP N (c / 7)) (S, T) else frc t (c / 7) (pfold (ffl N h (c / 7) (c % 7)) (nP N (c / 7)) (S, T))) else if ceq (S 42 (c / 7 * 8 + t)) 6 = true then frc t (c / 7) (S, T) else if ceq (S 42 (c / 7 * 8 + t)) (nI (c % 7)) = true then (S, T) else fps N h (eo N (c / 7) (S 42 (c / 7 * 8 + t)).toNatClampNeg) (S, T) := rfl
  rw [spec]
  rcases q.1.c_so.1 (c / 7) t c1 ht with hv | hv | ⟨p, hp, hv⟩
  · rw [hv, show ceq (-1 : Int32) (-1) = true from rfl, if_pos rfl] at start
    rw [hv, show ceq (-1 : Int32) (-1) = true from rfl, if_pos rfl]
    obtain ⟨r, μ1, e1, q1⟩ := C_fl ho hh c1 (show k < 65 by omega) (nP N (c / 7) - 0) 0 1000000 μ (S, T) rfl (by omega) (by omega) q hk hc rfl
    have ef : (fun j => ffl N h (c / 7) (c % 7) (0 + j)) = ffl N h (c / 7) (c % 7) := by funext j; rw [Nat.zero_add]
    rw [ef, Nat.sub_zero] at q1
    generalize pfold (ffl N h (c / 7) (c % 7)) (nP N (c / 7)) (S, T) = Y at *
    obtain ⟨S2, T2⟩ := Y
    have q1 : CG N s w o μ0 μ1 S2 T2 := q1
    have fl : f2_flood o s (nI h) (nI t) (nI k) μ = if decide (T2 3 0 = 1) = true then (some μ1) else ((f2_reach o s (nI (c / 7)) (nI t) μ1).bind fun μ16 => some μ16) := by
      unfold f2_flood
      rw [rA_nI (by omega) (by omega), obs, g1, show (0 : Int32) = nI 0 from rfl, e1, ozb2, q1.2.1.2.2.2.1]
    rw [fl] at start
    show ∃ μ', _ ∧ CF N s w o μ0 μ' (if T2 3 0 = 1 then (S2, T2) else frc t (c / 7) (S2, T2))
    by_cases cs : T2 3 0 = 1
    · rw [decide_eq_true cs, if_pos rfl, obs] at start
      rw [if_pos cs]
      exact ⟨μ1, start, q1⟩
    · rw [decide_eq_false cs, if_neg (by decide)] at start
      rw [if_neg cs]
      obtain ⟨μ2, e2, q2⟩ := C_reach q1 ho (show c / 7 < 8 by omega) ht
      rw [e2, obs, obs] at start
      exact ⟨μ2, start, q2⟩
  · rw [hv, show ceq (6 : Int32) (-1) = false from rfl, if_neg (by decide), show ceq (6 : Int32) 6 = true from rfl, if_pos rfl] at start
    rw [hv, show ceq (6 : Int32) (-1) = false from rfl, if_neg (by decide), show ceq (6 : Int32) 6 = true from rfl, if_pos rfl]
    obtain ⟨μ2, e2, q2⟩ := C_reach q ho (show c / 7 < 8 by omega) ht
    rw [e2, obs] at start
    exact ⟨μ2, start, q2⟩
  · have cq : ceq (nI p) (qpt c) = ceq (nI p) (nI (c % 7)) := by
      unfold qpt
      by_cases c6 : c % 7 = 6
      · rw [if_pos c6, oI_none (by omega), c6, ceq_nI (by omega) (by omega), decide_eq_false (by omega)]
      · rw [if_neg c6]
    rw [hv, oI_none (by omega), if_neg (by decide), ceqR6 (by omega), decide_eq_false (by omega), if_neg (by decide), cq, q.1.w_eo c1 hp, obs] at start
    rw [hv, oI_none (by omega), if_neg (by decide), ceqR6 (by omega), decide_eq_false (by omega), if_neg (by decide), nI_clamp (by omega)]
    by_cases ce : ceq (nI p) (nI (c % 7)) = true
    · rw [if_pos ce] at start ⊢
      exact ⟨μ, start, q⟩
    · rw [if_neg ce] at start ⊢
      obtain ⟨μ2, e2, q2⟩ := C_pass q ho (nw.eo_l c1 hp) hh hs
      rw [e2, obs] at start
      exact ⟨μ2, start, q2⟩
theorem C_run (ho : Out o 3 s w) (hh : h < 8) (ht : t < 8) : ∀ f k fuel μ x, k + f = 66 → f < fuel → CF N s w o μ0 μ x → ∃ r μ', zloop (fun q => f2_carry_L1 o s (nI h) (nI t) q.1 q.2) fuel (nI k, μ) = some (r, μ') ∧ CF N s w o μ0 μ' (frn N h t f k x) := by
  intro f
  induction f with
  | zero =>
    intro k fuel μ x hk hf q
    cases fuel with
    | zero => omega
    | succ g =>
      refine ⟨nI k, μ, zl_inr ?_, q⟩
      show f2_carry_L1 o s (nI h) (nI t) (nI k) μ = _
      have c : clt 64 (nI k) = true := by rw [show (64 : Int32) = nI 64 from rfl, clt_nI (by omega) (by omega)]; exact decide_eq_true (by omega)
      unfold f2_carry_L1
      rw [c, if_neg (by simp)]
  | succ f ih =>
    intro k fuel μ x hk hf q
    cases fuel with
    | zero => omega
    | succ g =>
      unfold frn
      by_cases c : k < x.2 0 0 ∧ x.2 3 0 ≠ 1
      · rw [if_pos c]
        obtain ⟨μ1, e1, q1⟩ := C_go q ho hh ht c.1 c.2
        obtain ⟨r, μ2, e2, q2⟩ := ih (k + 1) g μ1 _ (by omega) (by omega) q1
        exact ⟨r, μ2, zl_in2 e1 e2, q2⟩
      · rw [if_neg c]
        refine ⟨nI k, μ, zl_inr ?_, q⟩
        show f2_carry_L1 o s (nI h) (nI t) (nI k) μ = _
        have f0 := q.2.2.2.1; have f2 := q.2.2.2.2.1
        unfold f2_carry_L1
        rw [q.2.1.1, q.2.1.2.2.2.1, clt_nI (by omega) (by omega)]
        by_cases c2 : k < x.2 0 0
        · have c3 : x.2 3 0 = 1 := by
            by_cases c4 : x.2 3 0 = 1
            · exact c4
            · exact absurd ⟨c2, c4⟩ c
          rw [decide_eq_true c3, if_neg (by simp)]
        · rw [decide_eq_false c2, if_neg (by simp)]
/-- a frame from host `h` to host `t`; what is left behind -/
def T0f : zT := fun _ _ => 0
def fcy (N : zN) (h t : Nat) (S : zS) (b : Nat) : zS × zT := if ceq (S 20 b) 1 = true then frn N h t 66 0 (lrn b h 6 S, enq T0f (7 * b + 6)) else (S, T0f)
theorem C_carry (q : CS N s w μ μ S) (ho : Out o 3 s w) (hh : h < nH N) (ht : t < 8) (hb : b < nB N) (hb2 : S 41 h = nI b) : ∃ μ', f2_carry o s (nI h) (nI t) μ = some μ' ∧ (∃ μ5, CF N s w o μ5 μ' (fcy N h t S b) ∧ FrD o 3 μ μ5 ∧ gB μ5 203 o = true) := by
  have nw := q.nw
  have b8 := nw.b8; have h8 := nw.h8
  have d0 : FrD o 3 μ (sF (sB (sF (sF (sB μ 203 o true) 204 o 0) 205 o 0) 206 o false) 202 o 0) := ((((FrD.rf.wB (by omega) (by omega)).wF (by omega) (by omega)).wF (by omega) (by omega)).wB (by omega) (by omega)).wF (by omega) (by omega)
  have q0 : CG N s w o (sF (sB (sF (sF (sB μ 203 o true) 204 o 0) 205 o 0) 206 o false) 202 o 0) (sF (sB (sF (sF (sB μ 203 o true) 204 o 0) 205 o 0) 206 o false) 202 o 0) S T0f := by
    refine ⟨q.fd ho d0, ⟨?_, ?_, ?_, ?_, fun k hk => absurd hk (by unfold T0f; omega)⟩, ⟨fun a h1 h2 => SA.rf, rfl⟩, ⟨by unfold T0f; omega, by unfold T0f; omega, by unfold T0f; omega, fun k hk => absurd hk (by unfold T0f; omega)⟩⟩
    · rw [gF_sF, if_pos ⟨rfl, rfl⟩]; rfl
    · rw [gF_sF, if_neg (by omega), gF_sB, gF_sF, if_neg (by omega), gF_sF, if_pos ⟨rfl, rfl⟩]; rfl
    · rw [gF_sF, if_neg (by omega), gF_sB, gF_sF, if_pos ⟨rfl, rfl⟩]; rfl
    · rw [gB_sF, gB_sB, if_pos ⟨rfl, rfl⟩]; rfl
  have g0 : gB (sF (sB (sF (sF (sB μ 203 o true) 204 o 0) 205 o 0) 206 o false) 202 o 0) 203 o = true := by
    rw [gB_sF, gB_sB, if_neg (by omega), gB_sF, gB_sF, gB_sB, if_pos ⟨rfl, rfl⟩]
  have start : f2_carry o s (nI h) (nI t) μ = if ceq (S 20 b) 1 = true then ((f8_learn s (nI b) (nI h) 6 (sF (sB (sF (sF (sB μ 203 o true) 204 o 0) 205 o 0) 206 o false) 202 o 0)).bind fun μ8 => (f2_queue o (nI b) (-1) μ8).bind fun μ9 => zb2 (zloop (fun q => f2_carry_L1 o s (nI h) (nI t) q.1 q.2) 1000000 (0, μ9)) fun v_k_12 μ13 => some μ13) else (some (sF (sB (sF (sF (sB μ 203 o true) 204 o 0) 205 o 0) 206 o false) 202 o 0)) := by
    unfold f2_carry
    simp only [wB, wF, obs]
    rw [rA_nI (by omega) (by omega), obs, q0.1.c_home h (by omega), hb2, rI_nI (by omega) (by omega), obs, q0.1.r_on (by omega)]
  generalize sF (sB (sF (sF (sB μ 203 o true) 204 o 0) 205 o 0) 206 o false) 202 o 0 = μ5 at *
  unfold fcy
  by_cases c : ceq (S 20 b) 1 = true
  · rw [if_pos c] at start
    rw [if_pos c]
    obtain ⟨μ6, e6, q6⟩ := CG.lrn q0 ho (h := h) (b := b) (v := 6) hb (by omega) (Or.inr (Or.inl rfl))
    obtain ⟨μ7, e7, q7⟩ := C_enq (c := 7 * b + 6) (v := -1) q6 ho ⟨Nat.le_refl _, by unfold T0f; omega⟩ ⟨by omega, Or.inl (by omega)⟩ (by unfold qpt; rw [if_pos (by omega)])
    rw [show (7 * b + 6) / 7 = b by omega] at e7
    obtain ⟨r, μ8, e8, q8⟩ := C_run (μ0 := μ5) ho (show h < 8 by omega) ht 66 0 1000000 μ7 (lrn b h 6 S, enq T0f (7 * b + 6)) rfl (by omega) q7
    rw [e6, obs, e7, obs, show (0 : Int32) = nI 0 from rfl, e8, ozb2] at start
    exact ⟨μ8, start, μ5, q8, d0, g0⟩
  · rw [if_neg c] at start
    rw [if_neg c]
    exact ⟨μ5, start, μ5, q0, d0, g0⟩
end zG3
