/-! READING: a bridge, both -/
def QW (N : zN) (ne : Nat) : Prop := (N 0 0 ≤ 8 ∧ N 0 1 ≤ 14 ∧ N 0 2 ≤ 8) ∧ (∀ b, b < N 0 0 → N 1 b ≤ 6) ∧ (∀ b, N 0 0 ≤ b → b < 8 → N 1 b = 0) ∧ (∀ e, e < ne → N 3 e < N 0 0 ∧ N 4 e < N 1 (N 3 e) ∧ N 2 (6 * N 3 e + N 4 e) = e) ∧ (∀ b p, b < N 0 0 → p < N 1 b → N 2 (6 * b + p) < ne ∧ N 3 (N 2 (6 * b + p)) = b ∧ N 4 (N 2 (6 * b + p)) = p) ∧ (∀ l, l < N 0 1 → (1 ≤ N 6 l ∧ N 6 l ≤ 200) ∧ 1 ≤ N 7 l ∧ N 7 l ≤ 3) ∧ (N 0 3 ≤ 20 ∧ N 0 4 ≤ 9) ∧ (∀ h, h < N 0 2 → N 10 h < N 0 0) ∧ (∀ b, b < N 0 0 → N 8 b ≤ 15 ∧ N 9 b ≤ 1) ∧ ∀ e, e < ne → N 5 e ≤ 1
/-- what the reference has of a net -/
def vN (N : zN) (ne f i : Nat) : Prop := (f = 0 ∧ i < 5) ∨ ((f = 1 ∨ f = 8 ∨ f = 9) ∧ i < N 0 0) ∨ ((f = 3 ∨ f = 4 ∨ f = 5) ∧ i < ne) ∨ ((f = 6 ∨ f = 7) ∧ i < N 0 1) ∨ (f = 10 ∧ i < N 0 2) ∨ (f = 11 ∧ i < 6 * N 0 0) ∨ (f = 12 ∧ i < 6 * N 0 2)
def rbW (m : Nat) (t3 v_old_5 : Int32) (μ6 : zM) : Option zM := (f12_goes m μ6).bind fun t7 => if t7 = true then ((wA μ6 (m + 12) 8 (gF μ6 1217 m) t3).bind fun μ8 => (wA μ8 (m + 13) 8 (gF μ8 1217 m) v_old_5).bind fun μ9 => (wA μ9 (m + 14) 8 (gF μ9 1217 m) 0).bind fun μ10 => (wF μ10 1217 m ((gF μ10 1217 m) + 1)).bind fun μ11 => some μ11) else (some μ6)
def rbO (m : Nat) (μ4 : zM) : Option (Int32 × zM) := zb2 (((f12_goes m μ4).bind fun t18 => some t18).bind fun b15 => if b15 = true then (zb2 (f12_here m μ4) fun t16 μ17 => some ((!(ceq t16 59)), μ17)) else (some (false, μ4))) fun b12 μ13 => if b12 = true then ((f12_must m 5 μ13).bind fun μ14 => some (1, μ14)) else (some (0, μ13))
theorem rb_def (m : Nat) (μ : zM) : f12_readsBridge m μ = (if (ceq (gF μ 1217 m) 8) = true then ((f12_fails m 5 (gF μ 1238 m) μ).bind fun μ19 => some μ19) else (some μ)).bind fun μ1 => (f12_freshName m (gF μ1 1217 m) μ1).bind fun μ2 => zb2 (f12_told m 4 0 15 μ2) fun t3 μ4 => zb2 (rbO m μ4) fun v_old_5 μ6 => rbW m t3 v_old_5 μ6 := rfl
def cbL (o_ b : Nat) (μ17 : zM) : Option (Bool × zM) := zb2 (((gR μ17 509 o_).bind fun w23 => (rZ μ17 (w23 + 4) 8 (nI b)).bind fun t24 => some (!t24)).bind fun b20 => if b20 = true then (some (true, μ17)) else (zb2 (f5_word o_ 5 μ17) fun t21 μ22 => some (t21, μ22))) fun b18 μ19 => some (b18, μ19)
def cbT (o_ b : Nat) (μ9 : zM) : Option (Bool × zM) := (gR μ9 509 o_).bind fun w10 => (wA μ9 (w10 + 3) 8 (nI b) (gF μ9 505 o_)).bind fun μ11 => (gR μ11 509 o_).bind fun w12 => zb2 (f5_nextIs o_ 5 μ11) fun t13 μ14 => (wZ μ14 (w12 + 4) 8 (nI b) t13).bind fun μ15 => (gR μ15 509 o_).bind fun w16 => (wF μ15 1015 w16 ((gF μ15 1015 w16) + 1)).bind fun μ17 => cbL o_ b μ17
def cbN (o_ b : Nat) (μ7 : zM) : Option (Bool × zM) := zb2 (zb2 (zb2 (f5_word o_ 4 μ7) fun t29 μ30 => some ((!t29), μ30)) fun b25 μ26 => if b25 = true then (some (true, μ26)) else (zb2 (f5_number o_ 0 15 μ26) fun t27 μ28 => some ((!t27), μ28))) fun b8 μ9 => if b8 = true then (some (false, μ9)) else cbT o_ b μ9
section zNf
variable {x m w n p q e k i j a z r c f v o b ne : Nat} {μ0 ν0 μ ν μ' ν' μ1 ν1 μ2 ν2 : zM} {g T : Nat → Nat} {N N' : zN} {V V' : Nat → Nat → Prop} {u u1 u2 : Int32}
theorem VN.of (Q : QW N ne) (h : ∀ f i, rv f i → vN N ne f i → V f i) : VN N V := by
  obtain ⟨⟨q1, q2, q3⟩, _⟩ := Q
  refine ⟨h 0 0 ⟨by omega, by omega, by omega, by omega⟩ (by unfold vN; omega), h 0 2 ⟨by omega, by omega, by omega, by omega⟩ (by unfold vN; omega), fun i hi => h 11 i ⟨by omega, by omega, by omega, by omega⟩ (by unfold vN; omega), fun i hi => h 12 i ⟨by omega, by omega, by omega, by omega⟩ (by unfold vN; omega), q1, q3⟩
theorem rbW_ok (h9 : gF ν 1239 m = 0) (h17 : gF ν 1217 m = nI b) (hb : b < 8) : rbW m u1 u2 ν = some (sF (sA (sA (sA ν (m + 12) b u1) (m + 13) b u2) (m + 14) b 0) 1217 m (nI (b + 1))) := by
  unfold rbW f12_goes
  rw [h9, show ceq (0 : Int32) 0 = true from rfl, obs, obs, if_pos rfl, h17, wA_nI hb (by omega), obs, show gF (sA ν (m + 12) b u1) 1217 m = nI b from h17, wA_nI hb (by omega), obs, show gF (sA (sA ν (m + 12) b u1) (m + 13) b u2) 1217 m = nI b from h17, wA_nI hb (by omega), obs, show gF (sA (sA (sA ν (m + 12) b u1) (m + 13) b u2) (m + 14) b 0) 1217 m = nI b from h17, nI_1]
  rfl
theorem rbW_x (hd : ceq (gF ν 1239 m) 0 = false) : rbW m u1 u2 ν = some ν := by
  unfold rbW f12_goes
  rw [hd]; rfl
theorem rbO_x (hd : ceq (gF ν 1239 m) 0 = false) : rbO m ν = some (0, ν) := by
  unfold rbO f12_goes
  rw [hd]; rfl
theorem QW.br (Q : QW N ne) (hb : N 0 0 = b) (h8 : b < 8) (hv : v ≤ 15) (ho : o ≤ 1) : QW (nu (nu (nu (nub N 11 (6 * b) T) 8 b v) 9 b o) 0 0 (b + 1)) ne := by
  have e0 : nu (nu (nu (nub N 11 (6 * b) T) 8 b v) 9 b o) 0 0 (b + 1) 0 0 = b + 1 := nu_eq
  have eo : ∀ f i, f ≠ 8 → f ≠ 9 → f ≠ 11 → ¬ (f = 0 ∧ i = 0) → nu (nu (nu (nub N 11 (6 * b) T) 8 b v) 9 b o) 0 0 (b + 1) f i = N f i := fun f i h1 h2 h3 h4 => by rw [nu_ne h4, nu_ne (fun y => h2 y.1), nu_ne (fun y => h1 y.1), nub_ne (fun y => h3 y.1)]
  have ev : nu (nu (nu (nub N 11 (6 * b) T) 8 b v) 9 b o) 0 0 (b + 1) 8 b = v := by rw [nu_ne (by omega), nu_ne (by omega), nu_eq]
  have ew : nu (nu (nu (nub N 11 (6 * b) T) 8 b v) 9 b o) 0 0 (b + 1) 9 b = o := by rw [nu_ne (by omega), nu_eq]
  have ei : ∀ f i, f = 8 ∨ f = 9 → i ≠ b → nu (nu (nu (nub N 11 (6 * b) T) 8 b v) 9 b o) 0 0 (b + 1) f i = N f i := fun f i h1 h2 => by rw [nu_ne (by omega), nu_ne (by omega), nu_ne (by omega), nub_ne (by omega)]
  generalize nu (nu (nu (nub N 11 (6 * b) T) 8 b v) 9 b o) 0 0 (b + 1) = M at e0 eo ev ew ei ⊢
  obtain ⟨⟨a1, a2, a3⟩, a4, a5, a6, a7, a8, a9, a10, a11, a12⟩ := Q
  have e1 : ∀ i, M 1 i = N 1 i := fun i => eo 1 i (by omega) (by omega) (by omega) (by omega)
  have e2 : ∀ i, M 2 i = N 2 i := fun i => eo 2 i (by omega) (by omega) (by omega) (by omega)
  have e3 : ∀ i, M 3 i = N 3 i := fun i => eo 3 i (by omega) (by omega) (by omega) (by omega)
  have e4 : ∀ i, M 4 i = N 4 i := fun i => eo 4 i (by omega) (by omega) (by omega) (by omega)
  refine ⟨⟨by omega, by rw [eo 0 1 (by omega) (by omega) (by omega) (by omega)]; exact a2, by rw [eo 0 2 (by omega) (by omega) (by omega) (by omega)]; exact a3⟩, fun c hc => ?_, fun c hc h => ?_, fun d hd => ?_, fun c p hc hp => ?_, fun l hl => ?_, ?_, fun h hh => ?_, fun c hc => ?_, fun d hd => ?_⟩
  · rw [e0] at hc
    rw [e1]
    by_cases y : c = b
    · rw [y, a5 b (by omega) h8]; omega
    · exact a4 c (by omega)
  · rw [e0] at hc
    rw [e1]
    exact a5 c (by omega) h
  · obtain ⟨b1, b2, b3⟩ := a6 d hd
    rw [e0, e3, e4, e1, e2]
    exact ⟨by omega, b2, b3⟩
  · rw [e0] at hc
    rw [e1] at hp
    by_cases y : c = b
    · rw [y, a5 b (by omega) h8] at hp; omega
    · obtain ⟨b1, b2, b3⟩ := a7 c p (by omega) hp
      rw [e2, e3, e4]
      exact ⟨b1, b2, b3⟩
  · rw [eo 0 1 (by omega) (by omega) (by omega) (by omega)] at hl
    rw [eo 6 l (by omega) (by omega) (by omega) (by omega), eo 7 l (by omega) (by omega) (by omega) (by omega)]
    exact a8 l hl
  · rw [eo 0 3 (by omega) (by omega) (by omega) (by omega), eo 0 4 (by omega) (by omega) (by omega) (by omega)]
    exact a9
  · rw [eo 0 2 (by omega) (by omega) (by omega) (by omega)] at hh
    rw [eo 10 h (by omega) (by omega) (by omega) (by omega), e0]
    have := a10 h hh
    omega
  · rw [e0] at hc
    by_cases y : c = b
    · rw [y, ev, ew]; exact ⟨hv, ho⟩
    · rw [ei 8 c (by omega) y, ei 9 c (by omega) y]
      exact a11 c (by omega)
  · rw [eo 5 d (by omega) (by omega) (by omega) (by omega)]
    exact a12 d hd
/-- a bridge is told, all of it; the reference lays it down -/
theorem PT.br (h : PT x m w n g μ0 ν0 (nu (nu (nu (nub N 11 (6 * b) T) 8 b v) 9 b o) 0 0 (b + 1)) V p μ ν) (Q : QW N (2 * N 0 1)) (hb : N 0 0 = b) (h8 : b < 8) (hv : v ≤ 15) (ho : o ≤ 1) (h17 : gF ν 1217 m = nI b) (hV : ∀ f i, rv f i → (vN N (2 * N 0 1) f i ∨ (f = 11 ∧ 6 * b ≤ i ∧ i < 6 * b + 6)) ∧ ¬ (f = 8 ∧ i = b) ∧ ¬ (f = 9 ∧ i = b) ∧ ¬ (f = 0 ∧ i = 0) → V f i) : ∃ N' ν', rbW m (nI v) (nI o) ν = some ν' ∧ PT x m w n g μ0 ν0 N' (vN N' (2 * N' 0 1)) p μ ν' ∧ QW N' (2 * N' 0 1) := by
  have e0 : nu (nu (nu (nub N 11 (6 * b) T) 8 b v) 9 b o) 0 0 (b + 1) 0 0 = b + 1 := nu_eq
  have e01 : nu (nu (nu (nub N 11 (6 * b) T) 8 b v) 9 b o) 0 0 (b + 1) 0 1 = N 0 1 := by rw [nu_ne (by omega), nu_ne (by omega), nu_ne (by omega), nub_ne (by omega)]
  have e02 : nu (nu (nu (nub N 11 (6 * b) T) 8 b v) 9 b o) 0 0 (b + 1) 0 2 = N 0 2 := by rw [nu_ne (by omega), nu_ne (by omega), nu_ne (by omega), nub_ne (by omega)]
  have e1 : nu (nu (nu (nub N 11 (6 * b) T) 8 b v) 9 b o) 0 0 (b + 1) 1 b = 0 := by rw [nu_ne (by omega), nu_ne (by omega), nu_ne (by omega), nub_ne (by omega)]; exact Q.2.2.1 b (by omega) h8
  have e8 : nu (nu (nu (nub N 11 (6 * b) T) 8 b v) 9 b o) 0 0 (b + 1) 8 b = v := by rw [nu_ne (by omega), nu_ne (by omega), nu_eq]
  have e9 : nu (nu (nu (nub N 11 (6 * b) T) 8 b v) 9 b o) 0 0 (b + 1) 9 b = o := by rw [nu_ne (by omega), nu_eq]
  have Q2 := Q.br (T := T) hb h8 hv ho
  generalize nu (nu (nu (nub N 11 (6 * b) T) 8 b v) 9 b o) 0 0 (b + 1) = M at h e0 e01 e02 e1 e8 e9 Q2
  refine ⟨M, _, rbW_ok h.1.2.2.2.2.2.2.2.1 h17 h8, ?_, by rw [e01]; exact Q2⟩
  have h2 := (((h.wa (f := 8) (i := b) (u := nI v) ⟨by omega, by omega, by omega, by omega⟩ (by omega) (by rw [e8])).wa (f := 9) (i := b) (u := nI o) ⟨by omega, by omega, by omega, by omega⟩ (by omega) (by rw [e9])).wa (f := 1) (i := b) (u := 0) ⟨by omega, by omega, by omega, by omega⟩ (by omega) (by rw [e1]; rfl)).wf (i := 0) (u := nI (b + 1)) (by omega) (by rw [e0])
  refine h2.wk (fun f i hr hh => ?_)
  have y := hV f i hr
  show (((V f i ∨ (f = 8 ∧ i = b)) ∨ (f = 9 ∧ i = b)) ∨ (f = 1 ∧ i = b)) ∨ (f = 0 ∧ i = 0)
  unfold vN at hh
  rw [e0, e01, e02] at hh
  have go : vN N (2 * N 0 1) f i ∨ (f = 11 ∧ 6 * b ≤ i ∧ i < 6 * b + 6) → ¬ (f = 8 ∧ i = b) → ¬ (f = 9 ∧ i = b) → ¬ (f = 0 ∧ i = 0) → (((V f i ∨ (f = 8 ∧ i = b)) ∨ (f = 9 ∧ i = b)) ∨ (f = 1 ∧ i = b)) ∨ (f = 0 ∧ i = 0) := fun a1 a2 a3 a4 => Or.inl (Or.inl (Or.inl (Or.inl (y ⟨a1, a2, a3, a4⟩))))
  by_cases z8 : f = 8 ∧ i = b
  · exact Or.inl (Or.inl (Or.inl (Or.inr z8)))
  · by_cases z9 : f = 9 ∧ i = b
    · exact Or.inl (Or.inl (Or.inr z9))
    · by_cases z1 : f = 1 ∧ i = b
      · exact Or.inl (Or.inr z1)
      · by_cases z0 : f = 0 ∧ i = 0
        · exact Or.inr z0
        · refine go ?_ z8 z9 z0
          unfold vN
          rw [hb]
          rcases hh with ⟨h1, h2⟩ | ⟨h1, h2⟩ | h1 | h1 | h1 | ⟨h1, h2⟩ | h1
          · exact Or.inl (Or.inl ⟨h1, h2⟩)
          · refine Or.inl (Or.inr (Or.inl ⟨h1, ?_⟩))
            clear go y hV
            omega
          · exact Or.inl (Or.inr (Or.inr (Or.inl h1)))
          · exact Or.inl (Or.inr (Or.inr (Or.inr (Or.inl h1))))
          · exact Or.inl (Or.inr (Or.inr (Or.inr (Or.inr (Or.inl h1)))))
          · by_cases c : i < 6 * b
            · exact Or.inl (Or.inr (Or.inr (Or.inr (Or.inr (Or.inr (Or.inl ⟨h1, c⟩))))))
            · exact Or.inr ⟨h1, by omega, by omega⟩
          · exact Or.inl (Or.inr (Or.inr (Or.inr (Or.inr (Or.inr (Or.inr h1))))))
end zNf
