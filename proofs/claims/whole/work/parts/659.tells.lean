/-! TELLS: the port that tells most -/
def tst (b p v : Nat) (o : Option (Nat × Nat × Nat)) : Option (Nat × Nat × Nat) := match o with
  | none => some (b, p, v)
  | some q => if v < q.2.2 then some (b, p, v) else some q
def tO1 (o : Option (Nat × Nat × Nat)) : Int32 := match o with
  | none => -1
  | some q => nI q.1
def tO2 (o : Option (Nat × Nat × Nat)) : Int32 := match o with
  | none => -1
  | some q => nI q.2.1
def tO3 (o : Option (Nat × Nat × Nat)) : Int32 := match o with
  | none => -1
  | some q => nI q.2.2
def tR1 (o : Option (Nat × Nat × Nat)) : Int32 := match o with
  | none => -1
  | some q => nI (6 * q.1 + q.2.1)
def tR2 (o : Option (Nat × Nat × Nat)) : Int32 := match o with
  | none => 100000000
  | some q => nI q.2.2
def tOk (N : zN) (o : Option (Nat × Nat × Nat)) : Prop := ∀ q, o = some q → q.1 < 8 ∧ q.2.1 < 6 ∧ q.2.2 ≤ 15
section zK5s
variable {N : zN} {x m w s B st top n k i f c p j b l t e : Nat} {μ0 μ μ' μ1 ν0 ν ν' ν1 : zM} {S S' X : zS} {so so' : Nat → Bool} {ro ro' : Nat → Nat → Int32} {o : Option (Nat × Nat × Nat)}
def tin (N : zN) (so : Nat → Bool) (ro : Nat → Nat → Int32) (b p : Nat) (o : Option (Nat × Nat × Nat)) : Option (Nat × Nat × Nat) := tst b p (mb so ro (eo N b p) (nL N + 1) 5) o
def tout (N : zN) (so : Nat → Bool) (ro : Nat → Nat → Int32) (b : Nat) (o : Option (Nat × Nat × Nat)) : Option (Nat × Nat × Nat) := pfold (tin N so ro b) (nP N b) o
theorem tin_ok (nw : NW N) (hb : b < nB N) (hp : p < nP N b) (h : tOk N o) : tOk N (tin N so ro b p o) := by
  have b8 := nw.b8; have p6 := nw.p6 hb; have l14 := nw.l14
  have m1 := mb_le (so := so) (ro := ro) (e := eo N b p) (n := nL N + 1) 5
  unfold tin tst
  cases o with
  | none =>
    intro q hq
    have := Option.some.inj hq
    subst this
    exact ⟨by show b < 8; omega, by show p < 6; omega, by show mb so ro (eo N b p) (nL N + 1) 5 ≤ 15; omega⟩
  | some q0 =>
    intro q hq
    by_cases c : mb so ro (eo N b p) (nL N + 1) 5 < q0.2.2
    · have hq : (if mb so ro (eo N b p) (nL N + 1) 5 < q0.2.2 then some (b, p, mb so ro (eo N b p) (nL N + 1) 5) else some q0) = some q := hq
      rw [if_pos c] at hq
      have := Option.some.inj hq
      subst this
      exact ⟨by show b < 8; omega, by show p < 6; omega, by show mb so ro (eo N b p) (nL N + 1) 5 ≤ 15; omega⟩
    · have hq : (if mb so ro (eo N b p) (nL N + 1) 5 < q0.2.2 then some (b, p, mb so ro (eo N b p) (nL N + 1) 5) else some q0) = some q := hq
      rw [if_neg c] at hq
      exact h q hq
theorem tin_k (nw : NW N) (hb : b < nB N) (h : tOk N o) : ∀ n, n ≤ nP N b → tOk N (pfold (tin N so ro b) n o)
  | 0, _ => h
  | n + 1, hn => tin_ok nw hb (by omega) (tin_k nw hb h n (by omega))
theorem tout_k (nw : NW N) : ∀ n, n ≤ nB N → tOk N (pfold (tout N so ro) n none)
  | 0, _ => fun q hq => by cases hq
  | n + 1, hn => tin_k nw (by omega) (tout_k nw n (by omega)) (nP N n) (Nat.le_refl _)
/-- the class's words of the best port so far -/
def TC (N : zN) (x m w : Nat) (so : Nat → Bool) (ro : Nat → Nat → Int32) (ν μ0 μ : zM) (o : Option (Nat × Nat × Nat)) : Prop := gF μ 706 (x + 17) = tO1 o ∧ gF μ 707 (x + 17) = tO2 o ∧ gF μ 708 (x + 17) = tO3 o ∧ (∀ a, a ≠ x + 17 → SA a μ0 μ) ∧ (∀ k, k < 706 ∨ 708 < k → gF μ k (x + 17) = gF μ0 k (x + 17)) ∧ WI N w μ ∧ SU N x m (nL N + 1) so ro μ ν
theorem WI.f10 (h : WI N w μ) (hb : b < nB N) (b8 : nB N ≤ 8) : gF μ 1015 w = nI (nB N) ∧ rA μ (w + 5) 8 (nI b) = some (nI (nP N b)) := ⟨h.1.1, by rw [rA_nI (by omega) (by omega), h.2.1 b hb]⟩
theorem WI.eo_ (h : WI N w μ) (nw : NW N) (hb : b < nB N) (hp : p < nP N b) : f10_endOf w (nI b) (nI p) μ = some (nI (eo N b p)) := by
  have b8 := nw.b8; have p6 := nw.p6 hb
  unfold f10_endOf
  rw [mulR6, nI_add, rA_nI (by omega) (by omega), obs, h.2.2.1 b p hb hp]
theorem TC.put (h : TC N x m w so ro ν μ0 μ o) (hw : w = x + 23 ∨ w = x + 36) (q : Nat × Nat × Nat) : TC N x m w so ro ν μ0 (sF (sF (sF μ 706 (x + 17) (nI q.1)) 707 (x + 17) (nI q.2.1)) 708 (x + 17) (nI q.2.2)) (some q) := by
  obtain ⟨a1, a2, a3, a4, a5, a6, a7⟩ := h
  have sa : ∀ a, a ≠ x + 17 → SA a μ (sF (sF (sF μ 706 (x + 17) (nI q.1)) 707 (x + 17) (nI q.2.1)) 708 (x + 17) (nI q.2.2)) := fun a ha => ⟨fun k => by rw [gF_sF, if_neg (by omega), gF_sF, if_neg (by omega), gF_sF, if_neg (by omega)], fun _ => rfl, fun _ => rfl, fun _ => rfl, fun _ => rfl, fun _ => rfl⟩
  have f5 : ∀ k, k < 706 ∨ 708 < k → gF (sF (sF (sF μ 706 (x + 17) (nI q.1)) 707 (x + 17) (nI q.2.1)) 708 (x + 17) (nI q.2.2)) k (x + 17) = gF μ k (x + 17) := fun k hk => by rw [gF_sF, if_neg (by omega), gF_sF, if_neg (by omega), gF_sF, if_neg (by omega)]
  refine ⟨?_, ?_, ?_, fun a ha => (a4 a ha).tr (sa a ha), fun k hk => (f5 k hk).trans (a5 k hk), a6.mv (fun a h1 h2 => sa a (by omega)), ⟨(f5 705 (by omega)).trans a7.1, a7.2.1, a7.2.2⟩⟩
  · rw [gF_sF, if_neg (by omega), gF_sF, if_neg (by omega), gF_sF, if_pos ⟨rfl, rfl⟩]; rfl
  · rw [gF_sF, if_neg (by omega), gF_sF, if_pos ⟨rfl, rfl⟩]; rfl
  · rw [gF_sF, if_pos ⟨rfl, rfl⟩]; rfl
theorem C_tl2 (nw : NW N) (hw : w = x + 23 ∨ w = x + 36) (hb : b < nB N) (h : TC N x m w so ro ν μ0 μ o) (ho : tOk N o) : ∃ μ', zloop (fun s => f7_findTelling_L2 (x + 17) w (nI b) s.1 s.2) 1000000 (0, μ) = some (nI (nP N b), μ') ∧ TC N x m w so ro ν μ0 μ' (tout N so ro b o) := by
  have b8 := nw.b8; have p6 := nw.p6 hb; have l14 := nw.l14
  obtain ⟨r, e1, h1⟩ := zloop_up (body := fun s => f7_findTelling_L2 (x + 17) w (nI b) s.1 s.2) (fun i (μ : zM) => (nI i, μ)) (fun i μ1 => TC N x m w so ro ν μ0 μ1 (pfold (tin N so ro b) i o)) (nP N b) (fun r => ∃ μ', r = (nI (nP N b), μ') ∧ TC N x m w so ro ν μ0 μ' (tout N so ro b o)) (by
    intro i μ1 hi q
    have ok := tin_k (so := so) (ro := ro) nw hb ho i (by omega)
    obtain ⟨he, _, _⟩ := nw.2.2.2.2.2.1 _ _ hb hi
    have m1 := mb_le (so := so) (ro := ro) (e := eo N b i) (n := nL N + 1) 5
    have st0 : f7_findTelling_L2 (x + 17) w (nI b) (nI i) μ1 = if (ceq (gF μ1 708 (x + 17)) (-1) || clt (nI (mb so ro (eo N b i) (nL N + 1) 5)) (gF μ1 708 (x + 17))) = true then some (.inl (nI (i + 1), sF (sF (sF μ1 706 (x + 17) (nI b)) 707 (x + 17) (nI i)) 708 (x + 17) (nI (mb so ro (eo N b i) (nL N + 1) 5)))) else some (.inl (nI (i + 1), μ1)) := by
      unfold f7_findTelling_L2
      rw [(q.2.2.2.2.2.1.f10 hb b8).2, obs, clt_nI (by omega) (by omega), decide_eq_true hi, if_pos rfl, q.2.2.2.2.2.1.eo_ nw hb hi, obs, C_left q.2.2.2.2.2.2 l14 he, obs]
      simp only [wF, obs]
      rw [nI_1]
    rw [q.2.2.1] at st0
    have hs : pfold (tin N so ro b) (i + 1) o = tin N so ro b i (pfold (tin N so ro b) i o) := rfl
    cases co : pfold (tin N so ro b) i o with
    | none =>
      rw [co] at st0 q
      rw [show (ceq (tO3 none) (-1) || clt (nI (mb so ro (eo N b i) (nL N + 1) 5)) (tO3 none)) = true from by rw [show ceq (tO3 none) (-1) = true from rfl, Bool.true_or], if_pos rfl] at st0
      refine ⟨_, st0, ?_⟩
      rw [hs, co]
      exact q.put hw (b, i, mb so ro (eo N b i) (nL N + 1) 5)
    | some q0 =>
      rw [co] at st0 q ok
      obtain ⟨o1, o2, o3⟩ := ok q0 rfl
      rw [show ceq (tO3 (some q0)) (-1) = false from oI_none (by omega), Bool.false_or, show tO3 (some q0) = nI q0.2.2 from rfl, clt_nI (by omega) (by omega)] at st0
      by_cases c : mb so ro (eo N b i) (nL N + 1) 5 < q0.2.2
      · rw [decide_eq_true c, if_pos rfl] at st0
        refine ⟨_, st0, ?_⟩
        rw [hs, co]
        show TC N x m w so ro ν μ0 _ (if mb so ro (eo N b i) (nL N + 1) 5 < q0.2.2 then some (b, i, mb so ro (eo N b i) (nL N + 1) 5) else some q0)
        rw [if_pos c]
        exact q.put hw (b, i, mb so ro (eo N b i) (nL N + 1) 5)
      · rw [decide_eq_false c, if_neg (by decide)] at st0
        refine ⟨_, st0, ?_⟩
        rw [hs, co]
        show TC N x m w so ro ν μ0 _ (if mb so ro (eo N b i) (nL N + 1) 5 < q0.2.2 then some (b, i, mb so ro (eo N b i) (nL N + 1) 5) else some q0)
        rw [if_neg c]
        exact q) (by
    intro μ1 q
    refine ⟨(nI (nP N b), μ1), ?_, μ1, rfl, q⟩
    show f7_findTelling_L2 (x + 17) w (nI b) (nI (nP N b)) μ1 = _
    unfold f7_findTelling_L2
    rw [(q.2.2.2.2.2.1.f10 hb b8).2, obs, clt_nI (by omega) (by omega), decide_eq_false (by omega), if_neg (by decide)]) (nP N b) 0 1000000 μ (by omega) (by omega) (by omega) h
  obtain ⟨μ', rfl, h2⟩ := h1
  exact ⟨μ', e1, h2⟩
theorem C_tl1 (nw : NW N) (hw : w = x + 23 ∨ w = x + 36) (h : TC N x m w so ro ν μ0 μ none) : ∃ μ', zloop (fun s => f7_findTelling_L1 (x + 17) w s.1 s.2) 1000000 (0, μ) = some (nI (nB N), μ') ∧ TC N x m w so ro ν μ0 μ' (pfold (tout N so ro) (nB N) none) := by
  have b8 := nw.b8
  obtain ⟨r, e1, h1⟩ := zloop_up (body := fun s => f7_findTelling_L1 (x + 17) w s.1 s.2) (fun i (μ : zM) => (nI i, μ)) (fun i μ1 => TC N x m w so ro ν μ0 μ1 (pfold (tout N so ro) i none)) (nB N) (fun r => ∃ μ', r = (nI (nB N), μ') ∧ TC N x m w so ro ν μ0 μ' (pfold (tout N so ro) (nB N) none)) (by
    intro i μ1 hi q
    obtain ⟨μ2, e2, q2⟩ := C_tl2 nw hw hi q (tout_k nw i (by omega))
    refine ⟨μ2, ?_, q2⟩
    show f7_findTelling_L1 (x + 17) w (nI i) μ1 = _
    unfold f7_findTelling_L1
    rw [q.2.2.2.2.2.1.1.1, clt_nI (by omega) (by omega), decide_eq_true hi, if_pos rfl, e2, ozb2, obs, nI_1]) (by
    intro μ1 q
    refine ⟨(nI (nB N), μ1), ?_, μ1, rfl, q⟩
    show f7_findTelling_L1 (x + 17) w (nI (nB N)) μ1 = _
    unfold f7_findTelling_L1
    rw [q.2.2.2.2.2.1.1.1, clt_nI (by omega) (by omega), decide_eq_false (by omega), if_neg (by decide)]) (nB N) 0 1000000 μ (by omega) (by omega) (by omega) h
  obtain ⟨μ', rfl, h2⟩ := h1
  exact ⟨μ', e1, h2⟩
theorem R_tl2 (nw : NW N) (ri : RI N m ν) (su : SU N x m (nL N + 1) so ro μ ν) (hb : b < nB N) (ho : tOk N o) : zloop (fun s => f12_tells_L2 m ν (nI b) s.1 s.2.1 s.2.2) 1000000 (tR1 o, tR2 o, nI (6 * b)) = some (tR1 (tout N so ro b o), tR2 (tout N so ro b o), nI (6 * b + nP N b)) := by
  have b8 := nw.b8; have p6 := nw.p6 hb; have l14 := nw.l14
  have gl := ri.1.2.1
  obtain ⟨r, e1, h1⟩ := zloop_up (body := fun s => f12_tells_L2 m ν (nI b) s.1 s.2.1 s.2.2) (fun i (_ : Unit) => (tR1 (pfold (tin N so ro b) i o), tR2 (pfold (tin N so ro b) i o), nI (6 * b + i))) (fun _ _ => True) (nP N b) (fun r => r = (tR1 (tout N so ro b o), tR2 (tout N so ro b o), nI (6 * b + nP N b))) (by
    intro i _ hi _
    refine ⟨(), ?_, trivial⟩
    have ok := tin_k (so := so) (ro := ro) nw hb ho i (by omega)
    obtain ⟨he, ebo, epo⟩ := nw.2.2.2.2.2.1 _ _ hb hi
    have epl : pl N (eo N b i) = 6 * b + i := by unfold pl; rw [ebo, epo]
    have m1 := mb_le (so := so) (ro := ro) (e := eo N b i) (n := nL N + 1) 5
    have mo := R_most su gl nw he
    rw [epl] at mo
    have st0 : f12_tells_L2 m ν (nI b) (tR1 (pfold (tin N so ro b) i o)) (tR2 (pfold (tin N so ro b) i o)) (nI (6 * b + i)) = if clt (nI (mb so ro (eo N b i) (nL N + 1) 5)) (tR2 (pfold (tin N so ro b) i o)) = true then some (.inl (nI (6 * b + i), nI (mb so ro (eo N b i) (nL N + 1) 5), nI (6 * b + (i + 1)))) else some (.inl (tR1 (pfold (tin N so ro b) i o), tR2 (pfold (tin N so ro b) i o), nI (6 * b + (i + 1)))) := by
      unfold f12_tells_L2 f12_placeOf
      rw [rA_nI (by omega) (by omega), obs, ri.2.1 b hb, mulQ6, nI_add, obs, clt_nI (by omega) (by omega), decide_eq_true (by omega), if_pos rfl, mo, obs, nI_1]
      simp only [obs]
      rfl
    show f12_tells_L2 m ν (nI b) (tR1 (pfold (tin N so ro b) i o)) (tR2 (pfold (tin N so ro b) i o)) (nI (6 * b + i)) = some (.inl (tR1 (tin N so ro b i (pfold (tin N so ro b) i o)), tR2 (tin N so ro b i (pfold (tin N so ro b) i o)), nI (6 * b + (i + 1))))
    rw [st0]
    cases co : pfold (tin N so ro b) i o with
    | none =>
      rw [show clt (nI (mb so ro (eo N b i) (nL N + 1) 5)) (tR2 none) = true from by
        show clt _ (nI 100000000) = true
        rw [clt_nI (by omega) (by omega), decide_eq_true (by omega)], if_pos rfl]
      rfl
    | some q0 =>
      rw [co] at ok
      obtain ⟨o1, o2, o3⟩ := ok q0 rfl
      rw [show tR2 (some q0) = nI q0.2.2 from rfl, clt_nI (by omega) (by omega)]
      by_cases c : mb so ro (eo N b i) (nL N + 1) 5 < q0.2.2
      · rw [decide_eq_true c, if_pos rfl, show tin N so ro b i (some q0) = some (b, i, mb so ro (eo N b i) (nL N + 1) 5) from if_pos c]
        rfl
      · rw [decide_eq_false c, if_neg (by decide), show tin N so ro b i (some q0) = some q0 from if_neg c]
        rfl) (by
    intro _ _
    refine ⟨_, ?_, rfl⟩
    show f12_tells_L2 m ν (nI b) _ _ (nI (6 * b + nP N b)) = _
    unfold f12_tells_L2 f12_placeOf
    rw [rA_nI (by omega) (by omega), obs, ri.2.1 b hb, mulQ6, nI_add, obs, clt_nI (by omega) (by omega), decide_eq_false (by omega), if_neg (by decide)]
    rfl) (nP N b) 0 1000000 () (by omega) (by omega) (by omega) trivial
  rw [show zloop (fun s => f12_tells_L2 m ν (nI b) s.1 s.2.1 s.2.2) 1000000 (tR1 o, tR2 o, nI (6 * b)) = some r from e1, h1]
theorem R_tl1 (nw : NW N) (ri : RI N m ν) (su : SU N x m (nL N + 1) so ro μ ν) : zloop (fun s => f12_tells_L1 m ν s.1 s.2.1 s.2.2) 1000000 (-1, 100000000, 0) = some (tR1 (pfold (tout N so ro) (nB N) none), tR2 (pfold (tout N so ro) (nB N) none), nI (nB N)) := by
  have b8 := nw.b8
  obtain ⟨r, e1, h1⟩ := zloop_up (body := fun s => f12_tells_L1 m ν s.1 s.2.1 s.2.2) (fun i (_ : Unit) => (tR1 (pfold (tout N so ro) i none), tR2 (pfold (tout N so ro) i none), nI i)) (fun _ _ => True) (nB N) (fun r => r = (tR1 (pfold (tout N so ro) (nB N) none), tR2 (pfold (tout N so ro) (nB N) none), nI (nB N))) (by
    intro i _ hi _
    refine ⟨(), ?_, trivial⟩
    show f12_tells_L1 m ν (tR1 (pfold (tout N so ro) i none)) (tR2 (pfold (tout N so ro) i none)) (nI i) = _
    have z := R_tl2 nw ri su hi (tout_k (so := so) (ro := ro) nw i (by omega))
    unfold f12_tells_L1 f12_placeOf
    rw [ri.1.1, clt_nI (by omega) (by omega), decide_eq_true hi, if_pos rfl, mulQ6, show (nI (6 * i) + 0 : Int32) = nI (6 * i) from nI_add (6 * i) 0, obs, z, ozb3, obs, nI_1]
    rfl) (by
    intro _ _
    refine ⟨_, ?_, rfl⟩
    show f12_tells_L1 m ν _ _ (nI (nB N)) = _
    unfold f12_tells_L1
    rw [ri.1.1, clt_nI (by omega) (by omega), decide_eq_false (by omega), if_neg (by decide)]) (nB N) 0 1000000 () (by omega) (by omega) (by omega) trivial
  rw [show zloop (fun s => f12_tells_L1 m ν s.1 s.2.1 s.2.2) 1000000 (-1, 100000000, 0) = some r from e1, h1]
theorem q_tells (h : JR x m top μ ν) (a : Int32) : ∃ r μ' ν', f11_tells x a μ = some (r, μ') ∧ f12_tells m a ν = some (r, ν') ∧ JR x m top μ' ν' := by
  have h0 := h
  obtain ⟨N, S, st, w, h⟩ := h
  have nw := h.1.nw
  have l14 := nw.l14
  have hw := h.ww
  obtain ⟨so, ro, μ1, ν1, e1, e2, fb, fz, ft, su⟩ := sus2 h
  have hJ := h.look2 fb fz ft
  have cb := cnt_le (p := so) (nL N + 1)
  have wr1 : gR μ1 1111 x = some w := hJ.1.wr
  unfold f11_tells f12_tells
  simp only [h.1.wr, obs]
  rw [← h.2.1.1, e1, e2, show f12_isIn a 0 2 ν = some (!(clt a 0) && clt a (nI 3)) from isIn0 (n := 3) (by omega)]
  simp only [obs, ozb2]
  rw [show clt 2 a = !(clt a (nI 3)) from by rw [← clt_le (i := a) (n := 2) (by omega), Bool.not_not]; rfl]
  cases et : gB μ 1012 w with
  | false => exact ⟨-1, μ, ν, rfl, rfl, h0⟩
  | true =>
    rcases rngC 3 (by omega) a with ⟨a', ha, rfl⟩ | ⟨_, e⟩
    · have r1 : clt (nI a') 0 = false := by rw [show (0 : Int32) = nI 0 from rfl, clt_nI (by omega) (by omega), decide_eq_false (by omega)]
      have r2 : clt (nI a') (nI 3) = true := by rw [clt_nI (by omega) (by omega), decide_eq_true ha]
      rw [r1, r2]
      simp only [Bool.not_true, Bool.not_false, Bool.false_eq_true, ↓reduceIte, Bool.and_self, obs, ozb2]
      rw [wr1, obs]
      have sa : ∀ a, a ≠ x + 17 → SA a μ1 (sF (sF (sF μ1 706 (x + 17) (-1)) 707 (x + 17) (-1)) 708 (x + 17) (-1)) := fun a ha => ⟨fun k => by rw [gF_sF, if_neg (by omega), gF_sF, if_neg (by omega), gF_sF, if_neg (by omega)], fun _ => rfl, fun _ => rfl, fun _ => rfl, fun _ => rfl, fun _ => rfl⟩
      have f5 : ∀ k, k < 706 ∨ 708 < k → gF (sF (sF (sF μ1 706 (x + 17) (-1)) 707 (x + 17) (-1)) 708 (x + 17) (-1)) k (x + 17) = gF μ1 k (x + 17) := fun k hk => by rw [gF_sF, if_neg (by omega), gF_sF, if_neg (by omega), gF_sF, if_neg (by omega)]
      have tc : TC N x m w so ro ν1 μ1 (sF (sF (sF μ1 706 (x + 17) (-1)) 707 (x + 17) (-1)) 708 (x + 17) (-1)) none := ⟨by rw [gF_sF, if_neg (by omega), gF_sF, if_neg (by omega), gF_sF, if_pos ⟨rfl, rfl⟩]; rfl, by rw [gF_sF, if_neg (by omega), gF_sF, if_pos ⟨rfl, rfl⟩]; rfl, by rw [gF_sF, if_pos ⟨rfl, rfl⟩]; rfl, sa, f5, hJ.1.cs.wi.mv (fun a h1 h2 => sa a (by omega)), ⟨(f5 705 (by omega)).trans su.1, su.2.1, su.2.2⟩⟩
      have fin : ∀ {μ2 o}, TC N x m w so ro ν1 μ1 μ2 o → JR x m top μ2 ν1 := fun {μ2 o} z => by
        have fb2 : FrB x μ1 μ2 := ⟨fun a _ _ h3 _ _ => z.2.2.2.1 a h3, fun k hk => z.2.2.2.2.1 k (by omega)⟩
        exact ⟨_, _, _, _, hJ.look2 fb2 (hJ.2.2.2.1.mv (fun a h1 h2 => z.2.2.2.1 a (by omega))) FrT.rf⟩
      unfold f7_findTelling
      simp only [wF, obs]
      rw [tc.2.2.2.2.2.2.1]
      generalize sF (sF (sF μ1 706 (x + 17) (-1)) 707 (x + 17) (-1)) 708 (x + 17) (-1) = μ2 at tc ⊢
      cases cz : ceq (nI (cnt so (nL N + 1))) 0 with
      | true =>
        simp only [↓reduceIte, obs]
        rw [tc.1, tc.2.1, tc.2.2.1]
        refine ⟨-1, μ2, ν1, ?_, rfl, fin tc⟩
        show (if ceq (nI a') 0 = true then some (-1, μ2) else if ceq (nI a') 1 = true then some (-1, μ2) else some (-1, μ2)) = _
        cases ceq (nI a') 0 <;> cases ceq (nI a') 1 <;> rfl
      | false =>
        simp only [Bool.false_eq_true, ↓reduceIte]
        obtain ⟨μ3, e3, tc3⟩ := C_tl1 nw hw tc
        have e4 := R_tl1 nw hJ.1.m0.2.2.2 su
        have ok := tout_k (so := so) (ro := ro) nw (nB N) (Nat.le_refl _)
        rw [e3, ozb2, obs, e4, ozb3, tc3.1, tc3.2.1, tc3.2.2.1]
        cases co : pfold (tout N so ro) (nB N) none with
        | none =>
          refine ⟨-1, μ3, ν1, ?_, rfl, fin tc3⟩
          show (if ceq (nI a') 0 = true then some (-1, μ3) else if ceq (nI a') 1 = true then some (-1, μ3) else some (-1, μ3)) = _
          cases ceq (nI a') 0 <;> cases ceq (nI a') 1 <;> rfl
        | some q =>
          rw [co] at ok
          obtain ⟨o1, o2, o3⟩ := ok q rfl
          rw [show ceq (tR1 (some q)) (-1) = false from oI_none (by omega), if_neg Bool.false_ne_true, show tR1 (some q) = nI (6 * q.1 + q.2.1) from rfl, show (6 : Int32) = nI 6 from rfl, iDiv_nI (by omega) (by omega) (by omega), iRem_nI (by omega) (by omega) (by omega), obs, obs, show (6 * q.1 + q.2.1) / 6 = q.1 by omega, show (6 * q.1 + q.2.1) % 6 = q.2.1 by omega]
          have : a' = 0 ∨ a' = 1 ∨ a' = 2 := by omega
          rcases this with rfl | rfl | rfl
          · exact ⟨nI q.1, μ3, ν1, rfl, rfl, fin tc3⟩
          · exact ⟨nI q.2.1, μ3, ν1, rfl, rfl, fin tc3⟩
          · exact ⟨nI q.2.2, μ3, ν1, rfl, rfl, fin tc3⟩
    · have e5 : (clt a 0 || !(clt a (nI 3))) = true := by revert e; cases clt a 0 <;> cases clt a (nI 3) <;> decide
      rw [e]
      refine ⟨-1, μ, ν, ?_, rfl, h0⟩
      revert e5
      cases clt a 0 <;> cases clt a (nI 3) <;> intro e5 <;> first | rfl | exact absurd e5 (by decide)
end zK5s
