/-! THE CENTRE, both -/
def c1I (N : zN) (W : Nat → Nat) (x : Option Nat) : Int32 := match x with
  | none => -1
  | some a => nI (cj N W a).1
def c2I (N : zN) (W : Nat → Nat) (x : Option Nat) : Int32 := match x with
  | none => -1
  | some a => nI (cj N W a).2
/-- what is told of the centre -/
def cenA (N : zN) (S : zS) (v : Int32) : Int32 := if ceq v 0 = true then oI (cen N S) else if ceq v 1 = true then c1I N (wW N S) (cen N S) else if ceq v 2 = true then c2I N (wW N S) (cen N S) else -1
section zE1
variable {N : zN} {s w o m B n : Nat} {μ0 μ μ' ν0 ν ν' : zM} {S S' : zS} {a b c d e f i j k l r p : Nat} {W : Nat → Nat} {v : Int32}
theorem DQ.wF (q : DQ N s w o S μ0 μ W) (ho : Out o 8 s w) : DQ N s w o S μ0 (sF μ k o v) W :=
  ⟨q.1.fd ho (FrD.rf.wF (by omega) (by omega)), q.2.1.wF (by omega) (by omega), q.2.2⟩
def CV (N : zN) (W : Nat → Nat) (o : Nat) (μ : zM) (x : Option Nat) : Prop := gF μ 107 o = oI x ∧ gF μ 108 o = c1I N W x ∧ gF μ 109 o = c2I N W x
theorem cenF_off (h : ¬ ceq (S 20 b) 1 = true) (x : Option Nat) : cenF N S W b x = x := if_neg h
theorem cenF_none (h : ceq (S 20 b) 1 = true) : cenF N S W b none = some b := if_pos h
theorem cenF_some (h : ceq (S 20 b) 1 = true) : cenF N S W b (some a) = if (decide ((cj N W a).1 < (cj N W b).1) || (decide ((cj N W b).1 = (cj N W a).1) && decide ((cj N W b).2 < (cj N W a).2))) = true then some b else some a := if_pos h
theorem cj_b (nw : NW N) (hW : ∀ k, W k ≤ 1000000 ∧ (W k < 1000000 → W k ≤ 51200)) (b : Nat) : (cj N W b).1 ≤ 8 ∧ (cj N W b).2 ≤ 51200 * 8 := by
  have b8 := nw.b8
  obtain ⟨h1, h2⟩ := cnj_b (W := W) (b := b) (fun k h => (hW k).2 h) (nB N)
  have h1 : (cj N W b).1 ≤ nB N := h1
  have h2 : (cj N W b).2 ≤ 51200 * nB N := h2
  omega
theorem m1_lt (k : Nat) (hk : k < 2 ^ 31) : clt (-1) (nI k) = true := by
  unfold clt
  rw [decide_eq_true_iff, Int32.lt_iff_toInt_lt, nI_toInt hk]
  have h3 : (-1 : Int32).toInt = -1 := by decide
  omega
theorem C_cen1 (q : DQ N s w o S μ0 μ W) (ho : Out o 8 s w) (hv : CV N W o μ none) (hW : ∀ k, W k ≤ 1000000 ∧ (W k < 1000000 → W k ≤ 51200)) : ∃ μ', zloop (fun x => f1_findCentre_L1 o s x.1 x.2) 1000000 (0, μ) = some (nI (nB N), μ') ∧ DQ N s w o S μ0 μ' W ∧ CV N W o μ' (pfold (cenF N S W) (nB N) none) := by
  have nw := q.1.nw
  have b8 := nw.b8
  exact lp (Q := fun μ x => DQ N s w o S μ0 μ W ∧ CV N W o μ x) (body := fun x => f1_findCentre_L1 o s x.1 x.2) nI (cenF N S W) (nB N) (S := none) (μ := μ) (x0 := 0) (by
    intro i μ1 hi q1
    generalize pfold (cenF N S W) i none = x at *
    obtain ⟨q1, v1, v2, v3⟩ := q1
    show ∃ μ', f1_findCentre_L1 o s (nI i) μ1 = some (.inl (nI (i + 1), μ')) ∧ DQ N s w o S μ0 μ' W ∧ CV N W o μ' (cenF N S W i x)
    obtain ⟨z1, z2⟩ := cj_b nw hW i
    have start : f1_findCentre_L1 o s (nI i) μ1 = if (ceq (S 20 i) 1 && ((clt (c1I N W x) (nI (cj N W i).1)) || ((ceq (nI (cj N W i).1) (c1I N W x)) && (clt (nI (cj N W i).2) (c2I N W x))))) = true then some (.inl (nI (i + 1), sF (sF (sF μ1 107 o (nI i)) 108 o (nI (cj N W i).1)) 109 o (nI (cj N W i).2))) else some (.inl (nI (i + 1), μ1)) := by
      unfold f1_findCentre_L1
      rw [q1.1.c_wir, obs, q1.1.w_b, clt_nI (by omega) (by omega), decide_eq_true hi, if_pos rfl, C_cen2 q1 hi hW, ozb3, obs, rI_nI (by omega) (by omega), obs, obs, q1.1.r_on (by omega), v2, v3, nI_1]
      simp only [obs, wF]
      cases ceq (S 20 i) 1 with
      | false => rfl
      | true => rw [if_pos rfl, obs, Bool.true_and]
    by_cases c : ceq (S 20 i) 1 = true
    · rw [c, Bool.true_and] at start
      have wr : ∃ μ', some (.inl (nI (i + 1), sF (sF (sF μ1 107 o (nI i)) 108 o (nI (cj N W i).1)) 109 o (nI (cj N W i).2))) = some (.inl (nI (i + 1), μ') : (Int32 × zM) ⊕ (Int32 × zM)) ∧ DQ N s w o S μ0 μ' W ∧ CV N W o μ' (some i) :=
        ⟨_, rfl, ((q1.wF ho).wF ho).wF ho, by rw [gF_sF, if_neg (by omega), gF_sF, if_neg (by omega), gF_sF, if_pos ⟨rfl, rfl⟩]; rfl, by rw [gF_sF, if_neg (by omega), gF_sF, if_pos ⟨rfl, rfl⟩]; rfl, by rw [gF_sF, if_pos ⟨rfl, rfl⟩]; rfl⟩
      cases x with
      | none =>
        rw [cenF_none c]
        rw [show c1I N W none = -1 from rfl, m1_lt _ (by omega), Bool.true_or, if_pos rfl] at start
        rw [start]; exact wr
      | some a =>
        obtain ⟨y1, y2⟩ := cj_b nw hW a
        rw [cenF_some c]
        rw [show c1I N W (some a) = nI (cj N W a).1 from rfl, show c2I N W (some a) = nI (cj N W a).2 from rfl, clt_nI (by omega) (by omega), ceq_nI (by omega) (by omega), clt_nI (by omega) (by omega)] at start
        by_cases c2 : (decide ((cj N W a).1 < (cj N W i).1) || (decide ((cj N W i).1 = (cj N W a).1) && decide ((cj N W i).2 < (cj N W a).2))) = true
        · rw [if_pos c2] at start ⊢
          rw [start]; exact wr
        · rw [if_neg c2] at start ⊢
          exact ⟨μ1, start, q1, v1, v2, v3⟩
    · rw [cenF_off c]
      rw [show ceq (S 20 i) 1 = false by cases h : ceq (S 20 i) 1 with
        | false => rfl
        | true => exact absurd h c, Bool.false_and, if_neg (by decide)] at start
      exact ⟨μ1, start, q1, v1, v2, v3⟩) (by
    intro μ1 q1
    show f1_findCentre_L1 o s (nI (nB N)) μ1 = _
    unfold f1_findCentre_L1
    rw [q1.1.1.c_wir, obs, q1.1.1.w_b, clt_nI (by omega) (by omega), decide_eq_false (by omega), if_neg (by decide)]) (by omega) ⟨q, hv⟩
theorem C_cen (h : CS N s w μ μ S) (ho : Out o 8 s w) : ∃ μ', f1_findCentre o s μ = some μ' ∧ DQ N s w o S μ μ' (wW N S) ∧ CV N (wW N S) o μ' (cen N S) := by
  obtain ⟨μ1, e1, q1⟩ := C_ways h ho
  have hW : ∀ k, wW N S k ≤ 1000000 ∧ (wW N S k < 1000000 → wW N S k ≤ 51200) := fun k => ⟨wW_b h.nw, fun x => ((wW_lt h.nw (n := 8) (by omega) k).2 x).1⟩
  obtain ⟨μ2, e2, q2, v2⟩ := C_cen1 (W := wW N S) (((q1.wF (k := 107) (v := -1) ho).wF (k := 108) (v := -1) ho).wF (k := 109) (v := -1) ho) ho ⟨by rw [gF_sF, if_neg (by omega), gF_sF, if_neg (by omega), gF_sF, if_pos ⟨rfl, rfl⟩]; rfl, by rw [gF_sF, if_neg (by omega), gF_sF, if_pos ⟨rfl, rfl⟩]; rfl, by rw [gF_sF, if_pos ⟨rfl, rfl⟩]; rfl⟩ hW
  refine ⟨μ2, ?_, q2, v2⟩
  unfold f1_findCentre
  rw [e1, obs]
  simp only [wF, obs]
  rw [e2, ozb2]
def r1I (N : zN) (W : Nat → Nat) (x : Option Nat) : Int32 := match x with
  | none => 0
  | some a => nI (cj N W a).1
def r2I (N : zN) (W : Nat → Nat) (x : Option Nat) : Int32 := match x with
  | none => 0
  | some a => nI (cj N W a).2
theorem R_cen1 (q : EQ N m B S ν0 ν W) (hW : ∀ k, W k ≤ 1000000 ∧ (W k < 1000000 → W k ≤ 51200)) (hon : ∀ b, b < nB N → S 20 b = 1 → nr W b b = true) (hoff : ∀ b c, b < nB N → c < nB N → S 20 b ≠ 1 → nr W b c = false) : zloop (fun x => f12_centre_L1 m ν x.1 x.2.1 x.2.2.1 x.2.2.2) 1000000 ((-1), 0, 0, 0) = some (oI (pfold (cenF N S W) (nB N) none), r1I N W (pfold (cenF N S W) (nB N) none), r2I N W (pfold (cenF N S W) (nB N) none), nI (nB N)) := by
  have nw := q.1.nw
  have b8 := nw.b8
  have lt : ∀ n, n ≤ nB N → ∀ a, pfold (cenF N S W) n none = some a → a < nB N := by
    intro n
    induction n with
    | zero => intro _ a h; cases h
    | succ n ih =>
      intro hn a h
      have ih := ih (by omega)
      have h : cenF N S W n (pfold (cenF N S W) n none) = some a := h
      generalize pfold (cenF N S W) n none = x at *
      by_cases c : ceq (S 20 n) 1 = true
      · cases x with
        | none => rw [cenF_none c] at h; cases h; omega
        | some y =>
          rw [cenF_some c] at h
          split at h
          · cases h; omega
          · exact ih a h
      · rw [cenF_off c] at h; exact ih a h
  have key := zloop_up (body := fun x => f12_centre_L1 m ν x.1 x.2.1 x.2.2.1 x.2.2.2) (fun i (_ : Unit) => (oI (pfold (cenF N S W) i none), r1I N W (pfold (cenF N S W) i none), r2I N W (pfold (cenF N S W) i none), nI i)) (fun _ _ => True) (nB N) (fun r => r = (oI (pfold (cenF N S W) (nB N) none), r1I N W (pfold (cenF N S W) (nB N) none), r2I N W (pfold (cenF N S W) (nB N) none), nI (nB N))) (by
    intro i x hi _
    refine ⟨(), ?_, trivial⟩
    have lo := lt i (by omega)
    have e : pfold (cenF N S W) (i + 1) none = cenF N S W i (pfold (cenF N S W) i none) := rfl
    rw [e]
    generalize pfold (cenF N S W) i none = y at *
    obtain ⟨z1, z2⟩ := cj_b nw hW i
    show f12_centre_L1 m ν (oI y) (r1I N W y) (r2I N W y) (nI i) = _
    unfold f12_centre_L1
    rw [q.1.g_b, clt_nI (by omega) (by omega), decide_eq_true hi, if_pos rfl, R_cen2 q hi hW, ozb3, nI_1, obs, obs]
    by_cases c : ceq (S 20 i) 1 = true
    · have h1 := cnj_1 (hon i hi (ceq_of c)) (nB N) hi
      have h1 : 1 ≤ (cj N W i).1 := h1
      cases y with
      | none =>
        rw [cenF_none c, show r1I N W none = nI 0 from rfl, clt_nI (by omega) (by omega), decide_eq_false (by omega), ceqR0 (by omega), decide_eq_false (by omega), ceq_nI (by omega) (by omega), decide_eq_false (by omega), if_neg (by simp)]
        rfl
      | some a =>
        obtain ⟨y1, y2⟩ := cj_b nw hW a
        have la := lo a rfl
        rw [cenF_some c, show r1I N W (some a) = nI (cj N W a).1 from rfl, show r2I N W (some a) = nI (cj N W a).2 from rfl, clt_nI (by omega) (by omega), ceqR0 (by omega), decide_eq_false (show ¬ (cj N W i).1 = 0 by omega), ceq_nI (by omega) (by omega), clt_nI (by omega) (by omega), show oI (some a) = nI a from rfl, oI_none (by omega)]
        by_cases d1 : (cj N W a).1 < (cj N W i).1
        · rw [decide_eq_true d1, decide_eq_false (show ¬ (cj N W i).1 < (cj N W a).1 by omega), decide_eq_false (show ¬ (cj N W i).1 = (cj N W a).1 by omega), if_neg (by simp), Bool.true_or, if_pos rfl]; rfl
        · by_cases d2 : (cj N W i).1 = (cj N W a).1
          · rw [decide_eq_false d1, decide_eq_true d2, decide_eq_false (show ¬ (cj N W i).1 < (cj N W a).1 by omega)]
            by_cases d3 : (cj N W i).2 < (cj N W a).2
            · rw [decide_eq_true d3, if_neg (by decide), if_pos (by decide)]; rfl
            · rw [decide_eq_false d3, if_pos (by decide), if_neg (by decide)]; rfl
          · rw [decide_eq_false d1, decide_eq_false d2, decide_eq_true (show (cj N W i).1 < (cj N W a).1 by omega), if_pos (by rfl), if_neg (by simp)]; rfl
    · rw [cenF_off c]
      have h0 : cj N W i = (0, 0) := cnj_0 (nB N) (fun d hd => hoff i d hi hd (fun x => c (ceq_t x)))
      rw [h0, show ceq (nI (0, 0).1) 0 = true from rfl, Bool.or_true, Bool.true_or, if_pos rfl]) (by
    intro x _
    refine ⟨_, ?_, rfl⟩
    show f12_centre_L1 m ν _ _ _ (nI (nB N)) = _
    unfold f12_centre_L1
    rw [q.1.g_b, clt_nI (by omega) (by omega), decide_eq_false (by omega), if_neg (by decide)]) (nB N) 0 1000000 () (by omega) (by omega) (by omega) trivial
  obtain ⟨r, e1, rfl⟩ := key
  exact e1
end zE1
