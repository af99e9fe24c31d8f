/-! ROOTS AND ROOT PORTS that are due -/
def nr (w : Nat → Nat) (a b : Nat) : Bool := decide (w (8 * a + b) < 1000000)
def rtF (S : zS) (w : Nat → Nat) (b c o : Nat) : Nat := if (nr w b c && clt (idS S c) (idS S o)) = true then c else o
def rtC (S : zS) (w : Nat → Nat) (b c : Nat) (o : Option Nat) : Option Nat := if (nr w b c && (match o with
  | none => true
  | some r => clt (idS S c) (idS S r))) = true then some c else o
/-- the bridge whose id is due as root -/
def rtR (N : zN) (S : zS) (b : Nat) : Nat := pfold (rtF S (wW N S) b) (nB N) b
def isMn (m : Nat) (S : zS) (w : Nat → Nat) (b r : Nat) : Prop := r < m ∧ fn w b r ∧ ∀ c, c < m → fn w b c → ¬ idS S c < idS S r
section zD1
variable {N : zN} {S : zS} {a b c e r r' n p : Nat} {w : Nat → Nat}
theorem nr_iff : nr w a b = true ↔ fn w a b := by unfold nr fn; exact decide_eq_true_iff
theorem lt_tr {x y z : Int32} (h1 : x < y) (h2 : y < z) : x < z := by
  rw [Int32.lt_iff_toInt_lt] at *; omega
theorem lt_eq {x y : Int32} (h1 : ¬ x < y) (h2 : ¬ y < x) : x = y := by
  rw [Int32.lt_iff_toInt_lt] at *
  exact Int32.toInt_inj.mp (by omega)
theorem clt_iff {x y : Int32} : clt x y = true ↔ x < y := by unfold clt; exact decide_eq_true_iff
theorem rtF_m {m : Nat} (hb : b < m) (h0 : fn w b b) : ∀ n, n ≤ m → pfold (rtF S w b) n b < m ∧ fn w b (pfold (rtF S w b) n b) ∧ ∀ c, c < n → fn w b c → ¬ idS S c < idS S (pfold (rtF S w b) n b)
  | 0, _ => ⟨hb, h0, fun c hc => absurd hc (by omega)⟩
  | n + 1, hn => by
    obtain ⟨i1, i2, i3⟩ := rtF_m hb h0 n (by omega)
    show rtF S w b n (pfold (rtF S w b) n b) < m ∧ fn w b (rtF S w b n (pfold (rtF S w b) n b)) ∧ ∀ c, c < n + 1 → fn w b c → ¬ idS S c < idS S (rtF S w b n (pfold (rtF S w b) n b))
    generalize pfold (rtF S w b) n b = o at *
    unfold rtF
    by_cases q : (nr w b n && clt (idS S n) (idS S o)) = true
    · rw [if_pos q]
      rw [Bool.and_eq_true, nr_iff, clt_iff] at q
      refine ⟨by omega, q.1, fun c hc hf hx => ?_⟩
      by_cases c1 : c = n
      · rw [c1] at hx; exact Int32.lt_irrefl hx
      · exact i3 c (by omega) hf (lt_tr hx q.2)
    · rw [if_neg q]
      refine ⟨i1, i2, fun c hc hf hx => ?_⟩
      by_cases c1 : c = n
      · subst c1
        rw [Bool.and_eq_true, nr_iff, clt_iff] at q
        exact q ⟨hf, hx⟩
      · exact i3 c (by omega) hf hx
theorem rtR_mn (nw : NW N) (hb : b < nB N) (h20 : S 20 b = 1) : isMn (nB N) S (wW N S) b (rtR N S b) := rtF_m hb (by unfold fn; rw [wW_on hb (nw.b_8 hb) h20]; omega) _ (Nat.le_refl _)
theorem mn_u (nw : NW N) (h1 : isMn (nB N) S w b r) (h2 : isMn (nB N) S w b r') : r = r' := by
  have e := lt_eq (h2.2.2 r h1.1 h1.2.1) (h1.2.2 r' h2.1 h2.2.1)
  exact id_inj (nw.b_8 h1.1) (nw.b_8 h2.1) e
theorem rtC_m (m : Nat) : ∀ n, n ≤ m → (pfold (rtC S w b) n none = none ∧ ∀ c, c < n → ¬ fn w b c) ∨ ∃ r, pfold (rtC S w b) n none = some r ∧ r < m ∧ fn w b r ∧ ∀ c, c < n → fn w b c → ¬ idS S c < idS S r
  | 0, _ => Or.inl ⟨rfl, fun c hc => absurd hc (by omega)⟩
  | n + 1, hn => by
    have ih := rtC_m m n (by omega)
    show (rtC S w b n (pfold (rtC S w b) n none) = none ∧ ∀ c, c < n + 1 → ¬ fn w b c) ∨ ∃ r, rtC S w b n (pfold (rtC S w b) n none) = some r ∧ r < m ∧ fn w b r ∧ ∀ c, c < n + 1 → fn w b c → ¬ idS S c < idS S r
    generalize pfold (rtC S w b) n none = o at *
    unfold rtC
    rcases ih with ⟨i1, i2⟩ | ⟨r, i1, i2, i3, i4⟩
    · subst i1
      by_cases q : nr w b n = true
      · right
        refine ⟨n, by rw [q]; rfl, by omega, nr_iff.mp q, fun c hc hf hx => ?_⟩
        by_cases c1 : c = n
        · rw [c1] at hx; exact Int32.lt_irrefl hx
        · exact i2 c (by omega) hf
      · left
        refine ⟨if_neg (fun x => q (Bool.and_eq_true_iff.mp x).1), fun c hc hf => ?_⟩
        by_cases c1 : c = n
        · subst c1; exact q (nr_iff.mpr hf)
        · exact i2 c (by omega) hf
    · subst i1
      right
      by_cases q : (nr w b n && clt (idS S n) (idS S r)) = true
      · refine ⟨n, if_pos q, by omega, ?_, fun c hc hf hx => ?_⟩
        · rw [Bool.and_eq_true, nr_iff] at q; exact q.1
        · rw [Bool.and_eq_true, nr_iff, clt_iff] at q
          by_cases c1 : c = n
          · rw [c1] at hx; exact Int32.lt_irrefl hx
          · exact i4 c (by omega) hf (lt_tr hx q.2)
      · refine ⟨r, if_neg q, i2, i3, fun c hc hf hx => ?_⟩
        rw [Bool.and_eq_true, nr_iff, clt_iff] at q
        by_cases c1 : c = n
        · subst c1; exact q ⟨hf, hx⟩
        · exact i4 c (by omega) hf hx
theorem rtC_eq (nw : NW N) (hb : b < nB N) (h20 : S 20 b = 1) : pfold (rtC S (wW N S) b) (nB N) none = some (rtR N S b) := by
  have m := rtR_mn nw hb h20
  rcases rtC_m (S := S) (b := b) (w := wW N S) (nB N) (nB N) (Nat.le_refl _) with ⟨h1, h2⟩ | ⟨r, h1, h2, h3, h4⟩
  · exact absurd m.2.1 (h2 _ m.1)
  · rw [h1, mn_u nw m ⟨h2, h3, h4⟩]
/-- both ends of a link that is up have the same root -/
theorem rtR_up (nw : NW N) (he : e < 2 * nL N) (hu : up N S e = true) : rtR N S (bo N (fe e)) = rtR N S (bo N e) := by
  have h1 : S 20 (bo N e) = 1 := up_on hu
  have h2 : S 20 (bo N (fe e)) = 1 := up_on (by rw [up_fe]; exact hu)
  have m1 := rtR_mn nw (nw.bo_b he) h1
  have m2 := rtR_mn nw (nw.bo_b (fe_lt he)) h2
  refine mn_u nw m2 ⟨m1.1, (wW_same nw he hu (nw.b_8 m1.1)).mp m1.2.1, fun c hc hf => m1.2.2 c hc ((wW_same nw he hu (nw.b_8 hc)).mpr hf)⟩
/-- the ways to a root are near -/
theorem rtR_nr (nw : NW N) (hb : b < nB N) (h20 : S 20 b = 1) : wW N S (8 * b + rtR N S b) < 1000000 := (rtR_mn nw hb h20).2.1
theorem rtR_n2 (nw : NW N) (he : e < 2 * nL N) (hu : up N S e = true) : wW N S (8 * bo N (fe e) + rtR N S (bo N e)) < 1000000 := by
  rw [← rtR_up nw he hu]
  exact rtR_nr nw (nw.bo_b (fe_lt he)) (up_on (by rw [up_fe]; exact hu))
/-- a port's offer is less than another's -/
def kls (N : zN) (S : zS) (r e e0 : Nat) : Bool := vlt 0 (nI (wW N S (8 * bo N (fe e) + r)) + nI (cst N (e / 2))) (idS S (bo N (fe e))) (nI (po N (fe e))) 0 (nI (wW N S (8 * bo N (fe e0) + r)) + nI (cst N (e0 / 2))) (idS S (bo N (fe e0))) (nI (po N (fe e0)))
def rpF (N : zN) (S : zS) (b p : Nat) (o : Option Nat) : Option Nat := if (!(up N S (eo N b p)) || decide (bo N (fe (eo N b p)) = b)) = true then o else match o with
  | none => some p
  | some p0 => if kls N S (rtR N S b) (eo N b p) (eo N b p0) = true then some p else some p0
/-- the root port that is due -/
def rpD (N : zN) (S : zS) (b : Nat) : Option Nat := if rtR N S b = b then none else pfold (rpF N S b) (nP N b) none
/-- the role that is due -/
def rlD (N : zN) (S : zS) (e : Nat) : Int32 := if up N S e = true then (if rpD N S (bo N e) = some (po N e) then 1 else if vlt 0 (nI (wW N S (8 * bo N (fe e) + rtR N S (bo N e)))) (idS S (bo N (fe e))) (nI (po N (fe e))) 0 (nI (wW N S (8 * bo N e + rtR N S (bo N e)))) (idS S (bo N e)) (nI (po N e)) = true then (if bo N (fe e) = bo N e then 4 else 3) else 2) else 0
theorem rpF_lt : ∀ n p0, pfold (rpF N S b) n none = some p0 → p0 < n ∧ up N S (eo N b p0) = true
  | 0, p0, h => by cases h
  | n + 1, p0, h => by
    have ih := rpF_lt n
    have h : rpF N S b n (pfold (rpF N S b) n none) = some p0 := h
    generalize pfold (rpF N S b) n none = o at *
    unfold rpF at h
    by_cases q : (!(up N S (eo N b n)) || decide (bo N (fe (eo N b n)) = b)) = true
    · rw [if_pos q] at h
      have := ih p0 h
      exact ⟨by omega, this.2⟩
    · rw [if_neg q] at h
      have hu : up N S (eo N b n) = true := by
        cases hh : up N S (eo N b n) with
        | true => rfl
        | false => rw [hh] at q; exact absurd rfl q
      cases o with
      | none => cases h; exact ⟨by omega, hu⟩
      | some p1 =>
        by_cases q2 : kls N S (rtR N S b) (eo N b n) (eo N b p1) = true
        · rw [show (match some p1 with | none => some n | some p0 => if kls N S (rtR N S b) (eo N b n) (eo N b p0) = true then some n else some p0) = (if kls N S (rtR N S b) (eo N b n) (eo N b p1) = true then some n else some p1) from rfl, if_pos q2] at h
          cases h; exact ⟨by omega, hu⟩
        · rw [show (match some p1 with | none => some n | some p0 => if kls N S (rtR N S b) (eo N b n) (eo N b p0) = true then some n else some p0) = (if kls N S (rtR N S b) (eo N b n) (eo N b p1) = true then some n else some p1) from rfl, if_neg q2] at h
          have := ih p0 h
          exact ⟨by omega, this.2⟩
theorem vlt_r (x a b c a' b' c' : Int32) : vlt x a b c x a' b' c' = vlt 0 a b c 0 a' b' c' := by
  unfold vlt
  rw [ceq_rf, ceq_rf, if_pos rfl, if_pos rfl]
end zD1
