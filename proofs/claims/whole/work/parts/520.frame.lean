/-! A FRAME -/
abbrev zT : Type := Nat → Nat → Nat
/-- into the queue -/
def enq (T : zT) (c : Nat) : zT := zu (zu T 4 (T 0 0) c) 0 0 (T 0 0 + 1)
def lrn (b h : Nat) (v : Int32) (S : zS) : zS := zu (zu S 42 (b * 8 + h) v) 43 (b * 8 + h) 0
/-- a frame passes out at end `e` -/
def fps (N : zN) (h e : Nat) (x : zS × zT) : zS × zT := if (!(ceq (x.1 1 e) 2) || decide (x.2 3 0 = 1)) = true then x else if x.2 2 0 = 64 then (x.1, zu x.2 3 0 1) else if ceq (x.1 1 (fe e)) 0 = true then (x.1, zu x.2 2 0 (x.2 2 0 + 1)) else (lrn (bo N (fe e)) h (nI (po N (fe e))) x.1, if ceq (x.1 1 (fe e)) 2 = true then enq (zu x.2 2 0 (x.2 2 0 + 1)) (7 * bo N (fe e) + po N (fe e)) else zu x.2 2 0 (x.2 2 0 + 1))
/-- it reaches its host -/
def frc (t b : Nat) (x : zS × zT) : zS × zT := if ceq (x.1 41 t) (nI b) = true then (x.1, zu x.2 1 0 (x.2 1 0 + 1)) else x
def ffl (N : zN) (h b q : Nat) (p : Nat) (x : zS × zT) : zS × zT := if p = q then x else fps N h (eo N b p) x
/-- one that came in is passed on -/
def fgo (N : zN) (h t c : Nat) (x : zS × zT) : zS × zT :=
  if ceq (x.1 42 (c / 7 * 8 + t)) (-1) = true then (if (pfold (ffl N h (c / 7) (c % 7)) (nP N (c / 7)) x).2 3 0 = 1 then pfold (ffl N h (c / 7) (c % 7)) (nP N (c / 7)) x else frc t (c / 7) (pfold (ffl N h (c / 7) (c % 7)) (nP N (c / 7)) x))
  else if ceq (x.1 42 (c / 7 * 8 + t)) 6 = true then frc t (c / 7) x
  else if ceq (x.1 42 (c / 7 * 8 + t)) (nI (c % 7)) = true then x else fps N h (eo N (c / 7) (x.1 42 (c / 7 * 8 + t)).toNatClampNeg) x
/-- what a frame keeps to -/
def FI (N : zN) (T : zT) : Prop := T 0 0 ≤ T 2 0 + 1 ∧ T 2 0 ≤ 64 ∧ T 3 0 ≤ 1 ∧ ∀ k, k < T 0 0 → T 4 k / 7 < nB N ∧ (T 4 k % 7 = 6 ∨ T 4 k % 7 < nP N (T 4 k / 7))
def qpt (c : Nat) : Int32 := if c % 7 = 6 then -1 else nI (c % 7)
def FQ (o : Nat) (μ : zM) (T : zT) : Prop := gF μ 202 o = nI (T 0 0) ∧ gF μ 204 o = nI (T 1 0) ∧ gF μ 205 o = nI (T 2 0) ∧ gB μ 206 o = decide (T 3 0 = 1) ∧ ∀ k, k < T 0 0 → gA μ (o + 1) k = nI (T 4 k / 7) ∧ gA μ (o + 2) k = qpt (T 4 k)
/-- cells outside two blocks are the same -/
def Fr2 (s o : Nat) (μ μ' : zM) : Prop := (∀ a, (a < s ∨ s + 261 ≤ a) → (a < o ∨ o + 3 ≤ a) → SA a μ μ') ∧ gB μ' 203 o = gB μ 203 o
def CG (N : zN) (s w o : Nat) (μ0 μ : zM) (S : zS) (T : zT) : Prop := CS N s w μ μ S ∧ FQ o μ T ∧ Fr2 s o μ0 μ ∧ FI N T
def CF (N : zN) (s w o : Nat) (μ0 μ : zM) (x : zS × zT) : Prop := CG N s w o μ0 μ x.1 x.2
section zG0
variable {N : zN} {s w o : Nat} {μ0 μ μ' : zM} {S : zS} {T : zT} {x : zS × zT} {h e b p t k c i : Nat} {v : Int32}
theorem Fr2.tr {μ1 : zM} (h1 : Fr2 s o μ0 μ) (h2 : Fr2 s o μ μ1) : Fr2 s o μ0 μ1 := ⟨fun a x y => (h1.1 a x y).tr (h2.1 a x y), h2.2.trans h1.2⟩
theorem fps_1 : (fps N h e x).1 1 i = x.1 1 i ∧ (fps N h e x).1 41 i = x.1 41 i := by
  unfold fps
  split
  · exact ⟨rfl, rfl⟩
  · split
    · exact ⟨rfl, rfl⟩
    · split
      · exact ⟨rfl, rfl⟩
      · unfold lrn
        exact ⟨rfl, rfl⟩
theorem enq_4 : enq T c 4 k = if k = T 0 0 then c else T 4 k := by
  show (if 4 = 0 ∧ k = 0 then T 0 0 + 1 else if 4 = 4 ∧ k = T 0 0 then c else T 4 k) = _
  rw [if_neg (by omega)]
  by_cases q : k = T 0 0
  · rw [if_pos ⟨rfl, q⟩, if_pos q]
  · rw [if_neg (fun x => q x.2), if_neg q]
theorem enq_0 : enq T c 0 0 = T 0 0 + 1 := rfl
theorem enq_o (hf : i ≠ 0 ∧ i ≠ 4) : enq T c i 0 = T i 0 := by
  show (if i = 0 ∧ 0 = 0 then T 0 0 + 1 else if i = 4 ∧ 0 = T 0 0 then c else T i 0) = _
  rw [if_neg (by omega), if_neg (by omega)]
theorem FI.enq (h : FI N T) (hl : T 0 0 ≤ T 2 0) (hc : c / 7 < nB N ∧ (c % 7 = 6 ∨ c % 7 < nP N (c / 7))) : FI N (enq T c) := by
  obtain ⟨h1, h2, h3, h4⟩ := h
  refine ⟨by rw [enq_0, enq_o (by omega)]; omega, by rw [enq_o (by omega)]; exact h2, by rw [enq_o (by omega)]; exact h3, fun k hk => ?_⟩
  rw [enq_0] at hk
  rw [enq_4]
  by_cases q : k = T 0 0
  · rw [if_pos q]; exact hc
  · rw [if_neg q]; exact h4 k (by omega)
theorem FI.ad (h : FI N T) (hl : T 2 0 ≠ 64) : FI N (zu T 2 0 (T 2 0 + 1)) := by
  obtain ⟨h1, h2, h3, h4⟩ := h
  refine ⟨?_, ?_, h3, h4⟩
  · show T 0 0 ≤ (T 2 0 + 1) + 1; omega
  · show T 2 0 + 1 ≤ 64; omega
theorem cd_ok (nw : NW N) (he : e < 2 * nL N) : (7 * bo N e + po N e) / 7 < nB N ∧ ((7 * bo N e + po N e) % 7 = 6 ∨ (7 * bo N e + po N e) % 7 < nP N ((7 * bo N e + po N e) / 7)) := by
  have := nw.po_6 he
  rw [show (7 * bo N e + po N e) / 7 = bo N e by omega, show (7 * bo N e + po N e) % 7 = po N e by omega]
  exact ⟨nw.bo_b he, Or.inr (nw.po_p he)⟩
theorem FI.ps (nw : NW N) (hi : FI N x.2) (he : e < 2 * nL N) : FI N (fps N h e x).2 := by
  have fl := fe_lt he
  unfold fps
  by_cases c0 : (!(ceq (x.1 1 e) 2) || decide (x.2 3 0 = 1)) = true
  · rw [if_pos c0]; exact hi
  · rw [if_neg c0]
    by_cases c1 : x.2 2 0 = 64
    · rw [if_pos c1]; exact ⟨hi.1, hi.2.1, Nat.le_refl _, hi.2.2.2⟩
    · rw [if_neg c1]
      have up := hi.ad c1
      by_cases c2 : ceq (x.1 1 (fe e)) 0 = true
      · rw [if_pos c2]; exact up
      · rw [if_neg c2]
        show FI N (if ceq (x.1 1 (fe e)) 2 = true then _ else _)
        by_cases c3 : ceq (x.1 1 (fe e)) 2 = true
        · rw [if_pos c3]
          exact up.enq (show x.2 0 0 ≤ x.2 2 0 + 1 from hi.1) (cd_ok nw fl)
        · rw [if_neg c3]; exact up
theorem C_lrn (hc : CS N s w μ0 μ S) (hb : b < nB N) (hh : h < 8) (ho : okA N b v) : f8_learn s (nI b) (nI h) v μ = some (sA (sA μ (s + 6) (b * 8 + h) v) (s + 7) (b * 8 + h) 0) ∧ CS N s w μ0 (sA (sA μ (s + 6) (b * 8 + h) v) (s + 7) (b * 8 + h) 0) (lrn b h v S) := by
  have b8 := hc.nw.b_8 hb
  refine ⟨?_, (hc.w_la (e := b * 8 + h) (by omega) hb hh rfl ho).w_lg (e := b * 8 + h) (by omega)⟩
  unfold f8_learn
  rw [mulR8, nI_add, wA_nI (by omega) (by omega), obs, wA_nI (by omega) (by omega), obs]
end zG0
