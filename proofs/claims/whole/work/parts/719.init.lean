/-! THE START: the relation holds -/
section zH0
variable {x m n a k d j c : Nat} {μ : zM}
theorem lkA0 (h : ∀ a j, gA μ a j = 0) : ∀ (l : List mOp), (∀ p ∈ l, p.1 ≠ 3) → ∀ a j, gA (l.foldl (apO c) μ) a j = 0 := by
  intro l
  induction l generalizing μ with
  | nil => exact fun _ => h
  | cons p l ih =>
    intro hp
    refine ih (μ := apO c μ p) (fun a j => ?_) (fun q hq => hp q (List.mem_cons_of_mem _ hq))
    have h3 := hp p List.mem_cons_self
    unfold apO
    by_cases h0 : p.1 = 0
    · rw [if_pos h0, gA_zz, h, ite_self]
    · rw [if_neg h0]
      by_cases h1 : p.1 = 1
      · rw [if_pos h1]; exact h a j
      · rw [if_neg h1]
        by_cases h2 : p.1 = 2
        · rw [if_pos h2]; exact h a j
        · rw [if_neg h2, if_neg h3]; exact h a j
theorem nA0 : ∀ (l : List mOp), (∀ p ∈ l, p.1 = 3 → p.2.2.1 ≠ d) → nA l d j 0 = 0
  | [], _ => rfl
  | p :: l, h => by
    show nA l d j (if p.1 = 0 then (if d = p.2.2.1 then 0 else 0) else if p.1 = 3 then (if d = p.2.2.1 ∧ j = p.2.1 then p.2.2.2.1 else 0) else 0) = 0
    have e : (if p.1 = 0 then (if d = p.2.2.1 then (0 : Int32) else 0) else if p.1 = 3 then (if d = p.2.2.1 ∧ j = p.2.1 then p.2.2.2.1 else 0) else 0) = 0 := by
      by_cases h0 : p.1 = 0
      · rw [if_pos h0, ite_self]
      · rw [if_neg h0]
        by_cases h3 : p.1 = 3
        · have := h p List.mem_cons_self h3
          rw [if_pos h3, if_neg (by omega)]
        · rw [if_neg h3]
    rw [e]
    exact nA0 l (fun q hq => h q (List.mem_cons_of_mem _ hq))
theorem xB : gB (xm14 Z0 x) k a = false := by
  show gB (muP (xm12 Z0 x) (x + 312) (x + 23) 261 13 8 28 84) k a = false
  rw [gB_mP]
  show (if _ then false else gB (muP (xm11 Z0 x) (x + 51) (x + 23) 261 13 8 28 84) k a) = false
  have e : gB (xmO x Z0) k a = false := lkB (c := x) (μ := Z0) (fun _ _ => rfl) xops k a
  rw [gB_mP, xm_eq, e, ite_self, ite_self]
theorem xZ : gZ (xm14 Z0 x) a j = false := by
  show gZ (muP (xm12 Z0 x) (x + 312) (x + 23) 261 13 8 28 84) a j = false
  rw [gZ_mP]
  show (if _ then false else gZ (muP (xm11 Z0 x) (x + 51) (x + 23) 261 13 8 28 84) a j) = false
  have e : gZ (xmO x Z0) a j = false := lkZ (c := x) (μ := Z0) (fun _ _ => rfl) xops a j
  rw [gZ_mP, xm_eq, e, ite_self, ite_self]
theorem xA : gA (xm14 Z0 x) a j = 0 := by
  show gA (muP (xm12 Z0 x) (x + 312) (x + 23) 261 13 8 28 84) a j = 0
  rw [gA_mP]
  show (if _ then 0 else gA (muP (xm11 Z0 x) (x + 51) (x + 23) 261 13 8 28 84) a j) = 0
  have e : gA (xmO x Z0) a j = 0 := lkA0 (c := x) (μ := Z0) (fun _ _ => rfl) xops (by decide +kernel) a j
  rw [gA_mP, xm_eq, e, ite_self, ite_self]
theorem xX : gX (xm14 Z0 x) (x + 2) j = none := by
  show gX (muP (xm12 Z0 x) (x + 312) (x + 23) 261 13 8 28 84) (x + 2) j = none
  rw [gX_mP, if_neg (by omega)]
  show gX (muP (xm11 Z0 x) (x + 51) (x + 23) 261 13 8 28 84) (x + 2) j = none
  rw [gX_mP, if_neg (by omega), xm_eq]
  exact lkX (c := x) (fun _ _ => rfl) xops _ _
theorem xF (hd : d < 51) (hk : k ≠ 1117) : gF (xm14 Z0 x) k (x + d) = nF xops k d 0 := by
  show gF (sF (xm13 Z0 x) 1117 x 1) k (x + d) = _
  rw [gF_sF, if_neg (by omega)]
  show gF (muP (xm12 Z0 x) (x + 312) (x + 23) 261 13 8 28 84) k (x + d) = _
  rw [gF_mP, if_neg (by omega)]
  show gF (muP (xm11 Z0 x) (x + 51) (x + 23) 261 13 8 28 84) k (x + d) = _
  rw [gF_mP, if_neg (by omega), xm_eq]
  exact lkF xops Z0
theorem x1117 : gF (xm14 Z0 x) 1117 x = 1 := by
  show gF (sF (xm13 Z0 x) 1117 x 1) 1117 x = _
  rw [gF_sF, if_pos ⟨rfl, rfl⟩]
theorem xS1 (h1 : x + 51 ≤ a) (h2 : a < x + 312) : gF (xm14 Z0 x) k a = fiP (a - (x + 51)) k := by
  show gF (sF (xm13 Z0 x) 1117 x 1) k a = _
  rw [gF_sF, if_neg (by omega)]
  show gF (muP (xm12 Z0 x) (x + 312) (x + 23) 261 13 8 28 84) k a = _
  rw [gF_mP, if_neg (by omega)]
  show gF (muP (xm11 Z0 x) (x + 51) (x + 23) 261 13 8 28 84) k a = _
  rw [gF_mP, if_pos (by omega)]
theorem xS2 (h1 : x + 312 ≤ a) (h2 : a < x + 573) : gF (xm14 Z0 x) k a = fiP (a - (x + 312)) k := by
  show gF (sF (xm13 Z0 x) 1117 x 1) k a = _
  rw [gF_sF, if_neg (by omega)]
  show gF (muP (xm12 Z0 x) (x + 312) (x + 23) 261 13 8 28 84) k a = _
  rw [gF_mP, if_pos (by omega)]
theorem x812 : gR (xm14 Z0 x) 812 (x + 51) = some (x + 23) := by
  show gR (sR (muP (xm12 Z0 x) (x + 312) (x + 23) 261 13 8 28 84) 1102 x (some (x + 312))) 812 (x + 51) = _
  rw [gR_sR, if_neg (by omega), gR_mP, if_neg (by omega)]
  show gR (sR (muP (xm11 Z0 x) (x + 51) (x + 23) 261 13 8 28 84) 1103 x (some (x + 51))) 812 (x + 51) = _
  rw [gR_sR, if_neg (by omega), gR_mP, if_pos (by omega), Nat.sub_self]
  rfl
/-- the memory behind both constructors -/
def M0w (x : Nat) : zM := mmO (x + 573) (zz (xm14 Z0 x) (x + 573))
theorem w_SA (ha : a < x + 573) : SA a (xm14 Z0 x) (M0w x) := SA.tr (μ := zz (xm14 Z0 x) (x + 573)) ⟨fun k => by rw [gF_zz, if_neg (by omega)], fun k => by rw [gB_zz, if_neg (by omega)], fun k => by rw [gR_zz, if_neg (by omega)], fun j => by rw [gA_zz, if_neg (by omega)], fun j => by rw [gZ_zz, if_neg (by omega)], fun j => by rw [gX_zz, if_neg (by omega)]⟩ (lk_SA ha mops (zz (xm14 Z0 x) (x + 573)))
theorem w_B0 : gB (zz (xm14 Z0 x) (x + 573)) k a = false := by rw [gB_zz, xB, ite_self]
theorem w_B : gB (M0w x) k a = false := by
  unfold M0w mmO
  exact lkB (c := x + 573) (μ := zz (xm14 Z0 x) (x + 573)) (fun k a => w_B0) mops k a
theorem w_F : gF (M0w x) k (x + 573) = nF mops k 0 0 := by
  unfold M0w mmO
  have e := lkF (c := x + 573) (k := k) (d := 0) mops (zz (xm14 Z0 x) (x + 573))
  rw [show x + 573 + 0 = x + 573 from rfl, gF_zz, if_pos rfl] at e
  exact e
theorem w_A : gA (M0w x) (x + 573 + d) j = nA mops d j 0 := by
  unfold M0w mmO
  have e := lkA (c := x + 573) (d := d) (j := j) mops (zz (xm14 Z0 x) (x + 573))
  rw [gA_zz, xA, ite_self] at e
  exact e
theorem fiP_0 (h : k ≠ 0) : fiP d k = 0 := by
  unfold fiP
  rw [if_neg (by omega)]
theorem fiP_b (h : j < 8) : fiP (13 + 3 * j) 0 = nI j := by
  unfold fiP
  rw [if_pos ⟨rfl, by omega, by omega, by omega⟩]
  exact congrArg nI (by omega)
theorem JR0 : JR x (x + 573) (x + 610) (M0w x) (M0w x) := by
  have S1 : ∀ k a, k ≠ 0 → x + 51 ≤ a → a < x + 312 → gF (M0w x) k a = 0 := fun k a h1 h2 h3 => by rw [(w_SA (by omega)).1, xS1 h2 h3, fiP_0 h1]
  have A0 : ∀ a j, a < x + 573 → gA (M0w x) a j = 0 := fun a j h => by rw [(w_SA h).2.2.2.1, xA]
  have Z00 : ∀ a j, a < x + 573 → gZ (M0w x) a j = false := fun a j h => by rw [(w_SA h).2.2.2.2.1, xZ]
  have F0 : ∀ k d, d < 51 → k ≠ 1117 → gF (M0w x) k (x + d) = nF xops k d 0 := fun k d h1 h2 => by rw [(w_SA (by omega)).1, xF h1 h2]
  have R0 : ∀ k d, d < 51 → ¬ (d = 0 ∧ (k = 1102 ∨ k = 1103)) → gR (M0w x) k (x + d) = (nRo xops k d none).map (fun q => x + q) := fun k d h1 h2 => by rw [(w_SA (by omega)).2.2.1, xR h1 h2]
  have nw : NW (fun _ _ => 0) := ⟨by show 0 ≤ 8; omega, by show 0 ≤ 14; omega, by show 0 ≤ 8; omega, fun b hb => absurd hb (Nat.not_lt_zero _), fun e he => absurd he (Nat.not_lt_zero _), fun b p hb => absurd hb (Nat.not_lt_zero _), fun l hl => absurd hl (Nat.not_lt_zero _), ⟨by show 0 ≤ 20; omega, by show 0 ≤ 9; omega⟩, fun h hh => absurd hh (Nat.not_lt_zero _), fun b hb => absurd hb (Nat.not_lt_zero _), fun e he => absurd he (Nat.not_lt_zero _)⟩
  have so : SO (fun _ _ => 0) (fun _ _ => 0) := ⟨fun b h hb => absurd hb (Nat.not_lt_zero _), fun h hh => absurd hh (Nat.not_lt_zero _)⟩
  have wi : WI (fun _ _ => 0) (x + 23) (M0w x) := ⟨⟨(F0 1015 23 (by omega) (by omega)).trans (by decide +kernel), (F0 1016 23 (by omega) (by omega)).trans (by decide +kernel), (F0 1017 23 (by omega) (by omega)).trans (by decide +kernel), (F0 1013 23 (by omega) (by omega)).trans (by decide +kernel), (F0 1014 23 (by omega) (by omega)).trans (by decide +kernel)⟩, fun b hb => absurd hb (Nat.not_lt_zero _), fun b p hb => absurd hb (Nat.not_lt_zero _), fun e he => absurd he (Nat.not_lt_zero _), fun l hl => absurd hl (Nat.not_lt_zero _), fun b hb => absurd hb (Nat.not_lt_zero _), fun h hh => absurd hh (Nat.not_lt_zero _), fun h hh => absurd hh (Nat.not_lt_zero _), fun h hh => absurd hh (Nat.not_lt_zero _)⟩
  have num : ∀ i, i < 8 → gF (M0w x) 0 (x + 51 + 13 + 3 * i) = nI i := fun i hi => by
    rw [(w_SA (by omega)).1, xS1 (by omega) (by omega), show x + 51 + 13 + 3 * i - (x + 51) = 13 + 3 * i by omega, fiP_b hi]
  have bf : ∀ k a, bI (gB (M0w x) k a) = 0 := fun k a => by rw [w_B]; rfl
  have zf : ∀ a j, a < x + 573 → bI (gZ (M0w x) a j) = 0 := fun a j h => by rw [Z00 a j h]; rfl
  have cs : CS (fun _ _ => 0) (x + 51) (x + 23) (M0w x) (M0w x) (fun _ _ => 0) := by
    refine ⟨fun i hi => S1 _ _ (by omega) (by omega) (by omega), fun i hi => S1 _ _ (by omega) (by omega) (by omega), fun i hi => S1 _ _ (by omega) (by omega) (by omega), fun i hi => S1 _ _ (by omega) (by omega) (by omega), fun i hi => S1 _ _ (by omega) (by omega) (by omega), fun i hi => S1 _ _ (by omega) (by omega) (by omega), fun i hi => S1 _ _ (by omega) (by omega) (by omega), fun i hi => S1 _ _ (by omega) (by omega) (by omega), fun i hi => S1 _ _ (by omega) (by omega) (by omega), fun i hi => S1 _ _ (by omega) (by omega) (by omega), fun i hi => S1 _ _ (by omega) (by omega) (by omega), fun i hi => bf _ _, fun i hi => bf _ _, fun i hi => bf _ _, fun i hi => bf _ _, fun i hi => bf _ _, fun i hi => bf _ _, fun i hi => bf _ _, fun i hi => bf _ _, fun i hi => S1 _ _ (by omega) (by omega) (by omega), fun i hi => bf _ _, fun i hi => S1 _ _ (by omega) (by omega) (by omega), fun i hi => S1 _ _ (by omega) (by omega) (by omega), fun i hi => S1 _ _ (by omega) (by omega) (by omega), fun i hi => S1 _ _ (by omega) (by omega) (by omega), fun i hi => S1 _ _ (by omega) (by omega) (by omega), fun i hi => S1 _ _ (by omega) (by omega) (by omega), fun i hi => S1 _ _ (by omega) (by omega) (by omega), fun i hi => S1 _ _ (by omega) (by omega) (by omega), fun i hi => S1 _ _ (by omega) (by omega) (by omega), fun i hi => S1 _ _ (by omega) (by omega) (by omega), fun i hi => S1 _ _ (by omega) (by omega) (by omega), fun i hi => zf _ _ (by omega), fun i hi => A0 _ _ (by omega), fun i hi => A0 _ _ (by omega), fun i hi => A0 _ _ (by omega), fun i hi => zf _ _ (by omega), fun i hi => S1 _ _ (by omega) (by omega) (by omega), fun i hi => S1 _ _ (by omega) (by omega) (by omega), fun i hi => S1 _ _ (by omega) (by omega) (by omega), fun i hi => S1 _ _ (by omega) (by omega) (by omega), fun i hi => S1 _ _ (by omega) (by omega) (by omega), fun i hi => S1 _ _ (by omega) (by omega) (by omega), fun i hi => S1 _ _ (by omega) (by omega) (by omega), fun i hi => bf _ _, fun i hi => bf _ _, S1 _ _ (by omega) (by omega) (by omega), S1 _ _ (by omega) (by omega) (by omega), bf _ _, num, ?_, ⟨0, 0, by omega, by omega, S1 _ _ (by omega) (by omega) (by omega), S1 _ _ (by omega) (by omega) (by omega), rfl, fun k c hk => absurd hk (Nat.not_lt_zero _)⟩, so, ⟨nw, wi, Or.inl (by omega)⟩, fun a _ => ⟨fun _ => rfl, fun _ => rfl, fun _ => rfl, fun _ => rfl, fun _ => rfl, fun _ => rfl⟩⟩
    rw [(w_SA (by omega)).2.2.1, x812]
  have ra : ∀ d j, d = 21 ∨ d = 22 ∨ d = 24 ∨ d = 26 ∨ d = 27 → gA (M0w x) (x + 573 + d) j = 0 := fun d j hd => by
    rw [w_A]
    rcases hd with y | y | y | y | y <;> subst y <;> exact nA0 mops (by decide +kernel)
  have ri : RI (fun _ _ => 0) (x + 573) (M0w x) := ⟨⟨w_F.trans (by decide +kernel), w_F.trans (by decide +kernel), w_F.trans (by decide +kernel), w_F.trans (by decide +kernel), w_F.trans (by decide +kernel)⟩, fun b hb => absurd hb (Nat.not_lt_zero _), fun e he => absurd he (Nat.not_lt_zero _), fun l hl => absurd hl (Nat.not_lt_zero _), fun b hb => absurd hb (Nat.not_lt_zero _), fun h hh => absurd hh (Nat.not_lt_zero _), fun h hh => absurd hh (Nat.not_lt_zero _), fun h hh => absurd hh (Nat.not_lt_zero _)⟩
  have rw0 : ∀ k, rw_ (x + 573) 0 (M0w x) k = 0 := fun k => by
    unfold rw_
    by_cases c1 : k < 3000
    · rw [if_pos c1]; exact ra 24 _ (by omega)
    · rw [if_neg c1]
      by_cases c2 : k < 3010
      · rw [if_pos c2]; exact ra 27 _ (by omega)
      · rw [if_neg c2]; exact ra 26 _ (by omega)
  have mr : MR (fun _ _ => 0) (rw_ (x + 573) 0 (M0w x)) (fun _ _ => 0) := by
    refine ⟨fun e k he => absurd he (Nat.not_lt_zero _), fun e k he => absurd he (Nat.not_lt_zero _), fun b k hb => absurd hb (Nat.not_lt_zero _), fun b hb => absurd hb (Nat.not_lt_zero _), fun l hl => absurd hl (Nat.not_lt_zero _), fun h hh => absurd hh (Nat.not_lt_zero _), fun b h hb => absurd hb (Nat.not_lt_zero _), fun b h hb => absurd hb (Nat.not_lt_zero _), ⟨rw0 _, rw0 _⟩, ⟨0, by omega, rw0 _, fun _ => ⟨rfl, fun k hk => absurd hk (Nat.not_lt_zero _)⟩⟩, ⟨fun k _ => rw0 _, fun b _ => rw0 _⟩, ?_⟩
    refine ⟨List.nodup_nil, fun q => ⟨fun hq => (by cases hq), fun hq => absurd hq.1 (Nat.not_lt_zero _)⟩, rw0 _, fun k q hq => (by cases hq)⟩
  refine ⟨fun _ _ => 0, fun _ _ => 0, 0, x + 23, ⟨cs, (R0 1111 0 (by omega) (by omega)).trans ?_, Or.inl ⟨rfl, (R0 1112 0 (by omega) (by omega)).trans ?_⟩, ⟨mr, so, nw, ri⟩, ⟨⟨fun i => ⟨(by decide : ¬ (0 : Int32) < 0), (by decide : ¬ (0 : Int32) < 0), (by decide : ¬ (0 : Int32) < 0), fun h => absurd h (by decide : ¬ (0 : Int32) = 1)⟩, fun e he => absurd he (Nat.not_lt_zero _), fun b hb => absurd hb (Nat.not_lt_zero _)⟩, fun q hq => absurd hq (Nat.not_lt_zero _), fun b h p hb => absurd hb (Nat.not_lt_zero _)⟩, rfl, by omega, fun b hb => absurd hb (Nat.not_lt_zero _), rfl⟩, ⟨by rw [w_B, w_B], fun _ => ⟨rfl, rfl, rfl⟩⟩, ⟨⟨⟨0, by omega, (F0 1113 0 (by omega) (by omega)).trans (by decide +kernel), w_F.trans (by decide +kernel)⟩, fun j hj => ?_⟩, fun k hk => ?_, ⟨?_, ?_⟩, ⟨?_, ?_⟩, ⟨0, by omega, (F0 1116 0 (by omega) (by omega)).trans (by decide +kernel), w_F.trans (by decide +kernel), fun j hj => absurd hj (Nat.not_lt_zero _)⟩⟩, ⟨fun i hi => ?_, fun b hb => Z00 _ _ (by omega), w_B⟩, ⟨0, 0, by omega, by omega, (F0 703 17 (by omega) (by omega)).trans (by decide +kernel), w_F.trans (by decide +kernel), (F0 704 17 (by omega) (by omega)).trans (by decide +kernel), w_F.trans (by decide +kernel), fun k hk => absurd hk (Nat.not_lt_zero _)⟩, ⟨by rw [w_B, w_B], fun h => ?_⟩, ⟨⟨fun j p hj hp => ?_, fun i j p q hi hj hn hp => ?_⟩, 0, 0, by omega, by omega, (F0 1114 0 (by omega) (by omega)).trans (by decide +kernel), (F0 1115 0 (by omega) (by omega)).trans (by decide +kernel), w_F.trans (by decide +kernel), fun k hk => absurd hk (Nat.not_lt_zero _)⟩, fun j hj => ?_, by omega⟩
  · rw [show nRo xops 1111 0 none = some 23 by decide +kernel]; rfl
  · rw [show nRo xops 1112 0 none = some 36 by decide +kernel]; rfl
  · rw [A0 _ _ (by omega), ra 21 j (by omega)]
    exact ⟨rfl, 0, by omega, rfl⟩
  · rw [A0 _ _ (by omega), ra 22 k (by omega)]
  · exact ((F0 507 49 (by omega) (by omega)).trans (by decide +kernel : _ = (0 : Int32))).trans (w_F.trans (by decide +kernel : _ = (0 : Int32))).symm
  · exact ((F0 508 49 (by omega) (by omega)).trans (by decide +kernel : _ = (-1 : Int32))).trans (w_F.trans (by decide +kernel : _ = (-1 : Int32))).symm
  · rw [(w_SA (by omega)).1, x1117]
    exact (w_F.trans (by decide +kernel : _ = (1 : Int32))).symm
  · rw [(w_SA (by omega)).1, x1117]; decide
  · rw [(w_SA (by omega)).1, xS2 (by omega) (by omega), show x + 312 + 13 + 3 * i - (x + 312) = 13 + 3 * i by omega, fiP_b hi]
  · rw [w_B] at h; cases h
  · rw [(w_SA (by omega)).2.2.2.2.2, xX] at hp; cases hp
  · rw [(w_SA (by omega)).2.2.2.2.2, xX] at hp; cases hp
  · rw [w_A]
    exact (by decide +kernel : ∀ j, j < 62 → nA mops 23 j 0 = nI (ownL.getD j 0)) j hj
end zH0
