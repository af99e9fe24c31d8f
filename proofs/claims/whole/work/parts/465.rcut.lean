/-! LINKS WENT DOWN: what holds after it -/
/-- the links of `P` went down, their bridges are touched -/
def DW (N : zN) (P : Nat → Prop) (S X : zS) : Prop :=
  (∀ f i, f ≤ 10 ∨ f = 15 ∨ f = 16 → P (i / 2) → X f i = 0) ∧
  (∀ f i, f ≤ 10 ∨ f = 15 ∨ f = 16 → ¬ P (i / 2) → X f i = S f i) ∧
  (∀ f i, (21 ≤ f ∧ f ≤ 32) ∨ f = 50 → X f i = S f i) ∧
  (∀ i, P (i / 3 / 2) → X 60 i = 0 ∧ X 61 i = 0) ∧
  (∀ i, ¬ P (i / 3 / 2) → X 60 i = S 60 i ∧ X 61 i = S 61 i) ∧
  (∀ e, e < 2 * nL N → P (e / 2) → up N X e = false) ∧
  (∀ e, e < 2 * nL N → ¬ P (e / 2) → up N X e = up N S e) ∧
  (∀ b h p, b < nB N → h < 8 → p < nP N b → X 42 (b * 8 + h) = nI p → S 42 (b * 8 + h) = nI p ∧ ¬ P (eo N b p / 2)) ∧
  (∀ b, b < nB N → X 20 b = 1 → S 20 b = 1) ∧
  (∀ b p, b < nB N → p < nP N b → X 20 b = 1 → X 47 b ≠ 1 → P (eo N b p / 2) → up N S (eo N b p) = false)
section zR20
variable {N : zN} {m B : Nat} {ν0 ν ν' : zM} {S S' X : zS} {R R' : Nat → Int32} {e b a l h k n t st f i : Nat} {P : Nat → Prop}
theorem DW.inv (nw : NW N) (hI : INV N st S) (d : DW N P S X) : CTP N X ∧ MI N st X ∧ AD N X := by
  obtain ⟨⟨sv, dn, br⟩, mi, ad⟩ := hI
  obtain ⟨d1, d2, d3, d4, d5, d6, d7, d8, d9, d10⟩ := d
  have dd : ∀ f i, f ≤ 10 ∨ f = 15 ∨ f = 16 → X f i = 0 ∨ X f i = S f i := fun f i hf => by
    by_cases c : P (i / 2)
    · exact Or.inl (d1 f i hf c)
    · exact Or.inr (d2 f i hf c)
  refine ⟨⟨fun i => ⟨?_, ?_, ?_, fun h1 => ?_⟩, fun e he hu k hk => ?_, fun b hb ho => ?_, fun b hb ho h47 => ?_⟩, fun q hq => ?_, fun b h p hb hh hp hx => ?_⟩
  · rcases dd 2 i (by omega) with x | x
    · rw [x]; decide
    · rw [x]; exact (sv i).1
  · rcases dd 3 i (by omega) with x | x
    · rw [x]; decide
    · rw [x]; exact (sv i).2.1
  · rw [d3 27 i (by omega)]; exact (sv i).2.2.1
  · by_cases c : P (i / 2)
    · rw [d1 10 i (by omega) c] at h1; exact absurd h1 (by decide)
    · rw [d2 10 i (by omega) c] at h1
      rw [d2 16 i (by omega) c]
      exact (sv i).2.2.2 h1
  · by_cases c : P (e / 2)
    · exact d1 k e (by omega) c
    · rw [d2 k e (by omega) c]
      rw [d7 e he c] at hu
      exact dn e he hu k hk
  · obtain ⟨⟨a1, a2, a3, a4, a5⟩, a6⟩ := br b hb (d9 b hb ho)
    have z : ∀ f, 21 ≤ f ∧ f ≤ 32 → X f b = S f b := fun f hf => d3 f b (by omega)
    refine ⟨fun _ => ⟨?_, ?_, ?_⟩, fun h => ?_⟩
    · rw [z 28 (by omega), z 23 (by omega)]; exact a3
    · rw [z 29 (by omega), z 24 (by omega)]; exact a4
    · rw [z 30 (by omega), z 31 (by omega)]; exact a5
    · rw [z 32 (by omega)] at h; exact absurd a1 h
  · refine BR.keep2 (br b hb (d9 b hb ho)) (fun f p hf hp => ?_) (fun f hf => d3 f b (by omega)) (fun p hp => ?_)
    · by_cases c : P (eo N b p / 2)
      · rw [d1 f _ (by omega) c]
        exact (dn _ (nw.eo_l hb hp) (d10 b p hb hp ho h47 c) f (by omega)).symm
      · exact d2 f _ (by omega) c
    · by_cases c : P (eo N b p / 2)
      · rw [d6 _ (nw.eo_l hb hp) c, d10 b p hb hp ho h47 c]
      · exact d7 _ (nw.eo_l hb hp) c
  · obtain ⟨x1, x2, x3⟩ := mi q hq
    by_cases c : P (q / 3 / 2)
    · obtain ⟨y1, y2⟩ := d4 q c
      rw [y1, y2]
      exact ⟨rfl, Or.inl rfl, fun h => absurd h (by decide)⟩
    · obtain ⟨y1, y2⟩ := d5 q c
      rw [y1, y2, d3 50 q (by omega), d7 (q / 3) (by omega) c]
      exact ⟨x1, x2, x3⟩
  · obtain ⟨y1, y2⟩ := d8 b h p hb hh hp hx
    rw [d7 _ (nw.eo_l hb hp) y2]
    exact ad b h p hb hh hp y1
/-- one field at one place of what went down depends on that place alone -/
theorem sqd_loc (h : S' f i = S f i) : sq_down N e S' f i = sq_down N e S f i := by
  by_cases c42 : f = 42
  · subst c42; rw [sqd_42, sqd_42, h]
  · by_cases c60 : f = 60
    · subst c60; rw [sqd_60, sqd_60, h]
    · rw [sqd_f c42 c60, sqd_f c42 c60, clr_f, clr_f, h]
theorem drop_loc (h : S' f i = S f i) (hl : lS S' = lS S) : dropL l S' f i = dropL l S f i := by
  by_cases c : f = 62 ∨ f = 63
  · exact dropL_l c hl
  · by_cases c61 : f = 61
    · subst c61; rw [dropL_61, dropL_61, h]
    · rw [dropL_f (by omega), dropL_f (by omega), h]
/-- both ends of a link -/
def sq_dn2 (N : zN) (l : Nat) (S : zS) : zS := dropL l (sq_down N (2 * l + 1) (sq_down N (2 * l) S))
theorem dn2_loc (h : S' f i = S f i) (hl : lS S' = lS S) : sq_dn2 N l S' f i = sq_dn2 N l S f i :=
  drop_loc (sqd_loc (sqd_loc h)) (by rw [sqd_ls, sqd_ls, sqd_ls, sqd_ls, hl])
theorem dn2_f (h1 : f ≠ 42) (h2 : f < 60) : sq_dn2 N l S f i = if i / 2 = l ∧ (f ≤ 10 ∨ f = 15 ∨ f = 16 ∨ f = 49) then 0 else S f i := by
  unfold sq_dn2
  rw [dropL_f (by omega), sqd_f h1 (by omega), clr_f, sqd_f h1 (by omega), clr_f]
  have z : (if f = 5 then (0 : Int32) else 0) = 0 := by by_cases c : f = 5 <;> simp [c]
  rw [z]
  by_cases c : f ≤ 10 ∨ f = 15 ∨ f = 16 ∨ f = 49
  · by_cases c1 : i = 2 * l + 1
    · rw [if_pos ⟨c1, c⟩, if_pos ⟨by omega, c⟩]
    · rw [if_neg (fun x => c1 x.1)]
      by_cases c2 : i = 2 * l
      · rw [if_pos ⟨c2, c⟩, if_pos ⟨by omega, c⟩]
      · rw [if_neg (fun x => c2 x.1), if_neg (fun x => by have := x.1; omega)]
  · rw [if_neg (fun x => c x.2), if_neg (fun x => c x.2), if_neg (fun x => c x.2)]
theorem dn2_60 : sq_dn2 N l S 60 i = if i / 3 / 2 = l then 0 else S 60 i := by
  unfold sq_dn2
  rw [dropL_f (by omega), sqd_60, sqd_60]
  by_cases c1 : i / 3 = 2 * l + 1
  · rw [if_pos c1, if_pos (show i / 3 / 2 = l by omega)]
  · rw [if_neg c1]
    by_cases c2 : i / 3 = 2 * l
    · rw [if_pos c2, if_pos (show i / 3 / 2 = l by omega)]
    · rw [if_neg c2, if_neg (show ¬ i / 3 / 2 = l by omega)]
theorem dn2_61 : sq_dn2 N l S 61 i = if i / 3 / 2 = l then 0 else S 61 i := by
  unfold sq_dn2
  rw [dropL_61, sqd_61, sqd_61]
theorem dn2_42 {p : Nat} (nw : NW N) (hb : b < nB N) (hh : h < 8) (hp : p < nP N b) (hx : sq_dn2 N l S 42 (b * 8 + h) = nI p) : S 42 (b * 8 + h) = nI p ∧ eo N b p / 2 ≠ l := by
  have p6 := nw.p6 hb
  have ne : (-1 : Int32) ≠ nI p := fun hx => by
    have h3 : (-1 : Int32).toInt = -1 := by decide
    have := (congrArg Int32.toInt hx).symm
    rw [h3, nI_toInt (by omega)] at this
    omega
  have d8 : (b * 8 + h) / 8 = b := by omega
  unfold sq_dn2 at hx
  rw [dropL_f (by omega), sqd_42, sqd_42, d8] at hx
  by_cases c0 : b = bo N (2 * l) ∧ S 42 (b * 8 + h) = nI (po N (2 * l))
  · rw [if_pos c0] at hx
    exfalso
    by_cases c1 : b = bo N (2 * l + 1) ∧ (-1 : Int32) = nI (po N (2 * l + 1))
    · rw [if_pos c1] at hx; exact ne hx
    · rw [if_neg c1] at hx; exact ne hx
  · rw [if_neg c0] at hx
    by_cases c1 : b = bo N (2 * l + 1) ∧ S 42 (b * 8 + h) = nI (po N (2 * l + 1))
    · rw [if_pos c1] at hx; exact absurd hx ne
    · rw [if_neg c1] at hx
      refine ⟨hx, fun hl => ?_⟩
      have e1 := nw.bo_eo hb hp
      have e2 := nw.po_eo hb hp
      rcases (show eo N b p = 2 * l ∨ eo N b p = 2 * l + 1 by omega) with x | x
      · rw [x] at e1 e2
        exact c0 ⟨e1.symm, by rw [hx, e2]⟩
      · rw [x] at e1 e2
        exact c1 ⟨e1.symm, by rw [hx, e2]⟩
theorem zu_47 {v : Int32} (hf : f ≠ 47) : zu S 47 n v f i = S f i := if_neg (fun x => hf x.1)
theorem zu_4n {v : Int32} (hf : f ≠ 40) : zu S 40 n v f i = S f i := if_neg (fun x => hf x.1)
end zR20
