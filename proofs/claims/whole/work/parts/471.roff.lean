/-! A BRIDGE GOES OFF: closed forms of the class's way -/
/-- what the reference does not see; its list as a list -/
def EM2 (S S' : zS) : Prop := (∀ f i, f < 62 → f ≠ 47 → f ≠ 49 → f ≠ 60 → (f < 33 ∨ 37 < f) → (11 ≤ f → f ≤ 16 → S 10 i = 1) → S' f i = S f i) ∧ lS S' = lS S
section zR26
variable {N : zN} {m B : Nat} {ν0 ν ν' : zM} {S S' X : zS} {e e1 e2 b a l h k n t st f i : Nat}
theorem EM2.ms (q : MS N m B ν0 ν S) (h2 : EM2 S S') : MS N m B ν0 ν S' := by
  have nw := q.nw
  obtain ⟨h, hl⟩ := h2
  obtain ⟨⟨m1, m2, m3, m4, m5, m6, m7, m8, m9, m10, mw, m11⟩, hso, hmt, hfr⟩ := q
  have b8 := nw.b8; have l14 := nw.l14; have h8 := nw.h8
  have z : ∀ f i, f < 11 ∨ (16 < f ∧ f < 33) ∨ (37 < f ∧ f ≠ 47 ∧ f ≠ 49 ∧ f ≠ 60 ∧ f < 62) → S' f i = S f i := fun f i hf => h f i (by omega) (by omega) (by omega) (by omega) (by omega) (fun h1 h2 => absurd hf (by omega))
  refine ⟨⟨?_, ?_, ?_, ?_, ?_, ?_, ?_, ?_, ?_, ?_, ?_, ?_⟩, hso.eq (fun i => z _ _ (by omega)) (fun i => z _ _ (by omega)), hmt, hfr⟩
  · intro e k he hk hh
    rw [z 10 _ (by omega)] at hh
    rw [h k e (by omega) (by omega) (by omega) (by omega) (by omega) (fun h1 _ => hh h1)]; exact m1 e k he hk hh
  · intro e k he h1 h2; rw [z _ _ (by omega)]; exact m2 e k he h1 h2
  · intro b k hb hk hc
    rw [z 32 _ (by omega)] at hc
    rw [z _ _ (by omega)]; exact m3 b k hb hk hc
  · intro b hb; rw [z _ _ (by omega), z _ _ (by omega)]; exact m4 b hb
  · intro l hl; rw [z _ _ (by omega)]; exact m5 l hl
  · intro h hh; rw [z _ _ (by omega)]; exact m6 h hh
  · intro b h hb hh; rw [z _ _ (by omega), z _ _ (by omega)]; exact m7 b h hb hh
  · intro b h hb h1 h2; rw [z _ _ (by omega)]; exact m8 b h hb h1 h2
  · rw [z _ _ (by omega), z _ _ (by omega)]; exact m9
  · obtain ⟨t, t1, t2, t3⟩ := m10
    refine ⟨t, t1, t2, fun hb => ?_⟩
    rw [z _ _ (by omega)] at hb
    obtain ⟨t4, t5⟩ := t3 hb
    exact ⟨by rw [z _ _ (by omega)]; exact t4, fun k hk => by rw [z _ _ (by omega)]; exact t5 k hk⟩
  · exact ⟨fun k hk => by rw [z _ _ (by omega)]; exact mw.1 k hk, fun b hb => by rw [z _ _ (by omega)]; exact mw.2 b hb⟩
  · rw [hl]
    obtain ⟨n1, n2, n3, n4⟩ := m11
    refine ⟨n1, fun q => by rw [z 61 q (by omega)]; exact n2 q, n3, fun k q hk => ?_⟩
    obtain ⟨o1, o2, o3, o4⟩ := n4 k q hk
    exact ⟨by rw [z 50 q (by omega)]; exact o1, o2, o3, fun c h1 h2 => by rw [z (50 + c) q (by omega)]; exact o4 c h1 h2⟩
theorem dn2_42e : sq_dn2 N l S 42 i = if (i / 8 = bo N (2 * l + 1) ∧ S 42 i = nI (po N (2 * l + 1))) ∨ (i / 8 = bo N (2 * l) ∧ S 42 i = nI (po N (2 * l))) then -1 else S 42 i := by
  unfold sq_dn2
  rw [dropL_f (by omega), sqd2_42]
theorem dn2_ls (h : SL S) : lS (sq_dn2 N l S) = (lS S).filter (fun q => !(decide (q / 3 / 2 = l))) := by
  unfold sq_dn2
  rw [dropL_ls (h.eq (sqd_ls.trans sqd_ls)), sqd_ls, sqd_ls]
theorem SL.dn2 (h : SL S) : SL (sq_dn2 N l S) := by
  unfold sq_dn2
  exact SL.drop (h.eq (sqd_ls.trans sqd_ls))
theorem offC_f (h1 : f ≠ 42) (h2 : f ≠ 47) (h3 : f < 60) : ((∃ p, p < n ∧ (i / 2 = eo N b p / 2 ∧ (f ≤ 10 ∨ f = 15 ∨ f = 16 ∨ f = 49))) → pfold (sq_off1 N b) n S f i = 0) ∧ ((∀ p, p < n → ¬ (i / 2 = eo N b p / 2 ∧ (f ≤ 10 ∨ f = 15 ∨ f = 16 ∨ f = 49))) → pfold (sq_off1 N b) n S f i = S f i) :=
  pf_pt (sq_off1 N b) (fun p _ => i / 2 = eo N b p / 2 ∧ (f ≤ 10 ∨ f = 15 ∨ f = 16 ∨ f = 49)) 0 (fun p S => by
    rw [off1_eq, dn2_f h1 h3, zu_47 h2]
    exact ⟨fun h => if_pos h, fun h => if_neg h⟩) n S
theorem offC_60 (hf : f = 60 ∨ f = 61) : ((∃ p, p < n ∧ i / 3 / 2 = eo N b p / 2) → pfold (sq_off1 N b) n S f i = 0) ∧ ((∀ p, p < n → ¬ i / 3 / 2 = eo N b p / 2) → pfold (sq_off1 N b) n S f i = S f i) :=
  pf_pt (sq_off1 N b) (fun p _ => i / 3 / 2 = eo N b p / 2) 0 (fun p S => by
    rcases hf with rfl | rfl
    · rw [off1_eq, dn2_60, zu_47 (by omega)]
      exact ⟨fun h => if_pos h, fun h => if_neg h⟩
    · rw [off1_eq, dn2_61, zu_47 (by omega)]
      exact ⟨fun h => if_pos h, fun h => if_neg h⟩) n S
/-- an address that link `l` takes along -/
def KA (N : zN) (i l : Nat) (v : Int32) : Prop := (i / 8 = bo N (2 * l + 1) ∧ v = nI (po N (2 * l + 1))) ∨ (i / 8 = bo N (2 * l) ∧ v = nI (po N (2 * l)))
theorem offC_42 : ((∃ p, p < n ∧ KA N i (eo N b p / 2) (S 42 i)) → pfold (sq_off1 N b) n S 42 i = -1) ∧ ((∀ p, p < n → ¬ KA N i (eo N b p / 2) (S 42 i)) → pfold (sq_off1 N b) n S 42 i = S 42 i) :=
  pf_pt (sq_off1 N b) (fun p v => KA N i (eo N b p / 2) v) (-1) (fun p S => by
    rw [off1_eq, dn2_42e, zu_47 (by omega)]
    exact ⟨fun h => if_pos h, fun h => if_neg h⟩) n S
theorem offC_up : up N (pfold (sq_off1 N b) n S) e = up N S e := up_of (fun i => (offC_f (by omega) (by omega) (by omega)).2 (fun p _ h => by omega)) (fun i => (offC_f (by omega) (by omega) (by omega)).2 (fun p _ h => by omega))
theorem lS_47 {v : Int32} : lS (zu S 47 n v) = lS S := lS_eq (fun i => zu_47 (by omega)) (zu_47 (by omega))
theorem offC_ls (h : SL S) : ∀ n, SL (pfold (sq_off1 N b) n S) ∧ ∀ L : List Nat, (∀ q ∈ lS S, (q ∈ L ↔ ∀ p, p < n → ¬ q / 3 / 2 = eo N b p / 2)) → lS (pfold (sq_off1 N b) n S) = (lS S).filter (fun q => decide (q ∈ L))
  | 0 => ⟨h, fun L hL => by
      refine (List.filter_eq_self.mpr (fun q hq => ?_)).symm
      exact decide_eq_true ((hL q hq).mpr (fun p hp => absurd hp (by omega)))⟩
  | n + 1 => by
    obtain ⟨i1, i2⟩ := offC_ls h n
    have z : pfold (sq_off1 N b) (n + 1) S = sq_off1 N b n (pfold (sq_off1 N b) n S) := rfl
    rw [z, off1_eq]
    refine ⟨SL.dn2 (i1.eq lS_47), fun L hL => ?_⟩
    rw [dn2_ls (i1.eq lS_47), lS_47]
    have w : ∃ L' : List Nat, ∀ q ∈ lS S, (q ∈ L' ↔ ∀ p, p < n → ¬ q / 3 / 2 = eo N b p / 2) := ⟨(lS S).filter (fun q => decide (∀ p, p < n → ¬ q / 3 / 2 = eo N b p / 2)), fun q hq => by
      rw [List.mem_filter, decide_eq_true_iff]
      exact ⟨fun x => x.2, fun x => ⟨hq, x⟩⟩⟩
    obtain ⟨L', hL'⟩ := w
    rw [i2 L' hL', List.filter_filter]
    refine List.filter_congr (fun q hq => ?_)
    rw [Bool.eq_iff_iff, Bool.and_eq_true, Bool.not_eq_true', decide_eq_false_iff_not, decide_eq_true_iff, decide_eq_true_iff, hL' q hq, hL q hq]
    constructor
    · intro ⟨x1, x2⟩ p hp
      by_cases c : p < n
      · exact x2 p c
      · rw [show p = n by omega]; exact x1
    · intro x
      exact ⟨x n (by omega), fun p hp => x p (by omega)⟩
end zR26
