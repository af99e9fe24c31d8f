/-! A BRIDGE GOES OFF, in the reference: what both have before they choose -/
def adm (b n : Nat) (S : zS) : zS := pfold (fun h S => zu S 42 (b * 8 + h) (-1)) n S
def c38 (n : Nat) (S : zS) : zS := pfold (fun i S => zu S 38 i 0) n S
def roff (N : zN) (b : Nat) (S : zS) : zS := adm b (nH N) (zu (pfold (rq_off1 N b) (nL N) (c38 8 S)) 20 b 0)
def xoff (N : zN) (b : Nat) (S : zS) : zS := adm b 8 (zu (pfold (sq_off1 N b) (nP N b) S) 20 b 0)
def w38 (R S : zS) : zS := fun f i => if f = 38 then R 38 i else S f i
/-- a link of `b` -/
def pb (N : zN) (b l : Nat) : Prop := ∃ p, p < nP N b ∧ eo N b p / 2 = l
section zR30
variable {N : zN} {m B : Nat} {ν0 ν ν' : zM} {S S' X R : zS} {e e1 e2 b a l h k n t st f i : Nat}
theorem off_eq : sq_off N b S = sp_ct N (xoff N b S) := rfl
theorem adm_f : ∀ n, n ≤ 8 → adm b n S f i = if f = 42 ∧ i / 8 = b ∧ i % 8 < n then -1 else S f i
  | 0, _ => (if_neg (by omega)).symm
  | n + 1, hn => by
    show zu (adm b n S) 42 (b * 8 + n) (-1) f i = _
    unfold zu
    rw [adm_f n (by omega)]
    by_cases c : f = 42 ∧ i = b * 8 + n
    · rw [if_pos c, if_pos (by omega)]
    · rw [if_neg c]
      by_cases c2 : f = 42 ∧ i / 8 = b ∧ i % 8 < n
      · rw [if_pos c2, if_pos (by omega)]
      · rw [if_neg c2, if_neg (by omega)]
theorem c38_f : ∀ n, c38 n S f i = if f = 38 ∧ i < n then 0 else S f i
  | 0 => (if_neg (by omega)).symm
  | n + 1 => by
    show zu (c38 n S) 38 n 0 f i = _
    unfold zu
    rw [c38_f n]
    by_cases c : f = 38 ∧ i = n
    · rw [if_pos c, if_pos (by omega)]
    · rw [if_neg c]
      by_cases c2 : f = 38 ∧ i < n
      · rw [if_pos c2, if_pos (by omega)]
      · rw [if_neg c2, if_neg (by omega)]
theorem zu_20 {v : Int32} (hf : f ≠ 20) : zu S 20 n v f i = S f i := if_neg (fun x => hf x.1)
theorem zu_eq {v : Int32} : zu S f n v f i = if i = n then v else S f i := by
  unfold zu
  by_cases c : i = n
  · rw [if_pos ⟨rfl, c⟩, if_pos c]
  · rw [if_neg (fun x => c x.2), if_neg c]
theorem adm_n (hf : f ≠ 42) (hn : n ≤ 8) : adm b n S f i = S f i := by rw [adm_f n hn, if_neg (fun x => hf x.1)]
theorem w38_f (hf : f ≠ 38) : w38 R S f i = S f i := if_neg hf
theorem pb_l (nw : NW N) (hb : b < nB N) (h : pb N b l) : l < nL N := by
  obtain ⟨p, hp, rfl⟩ := h
  have := nw.eo_l hb hp
  omega
theorem pb_iff (nw : NW N) (hb : b < nB N) (hl : l < nL N) : pb N b l ↔ bo N (2 * l) = b ∨ bo N (2 * l + 1) = b := by
  constructor
  · intro ⟨p, hp, he⟩
    have e1 := nw.bo_eo hb hp
    rcases (show eo N b p = 2 * l ∨ eo N b p = 2 * l + 1 by omega) with x | x
    · rw [x] at e1; exact Or.inl e1
    · rw [x] at e1; exact Or.inr e1
  · intro h
    rcases h with x | x
    · refine ⟨po N (2 * l), ?_, ?_⟩
      · have := nw.po_p (show 2 * l < 2 * nL N by omega); rw [x] at this; exact this
      · have := nw.eo_e (show 2 * l < 2 * nL N by omega); rw [x] at this; rw [this]; omega
    · refine ⟨po N (2 * l + 1), ?_, ?_⟩
      · have := nw.po_p (show 2 * l + 1 < 2 * nL N by omega); rw [x] at this; exact this
      · have := nw.eo_e (show 2 * l + 1 < 2 * nL N by omega); rw [x] at this; rw [this]; omega
theorem atb_iff (nw : NW N) (hb : b < nB N) (hl : l < nL N) : atb N b l S = true ↔ upl N S l = true ∧ pb N b l := by
  rw [pb_iff nw hb hl]
  unfold atb
  rw [Bool.and_eq_true, Bool.or_eq_true, decide_eq_true_iff, decide_eq_true_iff]
/-! the class -/
theorem xo_0 (h1 : f ≠ 42) (h2 : f ≠ 47) (h3 : f < 60) (h4 : f ≠ 20) (hk : f ≤ 10 ∨ f = 15 ∨ f = 16 ∨ f = 49) (hp : pb N b (i / 2)) : xoff N b S f i = 0 := by
  unfold xoff
  rw [adm_n h1 (by omega), zu_20 h4]
  obtain ⟨p, p1, p2⟩ := hp
  exact (offC_f h1 h2 h3).1 ⟨p, p1, p2.symm, hk⟩
theorem xo_s (h1 : f ≠ 42) (h2 : f ≠ 47) (h3 : f < 60) (h4 : f ≠ 20) (hk : (f ≤ 10 ∨ f = 15 ∨ f = 16 ∨ f = 49) → ¬ pb N b (i / 2)) : xoff N b S f i = S f i := by
  unfold xoff
  rw [adm_n h1 (by omega), zu_20 h4]
  exact (offC_f h1 h2 h3).2 (fun p hp x => hk x.2 ⟨p, hp, x.1.symm⟩)
theorem xo_20 : xoff N b S 20 i = if i = b then 0 else S 20 i := by
  unfold xoff
  rw [adm_n (by omega) (by omega), zu_eq]
  by_cases c : i = b
  · rw [if_pos c, if_pos c]
  · rw [if_neg c, if_neg c]
    exact (offC_f (by omega) (by omega) (by omega)).2 (fun p hp x => by omega)
theorem xo_60 (hf : f = 60 ∨ f = 61) : (pb N b (i / 3 / 2) → xoff N b S f i = 0) ∧ (¬ pb N b (i / 3 / 2) → xoff N b S f i = S f i) := by
  unfold xoff
  rw [adm_n (by omega) (by omega), zu_20 (by omega)]
  exact ⟨fun ⟨p, p1, p2⟩ => (offC_60 hf).1 ⟨p, p1, p2.symm⟩, fun h => (offC_60 hf).2 (fun p hp x => h ⟨p, hp, x.symm⟩)⟩
theorem xo_42b (h : i / 8 = b) : xoff N b S 42 i = -1 := by
  unfold xoff
  rw [adm_f 8 (by omega), if_pos ⟨rfl, h, by omega⟩]
theorem xo_42 (h : i / 8 ≠ b) : ((∃ l, pb N b l ∧ KA N i l (S 42 i)) → xoff N b S 42 i = -1) ∧ ((∀ l, pb N b l → ¬ KA N i l (S 42 i)) → xoff N b S 42 i = S 42 i) := by
  unfold xoff
  rw [adm_f 8 (by omega), if_neg (fun x => h x.2.1), zu_20 (by omega)]
  refine ⟨fun ⟨l, ⟨p, p1, p2⟩, hk⟩ => offC_42.1 ⟨p, p1, by rw [p2]; exact hk⟩, fun hk => offC_42.2 (fun p hp => hk _ ⟨p, hp, rfl⟩)⟩
theorem xo_47 (h0 : S 47 a = 0) : (xoff N b S 47 a = 1 ↔ ∃ p, p < nP N b ∧ a = bo N (fe (eo N b p)) ∧ up N S (eo N b p) = true) ∧ (xoff N b S 47 a = 0 ∨ xoff N b S 47 a = 1) := by
  unfold xoff
  rw [adm_n (by omega) (by omega), zu_20 (by omega)]
  exact offC_47 h0 _
theorem z42_ls {v : Int32} : lS (zu S 42 n v) = lS S := lS_eq (fun i => show (if 62 = 42 ∧ i = n then v else S 62 i) = S 62 i from if_neg (by omega)) (show (if 63 = 42 ∧ 0 = n then v else S 63 0) = S 63 0 from if_neg (by omega))
theorem adm_ls : lS (adm b n S) = lS S := by
  unfold adm
  induction n with
  | zero => rfl
  | succ n ih => exact z42_ls.trans ih
theorem z20_ls {v : Int32} : lS (zu S 20 n v) = lS S := lS_eq (fun i => zu_20 (by omega)) (zu_20 (by omega))
theorem xo_ls (h : SL S) (L : List Nat) (hL : ∀ q ∈ lS S, (q ∈ L ↔ ¬ pb N b (q / 3 / 2))) : lS (xoff N b S) = (lS S).filter (fun q => decide (q ∈ L)) := by
  unfold xoff
  rw [adm_ls, z20_ls]
  refine (offC_ls h (nP N b)).2 L (fun q hq => ?_)
  rw [hL q hq]
  exact ⟨fun x p hp y => x ⟨p, hp, y.symm⟩, fun x ⟨p, hp, y⟩ => x p hp y.symm⟩
theorem xo_up (nw : NW N) (hb : b < nB N) (he : e < 2 * nL N) : (pb N b (e / 2) → up N (xoff N b S) e = false) ∧ (¬ pb N b (e / 2) → up N (xoff N b S) e = up N S e) := by
  rw [pb_iff nw hb (by omega), up_l, up_l]
  unfold upl
  rw [xo_s (by omega) (by omega) (by omega) (by omega) (fun x => by omega), xo_20, xo_20]
  constructor
  · intro h
    rcases h with x | x
    · rw [if_pos x, show ceq (0 : Int32) 1 = false from rfl, Bool.and_false, Bool.false_and]
    · rw [if_pos x, show ceq (0 : Int32) 1 = false from rfl, Bool.and_false]
  · intro h
    rw [if_neg (fun x => h (Or.inl x)), if_neg (fun x => h (Or.inr x))]
/-! the reference -/
theorem roff_eq : roff N b S = adm b (nH N) (zu (pfold (rq_offs N b (c38 8 S)) (nL N) (c38 8 S)) 20 b 0) := by
  unfold roff; rw [offR_eq]
theorem atb_c : atb N b l (c38 n S) = atb N b l S := atb_of (fun i => by rw [c38_f, if_neg (by omega)]) (fun i => by rw [c38_f, if_neg (by omega)])
theorem ro_0 (nw : NW N) (h1 : f ≠ 42) (h2 : f ≠ 38) (h3 : f < 60) (h4 : f ≠ 20) (hk : f ≤ 10 ∨ f = 15 ∨ f = 16 ∨ f = 49) (hl : i / 2 < nL N) (hp : atb N b (i / 2) S = true) : roff N b S f i = 0 := by
  rw [roff_eq, adm_n h1 nw.h8, zu_20 h4]
  exact (offs_f h1 h2 h3).1 ⟨i / 2, hl, by rw [atb_c]; exact hp, rfl, hk⟩
theorem ro_s (nw : NW N) (h1 : f ≠ 42) (h2 : f ≠ 38) (h3 : f < 60) (h4 : f ≠ 20) (hk : (f ≤ 10 ∨ f = 15 ∨ f = 16 ∨ f = 49) → i / 2 < nL N → atb N b (i / 2) S = true → False) : roff N b S f i = S f i := by
  rw [roff_eq, adm_n h1 nw.h8, zu_20 h4]
  refine ((offs_f h1 h2 h3).2 (fun l hl x => ?_)).trans (by rw [c38_f, if_neg (fun x => h2 x.1)])
  obtain ⟨x1, x2, x3⟩ := x
  subst x2
  rw [atb_c] at x1
  exact hk x3 hl x1
theorem ro_20 (nw : NW N) : roff N b S 20 i = if i = b then 0 else S 20 i := by
  rw [roff_eq, adm_n (by omega) nw.h8, zu_eq]
  by_cases c : i = b
  · rw [if_pos c, if_pos c]
  · rw [if_neg c, if_neg c]
    exact ((offs_f (by omega) (by omega) (by omega)).2 (fun p hp x => by omega)).trans (by rw [c38_f, if_neg (by omega)])
theorem ro_61 (nw : NW N) : (i / 3 / 2 < nL N → atb N b (i / 3 / 2) S = true → roff N b S 61 i = 0) ∧ ((i / 3 / 2 < nL N → atb N b (i / 3 / 2) S = true → False) → roff N b S 61 i = S 61 i) := by
  rw [roff_eq, adm_n (by omega) nw.h8, zu_20 (by omega)]
  refine ⟨fun hl hp => offs_61.1 ⟨_, hl, by rw [atb_c]; exact hp, rfl⟩, fun h => (offs_61.2 (fun l hl x => ?_)).trans (by rw [c38_f, if_neg (by omega)])⟩
  obtain ⟨x1, x2⟩ := x
  subst x2
  rw [atb_c] at x1
  exact h hl x1
theorem ro_42 (nw : NW N) : (((i / 8 = b ∧ i % 8 < nH N) ∨ ∃ l, l < nL N ∧ atb N b l S = true ∧ KA N i l (S 42 i)) → roff N b S 42 i = -1) ∧ ((¬ (i / 8 = b ∧ i % 8 < nH N) ∧ ∀ l, l < nL N → atb N b l S = true → ¬ KA N i l (S 42 i)) → roff N b S 42 i = S 42 i) := by
  have z : c38 8 S 42 i = S 42 i := by rw [c38_f, if_neg (by omega)]
  rw [roff_eq, adm_f _ nw.h8]
  by_cases c : i / 8 = b ∧ i % 8 < nH N
  · rw [if_pos ⟨rfl, c⟩]
    exact ⟨fun _ => rfl, fun x => absurd c x.1⟩
  · rw [if_neg (fun x => c x.2), zu_20 (by omega)]
    obtain ⟨o1, o2⟩ := offs_42 (N := N) (b := b) (S0 := c38 8 S) (S := c38 8 S) (n := nL N) (i := i)
    rw [z] at o1 o2
    refine ⟨fun h => ?_, fun h => o2 (fun l hl x => h.2 l hl (by rw [← x.1, atb_c]) x.2)⟩
    rcases h with h | ⟨l, l1, l2, l3⟩
    · exact absurd h c
    · exact o1 ⟨l, l1, by rw [atb_c]; exact l2, l3⟩
theorem ro_38 (nw : NW N) (ha : a < 8) : ((∃ l, l < nL N ∧ atb N b l S = true ∧ (a = bo N (2 * l) ∨ a = bo N (2 * l + 1))) → roff N b S 38 a = 1) ∧ ((∀ l, l < nL N → atb N b l S = true → ¬ (a = bo N (2 * l) ∨ a = bo N (2 * l + 1))) → roff N b S 38 a = 0) := by
  rw [roff_eq, adm_n (by omega) nw.h8, zu_20 (by omega)]
  refine ⟨fun ⟨l, l1, l2, l3⟩ => offs_38.1 ⟨l, l1, by rw [atb_c]; exact l2, l3⟩, fun h => (offs_38.2 (fun l hl x => ?_)).trans (by rw [c38_f, if_pos ⟨rfl, ha⟩])⟩
  have x1 := x.1
  rw [atb_c] at x1
  exact h l hl x1 x.2
theorem ro_ls (h : SL S) (L : List Nat) (hL : ∀ q ∈ lS S, (q ∈ L ↔ ¬ (q / 3 / 2 < nL N ∧ atb N b (q / 3 / 2) S = true))) : lS (roff N b S) = (lS S).filter (fun q => decide (q ∈ L)) := by
  have z : lS (c38 8 S) = lS S := lS_eq (fun i => by rw [c38_f, if_neg (by omega)]) (by rw [c38_f, if_neg (by omega)])
  rw [roff_eq, adm_ls, z20_ls, ← z]
  refine (offs_ls (h.eq z) (nL N)).2 L (fun q hq => ?_)
  rw [z] at hq
  rw [hL q hq]
  refine ⟨fun x l hl y => x ⟨by omega, ?_⟩, fun x y => x _ y.1 ⟨by rw [atb_c]; exact y.2, rfl⟩⟩
  have y1 := y.1
  rw [atb_c, ← y.2] at y1
  exact y1
end zR30
