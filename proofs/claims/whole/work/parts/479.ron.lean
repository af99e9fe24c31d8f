/-! A BRIDGE COMES BACK, in the reference -/
def bs (b : Nat) (S : zS) : zS := pfold (g38 b) 8 (pfold (g28 b) 8 (zu (zu S 20 b 1) 32 b 0))
def ron (N : zN) (b : Nat) (S : zS) : zS := pfold (rq_on1 N b) (nL N) (bs b S)
def s1_ (b : Nat) (R S : zS) : zS := fun f i => if f = 38 then R 38 i else if 28 ≤ f ∧ f ≤ 30 ∧ i = b then 0 else S f i
def bc (b : Nat) (S : zS) : zS := zu (zu (zu S 20 b 1) 27 b 0) 32 b 0
def xon (N : zN) (b : Nat) (S : zS) : zS := zu (pfold (sq_on1 N b) (nP N b) (bc b S)) 47 b 1
section zR34
variable {N : zN} {m B : Nat} {ν0 ν ν' : zM} {S S0 S' X R : zS} {e e1 e2 b a l h k n t st f i : Nat}
theorem on_eq : sq_on N b S = sp_ct N (xon N b S) := rfl
theorem s1_f (h1 : f ≠ 38) (h2 : ¬ (28 ≤ f ∧ f ≤ 30 ∧ i = b)) : s1_ b R S f i = S f i := by
  unfold s1_; rw [if_neg h1, if_neg h2]
theorem bc_f : bc b S f i = if i = b ∧ f = 20 then 1 else if i = b ∧ (f = 27 ∨ f = 32) then 0 else S f i := by
  unfold bc zu
  by_cases c : i = b
  · by_cases c1 : f = 32
    · rw [if_pos ⟨c1, c⟩, if_neg (by omega), if_pos (by omega)]
    · rw [if_neg (fun x => c1 x.1)]
      by_cases c2 : f = 27
      · rw [if_pos ⟨c2, c⟩, if_neg (by omega), if_pos (by omega)]
      · rw [if_neg (fun x => c2 x.1)]
        by_cases c3 : f = 20
        · rw [if_pos ⟨c3, c⟩, if_pos (by omega)]
        · rw [if_neg (fun x => c3 x.1), if_neg (by omega), if_neg (by omega)]
  · rw [if_neg (fun x => c x.2), if_neg (fun x => c x.2), if_neg (fun x => c x.2), if_neg (fun x => c x.1), if_neg (fun x => c x.1)]
theorem bs_f (h38 : f ≠ 38) : bs b S f i = bc b (s1_ b R S) f i := by
  have w : zu (zu S 20 b 1) 32 b 0 f i = if i = b ∧ f = 20 then 1 else if i = b ∧ f = 32 then 0 else S f i := by
    unfold zu
    by_cases c : i = b
    · by_cases c1 : f = 32
      · rw [if_pos ⟨c1, c⟩, if_neg (by omega), if_pos (by omega)]
      · rw [if_neg (fun x => c1 x.1)]
        by_cases c3 : f = 20
        · rw [if_pos ⟨c3, c⟩, if_pos (by omega)]
        · rw [if_neg (fun x => c3 x.1), if_neg (by omega), if_neg (by omega)]
    · rw [if_neg (fun x => c x.2), if_neg (fun x => c x.2), if_neg (fun x => c x.1), if_neg (fun x => c x.1)]
  unfold bs
  rw [g38_f, if_neg (fun x => h38 x.1), g28_f 8 (by omega), w, bc_f]
  by_cases c : i = b ∧ 27 ≤ f ∧ f < 31
  · rw [if_pos c, if_neg (by omega)]
    by_cases c2 : f = 27
    · rw [if_pos (by omega)]
    · rw [if_neg (by omega)]
      unfold s1_
      rw [if_neg h38, if_pos (by omega)]
  · rw [if_neg c, s1_f h38 (by omega)]
    by_cases c2 : i = b ∧ f = 20
    · rw [if_pos c2, if_pos c2]
    · rw [if_neg c2, if_neg c2]
      by_cases c3 : i = b ∧ f = 32
      · rw [if_pos c3, if_pos (by omega)]
      · rw [if_neg c3, if_neg (by omega)]
theorem xn_v (h47 : f ≠ 47) (nw : NW N) (hb : b < nB N) (hl : i / 2 < nL N) (ha : atb N b (i / 2) (bc b S) = true) (hk : f ≤ 10 ∨ f = 15 ∨ f = 16 ∨ f = 49) : xon N b S f i = (if f = 5 then nI (tE N i) else 0) := by
  unfold xon
  rw [zu_47 h47, onC_eq]
  obtain ⟨hu, p, hp, hpl⟩ := (atb_iff nw hb hl).mp ha
  exact (ons_f h47).1 ⟨p, hp, by rw [up_l, hpl]; exact hu, hpl.symm, hk⟩
theorem xn_s (h47 : f ≠ 47) (nw : NW N) (hb : b < nB N) (h : (f ≤ 10 ∨ f = 15 ∨ f = 16 ∨ f = 49) → i / 2 < nL N → atb N b (i / 2) (bc b S) = true → False) : xon N b S f i = bc b S f i := by
  unfold xon
  rw [zu_47 h47, onC_eq]
  refine (ons_f h47).2 (fun p hp x => ?_)
  obtain ⟨x1, x2, x3⟩ := x
  have el := nw.eo_l hb hp
  have hl : i / 2 < nL N := by omega
  rw [up_l, ← x2] at x1
  exact h x3 hl ((atb_iff nw hb hl).mpr ⟨x1, p, hp, x2.symm⟩)
theorem xn_47 (h0 : S 47 a = 0) : xon N b S 47 a = 1 ↔ a = b ∨ ∃ p, p < nP N b ∧ (up N (bc b S) (eo N b p) = true ∧ a = bo N (fe (eo N b p))) := by
  unfold xon
  rw [zu_eq, onC_eq]
  by_cases c : a = b
  · rw [if_pos c]; exact ⟨fun _ => Or.inl c, fun _ => rfl⟩
  · rw [if_neg c]
    by_cases c2 : ∃ p, p < nP N b ∧ (up N (bc b S) (eo N b p) = true ∧ a = bo N (fe (eo N b p)))
    · rw [ons_47.1 c2]; exact ⟨fun _ => Or.inr c2, fun _ => rfl⟩
    · rw [ons_47.2 (fun p hp x => c2 ⟨p, hp, x⟩), bc_f, if_neg (by omega), if_neg (by omega), h0]
      exact ⟨fun x => absurd x (by decide), fun x => by rcases x with x | x <;> contradiction⟩
theorem xn_up (nw : NW N) (hb : b < nB N) : up N (xon N b S) e = up N (bc b S) e := up_of (fun i => xn_s (by omega) nw hb (fun x => by omega)) (fun i => xn_s (by omega) nw hb (fun x => by omega))
theorem rn_v (h38 : f ≠ 38) (hl : i / 2 < nL N) (ha : atb N b (i / 2) (bs b S) = true) (hk : f ≤ 10 ∨ f = 15 ∨ f = 16 ∨ f = 49) : ron N b S f i = (if f = 5 then nI (tE N i) else 0) := by
  unfold ron
  rw [onR_eq]
  exact (rons_f h38).1 ⟨_, hl, ha, rfl, hk⟩
theorem rn_s (h38 : f ≠ 38) (h : (f ≤ 10 ∨ f = 15 ∨ f = 16 ∨ f = 49) → i / 2 < nL N → atb N b (i / 2) (bs b S) = true → False) : ron N b S f i = bs b S f i := by
  unfold ron
  rw [onR_eq]
  refine (rons_f h38).2 (fun l hl x => ?_)
  obtain ⟨x1, x2, x3⟩ := x
  subst x2
  exact h x3 hl x1
theorem atb_bs : atb N b l (bs b S) = atb N b l (bc b (s1_ b R S)) := atb_of (fun i => bs_f (by omega)) (fun i => bs_f (by omega))
theorem on_em (nw : NW N) (hb : b < nB N) : EM (ron N b S) (xon N b (s1_ b (ron N b S) S)) := by
  intro f i h47 h49 h60 h33 h11
  by_cases c38 : f = 38
  · subst c38
    rw [xn_s (by omega) nw hb (fun x => by omega), bc_f, if_neg (by omega), if_neg (by omega)]
    exact if_pos rfl
  by_cases c : (f ≤ 10 ∨ f = 15 ∨ f = 16 ∨ f = 49) ∧ i / 2 < nL N ∧ atb N b (i / 2) (bs b S) = true
  · rw [rn_v c38 c.2.1 c.2.2 c.1, xn_v h47 nw hb c.2.1 (by rw [← atb_bs]; exact c.2.2) c.1]
  · rw [rn_s c38 (fun x y z => c ⟨x, y, z⟩), xn_s h47 nw hb (fun x y z => c ⟨x, y, by rw [atb_bs]; exact z⟩), bs_f c38]
/-- a bridge next to `b` -/
theorem nb_iff (nw : NW N) (hb : b < nB N) (cb : a ≠ b) : (∃ l, l < nL N ∧ (atb N b l S = true ∧ (a = bo N (2 * l) ∨ a = bo N (2 * l + 1)))) ↔ ∃ p, p < nP N b ∧ (up N S (eo N b p) = true ∧ a = bo N (fe (eo N b p))) := by
  constructor
  · intro ⟨l, hl, h1, h2⟩
    obtain ⟨hu, p, hp, hpl⟩ := (atb_iff nw hb hl).mp h1
    refine ⟨p, hp, by rw [up_l, hpl]; exact hu, ?_⟩
    have e1 := nw.bo_eo hb hp
    unfold fe
    rcases (show eo N b p = 2 * l ∨ eo N b p = 2 * l + 1 by omega) with x | x
    · rw [if_pos (by omega), x]
      rw [x] at e1
      rcases h2 with y | y
      · exact absurd (y.trans e1) cb
      · exact y
    · rw [if_neg (by omega), x]
      rw [x] at e1
      rcases h2 with y | y
      · exact y
      · exact absurd (y.trans e1) cb
  · intro ⟨p, hp, h2, h1⟩
    have hl := nw.eo_l hb hp
    rw [up_l] at h2
    refine ⟨eo N b p / 2, by omega, (atb_iff nw hb (by omega)).mpr ⟨h2, p, hp, rfl⟩, ?_⟩
    rw [h1]
    unfold fe
    by_cases c : eo N b p % 2 = 0
    · rw [if_pos c, show 2 * (eo N b p / 2) + 1 = eo N b p + 1 by omega]; exact Or.inr rfl
    · rw [if_neg c, show 2 * (eo N b p / 2) = eo N b p - 1 by omega]; exact Or.inl rfl
theorem xon_uw (nw : NW N) (hb : b < nB N) (h0 : T0 N S) (h20 : S 20 b ≠ 1) : UW N (fun l => pb N b l ∧ upl N (bc b S) l = true) S (xon N b S) := by
  have l14 := nw.l14
  have raise : ∀ e, up N S e = true → up N (bc b S) e = true := fun e hu => by
    unfold up at hu ⊢
    rw [Bool.and_eq_true, Bool.and_eq_true] at hu ⊢
    have g : ∀ j, ceq (S 20 j) 1 = true → ceq (bc b S 20 j) 1 = true := fun j hj => by
      rw [bc_f]
      by_cases c : j = b
      · rw [if_pos ⟨c, rfl⟩]; rfl
      · rw [if_neg (fun x => c x.1), if_neg (fun x => c x.1)]; exact hj
    refine ⟨⟨?_, g _ hu.1.2⟩, g _ hu.2⟩
    rw [bc_f, if_neg (by omega), if_neg (by omega)]; exact hu.1.1
  refine ⟨fun i hi => ?_, fun i hi f hf => ?_, fun i => ?_, fun f i hf => ?_, fun c hc hx => ?_, fun e he hu => ?_, fun e he hl => ?_, fun c p hc hp hx h47 hl => ?_⟩
  · rw [xn_up nw hb]
    by_cases c : atb N b (i / 2) (bc b S) = true
    · obtain ⟨x1, x2⟩ := (atb_iff nw hb (by omega)).mp c
      refine Or.inr ⟨⟨x2, x1⟩, by rw [up_l]; exact x1, fun f hf h5 => ?_⟩
      rw [xn_v (by omega) nw hb (by omega) c (by omega), if_neg h5]
    · refine Or.inl (fun f hf => ?_)
      rw [xn_s (by omega) nw hb (fun _ _ x => c x), bc_f, if_neg (by omega), if_neg (by omega)]
  · rw [xn_s (by omega) nw hb (fun _ x _ => by omega), bc_f, if_neg (by omega), if_neg (by omega)]
  · rw [xn_s (by omega) nw hb (fun x => by omega), bc_f, if_neg (by omega)]
    by_cases c : i = b
    · rw [if_pos (by omega)]; exact Or.inr rfl
    · rw [if_neg (by omega)]; exact Or.inl rfl
  · rw [xn_s (by omega) nw hb (fun x => by omega), bc_f, if_neg (by omega), if_neg (by omega)]
  · by_cases cb : c = b
    · refine Or.inr ⟨(xn_47 (h0 c hc)).mpr (Or.inl cb), by rw [cb]; exact h20, ?_⟩
      rw [xn_s (by omega) nw hb (fun x => by omega), bc_f, if_neg (by omega), if_pos ⟨cb, by omega⟩]
      decide
    · refine Or.inl ⟨?_, fun f hf => ?_⟩
      · rw [xn_s (by omega) nw hb (fun x => by omega), bc_f, if_neg (by omega), if_neg (by omega)] at hx; exact hx
      · rw [xn_s (by omega) nw hb (fun x => by omega), bc_f, if_neg (by omega), if_neg (by omega)]
  · rw [xn_up nw hb]; exact raise e hu
  · rw [xn_up nw hb]
    by_cases c : pb N b (e / 2)
    · cases hu : up N (bc b S) e with
      | true =>
        rw [up_l] at hu
        exact absurd ⟨c, hu⟩ hl
      | false =>
        cases hv : up N S e with
        | false => rfl
        | true => rw [raise e hv] at hu; cases hu
    · rw [pb_iff nw hb (by omega)] at c
      rw [up_l, up_l]
      unfold upl
      have n1 : bo N (2 * (e / 2)) ≠ b := fun x => c (Or.inl x)
      have n2 : bo N (2 * (e / 2) + 1) ≠ b := fun x => c (Or.inr x)
      rw [bc_f, if_neg (by omega), if_neg (by omega), bc_f, if_neg (by omega), if_neg (by omega), bc_f, if_neg (by omega), if_neg (by omega)]
  · apply h47
    rw [xn_47 (h0 c hc)]
    by_cases cb : c = b
    · exact Or.inl cb
    · refine Or.inr ((nb_iff nw hb cb).mp ⟨eo N c p / 2, ?_, ?_, ?_⟩)
      · have := nw.eo_l hc hp; omega
      · exact (atb_iff nw hb (by have := nw.eo_l hc hp; omega)).mpr ⟨hl.2, hl.1⟩
      · have e1 := nw.bo_eo hc hp
        rcases (show eo N c p = 2 * (eo N c p / 2) ∨ eo N c p = 2 * (eo N c p / 2) + 1 by omega) with x | x
        · rw [← x, e1]; exact Or.inl rfl
        · rw [← x, e1]; exact Or.inr rfl
theorem s1_inv (hI : INV N st S) (h20 : S 20 b ≠ 1) : INV N st (s1_ b R S) := by
  obtain ⟨⟨sv, dn, br⟩, mi, ad⟩ := hI
  have u : ∀ e, up N (s1_ b R S) e = up N S e := fun e => up_of (fun i => s1_f (by omega) (by omega)) (fun i => s1_f (by omega) (by omega))
  refine ⟨⟨fun i => ?_, fun e he hu k hk => ?_, fun a ha hx => ?_⟩, fun q hq => ?_, fun a h p ha hh hp hx => ?_⟩
  · rw [s1_f (by omega) (by omega), s1_f (by omega) (by omega), s1_f (by omega) (by omega), s1_f (by omega) (by omega), s1_f (by omega) (by omega)]
    exact sv i
  · rw [s1_f (by omega) (by omega)]
    rw [u] at hu
    exact dn e he hu k hk
  · rw [s1_f (by omega) (by omega)] at hx
    have ab : a ≠ b := fun x => h20 (by rw [← x]; exact hx)
    exact BR.keep2 (br a ha hx) (fun f p hf hp => s1_f (by omega) (by omega)) (fun f hf => s1_f (by omega) (by omega)) (fun p hp => u _)
  · rw [s1_f (by omega) (by omega), s1_f (by omega) (by omega), s1_f (by omega) (by omega), u]
    exact mi q hq
  · rw [s1_f (by omega) (by omega)] at hx
    rw [u]; exact ad a h p ha hh hp hx
theorem on_38 (nw : NW N) (hb : b < nB N) (h0 : T0 N S) (ha : a < nB N) : ceq (xon N b (s1_ b (ron N b S) S) 38 a) 1 = ceq (xon N b (s1_ b (ron N b S) S) 47 a) 1 := by
  have b8 := nw.b8
  have z : xon N b (s1_ b (ron N b S) S) 38 a = ron N b S 38 a := by
    rw [xn_s (by omega) nw hb (fun x => by omega), bc_f, if_neg (by omega), if_neg (by omega)]
    exact if_pos rfl
  have t := xn_47 (N := N) (b := b) (S := s1_ b (ron N b S) S) (a := a) (by rw [s1_f (by omega) (by omega)]; exact h0 a ha)
  have u : ∀ e, up N (bc b (s1_ b (ron N b S) S)) e = up N (bs b S) e := fun e => up_of (fun i => (bs_f (by omega)).symm) (fun i => (bs_f (by omega)).symm)
  simp only [u] at t
  have r : ron N b S 38 a = 1 ↔ a = b ∨ ∃ p, p < nP N b ∧ (up N (bs b S) (eo N b p) = true ∧ a = bo N (fe (eo N b p))) := by
    unfold ron
    rw [onR_eq]
    have b38 : bs b S 38 a = bI (decide (a = b)) := by unfold bs; rw [g38_f, if_pos ⟨rfl, by omega⟩]
    by_cases c : ∃ l, l < nL N ∧ (atb N b l (bs b S) = true ∧ (a = bo N (2 * l) ∨ a = bo N (2 * l + 1)))
    · rw [rons_38.1 c]
      refine ⟨fun _ => ?_, fun _ => rfl⟩
      by_cases cb : a = b
      · exact Or.inl cb
      · exact Or.inr ((nb_iff nw hb cb).mp c)
    · rw [rons_38.2 (fun l hl x => c ⟨l, hl, x⟩), b38]
      by_cases cb : a = b
      · rw [decide_eq_true cb]; exact ⟨fun _ => Or.inl cb, fun _ => rfl⟩
      · rw [decide_eq_false cb]
        refine ⟨fun x => absurd x (by decide), fun x => ?_⟩
        rcases x with x | x
        · exact absurd x cb
        · exact absurd ((nb_iff nw hb cb).mpr x) c
  rw [z]
  by_cases c : ron N b S 38 a = 1
  · rw [c, t.mpr (r.mp c)]
  · rw [ceq_f c, ceq_f (fun x => c (r.mpr (t.mp x)))]
theorem R_on (q : MS N m B ν0 ν S) (hI : INV N st S) (h0 : T0 N S) (hb : b < nB N) (h20 : S 20 b ≠ 1) : ∃ S1, (∀ f i, csF f → S1 f i = S f i) ∧ (∃ ν', f12_isBackOn m (nI b) ν = some ν' ∧ MS N m B ν0 ν' (sq_on N b S1)) ∧ INV N st (sq_on N b S1) ∧ T0 N (sq_on N b S1) := by
  have nw := q.nw
  have l14 := nw.l14; have b8 := nw.b8
  have hT : T0 N (s1_ b (ron N b S) S) := fun c hc => by rw [s1_f (by omega) (by omega)]; exact h0 c hc
  have h21 : s1_ b (ron N b S) S 20 b ≠ 1 := by rw [s1_f (by omega) (by omega)]; exact h20
  obtain ⟨p1, p2, p3⟩ := (xon_uw nw hb hT h21).inv nw (s1_inv hI h20)
  obtain ⟨i1, i2, i3⟩ := ct_inv nw p1 p2 p3
  refine ⟨s1_ b (ron N b S) S, fun f i h => s1_f (by unfold csF at h; omega) (by unfold csF at h; omega), ?_, by rw [on_eq]; exact i1, by rw [on_eq]; exact i2⟩
  rw [on_eq]
  have q1 := q.w_b hb (k := 0) (by omega) (Or.inl (by omega)) (v := 1) (fun _ => Or.inr rfl)
  have q2 := q1.w_32 (b := b)
  obtain ⟨ν3, e3, q3⟩ := R_on1 q2 hb (by rw [zu_eq, if_pos rfl])
  obtain ⟨ν4, e4, q4⟩ := R_on2 q3 hb
  obtain ⟨ν5, e5, q5⟩ := R_on3s q4 hb
  have q6 := EM.ms (S := ron N b S) q5 (on_em nw hb)
  obtain ⟨ν7, e7, q7⟩ := R_all q6 p1 (fun a ha => on_38 nw hb h0 ha)
  refine ⟨ν7, ?_, q7⟩
  unfold f12_isBackOn
  rw [show f12_bridgeAt (nI b) 0 ν = some (nI (4 + 12 * b + 0)) from bAt b 0, obs, q.puts (by omega), obs, e3, ozb2, e4, ozb2, e5, ozb2, e7, obs]
end zR34
