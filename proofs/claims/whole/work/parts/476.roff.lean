/-! A BRIDGE GOES OFF, in the reference -/
section zR31
variable {N : zN} {m B : Nat} {ν0 ν ν' : zM} {S S' X R : zS} {e e1 e2 b a l h k n t st f i : Nat}
theorem m1_ne {p : Nat} (hp : p < 2 ^ 31) : (-1 : Int32) ≠ nI p := fun hx => by
  have h3 : (-1 : Int32).toInt = -1 := by decide
  have := (congrArg Int32.toInt hx).symm
  rw [h3, nI_toInt hp] at this
  omega
theorem off_em (q : MS N m B ν0 ν S) (hI : INV N st S) (hb : b < nB N) : EM2 (roff N b S) (xoff N b (w38 (roff N b S) S)) := by
  have nw := q.nw
  have l14 := nw.l14
  obtain ⟨⟨sv, dn, br⟩, mi, ad⟩ := hI
  have nu : ∀ l, l < nL N → pb N b l → ¬ atb N b l S = true → upl N S l = false := fun l hl h1 h2 => by
    cases c : upl N S l with
    | false => rfl
    | true => exact absurd ((atb_iff nw hb hl).mpr ⟨c, h1⟩) h2
  refine ⟨fun f i h62 h47 h49 h60 h33 h11 => ?_, ?_⟩
  · by_cases c38 : f = 38
    · subst c38
      rw [xo_s (by omega) (by omega) (by omega) (by omega) (fun x => by omega)]
      exact if_pos rfl
    by_cases c20 : f = 20
    · subst c20; rw [xo_20, ro_20 nw, w38_f (by omega)]
    by_cases c42 : f = 42
    · subst c42
      by_cases c1 : i / 8 = b
      · rw [xo_42b c1]
        by_cases c2 : i % 8 < nH N
        · exact ((ro_42 nw).1 (Or.inl ⟨c1, c2⟩)).symm
        · have z : S 42 i = -1 := by
            have := q.1.2.2.2.2.2.2.2.1 b (i % 8) hb (by omega) (by omega)
            rw [show b * 8 + i % 8 = i by omega] at this; exact this
          by_cases c3 : ∃ l, l < nL N ∧ atb N b l S = true ∧ KA N i l (S 42 i)
          · exact ((ro_42 nw).1 (Or.inr c3)).symm
          · rw [(ro_42 nw).2 ⟨fun x => c2 x.2, fun l hl h1 h2 => c3 ⟨l, hl, h1, h2⟩⟩, z]
      · obtain ⟨x1, x2⟩ := xo_42 (N := N) (S := w38 (roff N b S) S) c1
        rw [w38_f (by omega)] at x1 x2
        by_cases c3 : ∃ l, l < nL N ∧ atb N b l S = true ∧ KA N i l (S 42 i)
        · rw [(ro_42 nw).1 (Or.inr c3)]
          obtain ⟨l, l1, l2, l3⟩ := c3
          exact x1 ⟨l, ((atb_iff nw hb l1).mp l2).2, l3⟩
        · rw [(ro_42 nw).2 ⟨fun x => c1 x.1, fun l hl h1 h2 => c3 ⟨l, hl, h1, h2⟩⟩]
          refine x2 (fun l hp hk => ?_)
          have hl := pb_l nw hb hp
          have hu := nu l hl hp (fun x => c3 ⟨l, hl, x, hk⟩)
          rcases hk with ⟨k1, k2⟩ | ⟨k1, k2⟩
          · have := ad (bo N (2 * l + 1)) (i % 8) (po N (2 * l + 1)) (nw.bo_b (by omega)) (by omega) (nw.po_p (by omega)) (by rw [← k1, show i / 8 * 8 + i % 8 = i by omega]; exact k2)
            rw [nw.eo_e (by omega), up_l, show (2 * l + 1) / 2 = l by omega, hu] at this
            cases this
          · have := ad (bo N (2 * l)) (i % 8) (po N (2 * l)) (nw.bo_b (by omega)) (by omega) (nw.po_p (by omega)) (by rw [← k1, show i / 8 * 8 + i % 8 = i by omega]; exact k2)
            rw [nw.eo_e (by omega), up_l, show (2 * l) / 2 = l by omega, hu] at this
            cases this
    by_cases c61 : f = 61
    · subst c61
      have x12 := xo_60 (N := N) (b := b) (S := w38 (roff N b S) S) (i := i) (f := 61) (Or.inr rfl)
      rw [w38_f (by omega)] at x12
      by_cases c : pb N b (i / 3 / 2)
      · rw [x12.1 c]
        have hl := pb_l nw hb c
        by_cases c2 : atb N b (i / 3 / 2) S = true
        · rw [(ro_61 nw).1 hl c2]
        · rw [(ro_61 nw).2 (fun _ x => c2 x)]
          have hu := nu _ hl c c2
          obtain ⟨y1, y2, y3⟩ := mi i (by omega)
          rw [← y1]
          rcases y2 with y | y
          · rw [y]
          · have := (y3 y).1
            rw [up_l, hu] at this; cases this
      · rw [x12.2 c, (ro_61 nw).2 (fun hl x => c ((atb_iff nw hb hl).mp x).2)]
    have hf : f < 60 := by omega
    by_cases ck : (f ≤ 10 ∨ f = 15 ∨ f = 16 ∨ f = 49) ∧ pb N b (i / 2)
    · rw [xo_0 c42 h47 hf c20 ck.1 ck.2]
      have hl := pb_l nw hb ck.2
      by_cases c2 : atb N b (i / 2) S = true
      · rw [ro_0 nw c42 c38 hf c20 ck.1 hl c2]
      · rw [ro_s nw c42 c38 hf c20 (fun _ _ x => c2 x)]
        have hu := nu _ hl ck.2 c2
        have d := dn i (by omega) (by rw [up_l]; exact hu)
        by_cases c10 : f ≤ 10
        · exact (d f c10).symm
        · have h := h11 (by omega) (by omega)
          rw [ro_s nw (by omega) (by omega) (by omega) (by omega) (fun _ _ x => c2 x), d 10 (by omega)] at h
          exact absurd h (by decide)
    · rw [xo_s c42 h47 hf c20 (fun x y => ck ⟨x, y⟩), w38_f c38, ro_s nw c42 c38 hf c20 (fun x hl y => ck ⟨x, ((atb_iff nw hb hl).mp y).2⟩)]
  · have w : lS (w38 (roff N b S) S) = lS S := lS_eq (fun i => w38_f (by omega)) (w38_f (by omega))
    have hm := q.1.2.2.2.2.2.2.2.2.2.2.2.2.1
    have L1 : ∀ q ∈ lS S, (q ∈ (lS S).filter (fun q => !(decide (q / 3 / 2 < nL N) && atb N b (q / 3 / 2) S)) ↔ ¬ (q / 3 / 2 < nL N ∧ atb N b (q / 3 / 2) S = true)) := fun q hq => by
      rw [List.mem_filter, Bool.not_eq_true', ← Bool.not_eq_true, Bool.and_eq_true, decide_eq_true_iff]
      exact ⟨fun x => x.2, fun x => ⟨hq, x⟩⟩
    rw [ro_ls q.sl _ L1, xo_ls (q.sl.eq w) ((lS S).filter (fun q => !(decide (q / 3 / 2 < nL N) && atb N b (q / 3 / 2) S))) (fun t ht => ?_), w]
    rw [w] at ht
    rw [L1 t ht]
    obtain ⟨t1, t2⟩ := (hm t).mp ht
    obtain ⟨y1, y2, y3⟩ := mi t t1
    rw [y1] at y3
    have hu := (y3 t2).1
    rw [up_l] at hu
    have hl : t / 3 / 2 < nL N := by omega
    rw [atb_iff nw hb hl]
    exact ⟨fun x y => x ⟨hl, hu, y⟩, fun x y => x y.2.2⟩
theorem xoff_dw (nw : NW N) (hb : b < nB N) (h0 : T0 N S) : DW N (pb N b) S (xoff N b S) := by
  have l14 := nw.l14
  refine ⟨fun f i hf hi => ?_, fun f i hf hi => ?_, fun f i hf => ?_, fun i hi => ?_, fun i hi => ?_, fun e he hl => (xo_up nw hb he).1 hl, fun e he hl => (xo_up nw hb he).2 hl, fun c h p hc hh hp hx => ?_, fun c hc h20 => ?_, fun c p hc hp h20 h47 hl => ?_⟩
  · exact xo_0 (by omega) (by omega) (by omega) (by omega) (by omega) hi
  · exact xo_s (by omega) (by omega) (by omega) (by omega) (fun _ => hi)
  · exact xo_s (by omega) (by omega) (by omega) (by omega) (fun _ => by omega)
  · exact ⟨(xo_60 (Or.inl rfl)).1 hi, (xo_60 (Or.inr rfl)).1 hi⟩
  · exact ⟨(xo_60 (Or.inl rfl)).2 hi, (xo_60 (Or.inr rfl)).2 hi⟩
  · have p6 := nw.p6 hc
    by_cases cb : c = b
    · rw [xo_42b (by omega)] at hx
      exact absurd hx (m1_ne (by omega))
    · have i8 : (c * 8 + h) / 8 = c := by omega
      obtain ⟨x1, x2⟩ := xo_42 (N := N) (b := b) (S := S) (i := c * 8 + h) (by omega)
      by_cases c3 : ∃ l, pb N b l ∧ KA N (c * 8 + h) l (S 42 (c * 8 + h))
      · rw [x1 c3] at hx
        exact absurd hx (m1_ne (by omega))
      · have x3 := x2 (fun l h1 h2 => c3 ⟨l, h1, h2⟩)
        rw [x3] at hx
        refine ⟨hx, fun hl => c3 ⟨_, hl, ?_⟩⟩
        have e1 := nw.bo_eo hc hp
        have e2 := nw.po_eo hc hp
        unfold KA
        rw [i8, hx]
        rcases (show eo N c p = 2 * (eo N c p / 2) ∨ eo N c p = 2 * (eo N c p / 2) + 1 by omega) with x | x
        · rw [← x, e1, e2]; exact Or.inr ⟨rfl, rfl⟩
        · rw [← x, e1, e2]; exact Or.inl ⟨rfl, rfl⟩
  · rw [xo_20] at h20
    by_cases cb : c = b
    · rw [if_pos cb] at h20; exact absurd h20 (by decide)
    · rw [if_neg cb] at h20; exact h20
  · have cb : c ≠ b := fun cb => by
      rw [xo_20, if_pos cb] at h20; exact absurd h20 (by decide)
    cases hu : up N S (eo N c p) with
    | false => rfl
    | true =>
      exfalso
      apply h47
      rw [(xo_47 (h0 c hc)).1]
      obtain ⟨p2, hp2, e2⟩ := hl
      have e3 := nw.bo_eo hc hp
      have e4 := nw.bo_eo hb hp2
      have ne : eo N b p2 ≠ eo N c p := fun x => cb (by rw [← e3, ← x, e4])
      have ef : fe (eo N b p2) = eo N c p := by
        unfold fe
        by_cases c2 : eo N b p2 % 2 = 0
        · rw [if_pos c2]; omega
        · rw [if_neg c2]; omega
      exact ⟨p2, hp2, by rw [ef, e3], by rw [up_l, e2, ← up_l]; exact hu⟩
theorem INV.w38 (hI : INV N st S) : INV N st (w38 R S) := by
  obtain ⟨⟨sv, dn, br⟩, mi, ad⟩ := hI
  refine ⟨⟨sv, fun e he hu k hk => ?_, br⟩, mi, ad⟩
  rw [w38_f (by omega)]
  exact dn e he hu k hk
theorem off_38 (nw : NW N) (hb : b < nB N) (h0 : T0 N S) (ha : a < nB N) (h20 : xoff N b (w38 (roff N b S) S) 20 a = 1) : ceq (xoff N b (w38 (roff N b S) S) 38 a) 1 = ceq (xoff N b (w38 (roff N b S) S) 47 a) 1 := by
  have l14 := nw.l14; have b8 := nw.b8
  have cb : a ≠ b := fun cb => by
    rw [xo_20, if_pos cb] at h20; exact absurd h20 (by decide)
  have z : xoff N b (w38 (roff N b S) S) 38 a = roff N b S 38 a := by
    rw [xo_s (by omega) (by omega) (by omega) (by omega) (fun x => by omega)]
    exact if_pos rfl
  rw [z]
  obtain ⟨t1, t2⟩ := xo_47 (N := N) (b := b) (S := w38 (roff N b S) S) (a := a) (h0 a ha)
  have key : (∃ l, l < nL N ∧ atb N b l S = true ∧ (a = bo N (2 * l) ∨ a = bo N (2 * l + 1))) ↔ xoff N b (w38 (roff N b S) S) 47 a = 1 := by
    rw [t1]
    constructor
    · intro ⟨l, hl, h1, h2⟩
      obtain ⟨hu, p, hp, hpl⟩ := (atb_iff nw hb hl).mp h1
      refine ⟨p, hp, ?_, ?_⟩
      · have e1 := nw.bo_eo hb hp
        unfold fe
        rcases (show eo N b p = 2 * l ∨ eo N b p = 2 * l + 1 by omega) with x | x
        · rw [if_pos (by omega), x]
          rw [x] at e1
          rcases h2 with y | y
          · exact absurd (y.trans e1) cb
          · exact y
        · rw [if_neg (by omega), x]
          rw [x] at e1
          rcases h2 with y | y
          · exact y
          · exact absurd (y.trans e1) cb
      · show up N S (eo N b p) = true
        rw [up_l, hpl]; exact hu
    · intro ⟨p, hp, h1, h2⟩
      have hl := nw.eo_l hb hp
      have h2 : up N S (eo N b p) = true := h2
      rw [up_l] at h2
      refine ⟨eo N b p / 2, by omega, (atb_iff nw hb (by omega)).mpr ⟨h2, p, hp, rfl⟩, ?_⟩
      rw [h1]
      unfold fe
      by_cases c : eo N b p % 2 = 0
      · rw [if_pos c, show 2 * (eo N b p / 2) + 1 = eo N b p + 1 by omega]; exact Or.inr rfl
      · rw [if_neg c, show 2 * (eo N b p / 2) = eo N b p - 1 by omega]; exact Or.inl rfl
  obtain ⟨r1, r2⟩ := ro_38 (N := N) (b := b) (S := S) (a := a) nw (by omega)
  by_cases c : xoff N b (w38 (roff N b S) S) 47 a = 1
  · rw [c, r1 (key.mpr c)]
  · rw [r2 (fun l hl h1 h2 => c (key.mp ⟨l, hl, h1, h2⟩)), ceq_f c]; rfl
theorem R_off (q : MS N m B ν0 ν S) (hI : INV N st S) (h0 : T0 N S) (hb : b < nB N) : ∃ S1, (∀ f i, f ≠ 38 → S1 f i = S f i) ∧ (∃ ν', f12_isOff m (nI b) ν = some ν' ∧ MS N m B ν0 ν' (sq_off N b S1)) ∧ INV N st (sq_off N b S1) ∧ T0 N (sq_off N b S1) := by
  have nw := q.nw
  have l14 := nw.l14; have b8 := nw.b8
  have hT : T0 N (w38 (roff N b S) S) := h0
  obtain ⟨p1, p2, p3⟩ := (xoff_dw nw hb hT).inv nw (hI.w38 (R := roff N b S))
  obtain ⟨i1, i2, i3⟩ := ct_inv nw p1 p2 p3
  refine ⟨w38 (roff N b S) S, fun f i h => w38_f h, ?_, by rw [off_eq]; exact i1, by rw [off_eq]; exact i2⟩
  rw [off_eq]
  obtain ⟨ν1, e1, q1⟩ := R_off1 q
  obtain ⟨ν2, e2, q2⟩ := R_off2s q1 hb
  have q3 := q2.w_b hb (k := 0) (by omega) (Or.inl (by omega)) (v := 0) (fun _ => Or.inl rfl)
  obtain ⟨ν4, e4, q4⟩ := R_off3 q3 hb
  have q5 := EM2.ms (S := roff N b S) q4 (off_em q hI hb)
  obtain ⟨ν6, e6, q6⟩ := R_all2 q5 p1 (fun a ha h20 => off_38 nw hb h0 ha h20)
  refine ⟨ν6, ?_, q6⟩
  unfold f12_isOff
  rw [e1, ozb2, e2, ozb2, show f12_bridgeAt (nI b) 0 ν2 = some (nI (4 + 12 * b + 0)) from bAt b 0, obs, q2.puts (by omega), obs, e4, ozb2, e6, obs]
end zR31
