/-! A LINK IS CUT -/
section zR19
variable {N : zN} {m B : Nat} {ν0 ν ν' : zM} {S S' X : zS} {R R' : Nat → Int32} {e b a l h k n t P st f i : Nat}
theorem BR.keep2 (h : BR N b S) (hs : ∀ f p, f = 0 ∨ f = 10 → p < nP N b → S' f (eo N b p) = S f (eo N b p)) (hs2 : ∀ f, f = 21 ∨ f = 23 ∨ f = 24 ∨ (28 ≤ f ∧ f ≤ 32) → S' f b = S f b) (hup : ∀ p, p < nP N b → up N S' (eo N b p) = up N S (eo N b p)) : BR N b S' := by
  obtain ⟨⟨a1, a2, a3, a4, a5⟩, a6⟩ := h
  unfold idS at a2
  refine ⟨⟨?_, ?_, ?_, ?_, ?_⟩, fun p hp => ⟨fun h1 h2 => ?_, fun h1 => ?_⟩⟩
  · rw [hs2 32 (by omega)]; exact a1
  · unfold idS; rw [hs2 31 (by omega), hs2 21 (by omega)]; exact a2
  · rw [hs2 28 (by omega), hs2 23 (by omega)]; exact a3
  · rw [hs2 29 (by omega), hs2 24 (by omega)]; exact a4
  · rw [hs2 30 (by omega), hs2 31 (by omega)]; exact a5
  · rw [hs 0 p (Or.inl rfl) hp] at h1 h2
    rw [hs 10 p (Or.inr rfl) hp]
    exact (a6 p hp).1 h1 h2
  · rw [hup p hp] at h1
    rw [hs 0 p (Or.inl rfl) hp]
    exact (a6 p hp).2 h1
theorem ct_inv (nw : NW N) (hp : CTP N X) (hm : MI N st X) (ha : AD N X) : INV N st (sp_ct N X) ∧ (∀ b, b < nB N → sp_ct N X 47 b = 0) ∧ (∀ f i, (f = 20 ∨ f = 21 ∨ f = 22 ∨ f = 40 ∨ f = 41 ∨ f = 46 ∨ f = 38 ∨ (f = 44 ∧ i = 0) ∨ (50 ≤ f ∧ f ≤ 63)) → sp_ct N X f i = X f i) := by
  obtain ⟨⟨c1, c2, c3, c4⟩, c5, c5b, c6, c7⟩ := CTI.all nw hp.1 hp.2.1 hp.2.2.1 hp.2.2.2 (nB N) (Nat.le_refl _)
  have hup : ∀ e, up N (sp_ct N X) e = up N X e := fun e => up_of (fun i => c6 20 i (by omega)) (fun i => c6 40 i (by omega))
  refine ⟨⟨⟨c1, c2, fun b hb ho => c4 b hb ho (Or.inl hb)⟩, fun q hq => ?_, fun b h p hb hh hp hx => ?_⟩, c5b, c6⟩
  · rw [hup, show sp_ct N X 60 q = X 60 q from c6 60 q (by omega), show sp_ct N X 61 q = X 61 q from c6 61 q (by omega), show sp_ct N X 50 q = X 50 q from c6 50 q (by omega)]
    exact hm q hq
  · rw [hup]
    rcases c7 (b * 8 + h) with x | x
    · exact ha b h p hb hh hp (by rw [← x]; exact hx)
    · have x : sp_ct N X 42 (b * 8 + h) = -1 := x
      rw [x] at hx
      exfalso
      have p6 := nw.p6 hb
      have h3 : (-1 : Int32).toInt = -1 := by decide
      have := (congrArg Int32.toInt hx).symm
      rw [h3, nI_toInt (by omega)] at this
      omega
theorem sqd_f (h1 : f ≠ 42) (h2 : f ≠ 60) : sq_down N e S f i = sp_clr e 0 S f i := by
  unfold sq_down
  rw [forget_cl, if_neg (fun x => h1 x.1), dm_f, if_neg (fun x => h2 x.1)]
theorem sqd_42 : sq_down N e S 42 i = if i / 8 = bo N e ∧ S 42 i = nI (po N e) then -1 else S 42 i := by
  have z : sp_dm e (sp_clr e 0 S) 42 i = S 42 i := by rw [dm_f, if_neg (by omega), clr_f, if_neg (by omega)]
  unfold sq_down
  rw [forget_cl, z]
  by_cases c : i / 8 = bo N e ∧ S 42 i = nI (po N e)
  · rw [if_pos ⟨rfl, c⟩, if_pos c]
  · rw [if_neg (fun x => c x.2), if_neg c]
theorem sqd_60 : sq_down N e S 60 i = if i / 3 = e then 0 else S 60 i := by
  unfold sq_down
  rw [forget_cl, if_neg (by omega), dm_f]
  by_cases c : i / 3 = e
  · rw [if_pos ⟨rfl, c⟩, if_pos c]
  · rw [if_neg (fun x => c x.2), if_neg c, clr_f, if_neg (by omega)]
theorem rqd_f (h1 : f ≠ 42) (h2 : f < 61 ∨ 63 < f) : rq_down N e S f i = sp_clr e 0 S f i := by
  unfold rq_down
  rw [dropL_f h2, forget_cl, if_neg (fun x => h1 x.1)]
theorem rqd_42 : rq_down N e S 42 i = if i / 8 = bo N e ∧ S 42 i = nI (po N e) then -1 else S 42 i := by
  have z : sp_clr e 0 S 42 i = S 42 i := by rw [clr_f, if_neg (by omega)]
  unfold rq_down
  rw [dropL_f (by omega), forget_cl, z]
  by_cases c : i / 8 = bo N e ∧ S 42 i = nI (po N e)
  · rw [if_pos ⟨rfl, c⟩, if_pos c]
  · rw [if_neg (fun x => c x.2), if_neg c]
theorem fc_61 : sp_forget N e (sp_clr e 0 S) 61 i = S 61 i := by rw [forget_cl, if_neg (by omega), clr_f, if_neg (by omega)]
theorem rqd_61 : rq_down N e S 61 i = if i / 3 / 2 = e / 2 then 0 else S 61 i := by
  unfold rq_down
  rw [dropL_61, fc_61]
theorem sqd_61 : sq_down N e S 61 i = S 61 i := by rw [sqd_f (by omega) (by omega), clr_f, if_neg (by omega)]
theorem filt2 (p : Nat → Bool) (l : List Nat) : (l.filter p).filter p = l.filter p := by
  rw [List.filter_filter]
  simp only [Bool.and_self]
theorem dropL_v (hf : f = 62 ∨ f = 63) (h : lS S' = (lS S).filter (fun q => !(decide (q / 3 / 2 = l)))) : dropL l S' f i = dropL l S f i := by
  have h3 := filt2 (fun q => !(decide (q / 3 / 2 = l))) (lS S)
  rw [← h] at h3
  rcases hf with rfl | rfl
  · show nI (((lS S').filter (fun q => !(decide (q / 3 / 2 = l)))).getD i 0) = nI (((lS S).filter (fun q => !(decide (q / 3 / 2 = l)))).getD i 0)
    rw [h3, h]
  · show nI ((lS S').filter (fun q => !(decide (q / 3 / 2 = l)))).length = nI ((lS S).filter (fun q => !(decide (q / 3 / 2 = l)))).length
    rw [h3, h]
theorem fc_ls : lS (sp_forget N e (sp_clr e 0 S)) = lS S := lS_eq (fun i => by rw [forget_cl, if_neg (by omega), clr_f, if_neg (by omega)]) (by rw [forget_cl, if_neg (by omega), clr_f, if_neg (by omega)])
theorem sqd_ls : lS (sq_down N e S) = lS S := lS_eq (fun i => by rw [sqd_f (by omega) (by omega), clr_f, if_neg (by omega)]) (by rw [sqd_f (by omega) (by omega), clr_f, if_neg (by omega)])
/-- lists short enough -/
def SL (S : zS) : Prop := (lS S).length < 2 ^ 31 ∧ ∀ q ∈ lS S, q < 2 ^ 31
theorem MS.sl (q : MS N m B ν0 ν S) : SL S := ⟨by have := q.ll; omega, fun t ht => by
  have m11 := q.1.2.2.2.2.2.2.2.2.2.2.2
  have := ((m11.2.1 t).mp ht).1
  have := q.nw.l14
  omega⟩
theorem dropL_ls (h : SL S) : lS (dropL l S) = (lS S).filter (fun q => !(decide (q / 3 / 2 = l))) := by
  unfold dropL
  exact lS_set (Nat.lt_of_le_of_lt (List.length_filter_le _ _) h.1) (fun q hq => h.2 q (List.mem_filter.mp hq).1)
theorem dropL_l (hf : f = 62 ∨ f = 63) (h : lS S' = lS S) : dropL l S' f i = dropL l S f i := by
  rcases hf with rfl | rfl
  · show nI (((lS S').filter _).getD i 0) = nI (((lS S).filter _).getD i 0)
    rw [h]
  · show nI ((lS S').filter _).length = nI ((lS S).filter _).length
    rw [h]
theorem SL.eq (h : SL S) (h2 : lS S' = lS S) : SL S' := by unfold SL; rw [h2]; exact h
theorem SL.drop (h : SL S) : SL (dropL l S) := by
  unfold SL
  rw [dropL_ls h]
  exact ⟨Nat.lt_of_le_of_lt (List.length_filter_le _ _) h.1, fun q hq => h.2 q (List.mem_filter.mp hq).1⟩
/-- both ends of a link go down: the reference's way and the class's -/
theorem down2_em (hs : SL S) : EM (rq_down N (2 * l + 1) (rq_down N (2 * l) S)) (dropL l (sq_down N (2 * l + 1) (sq_down N (2 * l) S))) := by
  intro f i h47 h49 h60 h33 h11
  have d0 : 2 * l / 2 = l := by omega
  have d1 : (2 * l + 1) / 2 = l := by omega
  by_cases c61 : f = 61
  · subst c61
    rw [dropL_61, rqd_61, d1, rqd_61, d0, sqd_61, sqd_61]
    by_cases c : i / 3 / 2 = l
    · rw [if_pos c, if_pos c]
    · rw [if_neg c, if_neg c]
  · by_cases c62 : f = 62 ∨ f = 63
    · have e1 : lS (sq_down N (2 * l + 1) (sq_down N (2 * l) S)) = lS S := sqd_ls.trans sqd_ls
      have e2 : lS (sp_forget N (2 * l + 1) (sp_clr (2 * l + 1) 0 (rq_down N (2 * l) S))) = (lS S).filter (fun q => !(decide (q / 3 / 2 = l))) := by
        rw [fc_ls]
        unfold rq_down
        rw [d0, dropL_ls (hs.eq fc_ls), fc_ls]
      have e3 : rq_down N (2 * l + 1) (rq_down N (2 * l) S) = dropL l (sp_forget N (2 * l + 1) (sp_clr (2 * l + 1) 0 (rq_down N (2 * l) S))) := by
        rw [rq_down, d1]
      rw [e3, dropL_v c62 e2, dropL_l c62 e1]
    · rw [dropL_f (by omega)]
      by_cases c42 : f = 42
      · subst c42
        rw [sqd_42, rqd_42, sqd_42, rqd_42]
      · rw [sqd_f c42 h60, rqd_f c42 (by omega), clr_f, clr_f, sqd_f c42 h60, rqd_f c42 (by omega)]
end zR19
