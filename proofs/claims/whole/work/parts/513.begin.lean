/-! A NET BEGINS: what holds then -/
/-- nothing is learnt, nothing was flushed, no row is kept, all is beginning -/
def Fz0 (S : zS) : Prop := (∀ i, S 42 i = -1) ∧ S 44 1 = 0 ∧ S 44 3 = 0 ∧ S 46 0 = 1
section zF3
variable {N : zN} {S S' A D : zS} {a b e p k n l f i st : Nat} {x : Int32} {c : Prop} {H : Nat → Int32}
theorem Fz0.w (h : Fz0 S) (hf : f ≠ 42 ∧ f ≠ 44 ∧ f ≠ 46) : Fz0 (zu S f i x) := by
  have z : ∀ g j, g = 42 ∨ g = 44 ∨ g = 46 → zu S f i x g j = S g j := fun g j hg => if_neg (by omega)
  refine ⟨fun j => ?_, ?_, ?_, ?_⟩
  · rw [z _ _ (by omega)]; exact h.1 j
  · rw [z _ _ (by omega)]; exact h.2.1
  · rw [z _ _ (by omega)]; exact h.2.2.1
  · rw [z _ _ (by omega)]; exact h.2.2.2
theorem Fz0.pf {g : Nat → zS → zS} (hg : ∀ k S, k < n → Fz0 S → Fz0 (g k S)) (h : Fz0 S) : Fz0 (pfold g n S) := by
  induction n with
  | zero => exact h
  | succ n ih => exact hg n _ (by omega) (ih (fun k S hk => hg k S (by omega)))
theorem Fz0.it [Decidable c] (h1 : Fz0 A) (h2 : Fz0 D) : Fz0 (if c then A else D) := by
  by_cases q : c
  · rw [if_pos q]; exact h1
  · rw [if_neg q]; exact h2
theorem Fz0.enter (h : Fz0 S) : Fz0 (sp_enter N e x S) := by
  unfold sp_enter
  rw [if_pos (ceq_t h.2.2.2)]
  exact h.w (by omega)
theorem Fz0.forget (h : Fz0 S) : Fz0 (sp_forget N e S) := by
  refine ⟨fun j => ?_, ?_, ?_, ?_⟩
  · rw [forget_cl]
    split
    · rfl
    · exact h.1 j
  · rw [forget_cl, if_neg (by omega)]; exact h.2.1
  · rw [forget_cl, if_neg (by omega)]; exact h.2.2.1
  · rw [forget_cl, if_neg (by omega)]; exact h.2.2.2
theorem Fz0.shut (h : Fz0 S) : Fz0 (sp_shut N e S) := by
  unfold sp_shut
  exact Fz0.it h h.enter.forget
theorem Fz0.spr1 (h : Fz0 S) : Fz0 (sp_spr1 N e a p S) := by
  unfold sp_spr1
  exact Fz0.it ((h.w (by omega)).w (by omega)) h
theorem Fz0.spr2 (h : Fz0 S) : Fz0 (sp_spr2 N e a p S) := by
  unfold sp_spr2
  rw [h.1, show ceq (-1 : Int32) (-1) = true from rfl, Bool.true_or, Bool.true_or, if_pos rfl]
  exact h
theorem Fz0.spread (h : Fz0 S) : Fz0 (sp_spread N e S) := by
  have h1 : Fz0 (pfold (sp_spr1 N e (bo N e)) (nP N (bo N e)) S) := Fz0.pf (fun k S hk h => h.spr1) h
  unfold sp_spread
  exact Fz0.it (h1.w (by omega)) (Fz0.pf (fun k S hk h => h.spr2) h1)
theorem Fz0.opn (h : Fz0 S) : Fz0 (sp_open N e S) := by
  have h1 : Fz0 (zu (sp_enter N e 2 S) 2 e 0) := h.enter.w (by omega)
  unfold sp_open
  exact Fz0.it h (Fz0.it h1 (Fz0.spread ((h1.w (by omega)).w (by omega))))
theorem Fz0.lead (h : Fz0 S) (o : Option Nat) : Fz0 (sp_lead N a o S) := by
  cases o with
  | none => exact (((((h.w (by omega)).w (by omega)).w (by omega)).w (by omega)).w (by omega)).w (by omega)
  | some p => exact (((((h.w (by omega)).w (by omega)).w (by omega)).w (by omega)).w (by omega)).w (by omega)
theorem Fz0.roles (h : Fz0 S) : Fz0 (sp_roles N a S) := by
  unfold sp_roles
  exact Fz0.pf (fun k S hk h => ((h.w (by omega)).w (by omega)).w (by omega)) h
theorem Fz0.setl (h : Fz0 S) : Fz0 (sp_setl N a x p S) := by
  unfold sp_setl
  have g : ∀ {S f i x}, Fz0 S → (f ≠ 42 ∧ f ≠ 44 ∧ f ≠ 46) → Fz0 (zu S f i x) := fun h hf => Fz0.w h hf
  refine Fz0.it (Fz0.it (Fz0.it (g (g h (by omega)) (by omega)) (g h (by omega))) (Fz0.opn (g h (by omega)))) (Fz0.it (Fz0.it (Fz0.it (g (Fz0.it (g (g h (by omega)) (by omega)) (g (g (g h (by omega)) (by omega)) (by omega))) (by omega)) (Fz0.it (g (g h (by omega)) (by omega)) (g (g (g h (by omega)) (by omega)) (by omega)))) (Fz0.it (Fz0.opn (g (g (g (g h (by omega)) (by omega)) (by omega)) (by omega))) (Fz0.shut (g (g (g (g (g h (by omega)) (by omega)) (by omega)) (by omega)) (by omega))))) (Fz0.it h (Fz0.shut (g (g (g (g h (by omega)) (by omega)) (by omega)) (by omega)))))
theorem Fz0.choose (h : Fz0 S) : Fz0 (sp_choose N a S) := by
  unfold sp_choose sp_end
  have h1 : Fz0 (sp_ch1 N a S) := by
    unfold sp_ch1 sp_bef
    exact (Fz0.lead ((((h.w (by omega)).w (by omega)).w (by omega)).w (by omega)) _).roles
  exact (((Fz0.pf (fun k S hk h => h.setl) h1).w (by omega)).w (by omega)).w (by omega)
theorem Fz0.ct (h : Fz0 S) : Fz0 (sp_ct N S) := by
  unfold sp_ct
  refine Fz0.pf (fun k S hk h => ?_) h
  unfold sp_ct1
  exact Fz0.w (Fz0.it h.choose h) (by omega)
/-! closed forms -/
theorem bgc_60 : ∀ n, pfold (bgc N) n S 60 i = if i / 3 < n then 0 else S 60 i
  | 0 => (if_neg (by omega)).symm
  | n + 1 => by
    have ih := bgc_60 n
    show bgc N n (pfold (bgc N) n S) 60 i = _
    generalize pfold (bgc N) n S = Y at *
    unfold bgc
    rw [clr_f, if_neg (by omega), dm_f, ih]
    by_cases c2 : i / 3 = n
    · rw [if_pos ⟨rfl, c2⟩, if_pos (show i / 3 < n + 1 by omega)]
    · rw [if_neg (fun x => c2 x.2)]
      by_cases c3 : i / 3 < n
      · rw [if_pos c3, if_pos (show i / 3 < n + 1 by omega)]
      · rw [if_neg c3, if_neg (show ¬ i / 3 < n + 1 by omega)]
theorem bgc_f (h60 : f ≠ 60) : ∀ n, pfold (bgc N) n S f i = if i < n ∧ (f ≤ 10 ∨ f = 15 ∨ f = 16 ∨ f = 49) then (if f = 5 then nI (tE N i) else 0) else S f i
  | 0 => (if_neg (by omega)).symm
  | n + 1 => by
    have ih := bgc_f h60 n
    show bgc N n (pfold (bgc N) n S) f i = _
    generalize pfold (bgc N) n S = Y at *
    have e : sp_dm n Y f i = Y f i := by rw [dm_f, if_neg (fun x => h60 x.1)]
    unfold bgc
    rw [clr_f, e, ih]
    by_cases ck : f ≤ 10 ∨ f = 15 ∨ f = 16 ∨ f = 49
    · by_cases c2 : i = n
      · rw [if_pos (show i = n ∧ (f ≤ 10 ∨ f = 15 ∨ f = 16 ∨ f = 49) from ⟨c2, ck⟩), if_pos (show i < n + 1 ∧ (f ≤ 10 ∨ f = 15 ∨ f = 16 ∨ f = 49) from ⟨by omega, ck⟩), c2]
      · rw [if_neg (show ¬ (i = n ∧ (f ≤ 10 ∨ f = 15 ∨ f = 16 ∨ f = 49)) from fun x => c2 x.1)]
        by_cases c3 : i < n
        · rw [if_pos (show i < n ∧ (f ≤ 10 ∨ f = 15 ∨ f = 16 ∨ f = 49) from ⟨c3, ck⟩), if_pos (show i < n + 1 ∧ (f ≤ 10 ∨ f = 15 ∨ f = 16 ∨ f = 49) from ⟨by omega, ck⟩)]
        · rw [if_neg (show ¬ (i < n ∧ (f ≤ 10 ∨ f = 15 ∨ f = 16 ∨ f = 49)) from fun x => c3 x.1), if_neg (show ¬ (i < n + 1 ∧ (f ≤ 10 ∨ f = 15 ∨ f = 16 ∨ f = 49)) from fun x => c3 (by have := x.1; omega))]
    · rw [if_neg (fun x => ck x.2), if_neg (fun x => ck x.2), if_neg (fun x => ck x.2)]
theorem bgt_f : ∀ n, pfold bgt n S f i = if f = 47 ∧ i < n then 1 else if f = 27 ∧ i < n then 0 else S f i
  | 0 => by rw [if_neg (by omega), if_neg (by omega)]; rfl
  | n + 1 => by
    show bgt n (pfold bgt n S) f i = _
    have ih := bgt_f n
    unfold bgt zu at *
    rw [ih]
    by_cases c : f = 47 ∧ i = n
    · rw [if_pos c, if_pos (by omega)]
    · rw [if_neg c]
      by_cases c2 : f = 27 ∧ i = n
      · rw [if_pos c2, if_neg (by omega), if_pos (by omega)]
      · rw [if_neg c2]
        by_cases c3 : f = 47 ∧ i < n
        · rw [if_pos c3, if_pos (by omega)]
        · rw [if_neg c3]
          by_cases c4 : f = 27 ∧ i < n
          · rw [if_pos c4, if_neg (by omega), if_pos (by omega)]
          · rw [if_neg c4, if_neg (by omega), if_neg (by omega)]
theorem xb_o (h1 : f ≠ 47) (h2 : f ≠ 27) (h3 : f ≠ 60) (h4 : (f ≤ 10 ∨ f = 15 ∨ f = 16 ∨ f = 49) → ¬ i < 2 * nL N) : xbg N H S f i = bg1 N H S f i := by
  unfold xbg
  rw [bgt_f, if_neg (fun x => h1 x.1), if_neg (fun x => h2 x.1), bgc_f h3, if_neg (fun x => h4 x.2 x.1)]
theorem xb_k (hk : f ≤ 10 ∨ f = 15 ∨ f = 16 ∨ f = 49) (hi : i < 2 * nL N) : xbg N H S f i = if f = 5 then nI (tE N i) else 0 := by
  unfold xbg
  rw [bgt_f, if_neg (by omega), if_neg (by omega), bgc_f (by omega), if_pos (show i < 2 * nL N ∧ (f ≤ 10 ∨ f = 15 ∨ f = 16 ∨ f = 49) from ⟨hi, hk⟩)]
theorem xb_60 : xbg N H S 60 i = if i / 3 < 2 * nL N then 0 else S 60 i := by
  unfold xbg
  rw [bgt_f, if_neg (by omega), if_neg (by omega), bgc_60, bg1_o (by omega)]
theorem xb_27 : xbg N H S 27 i = if i < nB N then 0 else S 27 i := by
  unfold xbg
  rw [bgt_f, if_neg (by omega)]
  by_cases c : i < nB N
  · rw [if_pos ⟨rfl, c⟩, if_pos c]
  · rw [if_neg (fun x => c x.2), if_neg c, bgc_f (by omega), if_neg (by omega), bg1_o (by omega)]
theorem xb_47 : xbg N H S 47 i = if i < nB N then 1 else S 47 i := by
  unfold xbg
  rw [bgt_f]
  by_cases c : i < nB N
  · rw [if_pos ⟨rfl, c⟩, if_pos c]
  · rw [if_neg (fun x => c x.2), if_neg c, if_neg (by omega), bgc_f (by omega), if_neg (by omega), bg1_o (by omega)]
theorem xb_fz : Fz0 (xbg N H S) := ⟨fun j => by rw [xb_o (by omega) (by omega) (by omega) (by omega)]; rfl, by rw [xb_o (by omega) (by omega) (by omega) (by omega)]; rfl, by rw [xb_o (by omega) (by omega) (by omega) (by omega)]; rfl, by rw [xb_o (by omega) (by omega) (by omega) (by omega)]; rfl⟩
theorem xb_up (nw : NW N) (he : e < 2 * nL N) : up N (xbg N H S) e = true := by
  have x1 := nw.bo_b he
  have x2 := nw.bo_b (fe_lt he)
  unfold up
  rw [xb_o (by omega) (by omega) (by omega) (by omega), xb_o (by omega) (by omega) (by omega) (by omega), xb_o (by omega) (by omega) (by omega) (by omega), bg40, bg20, bg20, if_pos (by omega), if_pos x1, if_pos x2]; rfl
theorem xb_inv (nw : NW N) (sv : SV S) : CTP N (xbg N H S) ∧ MI N 0 (xbg N H S) ∧ AD N (xbg N H S) := by
  refine ⟨⟨fun i => ?_, fun e he hu => ?_, fun b hb ho => ⟨fun h => ?_, fun h p hp => ?_⟩, fun b hb ho h47 => ?_⟩, fun q hq => ?_, fun b h p hb hh hp hx => ?_⟩
  · obtain ⟨s1, s2, s3, s4⟩ := sv i
    have v27 : ¬ xbg N H S 27 i < 0 := by
      rw [xb_27]; split
      · decide
      · exact s3
    by_cases c : i < 2 * nL N
    · refine ⟨?_, ?_, v27, fun h => ?_⟩
      · rw [xb_k (f := 2) (by omega) c, if_neg (by omega)]; decide
      · rw [xb_k (f := 3) (by omega) c, if_neg (by omega)]; decide
      · rw [xb_k (f := 10) (by omega) c, if_neg (by omega)] at h
        exact absurd h (by decide)
    · refine ⟨?_, ?_, v27, fun h => ?_⟩
      · rw [xb_o (f := 2) (by omega) (by omega) (by omega) (fun _ => c), bg1_o (by omega)]; exact s1
      · rw [xb_o (f := 3) (by omega) (by omega) (by omega) (fun _ => c), bg1_o (by omega)]; exact s2
      · rw [xb_o (f := 10) (by omega) (by omega) (by omega) (fun _ => c), bg1_o (by omega)] at h
        rw [xb_o (f := 16) (by omega) (by omega) (by omega) (fun _ => c), bg1_o (by omega)]; exact s4 h
  · rw [xb_up nw he] at hu; cases hu
  · rw [xb_o (by omega) (by omega) (by omega) (by omega)] at h
    exact absurd h (show ¬ (0 : Int32) = 1 by decide)
  · rw [xb_k (by omega) (nw.eo_l hb hp), if_neg (by omega)]
  · rw [xb_47, if_pos hb] at h47
    exact absurd rfl h47
  · have e60 : xbg N H S 60 q = 0 := by rw [xb_60, if_pos (by omega)]
    have e61 : xbg N H S 61 q = 0 := by rw [xb_o (by omega) (by omega) (by omega) (by omega)]; rfl
    rw [e60, e61]
    exact ⟨rfl, Or.inl rfl, fun h => absurd h (by decide)⟩
  · rw [xb_fz.1] at hx
    exact absurd hx (m1_ne (by have := nw.p6 hb; omega))
end zF3
