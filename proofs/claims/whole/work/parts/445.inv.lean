/-! SPEC: what holds always, through messages -/
section zI4
variable {N : zN} {S S1 S2 S' : zS} {e b b' p q t st : Nat} {v : Int32}
/-- of a bridge: its ports' fields below 10 but the role, and so on: what leaves BR as it is -/
def XL (N : zN) (b f i : Nat) : Prop := XT N b f i ∧ f ≠ 0 ∧ f ≠ 10 ∧ ¬ (23 ≤ f ∧ f ≤ 26) ∧ ¬ (28 ≤ f ∧ f ≤ 37)
theorem XO.l {f i : Nat} (h : XO N b f i) : XL N b f i := ⟨h.t, by rcases h with h | h | h | h | h <;> omega⟩
theorem XL.pt {f : Nat} (hf : f ≤ 9) (h0 : f ≠ 0) (hp : p < nP N b) : XL N b f (eo N b p) := ⟨XT.pt (by omega) hp, by omega⟩
theorem XL.ee {f : Nat} (nw : NW N) (he : e < 2 * nL N) (hf : f ≤ 9) (h0 : f ≠ 0) : XL N (bo N e) f e := by
  have := XL.pt (N := N) (b := bo N e) hf h0 (nw.po_p he)
  rw [nw.eo_e he] at this; exact this
theorem isr_l (nw : NW N) (he : e < 2 * nL N) : only (XL N (bo N e)) S (sp_isr N e t S) := by
  have h1 : only (XL N (bo N e)) S (if ceq (S 5 e) 1 = true then zu (sp_shut N e (zu S 5 e 0)) 2 e (nI (nDl N)) else S) := only.it (fun _ => ((onz (XL.ee nw he (by omega) (by omega))).tr ((shut_o nw he).mono (fun _ _ h => h.l))).zu (XL.ee nw he (by omega) (by omega))) (fun _ => only.rf)
  unfold sp_isr
  exact only.it (fun _ => (h1.zu (XL.ee nw he (by omega) (by omega))).zu (XL.ee nw he (by omega) (by omega))) (fun _ => h1)
theorem prop_l (nw : NW N) (he : e < 2 * nL N) : only (XL N (bo N e)) S (sp_prop N e S) := by
  unfold sp_prop
  exact ((only.it (fun _ => only.pf (fun p S hp => (take1_o nw (nw.bo_b he) hp).mono (fun _ _ h => h.l))) (fun _ => only.rf)).zu (XL.ee nw he (by omega) (by omega))).zu (XL.ee nw he (by omega) (by omega))
theorem foll_l (nw : NW N) (he : e < 2 * nL N) : only (XL N (bo N e)) S (sp_foll N e t S) := by
  have h1 : only (XL N (bo N e)) S (if ceq (S 22 (bo N e)) 1 = true then pfold (sp_mk2 N (bo N e)) (nP N (bo N e)) S else S) := only.it (fun _ => (mk2_o (Nat.le_refl _)).mono (fun _ _ h => h.l)) (fun _ => only.rf)
  have h2 : only (XL N (bo N e)) S (if hb_ (S 59 t) 8 = true then zu (if ceq (S 22 (bo N e)) 1 = true then pfold (sp_mk2 N (bo N e)) (nP N (bo N e)) S else S) 3 e 0 else (if ceq (S 22 (bo N e)) 1 = true then pfold (sp_mk2 N (bo N e)) (nP N (bo N e)) S else S)) := only.it (fun _ => h1.zu (XL.ee nw he (by omega) (by omega))) (fun _ => h1)
  unfold sp_foll
  exact only.it (fun _ => h2.tr ((spread_o nw he).mono (fun _ _ h => h.l))) (fun _ => h2)
theorem reply_l (nw : NW N) (he : e < 2 * nL N) : only (XL N (bo N e)) S (sp_reply N e t S) := by
  have h1 : only (XL N (bo N e)) S (if (hb_ (S 59 t) 2 && (((ceq (S 54 t) (S 23 (bo N e)) && ceq (S 55 t) (S 24 (bo N e))) && ceq (S 56 t) (S 31 (bo N e))) && ceq (S 57 t) (nI (po N e)))) = true then sp_open N e (zu S 4 e 1) else S) := only.it (fun _ => (onz (XL.ee nw he (by omega) (by omega))).tr ((open_o nw he).mono (fun _ _ h => h.l))) (fun _ => only.rf)
  have sp : ∀ S, only (XL N (bo N e)) S (sp_spread N e S) := fun S => (spread_o nw he).mono (fun _ _ h => h.l)
  unfold sp_reply
  exact only.it (fun _ => only.it (fun _ => only.it (fun _ => ((h1.tr (sp _)).zu (XL.ee nw he (by omega) (by omega))).zu (XL.ee nw he (by omega) (by omega))) (fun _ => h1.tr (sp _))) (fun _ => h1)) (fun _ => only.rf)
theorem cfg2_l (nw : NW N) (he : e < 2 * nL N) : only (XL N (bo N e)) S (sp_cfg2 N e t S) := by
  have h3 : only (XL N (bo N e)) S (if hb_ (S 59 t) 1 = true then sp_prop N e S else S) := only.it (fun _ => prop_l nw he) (fun _ => only.rf)
  unfold sp_cfg2
  exact only.it (fun _ => only.rf) (fun _ => only.it (fun _ => h3.tr (foll_l nw he)) (fun _ => h3))
theorem hold_t (nw : NW N) (he : e < 2 * nL N) : only (XT N (bo N e)) S (sp_hold e t S) := by
  have h : ∀ f, f ≤ 16 → XT N (bo N e) f e := fun f hf => Or.inl ⟨Or.inl hf, po N e, nw.po_p he, (nw.eo_e he).symm⟩
  unfold sp_hold
  exact ((((((onz (h _ (by omega))).zu (h _ (by omega))).zu (h _ (by omega))).zu (h _ (by omega))).zu (h _ (by omega))).zu (h _ (by omega))).zu (h _ (by omega))
theorem config_t (nw : NW N) (he : e < 2 * nL N) : only (XT N (bo N e)) S (sp_config N e t S) := by
  have hb := nw.bo_b he
  have h : ∀ f, f ≤ 16 → XT N (bo N e) f e := fun f hf => Or.inl ⟨Or.inl hf, po N e, nw.po_p he, (nw.eo_e he).symm⟩
  have ch : ∀ S, only (XT N (bo N e)) S (sp_choose N (bo N e) S) := fun S => (choose_o nw hb).mono (fun _ _ h => h.t)
  unfold sp_config
  exact only.it (fun _ => only.it (fun _ => (onz (h 10 (by omega))).tr (ch _)) (fun _ => only.rf)) (fun _ => only.it (fun _ => onz (h 9 (by omega))) (fun _ => ((hold_t nw he).tr (ch _)).tr ((cfg2_l nw he).mono (fun _ _ h => h.1))))
theorem read_t (nw : NW N) (he : e < 2 * nL N) : only (XT N (bo N e)) S (sp_read N e t S) := by
  unfold sp_read
  exact only.it (fun _ => only.it (fun _ => ((isr_l nw he).tr (reply_l nw he)).mono (fun _ _ h => h.1)) (fun _ => ((isr_l nw he).mono (fun _ _ h => h.1)).tr (config_t nw he))) (fun _ => only.rf)
theorem config_br (nw : NW N) (he : e < 2 * nL N) (h : BR N (bo N e) S) : BR N (bo N e) (sp_config N e t S) := by
  have hb := nw.bo_b he
  unfold sp_config
  split
  · split
    · exact choose_br nw hb
    · exact h
  · split
    · exact h.kp (onz (XL.ee nw he (by omega) (by omega)))
    · exact (choose_br nw hb).kp (cfg2_l nw he)
theorem read_br (nw : NW N) (he : e < 2 * nL N) (h : BR N (bo N e) S) : BR N (bo N e) (sp_read N e t S) := by
  unfold sp_read
  split
  · split
    · exact (h.kp (isr_l nw he)).kp (reply_l nw he)
    · exact config_br nw he (h.kp (isr_l nw he))
  · exact h
theorem up_on (hu : up N S e = true) : S 20 (bo N e) = 1 := by
  unfold up at hu
  have := (Bool.and_eq_true_iff.mp hu).1
  exact ceq_of (Bool.and_eq_true_iff.mp this).2
theorem INV0.read (nw : NW N) (he : e < 2 * nL N) (h : INV0 N S) (hu : up N S e = true) : INV0 N (sp_read N e t S) := by
  obtain ⟨h1, h2, h3⟩ := h
  have hb := nw.bo_b he
  have k := read_k (q := t) nw he hu h2
  refine ⟨k.2.1 h1, k.dn h2, fun b' hb' ho => ?_⟩
  rw [k.1 20 b' (by unfold XG; omega)] at ho
  by_cases c : b' = bo N e
  · subst c; exact read_br nw he (h3 _ hb' ho)
  · exact (h3 b' hb' ho).oth nw hb hb' c (read_t nw he)
theorem INV0.z60 (h : INV0 N S) {i : Nat} : INV0 N (zu S 60 i v) := ⟨fun i => h.1 i, fun e he hu k hk => (if_neg (by omega)).trans (h.2.1 e he hu k hk), fun b hb ho => (h.2.2 b hb ho).keep (fun f i hf _ => if_neg (by omega)) (fun f hf => if_neg (by omega)) (fun e => rfl)⟩
/-- what is on its way, ahead of step st -/
def MI (N : zN) (st : Nat) (S : zS) : Prop := ∀ q, q < 6 * nL N → S 60 q = S 61 q ∧ (S 60 q = 0 ∨ S 60 q = 1) ∧ (S 60 q = 1 → up N S (q / 3) = true ∧ ∃ a, S 50 q = nI a ∧ st ≤ a ∧ a < st + tks N (q / 3 / 2) ∧ a % 3 = q % 3)
/-- places as they are gone through -/
def sp_arrP (N : zN) (st P : Nat) (S : zS) : zS := if P % 6 < nP N (P / 6) then sp_arr1 N st (P / 6) (P % 6) S else S
theorem pf_add {σ : Type} (g : Nat → σ → σ) (a : Nat) : ∀ (n : Nat) (x : σ), pfold g (a + n) x = pfold (fun i x => g (a + i) x) n (pfold g a x)
  | 0, x => rfl
  | n + 1, x => by
    show g (a + n) (pfold g (a + n) x) = g (a + n) (pfold (fun i x => g (a + i) x) n (pfold g a x))
    rw [pf_add g a n x]
theorem pf_mul {σ : Type} (g : Nat → σ → σ) (k : Nat) : ∀ (n : Nat) (x : σ), pfold g (k * n) x = pfold (fun b x => pfold (fun i x => g (k * b + i) x) k x) n x
  | 0, x => rfl
  | n + 1, x => by
    rw [pf_s, ← pf_mul g k n x, Nat.mul_succ, pf_add]
theorem arrP_e (nw : NW N) : pfold (sp_arrP N st) (6 * nB N) S = sp_arr N st S := by
  rw [pf_mul]
  unfold sp_arr
  have key : ∀ n, n ≤ nB N → pfold (fun b x => pfold (fun i x => sp_arrP N st (6 * b + i) x) 6 x) n S = pfold (fun b S => pfold (sp_arr1 N st b) (nP N b) S) n S := by
    intro n
    induction n with
    | zero => intro _; rfl
    | succ n ih =>
      intro hn
      show pfold (fun i x => sp_arrP N st (6 * n + i) x) 6 (pfold (fun b x => pfold (fun i x => sp_arrP N st (6 * b + i) x) 6 x) n S) = pfold (sp_arr1 N st n) (nP N n) (pfold (fun b S => pfold (sp_arr1 N st b) (nP N b) S) n S)
      rw [ih (by omega)]
      generalize pfold (fun b S => pfold (sp_arr1 N st b) (nP N b) S) n S = S1
      show pfold (fun i x => sp_arrP N st (6 * n + i) x) 6 S1 = pfold (sp_arr1 N st n) (nP N n) S1
      have p6 := nw.p6 (b := n) (by omega)
      have e1 : ∀ k, k ≤ nP N n → pfold (fun i x => sp_arrP N st (6 * n + i) x) k S1 = pfold (sp_arr1 N st n) k S1 := by
        intro k
        induction k with
        | zero => intro _; rfl
        | succ k ih2 =>
          intro hk
          rw [pf_s, pf_s, ih2 (by omega)]
          unfold sp_arrP
          rw [show (6 * n + k) / 6 = n by omega, show (6 * n + k) % 6 = k by omega, if_pos (by omega)]
      rw [pf_ext p6 (fun i h1 h2 => ?_), e1 _ (Nat.le_refl _)]
      show sp_arrP N st (6 * n + i) _ = _
      unfold sp_arrP
      rw [show (6 * n + i) / 6 = n by omega, show (6 * n + i) % 6 = i by omega, if_neg (by omega)]
  exact key _ (Nat.le_refl _)
end zI4
