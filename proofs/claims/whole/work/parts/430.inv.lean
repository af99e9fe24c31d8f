/-! SPEC: what holds always -/
def SV (S : zS) : Prop := ∀ i, ¬ S 2 i < 0 ∧ ¬ S 3 i < 0 ∧ ¬ S 27 i < 0 ∧ (S 10 i = 1 → ¬ S 16 i < 1)
def clr (S : zS) (e : Nat) : Prop := ∀ k, k ≤ 10 → S k e = 0
/-- not a port that is down and clear -/
def live (N : zN) (S : zS) (e : Nat) : Prop := up N S e = true ∨ ∃ k, k ≤ 10 ∧ S k e ≠ 0
def OK (N : zN) (S S' : zS) : Prop := only XG S S' ∧ (SV S → SV S') ∧ (∀ e, up N S e = false → clr S e → clr S' e) ∧ (∀ i, S' 42 i = S 42 i ∨ S' 42 i = -1) ∧ ∀ f i, 50 ≤ f → f ≤ 63 → S' f i = S f i
section zI0
variable {N : zN} {S S1 S2 S' : zS} {e b p q : Nat} {v : Int32}
theorem up_eq (h : only XG S S') : up N S' e = up N S e := by
  unfold up
  rw [h 40 _ (by unfold XG; omega), h 20 _ (by unfold XG; omega), h 20 _ (by unfold XG; omega)]
theorem OK.rf : OK N S S := ⟨only.rf, fun h => h, fun _ _ h => h, fun _ => Or.inl rfl, fun _ _ _ _ => rfl⟩
theorem OK.tr (h : OK N S S1) (h2 : OK N S1 S2) : OK N S S2 := ⟨h.1.tr h2.1, fun x => h2.2.1 (h.2.1 x), fun e u c => h2.2.2.1 e (by rw [up_eq h.1]; exact u) (h.2.2.1 e u c), fun i => by
    rcases h2.2.2.2.1 i with x | x
    · rw [x]; exact h.2.2.2.1 i
    · exact Or.inr x, fun f i h1 h3 => (h2.2.2.2.2 f i h1 h3).trans (h.2.2.2.2 f i h1 h3)⟩
theorem OK.it {c : Prop} [Decidable c] (h1 : c → OK N S S1) (h2 : ¬ c → OK N S S2) : OK N S (if c then S1 else S2) := by
  by_cases q : c
  · rw [if_pos q]; exact h1 q
  · rw [if_neg q]; exact h2 q
theorem OK.pf {g : Nat → zS → zS} {n : Nat} (h : ∀ i S', i < n → only XG S S' → OK N S' (g i S')) : OK N S (pfold g n S) := by
  induction n with
  | zero => exact OK.rf
  | succ n ih =>
    have h1 := ih (fun i S' hi hx => h i S' (by omega) hx)
    exact h1.tr (h n _ (by omega) h1.1)
theorem live.up (h : up N S e = true) : live N S e := Or.inl h
/-- a number of a port that is up (or has something) -/
theorem OK.z (hl : live N S q) {f : Nat} (hf : f ≤ 10) (hv : f = 2 ∨ f = 3 → ¬ v < 0) (h10 : f = 10 → v ≠ 1) : OK N S (zu S f q v) := by
  refine ⟨onz (by unfold XG; omega), fun h i => ?_, fun e u c k hk => ?_, fun i => Or.inl (if_neg (by omega)), fun f' i h1 h2 => if_neg (by omega)⟩
  · obtain ⟨a1, a2, a3, a4⟩ := h i
    refine ⟨?_, ?_, by rw [show zu S f q v 27 i = S 27 i from if_neg (by omega)]; exact a3, ?_⟩
    · show ¬ (if 2 = f ∧ i = q then v else S 2 i) < 0
      split
      · exact hv (by omega)
      · exact a1
    · show ¬ (if 3 = f ∧ i = q then v else S 3 i) < 0
      split
      · exact hv (by omega)
      · exact a2
    · intro x
      rw [show zu S f q v 16 i = S 16 i from if_neg (by omega)]
      have x : (if 10 = f ∧ i = q then v else S 10 i) = 1 := x
      split at x
      · rename_i y; exact absurd x (h10 (by omega))
      · exact a4 x
  · have hne : e ≠ q := by
      intro x
      subst x
      rcases hl with hl | ⟨k', hk', hl⟩
      · rw [u] at hl; cases hl
      · exact hl (c k' hk')
    show (if k = f ∧ e = q then v else S k e) = 0
    rw [if_neg (fun x => hne x.2)]; exact c k hk
theorem OK.zf {f i : Nat} (hf : f = 44 ∧ (i = 1 ∨ i = 3) ∨ f = 45 ∨ f = 43 ∨ f = 48 ∨ f = 49 ∨ (11 ≤ f ∧ f ≤ 15) ∨ (23 ≤ f ∧ f ≤ 26) ∨ (28 ≤ f ∧ f ≤ 37)) : OK N S (zu S f i v) := by
  have z : ∀ f' i', f' ≠ f → zu S f i v f' i' = S f' i' := fun f' i' h => if_neg (fun x => h x.1)
  exact ⟨onz (by unfold XG; omega), fun h j => by rw [z 2 _ (by omega), z 3 _ (by omega), z 27 _ (by omega), z 10 _ (by omega), z 16 _ (by omega)]; exact h j, fun e u c k hk => by rw [z k e (by omega)]; exact c k hk, fun j => Or.inl (z 42 _ (by omega)), fun f' j h1 h2 => z _ _ (by omega)⟩
theorem OK.z42 {i : Nat} : OK N S (zu S 42 i (-1)) := by
  have z : ∀ f' i', f' ≠ 42 → zu S 42 i (-1) f' i' = S f' i' := fun f' i' h => if_neg (fun x => h x.1)
  refine ⟨onz (by unfold XG; omega), fun h j => by rw [z 2 _ (by omega), z 3 _ (by omega), z 27 _ (by omega), z 10 _ (by omega), z 16 _ (by omega)]; exact h j, fun e u c k hk => by rw [z k e (by omega)]; exact c k hk, fun j => ?_, fun f' j h1 h2 => z _ _ (by omega)⟩
  show (if 42 = 42 ∧ j = i then _ else S 42 j) = _ ∨ (if 42 = 42 ∧ j = i then _ else S 42 j) = _
  split
  · exact Or.inr rfl
  · exact Or.inl rfl
theorem OK.z27 {i : Nat} (hv : ¬ v < 0) : OK N S (zu S 27 i v) := by
  have z : ∀ f' i', f' ≠ 27 → zu S 27 i v f' i' = S f' i' := fun f' i' h => if_neg (fun x => h x.1)
  refine ⟨onz (by unfold XG; omega), fun h j => ?_, fun e u c k hk => by rw [z k e (by omega)]; exact c k hk, fun j => Or.inl (z 42 _ (by omega)), fun f' j h1 h2 => z _ _ (by omega)⟩
  obtain ⟨a1, a2, a3, a4⟩ := h j
  rw [z 2 _ (by omega), z 3 _ (by omega), z 10 _ (by omega), z 16 _ (by omega)]
  refine ⟨a1, a2, ?_, a4⟩
  show ¬ (if 27 = 27 ∧ j = i then v else S 27 j) < 0
  split
  · exact hv
  · exact a3
theorem nn {n : Nat} (h : n < 2 ^ 31) : ¬ nI n < 0 := nI_pos h
theorem nn1 {x : Int32} (h : ¬ x < 0) (h1 : ceq x 0 = false) : ¬ x - 1 < 0 := by
  obtain ⟨j, hj, rfl⟩ := nI_of h
  cases j with
  | zero => exact absurd h1 (by decide)
  | succ j => rw [nI_pred]; exact nI_pos (by omega)
theorem pos_ne {x : Int32} (h : ¬ x < 0) : clt 0 x = !(ceq x 0) := by
  obtain ⟨j, hj, rfl⟩ := nI_of h
  rw [show (0 : Int32) = nI 0 from rfl, clt_nI (by omega) hj, ceq_nI hj (by omega)]
  by_cases c : j = 0
  · subst c; rfl
  · rw [decide_eq_true (by omega), decide_eq_false c]; rfl
theorem forget_k : OK N S (sp_forget N e S) := by
  unfold sp_forget
  exact OK.pf (fun h S' _ _ => OK.it (fun _ => OK.z42) (fun _ => OK.rf))
theorem row_k : OK N S (sp_row N e v S) := by
  have z : ∀ f' i', f' ≠ 45 → f' ≠ 44 → sp_row N e v S f' i' = S f' i' := fun f' i' h h2 => row_o f' i' (by omega)
  exact ⟨row_o.mono (fun f i x => by unfold XG; omega), fun h j => by rw [z 2 _ (by omega) (by omega), z 3 _ (by omega) (by omega), z 27 _ (by omega) (by omega), z 10 _ (by omega) (by omega), z 16 _ (by omega) (by omega)]; exact h j, fun e u c k hk => by rw [z k e (by omega) (by omega)]; exact c k hk, fun j => Or.inl (z 42 _ (by omega) (by omega)), fun f' j h1 h2 => z _ _ (by omega) (by omega)⟩
theorem enter_k (hl : live N S e) : OK N S (sp_enter N e v S) := by
  have h1 : OK N S (zu S 1 e v) := OK.z hl (by omega) (fun x => by omega) (fun x => by omega)
  unfold sp_enter
  exact OK.it (fun _ => h1) (fun _ => h1.tr row_k)
theorem shut_k (hu : up N S e = true) : OK N S (sp_shut N e S) := by
  unfold sp_shut
  exact OK.it (fun _ => OK.rf) (fun _ => (enter_k (Or.inl hu)).tr forget_k)
theorem spread_k (nw : NW N) : OK N S (sp_spread N e S) := by
  have h1 : OK N S (pfold (sp_spr1 N e (bo N e)) (nP N (bo N e)) S) := OK.pf (fun p S' _ _ => by
    unfold sp_spr1
    refine OK.it (fun c => ?_) (fun _ => OK.rf)
    have hl : live N S' (eo N (bo N e) p) := Or.inr ⟨0, by omega, fun x => by
      rw [x] at c
      simp [show ceq (0 : Int32) 1 = false from rfl, show ceq (0 : Int32) 2 = false from rfl] at c⟩
    have k1 : OK N S' (zu S' 3 (eo N (bo N e) p) 2) := OK.z hl (by omega) (fun _ => by decide) (fun x => by omega)
    exact k1.tr (OK.z (Or.inr ⟨3, by omega, by rw [show zu S' 3 (eo N (bo N e) p) 2 3 (eo N (bo N e) p) = 2 from if_pos ⟨rfl, rfl⟩]; decide⟩) (by omega) (fun x => by omega) (fun x => by omega)))
  have ag := nw.ag; have dl := nw.dl
  unfold sp_spread
  refine OK.it (fun _ => h1.tr (OK.z27 (nn (by omega)))) (fun _ => h1.tr (OK.pf (fun h S' _ _ => ?_)))
  unfold sp_spr2
  exact OK.it (fun _ => OK.rf) (fun _ => OK.it (fun _ => OK.rf) (fun _ => OK.z42.tr (OK.zf (Or.inl ⟨rfl, Or.inl rfl⟩))))
theorem OK.zu (h : OK N S S1) (hu : up N S q = true) {f : Nat} (hf : f ≤ 10) (hv : f = 2 ∨ f = 3 → ¬ v < 0 := by intro x; omega) (h10 : f = 10 → v ≠ 1 := by intro x; omega) : OK N S (zu S1 f q v) := h.tr (OK.z (Or.inl (by rw [up_eq h.1]; exact hu)) hf hv h10)
end zI0
