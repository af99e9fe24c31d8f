/-! A BRIDGE GOES OFF: closed forms of the reference's way -/
def rq_dn2 (N : zN) (l : Nat) (S : zS) : zS := rq_down N (2 * l + 1) (rq_down N (2 * l) S)
/-- the same with the condition of the start -/
def rq_offs (N : zN) (b : Nat) (S0 : zS) (l : Nat) (S : zS) : zS := if atb N b l S0 = true then rq_dn2 N l (zu (zu S 38 (bo N (2 * l)) 1) 38 (bo N (2 * l + 1)) 1) else S
section zR28
variable {N : zN} {m B : Nat} {ν0 ν ν' : zM} {S S0 S' X : zS} {e e1 e2 b a l h k n t st f i : Nat}
theorem rn2_f (h1 : f ≠ 42) (h2 : f ≤ 60) : rq_dn2 N l S f i = if i / 2 = l ∧ (f ≤ 10 ∨ f = 15 ∨ f = 16 ∨ f = 49) then 0 else S f i := by
  unfold rq_dn2
  rw [rqd_f h1 (by omega), clr_f, rqd_f h1 (by omega), clr_f]
  have z : (if f = 5 then (0 : Int32) else 0) = 0 := ite_self _
  rw [z]
  by_cases c : f ≤ 10 ∨ f = 15 ∨ f = 16 ∨ f = 49
  · by_cases c1 : i = 2 * l + 1
    · rw [if_pos ⟨c1, c⟩, if_pos ⟨by omega, c⟩]
    · rw [if_neg (fun x => c1 x.1)]
      by_cases c2 : i = 2 * l
      · rw [if_pos ⟨c2, c⟩, if_pos ⟨by omega, c⟩]
      · rw [if_neg (fun x => c2 x.1), if_neg (fun x => by have := x.1; omega)]
  · rw [if_neg (fun x => c x.2), if_neg (fun x => c x.2), if_neg (fun x => c x.2)]
theorem rn2_42 : (KA N i l (S 42 i) → rq_dn2 N l S 42 i = -1) ∧ (¬ KA N i l (S 42 i) → rq_dn2 N l S 42 i = S 42 i) := by
  have w : rq_dn2 N l S 42 i = sq_dn2 N l S 42 i := by
    unfold rq_dn2 sq_dn2
    rw [dropL_f (by omega), rqd_42, rqd_42, sqd_42, sqd_42]
  rw [w, dn2_42e]
  exact ⟨fun h => if_pos h, fun h => if_neg h⟩
theorem rn2_61 : rq_dn2 N l S 61 i = if i / 3 / 2 = l then 0 else S 61 i := by
  unfold rq_dn2
  rw [rqd_61, rqd_61, show (2 * l + 1) / 2 = l by omega, show 2 * l / 2 = l by omega]
  by_cases c : i / 3 / 2 = l
  · rw [if_pos c, if_pos c]
  · rw [if_neg c, if_neg c]
theorem rqd_ls (h : SL S) : lS (rq_down N e S) = (lS S).filter (fun q => !(decide (q / 3 / 2 = e / 2))) := by
  unfold rq_down
  rw [dropL_ls (h.eq fc_ls), fc_ls]
theorem SL.rqd (h : SL S) : SL (rq_down N e S) := by
  unfold rq_down
  exact SL.drop (h.eq fc_ls)
theorem rn2_ls (h : SL S) : lS (rq_dn2 N l S) = (lS S).filter (fun q => !(decide (q / 3 / 2 = l))) := by
  unfold rq_dn2
  rw [rqd_ls h.rqd, rqd_ls h, show (2 * l + 1) / 2 = l by omega, show 2 * l / 2 = l by omega, filt2]
theorem zu_38 {v : Int32} (hf : f ≠ 38) : zu S 38 n v f i = S f i := if_neg (fun x => hf x.1)
theorem offs_f (h1 : f ≠ 42) (h2 : f ≠ 38) (h3 : f < 60) : ((∃ l, l < n ∧ (atb N b l S0 = true ∧ i / 2 = l ∧ (f ≤ 10 ∨ f = 15 ∨ f = 16 ∨ f = 49))) → pfold (rq_offs N b S0) n S f i = 0) ∧ ((∀ l, l < n → ¬ (atb N b l S0 = true ∧ i / 2 = l ∧ (f ≤ 10 ∨ f = 15 ∨ f = 16 ∨ f = 49))) → pfold (rq_offs N b S0) n S f i = S f i) :=
  pf_pt (rq_offs N b S0) (fun l _ => atb N b l S0 = true ∧ i / 2 = l ∧ (f ≤ 10 ∨ f = 15 ∨ f = 16 ∨ f = 49)) 0 (fun l S => by
    unfold rq_offs
    cases c : atb N b l S0 with
    | false => exact ⟨fun h => absurd h.1 Bool.false_ne_true, fun _ => rfl⟩
    | true =>
      rw [if_pos rfl, rn2_f h1 (by omega), zu_38 h2, zu_38 h2]
      exact ⟨fun h => if_pos h.2, fun h => if_neg (fun x => h ⟨rfl, x⟩)⟩) n S
theorem offs_61 : ((∃ l, l < n ∧ (atb N b l S0 = true ∧ i / 3 / 2 = l)) → pfold (rq_offs N b S0) n S 61 i = 0) ∧ ((∀ l, l < n → ¬ (atb N b l S0 = true ∧ i / 3 / 2 = l)) → pfold (rq_offs N b S0) n S 61 i = S 61 i) :=
  pf_pt (rq_offs N b S0) (fun l _ => atb N b l S0 = true ∧ i / 3 / 2 = l) 0 (fun l S => by
    unfold rq_offs
    cases c : atb N b l S0 with
    | false => exact ⟨fun h => absurd h.1 Bool.false_ne_true, fun _ => rfl⟩
    | true =>
      rw [if_pos rfl, rn2_61, zu_38 (by omega), zu_38 (by omega)]
      exact ⟨fun h => if_pos h.2, fun h => if_neg (fun x => h ⟨rfl, x⟩)⟩) n S
theorem offs_42 : ((∃ l, l < n ∧ (atb N b l S0 = true ∧ KA N i l (S 42 i))) → pfold (rq_offs N b S0) n S 42 i = -1) ∧ ((∀ l, l < n → ¬ (atb N b l S0 = true ∧ KA N i l (S 42 i))) → pfold (rq_offs N b S0) n S 42 i = S 42 i) :=
  pf_pt (rq_offs N b S0) (fun l v => atb N b l S0 = true ∧ KA N i l v) (-1) (fun l S => by
    unfold rq_offs
    cases c : atb N b l S0 with
    | false => exact ⟨fun h => absurd h.1 Bool.false_ne_true, fun _ => rfl⟩
    | true =>
      rw [if_pos rfl]
      have w : zu (zu S 38 (bo N (2 * l)) 1) 38 (bo N (2 * l + 1)) 1 42 i = S 42 i := by rw [zu_38 (by omega), zu_38 (by omega)]
      obtain ⟨r1, r2⟩ := rn2_42 (N := N) (l := l) (i := i) (S := zu (zu S 38 (bo N (2 * l)) 1) 38 (bo N (2 * l + 1)) 1)
      rw [w] at r1 r2
      exact ⟨fun h => r1 h.2, fun h => r2 (fun x => h ⟨rfl, x⟩)⟩) n S
theorem offs_38 : ((∃ l, l < n ∧ (atb N b l S0 = true ∧ (a = bo N (2 * l) ∨ a = bo N (2 * l + 1)))) → pfold (rq_offs N b S0) n S 38 a = 1) ∧ ((∀ l, l < n → ¬ (atb N b l S0 = true ∧ (a = bo N (2 * l) ∨ a = bo N (2 * l + 1)))) → pfold (rq_offs N b S0) n S 38 a = S 38 a) :=
  pf_pt (rq_offs N b S0) (fun l _ => atb N b l S0 = true ∧ (a = bo N (2 * l) ∨ a = bo N (2 * l + 1))) 1 (fun l S => by
    unfold rq_offs
    cases c : atb N b l S0 with
    | false => exact ⟨fun h => absurd h.1 Bool.false_ne_true, fun _ => rfl⟩
    | true =>
      rw [if_pos rfl, rn2_f (by omega) (by omega), if_neg (by omega)]
      show (_ → (if 38 = 38 ∧ a = bo N (2 * l + 1) then 1 else (if 38 = 38 ∧ a = bo N (2 * l) then 1 else S 38 a)) = 1) ∧ (_ → (if 38 = 38 ∧ a = bo N (2 * l + 1) then 1 else (if 38 = 38 ∧ a = bo N (2 * l) then 1 else S 38 a)) = S 38 a)
      by_cases c1 : a = bo N (2 * l + 1)
      · rw [if_pos ⟨rfl, c1⟩]
        exact ⟨fun _ => rfl, fun h => absurd ⟨rfl, Or.inr c1⟩ h⟩
      · rw [if_neg (fun x => c1 x.2)]
        by_cases c2 : a = bo N (2 * l)
        · rw [if_pos ⟨rfl, c2⟩]
          exact ⟨fun _ => rfl, fun h => absurd ⟨rfl, Or.inl c2⟩ h⟩
        · rw [if_neg (fun x => c2 x.2)]
          exact ⟨fun h => by rcases h.2 with x | x <;> contradiction, fun _ => rfl⟩) n S
theorem atb_of (h20 : ∀ i, S' 20 i = S 20 i) (h40 : ∀ i, S' 40 i = S 40 i) : atb N b l S' = atb N b l S := by
  unfold atb upl
  rw [h20, h20, h40]
theorem offR_eq : ∀ n, pfold (rq_off1 N b) n S = pfold (rq_offs N b S) n S
  | 0 => rfl
  | n + 1 => by
    show rq_off1 N b n (pfold (rq_off1 N b) n S) = rq_offs N b S n (pfold (rq_offs N b S) n S)
    rw [offR_eq n]
    have z : atb N b n (pfold (rq_offs N b S) n S) = atb N b n S := atb_of (fun i => (offs_f (by omega) (by omega) (by omega)).2 (fun l _ h => by omega)) (fun i => (offs_f (by omega) (by omega) (by omega)).2 (fun l _ h => by omega))
    generalize pfold (rq_offs N b S) n S = Y at *
    unfold rq_off1 rq_offs rq_dn2
    rw [z]
theorem lS_38 {v : Int32} : lS (zu S 38 n v) = lS S := lS_eq (fun i => zu_38 (by omega)) (zu_38 (by omega))
end zR28
