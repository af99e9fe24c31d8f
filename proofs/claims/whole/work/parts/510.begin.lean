/-! A NET BEGINS, in the class: up to the choices -/
/-- the told state, before ports are cleared -/
def bg1 (N : zN) (H : Nat → Int32) (S : zS) : zS := fun f i =>
  if f = 20 then (if i < nB N then 1 else S 20 i) else if f = 21 then (if i < nB N then nI (tPr N i) else S 21 i) else if f = 22 then (if i < nB N then nI (tOl N i) else S 22 i)
  else if f = 40 then (if i < nL N then 1 else S 40 i) else if f = 41 then (if i < 8 then H i else S 41 i) else if f = 42 then -1 else if f = 43 then 0
  else if f = 44 then 0 else if f = 46 then 1 else if f = 28 ∨ f = 29 ∨ f = 30 ∨ f = 32 ∨ f = 61 ∨ f = 62 ∨ f = 63 then 0 else S f i
section zF0
variable {N N0 : zN} {s w w0 : Nat} {μ0 μ μ' μ1 : zM} {S : zS} {H : Nat → Int32} {f i n : Nat}
theorem bg1_o (h : f ≠ 20 ∧ f ≠ 21 ∧ f ≠ 22 ∧ f ≠ 40 ∧ f ≠ 41 ∧ f ≠ 42 ∧ f ≠ 43 ∧ f ≠ 44 ∧ f ≠ 46 ∧ f ≠ 28 ∧ f ≠ 29 ∧ f ≠ 30 ∧ f ≠ 32 ∧ f ≠ 61 ∧ f ≠ 62 ∧ f ≠ 63) : bg1 N H S f i = S f i := by
  unfold bg1
  rw [if_neg (by omega), if_neg (by omega), if_neg (by omega), if_neg (by omega), if_neg (by omega), if_neg (by omega), if_neg (by omega), if_neg (by omega), if_neg (by omega), if_neg (by omega)]
theorem bg20 : bg1 N H S 20 i = if i < nB N then 1 else S 20 i := rfl
theorem bg21 : bg1 N H S 21 i = if i < nB N then nI (tPr N i) else S 21 i := rfl
theorem bg22 : bg1 N H S 22 i = if i < nB N then nI (tOl N i) else S 22 i := rfl
theorem bg40 : bg1 N H S 40 i = if i < nL N then 1 else S 40 i := rfl
theorem bg41 : bg1 N H S 41 i = if i < 8 then H i else S 41 i := rfl
/-- what the class has written before ports are cleared -/
def BGW (N : zN) (s w : Nat) (μ μ' : zM) : Prop :=
  (∀ k a, gF μ' k a = if k = 5 ∧ ∃ b, b < nB N ∧ a = s + 13 + 3 * b then nI (tPr N ((a - (s + 13)) / 3)) else if 813 ≤ k ∧ k ≤ 816 ∧ a = s then 0 else gF μ k a) ∧
  (∀ k a, gB μ' k a = if k = 3 ∧ ∃ b, b < nB N ∧ a = s + 13 + 3 * b then true else if k = 4 ∧ ∃ b, b < nB N ∧ a = s + 13 + 3 * b then ceq (nI (tOl N ((a - (s + 13)) / 3))) 1 else if k = 817 ∧ a = s then true else gB μ k a) ∧
  (∀ a j, gZ μ' a j = if a = s + 4 ∧ j < nL N then true else gZ μ a j) ∧
  (∀ a j, gA μ' a j = if a = s + 5 ∧ j < 8 then gA μ (w + 12) j else if a = s + 6 ∧ j < 64 then -1 else if a = s + 7 ∧ j < 64 then 0 else gA μ a j) ∧
  (∀ k a, gR μ' k a = if k = 812 ∧ a = s then some w else gR μ k a) ∧ ∀ a j, gX μ' a j = gX μ a j
theorem CS.bg (h : CS N0 s w0 μ0 μ S) (nw : NW N) (hi : WI N w μ) (hw : w + 13 ≤ s ∨ s + 261 ≤ w) (q : BGW N s w μ μ') : CS N s w μ μ' (bg1 N (fun j => gA μ (w + 12) j) S) := by
  obtain ⟨qF, qB, qZ, qA, qR, qX⟩ := q
  have b8 := nw.b8
  have F : ∀ k a, k ≠ 5 → (k < 813 ∨ 816 < k ∨ a ≠ s) → gF μ' k a = gF μ k a := fun k a h1 h2 => by rw [qF, if_neg (fun x => h1 x.1), if_neg (by omega)]
  have B : ∀ k a, k ≠ 3 → k ≠ 4 → k ≠ 817 → gB μ' k a = gB μ k a := fun k a h1 h2 h3 => by rw [qB, if_neg (fun x => h1 x.1), if_neg (fun x => h2 x.1), if_neg (fun x => h3 x.1)]
  have nb : ∀ i, ¬ i < nB N → ¬ ∃ b, b < nB N ∧ s + 13 + 3 * i = s + 13 + 3 * b := fun i hi ⟨b, h1, h2⟩ => by omega
  have dv : ∀ i, (s + 13 + 3 * i - (s + 13)) / 3 = i := fun i => by omega
  refine ⟨fun i hi => by rw [F _ _ (by omega) (by omega), bg1_o (by omega)]; exact h.c_role i hi,
    fun i hi => by rw [F _ _ (by omega) (by omega), bg1_o (by omega)]; exact h.c_state i hi,
    fun i hi => by rw [F _ _ (by omega) (by omega), bg1_o (by omega)]; exact h.c_wait i hi,
    fun i hi => by rw [F _ _ (by omega) (by omega), bg1_o (by omega)]; exact h.c_chg i hi,
    fun i hi => by rw [F _ _ (by omega) (by omega), bg1_o (by omega)]; exact h.c_hage i hi,
    fun i hi => by rw [F _ _ (by omega) (by omega), bg1_o (by omega)]; exact h.c_life i hi,
    fun i hi => by rw [F _ _ (by omega) (by omega), bg1_o (by omega)]; exact h.c_was i hi,
    fun i hi => by rw [F _ _ (by omega) (by omega), bg1_o (by omega)]; exact h.c_hroot i hi,
    fun i hi => by rw [F _ _ (by omega) (by omega), bg1_o (by omega)]; exact h.c_hcost i hi,
    fun i hi => by rw [F _ _ (by omega) (by omega), bg1_o (by omega)]; exact h.c_hid i hi,
    fun i hi => by rw [F _ _ (by omega) (by omega), bg1_o (by omega)]; exact h.c_hport i hi,
    fun i hi => by rw [B _ _ (by omega) (by omega) (by omega), bg1_o (by omega)]; exact h.c_agr i hi,
    fun i hi => by rw [B _ _ (by omega) (by omega) (by omega), bg1_o (by omega)]; exact h.c_edge i hi,
    fun i hi => by rw [B _ _ (by omega) (by omega) (by omega), bg1_o (by omega)]; exact h.c_spk i hi,
    fun i hi => by rw [B _ _ (by omega) (by omega) (by omega), bg1_o (by omega)]; exact h.c_owes i hi,
    fun i hi => by rw [B _ _ (by omega) (by omega) (by omega), bg1_o (by omega)]; exact h.c_answ i hi,
    fun i hi => by rw [B _ _ (by omega) (by omega) (by omega), bg1_o (by omega)]; exact h.c_mark i hi,
    fun i hi => by rw [B _ _ (by omega) (by omega) (by omega), bg1_o (by omega)]; exact h.c_holds i hi,
    fun i hi => by
      rw [qB, bg20]
      by_cases c : i < nB N
      · rw [if_pos ⟨rfl, i, c, rfl⟩, if_pos c]; rfl
      · rw [if_neg (fun x => nb i c x.2), if_neg (fun x => absurd x.1 (by omega)), if_neg (fun x => absurd x.1 (by omega)), if_neg c]; exact h.c_on i hi,
    fun i hi => by
      rw [qF, bg21]
      by_cases c : i < nB N
      · rw [if_pos ⟨rfl, i, c, rfl⟩, if_pos c, dv]
      · rw [if_neg (fun x => nb i c x.2), if_neg (fun x => absurd x.1 (by omega)), if_neg c]; exact h.c_prio i hi,
    fun i hi => by
      rw [qB, bg22, if_neg (fun x => absurd x.1 (by omega))]
      by_cases c : i < nB N
      · rw [if_pos ⟨rfl, i, c, rfl⟩, if_pos c, dv]
        have := nw.ol c
        rcases (show tOl N i = 0 ∨ tOl N i = 1 by omega) with x | x <;> rw [x] <;> rfl
      · rw [if_neg (fun x => nb i c x.2), if_neg (fun x => absurd x.1 (by omega)), if_neg c]; exact h.c_old i hi,
    fun i hi => by rw [F _ _ (by omega) (by omega), bg1_o (by omega)]; exact h.c_rport i hi,
    fun i hi => by rw [F _ _ (by omega) (by omega), bg1_o (by omega)]; exact h.c_bage i hi,
    fun i hi => by rw [F _ _ (by omega) (by omega), bg1_o (by omega)]; exact h.c_short i hi,
    fun i hi => by rw [F _ _ (by omega) (by omega), bg1_o (by omega)]; exact h.c_root i hi,
    fun i hi => by rw [F _ _ (by omega) (by omega), bg1_o (by omega)]; exact h.c_cost i hi,
    fun i hi => by rw [F _ _ (by omega) (by omega), bg1_o (by omega)]; exact h.c_cid i hi,
    fun i hi => by rw [F _ _ (by omega) (by omega), bg1_o (by omega)]; exact h.c_cport i hi,
    fun i hi => by rw [F _ _ (by omega) (by omega), bg1_o (by omega)]; exact h.c_froot i hi,
    fun i hi => by rw [F _ _ (by omega) (by omega), bg1_o (by omega)]; exact h.c_fcost i hi,
    fun i hi => by rw [F _ _ (by omega) (by omega), bg1_o (by omega)]; exact h.c_fid i hi,
    fun i hi => by rw [F _ _ (by omega) (by omega), bg1_o (by omega)]; exact h.c_fport i hi,
    fun i hi => by
      rw [qZ, bg40]
      by_cases c : i < nL N
      · rw [if_pos ⟨rfl, c⟩, if_pos c]; rfl
      · rw [if_neg (fun x => c x.2), if_neg c]; exact h.c_whole i hi,
    fun i hi => by
      rw [qA, if_pos ⟨rfl, hi⟩, bg41, if_pos hi],
    fun i hi => by
      rw [qA, if_neg (by omega), if_pos ⟨rfl, hi⟩]; rfl,
    fun i hi => by
      rw [qA, if_neg (by omega), if_neg (by omega), if_pos ⟨rfl, hi⟩]; rfl,
    fun i hi => by
      rw [qZ, if_neg (by omega), bg1_o (by omega)]; exact h.c_tch i hi,
    fun i hi => by rw [F _ _ (by omega) (by omega), bg1_o (by omega)]; exact h.c_arr i hi,
    fun i hi => by rw [F _ _ (by omega) (by omega), bg1_o (by omega)]; exact h.c_mage i hi,
    fun i hi => by rw [F _ _ (by omega) (by omega), bg1_o (by omega)]; exact h.c_bits i hi,
    fun i hi => by rw [F _ _ (by omega) (by omega), bg1_o (by omega)]; exact h.c_mroot i hi,
    fun i hi => by rw [F _ _ (by omega) (by omega), bg1_o (by omega)]; exact h.c_mcost i hi,
    fun i hi => by rw [F _ _ (by omega) (by omega), bg1_o (by omega)]; exact h.c_mid i hi,
    fun i hi => by rw [F _ _ (by omega) (by omega), bg1_o (by omega)]; exact h.c_mport i hi,
    fun i hi => by rw [B _ _ (by omega) (by omega) (by omega), bg1_o (by omega)]; exact h.c_there i hi,
    fun i hi => by rw [B _ _ (by omega) (by omega) (by omega), bg1_o (by omega)]; exact h.c_reply i hi,
    by rw [qF, if_neg (fun x => absurd x.1 (by omega)), if_pos ⟨by omega, by omega, rfl⟩]; rfl, by rw [qF, if_neg (fun x => absurd x.1 (by omega)), if_pos ⟨by omega, by omega, rfl⟩]; rfl, by rw [qB, if_neg (fun x => absurd x.1 (by omega)), if_neg (fun x => absurd x.1 (by omega)), if_pos ⟨rfl, rfl⟩]; rfl,
    fun i hi => by rw [F _ _ (by omega) (by omega)]; exact h.c_num i hi, by rw [qR, if_pos ⟨rfl, rfl⟩], ?_, ⟨fun b x hb hx => Or.inl rfl, fun x hx => ⟨tHm N x, nw.hm hx, ?_⟩⟩, ⟨nw, hi, hw⟩, fun a ha => ⟨fun k => ?_, fun k => ?_, fun k => ?_, fun j => ?_, fun j => ?_, fun j => qX a j⟩⟩
  · refine ⟨0, 0, by omega, by omega, ?_, ?_, rfl, fun k c hk => absurd hk (by omega)⟩
    · rw [qF, if_neg (fun x => absurd x.1 (by omega)), if_pos ⟨by omega, by omega, rfl⟩]; rfl
    · rw [qF, if_neg (fun x => absurd x.1 (by omega)), if_pos ⟨by omega, by omega, rfl⟩]; rfl
  · have h8 := nw.h8
    rw [bg41, if_pos (by omega)]
    exact hi.2.2.2.2.2.2.1 x hx
  · rw [qF, if_neg (fun x => by obtain ⟨_, b, h1, h2⟩ := x; omega), if_neg (by omega)]
  · rw [qB, if_neg (fun x => by obtain ⟨_, b, h1, h2⟩ := x; omega), if_neg (fun x => by obtain ⟨_, b, h1, h2⟩ := x; omega), if_neg (by omega)]
  · rw [qR, if_neg (by omega)]
  · rw [qA, if_neg (by omega), if_neg (by omega), if_neg (by omega)]
  · rw [qZ, if_neg (by omega)]
end zF0
