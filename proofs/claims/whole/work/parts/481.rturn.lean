/-! A BRIDGE TURNS OLD OR NEW, both -/
section zR35
variable {N : zN} {s w m B : Nat} {μ0 μ ν0 ν : zM} {S S' S2 : zS} {b st : Nat}
theorem C_turn2 (h : CS N s w μ0 μ S) (hb : b < nB N) (c : ceq (S 20 b) 1 = true) (hS : ∀ f i, csF f → S2 f i = zu (sq_off N b S) 22 b (bI (!(ceq (sq_off N b S 22 b) 1))) f i) : ∃ μ', f8_turnAge s (nI b) μ = some μ' ∧ CS N s w μ0 μ' (sq_on N b S2) := by
  have hb8 := h.nw.b_8 hb
  unfold f8_turnAge
  rw [rI_nI hb8 (by omega), obs, obs, h.r_on hb8]
  simp only [if_pos c]
  obtain ⟨μ1, e1, h1⟩ := C_off h hb
  rw [e1, obs, obs, obs]
  simp only [obs, wB]
  rw [h1.r_old hb8]
  have h3 := h1.w_old hb8 (v := !(ceq (sq_off N b S 22 b) 1))
  obtain ⟨μ2, e2, h2⟩ := C_on (h3.ig hS) hb
  exact ⟨μ2, by rw [e2]; rfl, h2⟩
theorem INV.z22 {x : Int32} (hI : INV N st S) : INV N st (zu S 22 b x) := by
  obtain ⟨⟨sv, dn, br⟩, mi, ad⟩ := hI
  refine ⟨⟨sv, fun e he hu k hk => ?_, br⟩, mi, ad⟩
  rw [show zu S 22 b x k e = S k e from if_neg (by omega)]
  exact dn e he hu k hk
/-- the flag, flipped -/
theorem flip_v {x : Int32} (h : x = 0 ∨ x = 1) : 1 - x = bI (!(ceq x 1)) := by rcases h with h | h <;> rw [h] <;> rfl
theorem ct_k {X : zS} (nw : NW N) {f i : Nat} (hf : f = 20 ∨ f = 21 ∨ f = 22 ∨ f = 40 ∨ f = 41 ∨ f = 46 ∨ f = 38) : sp_ct N X f i = X f i := by
  unfold sp_ct
  have g : ∀ n, n ≤ nB N → pfold (sp_ct1 N) n X f i = X f i := by
    intro n
    induction n with
    | zero => exact fun _ => rfl
    | succ n ih =>
      intro hn
      have i2 := ih (by omega)
      show sp_ct1 N n (pfold (sp_ct1 N) n X) f i = X f i
      generalize pfold (sp_ct1 N) n X = Y at *
      unfold sp_ct1
      rw [zu_47 (by omega)]
      by_cases q : (ceq (Y 47 n) 1 && ceq (Y 20 n) 1) = true
      · rw [if_pos q, (choose_k nw (by omega)).1 f i (by unfold XG; omega)]; exact i2
      · rw [if_neg q]; exact i2
  exact g _ (Nat.le_refl _)
theorem off_22 (nw : NW N) {i : Nat} : sq_off N b S 22 i = S 22 i := by
  rw [off_eq, ct_k nw (by omega), xo_s (by omega) (by omega) (by omega) (by omega) (fun x => by omega)]
theorem off_20 (nw : NW N) : sq_off N b S 20 b = 0 := by
  rw [off_eq, ct_k nw (by omega), xo_20, if_pos rfl]
theorem turn_both (h : CS N s w μ0 μ S) (q : MS N m B ν0 ν S) (hI : INV N st S) (h0 : T0 N S) (hb : b < nB N) : ∃ μ' ν' S', f8_turnAge s (nI b) μ = some μ' ∧ ((f12_bridgeAt (nI b) 2 ν).bind fun t4 => (f12_of m (nI b) 2 ν).bind fun t5 => (f12_puts m t4 (1 - t5) ν).bind fun μ6 => (f12_isOn m (nI b) μ6).bind fun t9 => if t9 = true then ((f12_isOff m (nI b) μ6).bind fun μ10 => (f12_isBackOn m (nI b) μ10).bind fun μ11 => some μ11) else (some μ6)) = some ν' ∧ CS N s w μ0 μ' S' ∧ MS N m B ν0 ν' S' ∧ INV N st S' ∧ T0 N S' ∧ S' 22 b = bI (!(ceq (S 22 b) 1)) := by
  have nw := q.nw
  have b8 := nw.b8
  have h22 := (q.1.2.2.2.1 b hb).2
  have hv : bI (!(ceq (S 22 b) 1)) = 0 ∨ bI (!(ceq (S 22 b) 1)) = 1 := by cases (!(ceq (S 22 b) 1)) <;> simp [bI]
  have q1 := q.w_b hb (k := 2) (by omega) (Or.inl (by omega)) (v := bI (!(ceq (S 22 b) 1))) (fun _ => hv)
  rw [show f12_bridgeAt (nI b) 2 ν = some (nI (4 + 12 * b + 2)) from bAt b 2, obs, q.b2 hb, obs, flip_v h22, q.puts (by omega), obs, q1.on_ hb, obs]
  have e20 : zu S (20 + 2) b (bI (!(ceq (S 22 b) 1))) 20 b = S 20 b := rfl
  rw [e20]
  by_cases c : ceq (S 20 b) 1 = true
  · obtain ⟨S1, a1, ⟨ν2, e2, q2⟩, i2, t2⟩ := R_off q1 (hI.z22 (b := b) (x := bI (!(ceq (S 22 b) 1)))) h0 hb
    have e21 : sq_off N b S1 20 b ≠ 1 := by rw [off_20 nw]; decide
    obtain ⟨S2, a2, ⟨ν3, e3, q3⟩, i3, t3⟩ := R_on q2 i2 t2 hb e21
    have r1 : R2 b S S1 := fun f i hf h2 => by
      rw [a1 f i (by unfold csF at hf; omega)]
      exact if_neg (by omega)
    have r2 := r1.off nw
    obtain ⟨μ4, e4, h4⟩ := C_turn2 (S2 := S2) h hb c (fun f i hf => by
      rw [a2 f i hf]
      by_cases x : f = 22 ∧ i = b
      · obtain ⟨x1, x2⟩ := x
        subst x1; subst x2
        rw [zu_eq, if_pos rfl, off_22 nw, off_22 nw, a1 _ _ (by omega)]
        exact if_pos ⟨rfl, rfl⟩
      · rw [show zu (sq_off N b S) 22 b (bI (!(ceq (sq_off N b S 22 b) 1))) f i = sq_off N b S f i from if_neg x]
        exact r2 f i hf (by omega))
    refine ⟨μ4, ν3, _, e4, ?_, h4, q3, i3, t3, ?_⟩
    · rw [if_pos c, e2, obs, e3, obs]
    · rw [on_eq, ct_k nw (by omega), xn_s (by omega) nw hb (fun x => by omega), bc_f, if_neg (by omega), if_neg (by omega), a2 22 b (by unfold csF; omega), off_22 nw, a1 _ _ (by omega)]
      exact if_pos ⟨rfl, rfl⟩
  · obtain ⟨μ4, e4, h4⟩ := C_turn h hb
    unfold sq_turn at h4
    rw [if_neg c] at h4
    refine ⟨μ4, _, _, e4, ?_, h4, q1, hI.z22, h0, if_pos ⟨rfl, rfl⟩⟩
    rw [if_neg c]
end zR35
