/-! A BRIDGE'S PRIORITY CHANGES, in the reference -/
section zR24
variable {N : zN} {m B : Nat} {ν0 ν ν' : zM} {S S' X : zS} {e b a l h k n t st f i : Nat} {v : Int32}
theorem prio_inv (nw : NW N) (hI : INV N st S) (hx : ∀ f i, f ≠ 47 → (f ≠ 21 ∨ i ≠ b) → X f i = S f i) (hb47 : X 47 b = 1) : CTP N X ∧ MI N st X ∧ AD N X := by
  obtain ⟨⟨sv, dn, br⟩, mi, ad⟩ := hI
  have z : ∀ f i, f ≠ 21 → f ≠ 47 → X f i = S f i := fun f i h1 h2 => hx f i h2 (Or.inl h1)
  have hup : ∀ e, up N X e = up N S e := fun e => up_of (fun i => z 20 i (by omega) (by omega)) (fun i => z 40 i (by omega) (by omega))
  refine ⟨⟨fun i => ?_, fun e he hu k hk => ?_, fun a ha ho => ?_, fun a ha ho h47 => ?_⟩, fun q hq => ?_, fun b h p hb hh hp hx => ?_⟩
  · rw [z 2 i (by omega) (by omega), z 3 i (by omega) (by omega), z 27 i (by omega) (by omega), z 10 i (by omega) (by omega), z 16 i (by omega) (by omega)]
    exact sv i
  · rw [hup] at hu
    rw [z k e (by omega) (by omega)]
    exact dn e he hu k hk
  · rw [z 20 a (by omega) (by omega)] at ho
    obtain ⟨⟨a1, a2, a3, a4, a5⟩, a6⟩ := br a ha ho
    unfold WB
    rw [z 32 a (by omega) (by omega), z 28 a (by omega) (by omega), z 23 a (by omega) (by omega), z 29 a (by omega) (by omega), z 24 a (by omega) (by omega), z 30 a (by omega) (by omega), z 31 a (by omega) (by omega)]
    exact ⟨fun _ => ⟨a3, a4, a5⟩, fun h => absurd a1 h⟩
  · rw [z 20 a (by omega) (by omega)] at ho
    have hab : a ≠ b := fun h => h47 (by rw [h]; exact hb47)
    exact BR.keep2 (br a ha ho) (fun f p hf hp => z f _ (by omega) (by omega)) (fun f hf => hx f a (by omega) (Or.inr hab)) (fun p hp => hup _)
  · rw [z 60 q (by omega) (by omega), z 61 q (by omega) (by omega), z 50 q (by omega) (by omega), hup]
    exact mi q hq
  · rw [z 42 _ (by omega) (by omega)] at hx
    rw [hup]
    exact ad b h p hb hh hp hx
/-- one bridge alone is touched -/
theorem R_one (q : MS N m B ν0 ν S) (hp : CTP N S) (hb : b < nB N) (h47 : ∀ a, a < nB N → (S 47 a = 1 ↔ a = b)) : ∃ ν', ((f12_isOn m (nI b) ν).bind fun t11 => if t11 = true then ((f12_chooses m (nI b) ν).bind fun μ12 => some μ12) else (some ν)) = some ν' ∧ MS N m B ν0 ν' (sp_ct N S) := by
  have nw := q.nw
  have ci := CTI.all nw hp.1 hp.2.1 hp.2.2.1 hp.2.2.2
  have h5 : ∀ k, k ≤ nB N → ∀ j, j ≤ k → ∀ b, j ≤ b → pfold (sp_ct1 N) j S 47 b = S 47 b := fun k hk j hj b hb => (ci j (by omega)).2.1 b hb
  have q1 : MS N m B ν0 ν (pfold (sp_ct1 N) b S) := R_skip (n := 0) q (Nat.zero_le _) (fun a h1 h2 => by rw [Ne, h47 a (by omega)]; omega) (h5 b (by omega))
  obtain ⟨ν2, e2, q2⟩ := R_ct1 q1 hb (ci _ (by omega)) ((h47 _ hb).mpr rfl)
  exact ⟨ν2, e2, R_skip (n := b + 1) q2 (by omega) (fun a h1 h2 => by rw [Ne, h47 a (by omega)]; omega) (h5 (nB N) (Nat.le_refl _))⟩
theorem R_prio (q : MS N m B ν0 ν S) (hI : INV N st S) (h0 : T0 N S) (hb : b < nB N) : (∃ ν1 ν', f12_puts m (nI (4 + 12 * b + 1)) v ν = some ν1 ∧ ((f12_isOn m (nI b) ν1).bind fun t11 => if t11 = true then ((f12_chooses m (nI b) ν1).bind fun μ12 => some μ12) else (some ν1)) = some ν' ∧ MS N m B ν0 ν' (sq_prio N b v S)) ∧ INV N st (sq_prio N b v S) ∧ T0 N (sq_prio N b v S) := by
  have nw := q.nw
  have b8 := nw.b_8 hb
  have hx : ∀ f i, f ≠ 47 → (f ≠ 21 ∨ i ≠ b) → zu (zu S 21 b v) 47 b 1 f i = S f i := fun f i h1 h2 => by
    rw [zu_47 h1]
    exact if_neg (by omega)
  have h1 : zu (zu S 21 b v) 47 b 1 47 b = 1 := if_pos ⟨rfl, rfl⟩
  obtain ⟨p1, p2, p3⟩ := prio_inv nw hI hx h1
  obtain ⟨i1, i2, i3⟩ := ct_inv nw p1 p2 p3
  unfold sq_prio
  refine ⟨?_, i1, i2⟩
  have q1 := q.w_b hb (k := 1) (by omega) (by omega) (v := v) (by omega)
  have q2 : MS N m B ν0 _ (zu (zu S 21 b v) 47 b 1) := EM.ms q1 (fun f i h47 _ _ _ _ => zu_47 h47)
  obtain ⟨ν', e', q'⟩ := R_one q2 p1 hb (fun a ha => by
    show (if 47 = 47 ∧ a = b then 1 else (if 47 = 21 ∧ a = b then v else S 47 a)) = 1 ↔ a = b
    by_cases c : a = b
    · rw [if_pos ⟨rfl, c⟩]; exact ⟨fun _ => c, fun _ => rfl⟩
    · rw [if_neg (fun x => c x.2), if_neg (fun x => c x.2), h0 a ha]
      exact ⟨fun x => absurd x (by decide), fun x => absurd x c⟩)
  exact ⟨_, ν', q.puts (by omega), e', q'⟩
end zR24
