/-! A COPIED STATE is as good -/
section zH2
variable {N : zN} {m B t st f i : Nat} {μ ν0 ν : zM} {S : zS}
theorem cp_ms (q : MS N m B ν0 ν S) (mi : MI N st S) (h46 : S 46 0 ≠ 1) : MS N m B ν0 ν (cpS μ t S) := by
  have nw := q.nw
  have c : ∀ f i, f ≠ 46 → f ≠ 47 → f < 50 ∨ 59 < f → cpS μ t S f i = S f i := fun f i h1 h2 h3 => cpS_f h1 h2 (by
    rcases h3 with h | h
    · exact Or.inl h
    · exact Or.inr (Or.inl h))
  have m8 := q.1.2.2.2.2.2.2.2.1
  refine MS.rng q ⟨fun b h hb hh => ?_, fun h hh => ?_⟩ (fun e k he hk hx => c _ _ (by omega) (by omega) (by omega)) (fun b k hb hk hx => c _ _ (by omega) (by omega) (by omega)) (fun b hb hx => by rw [c _ _ (by omega) (by omega) (by omega)] at hx; exact hx) (fun l hl => c _ _ (by omega) (by omega) (by omega)) (fun h hh => c _ _ (by omega) (by omega) (by omega)) (fun b h hb hh => ⟨c _ _ (by omega) (by omega) (by omega), c _ _ (by omega) (by omega) (by omega)⟩) (fun b h hb h1 h2 => by rw [c _ _ (by omega) (by omega) (by omega)]; exact m8 b h hb h1 h2) ⟨c _ _ (by omega) (by omega) (by omega), c _ _ (by omega) (by omega) (by omega)⟩ (fun hx => ⟨h46, c _ _ (by omega) (by omega) (by omega), fun k => c _ _ (by omega) (by omega) (by omega)⟩) ⟨fun k hk => c _ _ (by omega) (by omega) (by omega), fun b hb => c _ _ (by omega) (by omega) (by omega)⟩ (lS_eq (fun i => c _ _ (by omega) (by omega) (by omega)) (c _ _ (by omega) (by omega) (by omega))) (fun q hq => c _ _ (by omega) (by omega) (by omega)) (fun x d hx hd => ?_)
  · rw [c _ _ (by omega) (by omega) (by omega)]; exact q.2.1.1 b h hb hh
  · rw [c _ _ (by omega) (by omega) (by omega)]; exact q.2.1.2 h hh
  · have hx2 := (q.1.2.2.2.2.2.2.2.2.2.2.2.2.1 x).mp hx
    refine cpS_f (by omega) (by omega) (Or.inr (Or.inr ?_))
    rw [(mi x hx2.1).1]; exact hx2.2
theorem cp_inv (hI : INV N st S) : INV N st (cpS μ t S) := by
  obtain ⟨⟨sv, dn, br⟩, mi, ad⟩ := hI
  have c : ∀ f i, f ≠ 46 → f ≠ 47 → f < 50 ∨ 59 < f → cpS μ t S f i = S f i := fun f i h1 h2 h3 => cpS_f h1 h2 (by
    rcases h3 with h | h
    · exact Or.inl h
    · exact Or.inr (Or.inl h))
  have u : ∀ e, up N (cpS μ t S) e = up N S e := fun e => up_of (fun i => c _ _ (by omega) (by omega) (by omega)) (fun i => c _ _ (by omega) (by omega) (by omega))
  refine ⟨⟨fun i => ?_, fun e he hu k hk => ?_, fun a ha hx => ?_⟩, fun q hq => ?_, fun a h p ha hh hp hx => ?_⟩
  · rw [c 2 i (by omega) (by omega) (by omega), c 3 i (by omega) (by omega) (by omega), c 27 i (by omega) (by omega) (by omega), c 10 i (by omega) (by omega) (by omega), c 16 i (by omega) (by omega) (by omega)]
    exact sv i
  · rw [c k e (by omega) (by omega) (by omega)]
    rw [u] at hu
    exact dn e he hu k hk
  · rw [c 20 a (by omega) (by omega) (by omega)] at hx
    exact BR.keep2 (br a ha hx) (fun f p hf hp => c _ _ (by omega) (by omega) (by omega)) (fun f hf => c _ _ (by omega) (by omega) (by omega)) (fun p hp => u _)
  · obtain ⟨x1, x2, x3⟩ := mi q hq
    rw [c 60 q (by omega) (by omega) (by omega), c 61 q (by omega) (by omega) (by omega), u]
    refine ⟨x1, x2, fun h => ?_⟩
    rw [cpS_f (f := 50) (by omega) (by omega) (Or.inr (Or.inr h))]
    exact x3 h
  · rw [c 42 _ (by omega) (by omega) (by omega)] at hx
    rw [u]; exact ad a h p ha hh hp hx
theorem cp_t0 (hz : ∀ b, b < 8 → gZ μ (t + 9) b = false) (nw : NW N) : T0 N (cpS μ t S) := fun b hb => by
  have b8 := nw.b8
  show bI (gZ μ (t + 9) b) = 0
  rw [hz b (by omega)]; rfl
theorem cp_46 (hz : gB μ 817 t = false) : cpS μ t S 46 i = 0 := by
  show bI (gB μ 817 t) = 0
  rw [hz]; rfl
theorem cp_f (h1 : f ≠ 46) (h2 : f ≠ 47) (h3 : f < 50 ∨ 59 < f) : cpS μ t S f i = S f i := cpS_f h1 h2 (by
    rcases h3 with h | h
    · exact Or.inl h
    · exact Or.inr (Or.inl h))
end zH2
