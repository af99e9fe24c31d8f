/-! SPEC: acts in closed form -/
section zI5
variable {N : zN} {S S1 S2 S' : zS} {e b b' p q t st f i l : Nat} {v : Int32}
theorem clr_f : sp_clr e v S f i = if i = e ∧ (f ≤ 10 ∨ f = 15 ∨ f = 16 ∨ f = 49) then (if f = 5 then v else 0) else S f i := by
  by_cases hi : i = e
  · subst hi
    by_cases hf : f ≤ 10 ∨ f = 15 ∨ f = 16 ∨ f = 49
    · rw [if_pos ⟨rfl, hf⟩]
      have : f = 0 ∨ f = 1 ∨ f = 2 ∨ f = 3 ∨ f = 4 ∨ f = 5 ∨ f = 6 ∨ f = 7 ∨ f = 8 ∨ f = 9 ∨ f = 10 ∨ f = 15 ∨ f = 16 ∨ f = 49 := by omega
      rcases this with rfl | rfl | rfl | rfl | rfl | rfl | rfl | rfl | rfl | rfl | rfl | rfl | rfl | rfl <;> simp [sp_clr, zu]
    · rw [if_neg (fun x => hf x.2)]
      unfold sp_clr zu
      rw [if_neg (by omega), if_neg (by omega), if_neg (by omega), if_neg (by omega), if_neg (by omega), if_neg (by omega), if_neg (by omega), if_neg (by omega), if_neg (by omega), if_neg (by omega), if_neg (by omega), if_neg (by omega), if_neg (by omega), if_neg (by omega)]
  · rw [if_neg (fun x => hi x.1)]
    unfold sp_clr zu
    rw [if_neg (fun x => hi x.2), if_neg (fun x => hi x.2), if_neg (fun x => hi x.2), if_neg (fun x => hi x.2), if_neg (fun x => hi x.2), if_neg (fun x => hi x.2), if_neg (fun x => hi x.2), if_neg (fun x => hi x.2), if_neg (fun x => hi x.2), if_neg (fun x => hi x.2), if_neg (fun x => hi x.2), if_neg (fun x => hi x.2), if_neg (fun x => hi x.2), if_neg (fun x => hi x.2)]
theorem clr_5 : sp_clr e v S = zu (sp_clr e 0 S) 5 e v := by
  funext f i
  show _ = (if f = 5 ∧ i = e then v else sp_clr e 0 S f i)
  rw [clr_f, clr_f]
  by_cases h1 : i = e
  · by_cases h2 : f = 5
    · rw [if_pos ⟨h1, by omega⟩, if_pos h2, if_pos ⟨h2, h1⟩]
    · rw [if_neg (show ¬ (f = 5 ∧ i = e) from fun x => h2 x.1), if_neg h2, if_neg h2]
  · rw [if_neg (show ¬ (f = 5 ∧ i = e) from fun x => h1 x.2), if_neg (fun x => h1 x.1), if_neg (fun x => h1 x.1)]
theorem forget_n (n : Nat) (hn : n ≤ 8) : pfold (fun h S => if ceq (S 42 (bo N e * 8 + h)) (nI (po N e)) = true then zu S 42 (bo N e * 8 + h) (-1) else S) n S f i = if f = 42 ∧ i / 8 = bo N e ∧ i % 8 < n ∧ S 42 i = nI (po N e) then -1 else S f i := by
  induction n generalizing f i with
  | zero => rw [if_neg (by omega)]; rfl
  | succ n ih =>
    have ih := fun f i => ih (f := f) (i := i) (by omega)
    have hx : pfold (fun h S => if ceq (S 42 (bo N e * 8 + h)) (nI (po N e)) = true then zu S 42 (bo N e * 8 + h) (-1) else S) n S 42 (bo N e * 8 + n) = S 42 (bo N e * 8 + n) := by rw [ih, if_neg (by omega)]
    rw [pf_s]
    generalize pfold (fun h S => if ceq (S 42 (bo N e * 8 + h)) (nI (po N e)) = true then zu S 42 (bo N e * 8 + h) (-1) else S) n S = X at *
    show (if ceq (X 42 (bo N e * 8 + n)) (nI (po N e)) = true then zu X 42 (bo N e * 8 + n) (-1) else X) f i = _
    rw [hx]
    by_cases c : ceq (S 42 (bo N e * 8 + n)) (nI (po N e)) = true
    · rw [if_pos c]
      show (if f = 42 ∧ i = bo N e * 8 + n then -1 else X f i) = _
      rw [ih]
      by_cases c2 : f = 42 ∧ i = bo N e * 8 + n
      · rw [if_pos c2, if_pos ⟨c2.1, by omega, by omega, by rw [c2.2]; exact ceq_of c⟩]
      · rw [if_neg c2]
        by_cases c3 : f = 42 ∧ i / 8 = bo N e ∧ i % 8 < n ∧ S 42 i = nI (po N e)
        · rw [if_pos c3, if_pos ⟨c3.1, c3.2.1, by omega, c3.2.2.2⟩]
        · rw [if_neg c3, if_neg (fun x => c3 ⟨x.1, x.2.1, by omega, x.2.2.2⟩)]
    · rw [if_neg c, ih]
      by_cases c3 : f = 42 ∧ i / 8 = bo N e ∧ i % 8 < n ∧ S 42 i = nI (po N e)
      · rw [if_pos c3, if_pos ⟨c3.1, c3.2.1, by omega, c3.2.2.2⟩]
      · rw [if_neg c3, if_neg (fun x => ?_)]
        by_cases c4 : i % 8 = n
        · have : i = bo N e * 8 + n := by omega
          rw [this] at x
          exact c (ceq_t x.2.2.2)
        · exact c3 ⟨x.1, x.2.1, by omega, x.2.2.2⟩
theorem forget_cl : sp_forget N e S f i = if f = 42 ∧ i / 8 = bo N e ∧ S 42 i = nI (po N e) then -1 else S f i := by
  unfold sp_forget
  rw [forget_n 8 (Nat.le_refl _)]
  by_cases c : f = 42 ∧ i / 8 = bo N e ∧ S 42 i = nI (po N e)
  · rw [if_pos ⟨c.1, c.2.1, by omega, c.2.2⟩, if_pos c]
  · rw [if_neg (fun x => c ⟨x.1, x.2.1, x.2.2.2⟩), if_neg c]
theorem dm_f : sp_dm e S f i = if f = 60 ∧ i / 3 = e then 0 else S f i := by
  show (if f = 60 ∧ i = e * 3 + 2 then 0 else if f = 60 ∧ i = e * 3 + 1 then 0 else if f = 60 ∧ i = e * 3 + 0 then 0 else S f i) = _
  by_cases c : f = 60 ∧ i / 3 = e
  · rw [if_pos c]
    have : i = e * 3 + 2 ∨ i = e * 3 + 1 ∨ i = e * 3 + 0 := by omega
    rcases this with h | h | h
    · rw [if_pos ⟨c.1, h⟩]
    · rw [if_neg (by omega), if_pos ⟨c.1, h⟩]
    · rw [if_neg (by omega), if_neg (by omega), if_pos ⟨c.1, h⟩]
  · rw [if_neg c, if_neg (by omega), if_neg (by omega), if_neg (by omega)]
theorem dropL_f (hf : f < 61 ∨ 63 < f) : dropL l S f i = S f i := by
  unfold dropL setL
  rw [if_neg (by omega), if_neg (by omega)]
  exact if_neg (by omega)
theorem dropL_61 : dropL l S 61 i = if i / 3 / 2 = l then 0 else S 61 i := by
  show (if 61 = 61 ∧ i / 3 / 2 = l then 0 else S 61 i) = _
  by_cases c : i / 3 / 2 = l
  · rw [if_pos ⟨rfl, c⟩, if_pos c]
  · rw [if_neg (fun x => c x.2), if_neg c]
/-- what the reference does not see -/
def EM (S S' : zS) : Prop := ∀ f i, f ≠ 47 → f ≠ 49 → f ≠ 60 → (f < 33 ∨ 37 < f) → (11 ≤ f → f ≤ 16 → S 10 i = 1) → S' f i = S f i
theorem EM.ms {m B : Nat} {ν0 ν : zM} (q : MS N m B ν0 ν S) (h : EM S S') : MS N m B ν0 ν S' := by
  have nw := q.nw
  obtain ⟨⟨m1, m2, m3, m4, m5, m6, m7, m8, m9, m10, mw, m11⟩, hso, hmt, hfr⟩ := q
  have b8 := nw.b8; have l14 := nw.l14; have h8 := nw.h8
  have z : ∀ f i, f < 11 ∨ (16 < f ∧ f < 33) ∨ (37 < f ∧ f ≠ 47 ∧ f ≠ 49 ∧ f ≠ 60) → S' f i = S f i := fun f i hf => h f i (by omega) (by omega) (by omega) (by omega) (fun h1 h2 => absurd hf (by omega))
  refine ⟨⟨?_, ?_, ?_, ?_, ?_, ?_, ?_, ?_, ?_, ?_, ?_, ?_⟩, hso.eq (fun i => z _ _ (by omega)) (fun i => z _ _ (by omega)), hmt, hfr⟩
  · intro e k he hk hh
    rw [z 10 _ (by omega)] at hh
    rw [h k e (by omega) (by omega) (by omega) (by omega) (fun h1 _ => hh h1)]; exact m1 e k he hk hh
  · intro e k he h1 h2; rw [z _ _ (by omega)]; exact m2 e k he h1 h2
  · intro b k hb hk hc
    rw [z 32 _ (by omega)] at hc
    rw [z _ _ (by omega)]; exact m3 b k hb hk hc
  · intro b hb; rw [z _ _ (by omega), z _ _ (by omega)]; exact m4 b hb
  · intro l hl; rw [z _ _ (by omega)]; exact m5 l hl
  · intro h hh; rw [z _ _ (by omega)]; exact m6 h hh
  · intro b h hb hh; rw [z _ _ (by omega), z _ _ (by omega)]; exact m7 b h hb hh
  · intro b h hb h1 h2; rw [z _ _ (by omega)]; exact m8 b h hb h1 h2
  · rw [z _ _ (by omega), z _ _ (by omega)]; exact m9
  · obtain ⟨t, t1, t2, t3⟩ := m10
    refine ⟨t, t1, t2, fun hb => ?_⟩
    rw [z _ _ (by omega)] at hb
    obtain ⟨t4, t5⟩ := t3 hb
    exact ⟨by rw [z _ _ (by omega)]; exact t4, fun k hk => by rw [z _ _ (by omega)]; exact t5 k hk⟩
  · exact ⟨fun k hk => by rw [z _ _ (by omega)]; exact mw.1 k hk, fun b hb => by rw [z _ _ (by omega)]; exact mw.2 b hb⟩
  · exact m11.keep rfl (fun _ _ => rfl) (fun c q h1 h2 h3 => z _ _ (by omega))
end zI5
