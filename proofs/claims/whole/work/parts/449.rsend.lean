/-! REFERENCE: sending -/
section zR13
variable {N : zN} {m B : Nat} {ν0 ν ν' : zM} {S S' : zS} {R R' : Nat → Int32} {e b l h k n t P st : Nat}
/-- a message more -/
theorem MR.mail (q : MR N R S) (nw : NW N) (he : e < 2 * nL N) {c : Bool} {bits : Int32} (hnew : S 61 (slot (fe e) (st + tks N (e / 2))) ≠ 1)
    (hR1 : ∀ k, k ≠ 2 → k < 1274 + 10 * (lS S).length ∨ 1274 + 10 * (lS S).length + 10 ≤ k → R' k = R k) (hR2 : R' 2 = nI ((lS S).length + 1))
    (hrow : rowOK N R' (sp_mail N e st c bits S) (lS S).length (slot (fe e) (st + tks N (e / 2)))) : MR N R' (sp_mail N e st c bits S) := by
  obtain ⟨m1, m2, m3, m4, m5, m6, m7, m8, m9, m10, mw, m11⟩ := q
  have b8 := nw.b8; have l14 := nw.l14; have h8 := nw.h8
  have hl : (lS S).length ≤ 84 := by
    have := nodup_len (6 * nL N) (lS S) m11.1 (fun q hq => ((m11.2.1 q).mp hq).1)
    omega
  have hfe := fe_lt he
  have ht : slot (fe e) (st + tks N (e / 2)) < 6 * nL N := by unfold slot; omega
  have hnin : slot (fe e) (st + tks N (e / 2)) ∉ lS S := fun x => hnew ((m11.2.1 _).mp x).2
  have hl2 : (lS S).length < 84 := by
    have nd : (lS S ++ [slot (fe e) (st + tks N (e / 2))]).Nodup := by
      rw [List.nodup_append]
      exact ⟨m11.1, by simp, fun a ha b hb => by
        have : b = slot (fe e) (st + tks N (e / 2)) := by simpa using hb
        rw [this]; exact fun x => hnin (by rw [← x]; exact ha)⟩
    have := nodup_len (6 * nL N) _ nd (fun q hq => by
      rcases List.mem_append.mp hq with h | h
      · exact ((m11.2.1 q).mp h).1
      · have : q = slot (fe e) (st + tks N (e / 2)) := by simpa using h
        rw [this]; exact ht)
    simp at this
    omega
  have z : ∀ f i, (f < 50 ∨ 63 < f) ∨ (f ≤ 61 ∧ i ≠ slot (fe e) (st + tks N (e / 2))) → sp_mail N e st c bits S f i = S f i := by
    intro f i hf
    unfold sp_mail setL zu
    rw [if_neg (by omega), if_neg (by omega), if_neg (by omega), if_neg (by omega), if_neg (by omega), if_neg (by omega), if_neg (by omega), if_neg (by omega), if_neg (by omega), if_neg (by omega), if_neg (by omega), if_neg (by omega)]
  have els : lS (sp_mail N e st c bits S) = lS S ++ [slot (fe e) (st + tks N (e / 2))] := lS_set (by simp; omega) (fun q hq => by
    rcases List.mem_append.mp hq with h | h
    · have := ((m11.2.1 q).mp h).1; omega
    · have : q = slot (fe e) (st + tks N (e / 2)) := by simpa using h
      omega)
  have g : ∀ k, k ≠ 2 → k < 1274 ∨ 3000 ≤ k → R' k = R k := fun k h1 h2 => hR1 k h1 (by omega)
  refine ⟨?_, ?_, ?_, ?_, ?_, ?_, ?_, ?_, ?_, ?_, ?_, ?_⟩
  · intro e k he hk hh
    have := nw.pl_48 he
    rw [z 10 _ (by omega)] at hh
    rw [g _ (by omega) (by omega), z _ _ (by omega)]; exact m1 e k he hk hh
  · intro e k he h1 h2; rw [z _ _ (by omega)]; exact m2 e k he h1 h2
  · intro b k hb hk hc
    rw [z 32 _ (by omega)] at hc
    rw [g _ (by omega) (by omega), z _ _ (by omega)]; exact m3 b k hb hk hc
  · intro b hb; rw [z _ _ (by omega), z _ _ (by omega)]; exact m4 b hb
  · intro l hl; rw [z _ _ (by omega), g _ (by omega) (by omega)]; exact m5 l hl
  · intro h hh; rw [z _ _ (by omega), g _ (by omega) (by omega)]; exact m6 h hh
  · intro b h hb hh; rw [z _ _ (by omega), z _ _ (by omega), g _ (by omega) (by omega), g _ (by omega) (by omega)]; exact m7 b h hb hh
  · intro b h hb h1 h2; rw [z _ _ (by omega)]; exact m8 b h hb h1 h2
  · rw [z _ _ (by omega), z _ _ (by omega), g _ (by omega) (by omega), g _ (by omega) (by omega)]; exact m9
  · obtain ⟨t, t1, t2, t3⟩ := m10
    refine ⟨t, t1, by rw [g _ (by omega) (by omega)]; exact t2, fun hb => ?_⟩
    rw [z _ _ (by omega)] at hb
    obtain ⟨t4, t5⟩ := t3 hb
    exact ⟨by rw [z _ _ (by omega)]; exact t4, fun k hk => by rw [z _ _ (by omega), g _ (by omega) (by omega)]; exact t5 k hk⟩
  · exact ⟨fun k hk => by rw [g _ (by omega) (by omega), z _ _ (by omega)]; exact mw.1 k hk, fun b hb => by rw [g _ (by omega) (by omega), z _ _ (by omega)]; exact mw.2 b hb⟩
  · rw [els]
    refine ⟨?_, fun q => ?_, ?_, fun k q hk => ?_⟩
    · rw [List.nodup_append]
      exact ⟨m11.1, by simp, fun a ha b hb => by
        have : b = slot (fe e) (st + tks N (e / 2)) := by simpa using hb
        rw [this]; exact fun x => hnin (by rw [← x]; exact ha)⟩
    · rw [List.mem_append, m11.2.1 q, List.mem_singleton]
      by_cases c2 : q = slot (fe e) (st + tks N (e / 2))
      · subst c2
        exact ⟨fun _ => ⟨ht, if_pos ⟨rfl, rfl⟩⟩, fun _ => Or.inr rfl⟩
      · rw [z 61 q (Or.inr ⟨by omega, c2⟩)]
        exact ⟨fun x => x.resolve_right c2, fun x => Or.inl x⟩
    · rw [hR2]; simp
    · by_cases c2 : k < (lS S).length
      · rw [List.getElem?_append_left c2] at hk
        obtain ⟨a1, a2, a3, a4⟩ := m11.2.2.2 k q hk
        have hne : q ≠ slot (fe e) (st + tks N (e / 2)) := fun x => hnin (by rw [← x]; exact List.mem_of_getElem? hk)
        exact ⟨by rw [hR1 _ (by omega) (by omega), z 50 _ (Or.inr ⟨by omega, hne⟩)]; exact a1, by rw [hR1 _ (by omega) (by omega)]; exact a2, by rw [hR1 _ (by omega) (by omega)]; exact a3, fun c x y => by rw [hR1 _ (by omega) (by omega), z (50 + c) _ (Or.inr ⟨by omega, hne⟩)]; exact a4 c x y⟩
      · rw [List.getElem?_append_right (by omega)] at hk
        have hk0 : k = (lS S).length := by
          rw [List.getElem?_eq_some_iff] at hk
          obtain ⟨b1, _⟩ := hk
          simp at b1
          omega
        subst hk0
        have : q = slot (fe e) (st + tks N (e / 2)) := by simpa using hk.symm
        subst this
        exact hrow
end zR13
