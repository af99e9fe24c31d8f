/-! READING: an own word that must stand here, both in one -/
def CTf (x : Nat) (μ μ' : zM) : Prop := (∀ k a, ¬ (a = x + 49 ∧ 503 ≤ k ∧ k ≤ 508) → gF μ' k a = gF μ k a) ∧ (∀ k a, gB μ' k a = gB μ k a) ∧ (∀ k a, gR μ' k a = gR μ k a) ∧ (∀ a j, a ≠ x + 50 → gA μ' a j = gA μ a j) ∧ (∀ a j, gZ μ' a j = gZ μ a j) ∧ ∀ a j, gX μ' a j = gX μ a j
def RTf (m : Nat) (ν ν' : zM) : Prop := (∀ k a, ¬ (a = m ∧ 1237 ≤ k ∧ k ≤ 1240) → gF ν' k a = gF ν k a) ∧ (∀ k a, gB ν' k a = gB ν k a) ∧ (∀ k a, gR ν' k a = gR ν k a) ∧ (∀ a j, gA ν' a j = gA ν a j) ∧ (∀ a j, gZ ν' a j = gZ ν a j) ∧ ∀ a j, gX ν' a j = gX ν a j
/-- both failed, for the same reason, at the same place -/
def BAD (x m : Nat) (μ ν : zM) : Prop := ∃ c, 0 < c ∧ c < 6 ∧ gF μ 507 (x + 49) = nI c ∧ gF ν 1239 m = nI c ∧ gF μ 508 (x + 49) = gF ν 1240 m
section zN5
variable {x m n p q e k i j a : Nat} {μ ν μ' ν' μ1 ν1 : zM} {g : Nat → Nat} {v v' l : Int32}
theorem CTf.rf : CTf x μ μ := ⟨fun _ _ _ => rfl, fun _ _ => rfl, fun _ _ => rfl, fun _ _ _ => rfl, fun _ _ => rfl, fun _ _ => rfl⟩
theorem CTf.tr (h : CTf x μ μ1) (h2 : CTf x μ1 μ') : CTf x μ μ' := ⟨fun k a z => (h2.1 k a z).trans (h.1 k a z), fun k a => (h2.2.1 k a).trans (h.2.1 k a), fun k a => (h2.2.2.1 k a).trans (h.2.2.1 k a), fun a j z => (h2.2.2.2.1 a j z).trans (h.2.2.2.1 a j z), fun a j => (h2.2.2.2.2.1 a j).trans (h.2.2.2.2.1 a j), fun a j => (h2.2.2.2.2.2 a j).trans (h.2.2.2.2.2 a j)⟩
theorem CTf.w (hk : 503 ≤ k ∧ k ≤ 508) : CTf x μ (sF μ k (x + 49) v) := ⟨fun k' a z => by rw [gF_sF, if_neg (by omega)], fun _ _ => rfl, fun _ _ => rfl, fun _ _ _ => rfl, fun _ _ => rfl, fun _ _ => rfl⟩
theorem RTf.rf : RTf m ν ν := ⟨fun _ _ _ => rfl, fun _ _ => rfl, fun _ _ => rfl, fun _ _ => rfl, fun _ _ => rfl, fun _ _ => rfl⟩
theorem RTf.tr (h : RTf m ν ν1) (h2 : RTf m ν1 ν') : RTf m ν ν' := ⟨fun k a z => (h2.1 k a z).trans (h.1 k a z), fun k a => (h2.2.1 k a).trans (h.2.1 k a), fun k a => (h2.2.2.1 k a).trans (h.2.2.1 k a), fun a j => (h2.2.2.2.1 a j).trans (h.2.2.2.1 a j), fun a j => (h2.2.2.2.2.1 a j).trans (h.2.2.2.2.1 a j), fun a j => (h2.2.2.2.2.2 a j).trans (h.2.2.2.2.2 a j)⟩
theorem RTf.w (hk : 1237 ≤ k ∧ k ≤ 1240) : RTf m ν (sF ν k m v) := ⟨fun k' a z => by rw [gF_sF, if_neg (by omega)], fun _ _ => rfl, fun _ _ => rfl, fun _ _ => rfl, fun _ _ => rfl, fun _ _ => rfl⟩
theorem TpC.fr (t : TpC x n g μ) (f : CTf x μ μ') : TpC x n g μ' := ⟨t.1, by rw [f.1 _ _ (by omega)]; exact t.2.1, fun j hj => by rw [f.2.2.2.1 _ _ (by omega)]; exact t.2.2 j hj⟩
theorem TpR.fr (t : TpR m n g ν) (f : RTf m ν ν') : TpR m n g ν' := ⟨t.1, by rw [f.1 _ _ (by omega)]; exact t.2.1, fun j hj => by rw [f.2.2.2.1]; exact t.2.2 j hj⟩
theorem OL.fr (t : OL m ν) (f : RTf m ν ν') : OL m ν' := fun j hj => by rw [f.2.2.2.1]; exact t j hj
theorem must2 (h : RS x m n g p μ ν) (hk : k < 13) : (∃ e μ' ν', p < e ∧ f5_word (x + 49) k μ = some (true, μ') ∧ f12_must m (nI k) ν = some ν' ∧ RS x m n g e μ' ν' ∧ CTf x μ μ' ∧ RTf m ν ν') ∨ (∃ μ' ν', f5_word (x + 49) k μ = some (false, μ') ∧ f12_must m (nI k) ν = some ν' ∧ BAD x m μ' ν' ∧ CTf x μ μ' ∧ RTf m ν ν') := by
  obtain ⟨tc, tr, ol, pn, e3, e7, hl, e9, kp⟩ := h
  obtain ⟨q, s⟩ := SK.ex g n (n - p) p rfl pn
  obtain ⟨e, w⟩ := WE.ex g n (n - q) q rfl s.2.1
  have t1 := tc.1
  have s2 := s.2.1
  have w2 := w.2.1
  have l2 := (w_len k hk).2.2
  have fc : CTf x μ (sF (sF (sF μ 503 (x + 49) (nI q)) 507 (x + 49) 1) 508 (x + 49) (nI q)) := ((CTf.w (by omega)).tr (CTf.w (by omega))).tr (CTf.w (by omega))
  unfold f12_must
  rcases R_word tr e7 e9 s w with ⟨a1, a2, a3⟩ | ⟨a1, a3⟩
  · have fr : RTf m ν (sF (sF (sF ν 1237 m (nI q)) 1238 m (nI q)) 1237 m (nI e)) := ((RTf.w (by omega)).tr (RTf.w (by omega))).tr (RTf.w (by omega))
    have g8 : gF (sF (sF (sF ν 1237 m (nI q)) 1238 m (nI q)) 1237 m (nI e)) 1238 m = nI q := by rw [sF_ne (by omega), sF_eq]
    have g7 : gF (sF (sF (sF ν 1237 m (nI q)) 1238 m (nI q)) 1237 m (nI e)) 1237 m = nI e := sF_eq
    have g9 : gF (sF (sF (sF ν 1237 m (nI q)) 1238 m (nI q)) 1237 m (nI e)) 1239 m = 0 := by rw [sF_ne (by omega), sF_ne (by omega), sF_ne (by omega)]; exact e9
    have g10 : gF (sF (sF (sF ν 1237 m (nI q)) 1238 m (nI q)) 1237 m (nI e)) 1240 m = gF ν 1240 m := by rw [sF_ne (by omega), sF_ne (by omega), sF_ne (by omega)]
    rw [a3, obs]
    generalize sF (sF (sF ν 1237 m (nI q)) 1238 m (nI q)) 1237 m (nI e) = ν1 at fr g7 g8 g9 g10 ⊢
    have bad : ∃ ν', f12_fails m 1 (nI q) ν1 = some ν' ∧ BAD x m (sF (sF (sF μ 503 (x + 49) (nI q)) 507 (x + 49) 1) 508 (x + 49) (nI q)) ν' ∧ RTf m ν ν' := by
      unfold f12_fails
      rw [g9, show ceq (0 : Int32) 0 = true from rfl, if_pos rfl]
      refine ⟨_, rfl, ⟨1, by omega, by omega, by rw [sF_ne (by omega), sF_eq]; rfl, by rw [sF_ne (by omega), sF_eq]; rfl, by rw [sF_eq, sF_eq]⟩, (fr.tr (RTf.w (by omega))).tr (RTf.w (by omega))⟩
    unfold f12_goes
    rw [g9, show ceq (0 : Int32) 0 = true from rfl]
    simp only [obs, ↓reduceIte]
    have own : f12_own m ν1 = some (nI k) ∧ IsW g q e k ∨ (∃ r, f12_own m ν1 = some r ∧ ceq r (nI k) = false) ∧ ¬ IsW g q e k := by
      rcases R_own (tr.fr fr) (ol.fr fr) w g8 g7 with ⟨r, r1, r2, r3⟩ | ⟨r1, r2⟩
      · by_cases c : r = k
        · rw [c] at r2 r3
          exact Or.inl ⟨r3, r2⟩
        · exact Or.inr ⟨⟨nI r, r3, by rw [ceq_nI (by omega) (by omega), decide_eq_false c]⟩, fun z => c (IsW.uni r1 hk r2 z)⟩
      · exact Or.inr ⟨⟨-1, r2, decide_eq_false (m1_ne (by omega))⟩, r1 k hk⟩
    rcases own with ⟨o1, o2⟩ | ⟨⟨r, o1, o3⟩, o2⟩
    · rcases C_word tc e3 hl s w hk with ⟨c1, c2, c3⟩ | ⟨c1, c3⟩
      · refine Or.inl ⟨e, _, ν1, (by have := s.1; omega), c3, ?_, ⟨(tc.w (by omega)).w (by omega), tr.fr fr, ol.fr fr, w2, by rw [sF_ne (by omega), sF_eq], g7, ?_, g9, ((kp.kc (by omega) (by omega)).kc (by omega) (by omega)).kr g10⟩, (CTf.w (by omega)).tr (CTf.w (by omega)), fr⟩
        · rw [o1, obs, show ceq (nI k) (nI k) = true from decide_eq_true rfl]; rfl
        · rw [sF_eq]
          exact LT.tok (by omega) (Or.inl (w.2.2.1 (e - 1) (by omega) (by omega)))
      · exact absurd ⟨a1, o2⟩ c1
    · rcases C_word tc e3 hl s w hk with ⟨c1, c2, c3⟩ | ⟨c1, c3⟩
      · exact absurd c2 o2
      · obtain ⟨ν', b1, b2, b3⟩ := bad
        refine Or.inr ⟨_, ν', c3, ?_, b2, fc, b3⟩
        rw [o1, obs, o3, g8]
        show (f12_fails m 1 (nI q) ν1).bind _ = _
        rw [b1, obs]
  · rcases C_word tc e3 hl s w hk with ⟨c1, c2, c3⟩ | ⟨c1, c3⟩
    · exact absurd ⟨c1, by have := c2.1; omega⟩ a1
    · refine Or.inr ⟨_, sF (sF (sF (sF ν 1237 m (nI q)) 1238 m (nI q)) 1239 m 1) 1240 m (nI q), c3, ?_, ⟨1, by omega, by omega, by rw [sF_ne (by omega), sF_eq]; rfl, by rw [sF_ne (by omega), sF_eq]; rfl, by rw [sF_eq, sF_eq]⟩, fc, (((RTf.w (by omega)).tr (RTf.w (by omega))).tr (RTf.w (by omega))).tr (RTf.w (by omega))⟩
      unfold f12_goes
      rw [a3, obs, sF_ne (by omega), sF_eq]
      rfl
end zN5
