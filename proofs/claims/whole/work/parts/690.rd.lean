/-! READING: the semicolon, what stands next, a name; both -/
section zNa
variable {x m n p q e k i j a z r : Nat} {μ ν μ' ν' μ1 ν1 : zM} {g : Nat → Nat} {v v' l : Int32}
theorem SK.self (s : SK g n p q) : SK g n q q := ⟨Nat.le_refl _, s.2.1, fun j h1 h2 => absurd h2 (by omega), s.2.2.2⟩
/-- blanks are passed over, both -/
theorem RS.sk (h : RS x m n g p μ ν) (s : SK g n p q) : RS x m n g q (sF μ 503 (x + 49) (nI q)) (sF ν 1237 m (nI q)) := by
  obtain ⟨tc, tr, ol, pn, e3, e7, hl, e9, kp⟩ := h
  exact ⟨tc.w (by omega), tr.w (by omega), fun j hj => ol j hj, s.2.1, sF_eq, sF_eq, by rw [sF_ne (by omega)]; exact hl.sk s, by rw [sF_ne (by omega)]; exact e9, (kp.kc (by omega) (by omega)).kr (sF_ne (by omega))⟩
theorem C_semi (t : TpC x n g μ) (e3 : gF μ 503 (x + 49) = nI p) (s : SK g n p q) : f5_semicolon (x + 49) μ = (if q < n ∧ g q = 59 then some (true, sF μ 503 (x + 49) (nI (q + 1))) else some (false, sF (sF (sF μ 503 (x + 49) (nI q)) 507 (x + 49) 1) 508 (x + 49) (nI q))) := by
  have t1 := t.1
  have s2 := s.2.1
  obtain ⟨t1, t2, t3⟩ := t
  unfold f5_semicolon f5_fails
  rw [C_sk s ⟨t1, t2, t3⟩ e3, obs, sF_eq, sF_ne (k' := 502) (by omega), t2, clt_nI (by omega) (by omega)]
  by_cases c : q < n
  · obtain ⟨y1, y2⟩ := t3 q (by omega)
    rw [decide_eq_true c, if_pos rfl, show x + 49 - 48 = x + 1 by omega, rA_nI (by omega) (by omega), show gA (sF μ 503 (x + 49) (nI q)) (x + 1) q = gA μ (x + 1) q from rfl, y1, obs, show (59 : Int32) = nI 59 from rfl, ceq_nI (by omega) (by omega), obs]
    by_cases d : g q = 59
    · rw [decide_eq_true d, if_pos (show q < n ∧ g q = 59 from ⟨c, d⟩), Bool.not_true, if_neg (by decide), nI_1]
      show some (true, sF (sF μ 503 (x + 49) (nI q)) 503 (x + 49) (nI (q + 1))) = _
      rw [sF_2]
    · rw [decide_eq_false d, if_neg (show ¬ (q < n ∧ g q = 59) from fun y => d y.2), Bool.not_false, if_pos rfl]; rfl
  · rw [decide_eq_false c, if_neg (show ¬ (q < n ∧ g q = 59) from fun y => c y.1), if_neg (by decide), obs, if_pos rfl]; rfl
theorem R_semi (t : TpR m n g ν) (e7 : gF ν 1237 m = nI p) (e9 : gF ν 1239 m = 0) (s : SK g n p q) : f12_endsWell m ν = (if q < n ∧ g q = 59 then some (sF ν 1237 m (nI (q + 1))) else some (sF (sF (sF ν 1237 m (nI q)) 1239 m 1) 1240 m (nI q))) := by
  have t1 := t.1
  have s2 := s.2.1
  have g9 : gF (sF ν 1237 m (nI q)) 1239 m = 0 := by rw [sF_ne (by omega)]; exact e9
  unfold f12_endsWell f12_goes
  rw [e9, show ceq (0 : Int32) 0 = true from rfl, obs, obs, if_pos rfl, R_here s t e7, ozb2, sF_eq, R_fails0 g9]
  by_cases c : q < n
  · obtain ⟨y1, y2⟩ := t.2.2 q (by omega)
    rw [if_pos c, show (59 : Int32) = nI 59 from rfl, ceq_nI (by omega) (by omega)]
    by_cases d : g q = 59
    · rw [decide_eq_true d, if_pos rfl, if_pos (show q < n ∧ g q = 59 from ⟨c, d⟩), nI_1]
      show some (sF (sF ν 1237 m (nI q)) 1237 m (nI (q + 1))) = _
      rw [sF_2]
    · rw [decide_eq_false d, if_neg (by decide), if_neg (show ¬ (q < n ∧ g q = 59) from fun y => d y.2)]; rfl
  · rw [if_neg c, if_neg (show ¬ (q < n ∧ g q = 59) from fun y => c y.1)]; rfl
theorem semi2 (h : RS x m n g p μ ν) : (∃ e μ' ν', p < e ∧ f5_semicolon (x + 49) μ = some (true, μ') ∧ f12_endsWell m ν = some ν' ∧ RS x m n g e μ' ν' ∧ CTf x μ μ' ∧ RTf m ν ν') ∨ (∃ μ' ν', f5_semicolon (x + 49) μ = some (false, μ') ∧ f12_endsWell m ν = some ν' ∧ BAD x m μ' ν' ∧ CTf x μ μ' ∧ RTf m ν ν') := by
  obtain ⟨tc, tr, ol, pn, e3, e7, hl, e9, kp⟩ := h
  obtain ⟨q, s⟩ := SK.ex g n (n - p) p rfl pn
  have s1 := s.1
  rw [C_semi tc e3 s, R_semi tr e7 e9 s]
  by_cases c : q < n ∧ g q = 59
  · rw [if_pos c, if_pos c]
    refine Or.inl ⟨q + 1, _, _, by omega, rfl, rfl, ⟨tc.w (by omega), tr.w (by omega), fun j hj => ol j hj, by omega, sF_eq, sF_eq, ?_, by rw [sF_ne (by omega)]; exact e9, (kp.kc (by omega) (by omega)).kr (sF_ne (by omega))⟩, CTf.w (by omega), RTf.w (by omega)⟩
    rw [sF_ne (by omega)]
    exact (hl.sk s).one (by rw [c.2]; unfold ltr sml dgt; omega)
  · rw [if_neg c, if_neg c]
    exact Or.inr ⟨_, _, rfl, rfl, ⟨1, by omega, by omega, by rw [sF_ne (by omega), sF_eq]; rfl, by rw [sF_ne (by omega), sF_eq]; rfl, by rw [sF_eq, sF_eq]⟩, ((CTf.w (by omega)).tr (CTf.w (by omega))).tr (CTf.w (by omega)), ((RTf.w (by omega)).tr (RTf.w (by omega))).tr (RTf.w (by omega))⟩
/-- the class at q -/
theorem C_nx (t : TpC x n g μ) (hp : gF μ 503 (x + 49) = nI q) (hl : LT g q (gF μ 504 (x + 49))) (s : SK g n q q) (w : WE g n q e) (hk : k < 13) : (¬ touch g n q ∧ IsW g q e k ∧ f5_nextIs (x + 49) k μ = some (true, μ)) ∨ (¬ (¬ touch g n q ∧ IsW g q e k) ∧ f5_nextIs (x + 49) k μ = some (false, μ)) := by
  have h := C_next t hp hl s w hk
  rw [sF_id hp] at h
  exact h
/-- what stands next, both: μ and ν stand at q (no blank there); e ends the word -/
def TK (x m n : Nat) (g : Nat → Nat) (q e : Nat) (μ ν ν2 : zM) : Prop := (∃ r, r < 13 ∧ q < e ∧ ¬ touch g n q ∧ IsW g q e r ∧ gF ν2 1239 m = 0 ∧ gF ν2 1238 m = nI q ∧ RS x m n g e (sF (sF μ 503 (x + 49) (nI e)) 504 (x + 49) (nI e)) ν2 ∧ f5_word (x + 49) r μ = some (true, sF (sF μ 503 (x + 49) (nI e)) 504 (x + 49) (nI e)) ∧ (∀ ν3, TpR m n g ν3 → OL m ν3 → gF ν3 1238 m = nI q → gF ν3 1237 m = nI e → f12_own m ν3 = some (nI r)) ∧ (∀ k, k < 13 → f5_nextIs (x + 49) k μ = some (decide (k = r), μ)) ∧ ∀ k, k < 13 → k ≠ r → f5_word (x + 49) k μ = some (false, sF (sF μ 507 (x + 49) 1) 508 (x + 49) (nI q))) ∨ (∃ r : Int32, (∀ k, k < 13 → f5_nextIs (x + 49) k μ = some (false, μ) ∧ f5_word (x + 49) k μ = some (false, sF (sF μ 507 (x + 49) 1) 508 (x + 49) (nI q))) ∧ gF ν2 1238 m = nI q ∧ ((gF ν2 1239 m = 0 ∧ q < e ∧ ¬ touch g n q ∧ (∀ k, k < 13 → ¬ IsW g q e k) ∧ gF ν2 1237 m = nI e ∧ ∀ ν3, TpR m n g ν3 → OL m ν3 → gF ν3 1238 m = nI q → gF ν3 1237 m = nI e → f12_own m ν3 = some (-1)) ∨ (gF ν2 1239 m = 1 ∧ gF ν2 1240 m = nI q ∧ ¬ (¬ touch g n q ∧ q < e))))
theorem tok2 (h : RS x m n g q μ ν) (s : SK g n q q) (w : WE g n q e) : ∃ ν2, f12_word m ν = some ν2 ∧ RTf m ν ν2 ∧ TK x m n g q e μ ν ν2 := by
  obtain ⟨tc, tr, ol, pn, e3, e7, hl, e9, kp⟩ := h
  have t1 := tc.1
  have w2 := w.2.1
  have bad : ∀ k, k < 13 → ¬ (¬ touch g n q ∧ IsW g q e k) → f5_nextIs (x + 49) k μ = some (false, μ) ∧ f5_word (x + 49) k μ = some (false, sF (sF μ 507 (x + 49) 1) 508 (x + 49) (nI q)) := fun k hk hn => by
    constructor
    · rcases C_nx tc e3 hl s w hk with ⟨a1, a2, a3⟩ | ⟨a1, a3⟩
      · exact absurd ⟨a1, a2⟩ hn
      · exact a3
    · rcases C_word tc e3 hl s w hk with ⟨a1, a2, a3⟩ | ⟨a1, a3⟩
      · exact absurd ⟨a1, a2⟩ hn
      · rw [a3, sF_id e3]
  rcases R_word tr e7 e9 s w with ⟨a1, a2, a3⟩ | ⟨a1, a3⟩
  · have fr : RTf m ν (sF (sF (sF ν 1237 m (nI q)) 1238 m (nI q)) 1237 m (nI e)) := ((RTf.w (by omega)).tr (RTf.w (by omega))).tr (RTf.w (by omega))
    have g8 : gF (sF (sF (sF ν 1237 m (nI q)) 1238 m (nI q)) 1237 m (nI e)) 1238 m = nI q := by rw [sF_ne (by omega), sF_eq]
    have g7 : gF (sF (sF (sF ν 1237 m (nI q)) 1238 m (nI q)) 1237 m (nI e)) 1237 m = nI e := sF_eq
    have g9 : gF (sF (sF (sF ν 1237 m (nI q)) 1238 m (nI q)) 1237 m (nI e)) 1239 m = 0 := by rw [sF_ne (by omega), sF_ne (by omega), sF_ne (by omega)]; exact e9
    have g10 : gF (sF (sF (sF ν 1237 m (nI q)) 1238 m (nI q)) 1237 m (nI e)) 1240 m = gF ν 1240 m := by rw [sF_ne (by omega), sF_ne (by omega), sF_ne (by omega)]
    refine ⟨_, a3, fr, ?_⟩
    generalize sF (sF (sF ν 1237 m (nI q)) 1238 m (nI q)) 1237 m (nI e) = ν2 at fr g8 g7 g9 g10 ⊢
    rcases R_own (tr.fr fr) (ol.fr fr) w g8 g7 with ⟨r, r1, r2, r3⟩ | ⟨r1, r2⟩
    · refine Or.inl ⟨r, r1, a2, a1, r2, g9, g8, ⟨(tc.w (by omega)).w (by omega), tr.fr fr, ol.fr fr, w2, by rw [sF_ne (by omega), sF_eq], g7, ?_, g9, ((kp.kc (by omega) (by omega)).kc (by omega) (by omega)).kr g10⟩, ?_, ?_, ?_, fun k hk hr => (bad k hk (fun y => hr (IsW.uni hk r1 y.2 r2))).2⟩
      · rw [sF_eq]
        exact LT.tok (by omega) (Or.inl (w.2.2.1 (e - 1) (by omega) (by omega)))
      · rcases C_word tc e3 hl s w r1 with ⟨c1, c2, c3⟩ | ⟨c1, c3⟩
        · exact c3
        · exact absurd ⟨a1, r2⟩ c1
      · intro ν3 h1 h2 h3 h4
        rcases R_own h1 h2 w h3 h4 with ⟨r', q1, q2, q3⟩ | ⟨q1, q2⟩
        · rw [q3, IsW.uni q1 r1 q2 r2]
        · exact absurd r2 (q1 r r1)
      · intro k hk
        by_cases c : k = r
        · subst c
          rw [decide_eq_true rfl]
          rcases C_nx tc e3 hl s w hk with ⟨c1, c2, c3⟩ | ⟨c1, c3⟩
          · exact c3
          · exact absurd ⟨a1, r2⟩ c1
        · rw [decide_eq_false c]
          exact (bad k hk (fun y => c (IsW.uni hk r1 y.2 r2))).1
    · refine Or.inr ⟨0, fun k hk => bad k hk (fun y => r1 k hk y.2), g8, Or.inl ⟨g9, a2, a1, r1, g7, ?_⟩⟩
      intro ν3 h1 h2 h3 h4
      rcases R_own h1 h2 w h3 h4 with ⟨r', q1, q2, q3⟩ | ⟨q1, q2⟩
      · exact absurd q2 (r1 r' q1)
      · exact q2
  · have fr : RTf m ν (sF (sF (sF (sF ν 1237 m (nI q)) 1238 m (nI q)) 1239 m 1) 1240 m (nI q)) := (((RTf.w (by omega)).tr (RTf.w (by omega))).tr (RTf.w (by omega))).tr (RTf.w (by omega))
    refine ⟨_, a3, fr, Or.inr ⟨0, fun k hk => bad k hk (fun y => a1 ⟨y.1, by have := y.2.1; have := (w_len k hk).2.2; omega⟩), by rw [sF_ne (by omega), sF_ne (by omega), sF_eq], Or.inr ⟨by rw [sF_ne (by omega), sF_eq], sF_eq, a1⟩⟩⟩
theorem nx_sk (t : TpC x n g μ) (hp : gF μ 503 (x + 49) = nI p) (s : SK g n p q) : f5_nextIs (x + 49) k μ = f5_nextIs (x + 49) k (sF μ 503 (x + 49) (nI q)) := by
  unfold f5_nextIs
  rw [C_sk s t hp, C_sk s.self (t.w (by omega)) sF_eq, sF_2]
theorem wd_sk (t : TpC x n g μ) (hp : gF μ 503 (x + 49) = nI p) (s : SK g n p q) : f5_word (x + 49) k μ = f5_word (x + 49) k (sF μ 503 (x + 49) (nI q)) := by
  unfold f5_word
  rw [nx_sk t hp s]
theorem rw_sk (t : TpR m n g ν) (hp : gF ν 1237 m = nI p) (h9 : gF ν 1239 m = 0) (s : SK g n p q) (w : WE g n q e) : f12_word m ν = f12_word m (sF ν 1237 m (nI q)) := by
  have A := R_word t hp h9 s w
  have B := R_word (t.w (k := 1237) (a := m) (v := nI q) (by omega)) sF_eq (by rw [sF_ne (by omega)]; exact h9) s.self w
  rw [sF_2] at B
  rcases A with ⟨a1, a2, a3⟩ | ⟨a1, a3⟩
  · rcases B with ⟨b1, b2, b3⟩ | ⟨b1, b3⟩
    · rw [a3, b3]
    · exact absurd ⟨a1, a2⟩ b1
  · rcases B with ⟨b1, b2, b3⟩ | ⟨b1, b3⟩
    · exact absurd ⟨b1, b2⟩ a1
    · rw [a3, b3]
end zNa
