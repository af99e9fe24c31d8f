/-! WALKS OF PURE FUNCTIONS: numbers beside literals, counted loops -/
theorem mulR2 (a : Nat) : nI a * 2 = nI (a * 2) := pk_mul a 2
theorem mulR3 (a : Nat) : nI a * 3 = nI (a * 3) := pk_mul a 3
theorem mulR4 (a : Nat) : nI a * 4 = nI (a * 4) := pk_mul a 4
theorem mulR6 (a : Nat) : nI a * 6 = nI (a * 6) := pk_mul a 6
theorem mulR7 (a : Nat) : nI a * 7 = nI (a * 7) := pk_mul a 7
theorem mulR8 (a : Nat) : nI a * 8 = nI (a * 8) := pk_mul a 8
theorem mulR10 (a : Nat) : nI a * 10 = nI (a * 10) := pk_mul a 10
theorem mulR12 (a : Nat) : nI a * 12 = nI (a * 12) := pk_mul a 12
theorem mulR16 (a : Nat) : nI a * 16 = nI (a * 16) := pk_mul a 16
theorem mulQ2 (a : Nat) : 2 * nI a = nI (2 * a) := pk_mul 2 a
theorem mulQ3 (a : Nat) : 3 * nI a = nI (3 * a) := pk_mul 3 a
theorem mulQ4 (a : Nat) : 4 * nI a = nI (4 * a) := pk_mul 4 a
theorem mulQ6 (a : Nat) : 6 * nI a = nI (6 * a) := pk_mul 6 a
theorem mulQ7 (a : Nat) : 7 * nI a = nI (7 * a) := pk_mul 7 a
theorem mulQ8 (a : Nat) : 8 * nI a = nI (8 * a) := pk_mul 8 a
theorem mulQ10 (a : Nat) : 10 * nI a = nI (10 * a) := pk_mul 10 a
theorem mulQ12 (a : Nat) : 12 * nI a = nI (12 * a) := pk_mul 12 a
theorem mulQ16 (a : Nat) : 16 * nI a = nI (16 * a) := pk_mul 16 a
theorem mulQ18 (a : Nat) : 18 * nI a = nI (18 * a) := pk_mul 18 a
theorem mulQ48 (a : Nat) : 48 * nI a = nI (48 * a) := pk_mul 48 a
theorem addR2 (a : Nat) : nI a + 2 = nI (a + 2) := nI_add a 2
theorem addR3 (a : Nat) : nI a + 3 = nI (a + 3) := nI_add a 3
theorem addR4 (a : Nat) : nI a + 4 = nI (a + 4) := nI_add a 4
theorem addR5 (a : Nat) : nI a + 5 = nI (a + 5) := nI_add a 5
theorem addR6 (a : Nat) : nI a + 6 = nI (a + 6) := nI_add a 6
theorem addR7 (a : Nat) : nI a + 7 = nI (a + 7) := nI_add a 7
theorem addR8 (a : Nat) : nI a + 8 = nI (a + 8) := nI_add a 8
theorem addR9 (a : Nat) : nI a + 9 = nI (a + 9) := nI_add a 9
theorem addR10 (a : Nat) : nI a + 10 = nI (a + 10) := nI_add a 10
theorem addR16 (a : Nat) : nI a + 16 = nI (a + 16) := nI_add a 16
theorem addR20 (a : Nat) : nI a + 20 = nI (a + 20) := nI_add a 20
theorem addQ4 (a : Nat) : 4 + nI a = nI (4 + a) := nI_add 4 a
theorem addQ100 (a : Nat) : 100 + nI a = nI (100 + a) := nI_add 100 a
theorem addQ964 (a : Nat) : 964 + nI a = nI (964 + a) := nI_add 964 a
theorem addQ978 (a : Nat) : 978 + nI a = nI (978 + a) := nI_add 978 a
theorem addQ986 (a : Nat) : 986 + nI a = nI (986 + a) := nI_add 986 a
theorem addQ1114 (a : Nat) : 1114 + nI a = nI (1114 + a) := nI_add 1114 a
theorem addQ1274 (a : Nat) : 1274 + nI a = nI (1274 + a) := nI_add 1274 a
theorem cltR2 {a : Nat} (ha : a < 2 ^ 31) : clt (nI a) 2 = decide (a < 2) := clt_nI (b := 2) ha (by omega)
theorem cltR3 {a : Nat} (ha : a < 2 ^ 31) : clt (nI a) 3 = decide (a < 3) := clt_nI (b := 3) ha (by omega)
theorem cltR4 {a : Nat} (ha : a < 2 ^ 31) : clt (nI a) 4 = decide (a < 4) := clt_nI (b := 4) ha (by omega)
theorem cltR6 {a : Nat} (ha : a < 2 ^ 31) : clt (nI a) 6 = decide (a < 6) := clt_nI (b := 6) ha (by omega)
theorem cltR8 {a : Nat} (ha : a < 2 ^ 31) : clt (nI a) 8 = decide (a < 8) := clt_nI (b := 8) ha (by omega)
theorem cltR10 {a : Nat} (ha : a < 2 ^ 31) : clt (nI a) 10 = decide (a < 10) := clt_nI (b := 10) ha (by omega)
theorem cltR13 {a : Nat} (ha : a < 2 ^ 31) : clt (nI a) 13 = decide (a < 13) := clt_nI (b := 13) ha (by omega)
theorem cltR14 {a : Nat} (ha : a < 2 ^ 31) : clt (nI a) 14 = decide (a < 14) := clt_nI (b := 14) ha (by omega)
theorem cltR18 {a : Nat} (ha : a < 2 ^ 31) : clt (nI a) 18 = decide (a < 18) := clt_nI (b := 18) ha (by omega)
theorem cltR28 {a : Nat} (ha : a < 2 ^ 31) : clt (nI a) 28 = decide (a < 28) := clt_nI (b := 28) ha (by omega)
theorem cltR40 {a : Nat} (ha : a < 2 ^ 31) : clt (nI a) 40 = decide (a < 40) := clt_nI (b := 40) ha (by omega)
theorem cltR62 {a : Nat} (ha : a < 2 ^ 31) : clt (nI a) 62 = decide (a < 62) := clt_nI (b := 62) ha (by omega)
theorem cltR64 {a : Nat} (ha : a < 2 ^ 31) : clt (nI a) 64 = decide (a < 64) := clt_nI (b := 64) ha (by omega)
theorem cltR84 {a : Nat} (ha : a < 2 ^ 31) : clt (nI a) 84 = decide (a < 84) := clt_nI (b := 84) ha (by omega)
theorem cltR96 {a : Nat} (ha : a < 2 ^ 31) : clt (nI a) 96 = decide (a < 96) := clt_nI (b := 96) ha (by omega)
theorem ceqR0 {a : Nat} (ha : a < 2 ^ 31) : ceq (nI a) 0 = decide (a = 0) := ceq_nI (b := 0) ha (by omega)
theorem ceqR1 {a : Nat} (ha : a < 2 ^ 31) : ceq (nI a) 1 = decide (a = 1) := ceq_nI (b := 1) ha (by omega)
theorem ceqR2 {a : Nat} (ha : a < 2 ^ 31) : ceq (nI a) 2 = decide (a = 2) := ceq_nI (b := 2) ha (by omega)
theorem ceqR3 {a : Nat} (ha : a < 2 ^ 31) : ceq (nI a) 3 = decide (a = 3) := ceq_nI (b := 3) ha (by omega)
theorem ceqR5 {a : Nat} (ha : a < 2 ^ 31) : ceq (nI a) 5 = decide (a = 5) := ceq_nI (b := 5) ha (by omega)
theorem ceqR6 {a : Nat} (ha : a < 2 ^ 31) : ceq (nI a) 6 = decide (a = 6) := ceq_nI (b := 6) ha (by omega)
theorem ceqR8 {a : Nat} (ha : a < 2 ^ 31) : ceq (nI a) 8 = decide (a = 8) := ceq_nI (b := 8) ha (by omega)
theorem ceqR14 {a : Nat} (ha : a < 2 ^ 31) : ceq (nI a) 14 = decide (a = 14) := ceq_nI (b := 14) ha (by omega)
theorem ceqR39 {a : Nat} (ha : a < 2 ^ 31) : ceq (nI a) 39 = decide (a = 39) := ceq_nI (b := 39) ha (by omega)
theorem ceqR40 {a : Nat} (ha : a < 2 ^ 31) : ceq (nI a) 40 = decide (a = 40) := ceq_nI (b := 40) ha (by omega)
theorem ceqR64 {a : Nat} (ha : a < 2 ^ 31) : ceq (nI a) 64 = decide (a = 64) := ceq_nI (b := 64) ha (by omega)
theorem ceqR13 {a : Nat} (ha : a < 2 ^ 31) : ceq (nI a) 13 = decide (a = 13) := ceq_nI (b := 13) ha (by omega)
theorem obs {α β : Type} (a : α) (f : α → Option β) : (some a).bind f = f a := (Option.bind_some a f).trans (Eq.refl _)
theorem ozb2 {A0 A1 B : Type} {f : A0 → A1 → Option B} (x0 : A0) (x1 : A1) : zb2 (some (x0, x1)) f = f x0 x1 := (zb2_some x0 x1).trans (Eq.refl _)
theorem ozb3 {A0 A1 A2 B : Type} {f : A0 → A1 → A2 → Option B} (x0 : A0) (x1 : A1) (x2 : A2) : zb3 (some (x0, x1, x2)) f = f x0 x1 x2 := (zb3_some x0 x1 x2).trans (Eq.refl _)
theorem ozb4 {A0 A1 A2 A3 B : Type} {f : A0 → A1 → A2 → A3 → Option B} (x0 : A0) (x1 : A1) (x2 : A2) (x3 : A3) : zb4 (some (x0, x1, x2, x3)) f = f x0 x1 x2 x3 := (zb4_some x0 x1 x2 x3).trans (Eq.refl _)
theorem zandn {a b : Bool} : (if a = true then some false else some b) = some (!a && b) := by cases a <;> rfl
theorem zorn {a b : Bool} : (if a = true then some b else some true) = some (!a || b) := by cases a <;> rfl
theorem pf_s {σ : Type} (g : Nat → σ → σ) (n : Nat) (x : σ) : pfold g (n + 1) x = g n (pfold g n x) := rfl
theorem pf_0 {σ : Type} (g : Nat → σ → σ) (x : σ) : pfold g 0 x = x := rfl
/-- a loop of one counter -/
theorem lp {τ : Type} {Q : zM → τ → Prop} {body : Int32 × zM → Option ((Int32 × zM) ⊕ (Int32 × zM))} (ix : Nat → Int32) (g : Nat → τ → τ) (n : Nat) {S : τ} {μ : zM}
    (hs : ∀ i μ, i < n → Q μ (pfold g i S) → ∃ μ', body (ix i, μ) = some (.inl (ix (i + 1), μ')) ∧ Q μ' (g i (pfold g i S)))
    (ho : ∀ μ, Q μ (pfold g n S) → body (ix n, μ) = some (.inr (ix n, μ))) (hn : n < 1000000) (h : Q μ S) {x0 : Int32} (h0 : ix 0 = x0 := by rfl) : ∃ μ', zloop body 1000000 (x0, μ) = some (ix n, μ') ∧ Q μ' (pfold g n S) := by
  obtain ⟨r, h1, h2, h3⟩ := zloop_up (body := body) (fun i x => (ix i, x)) (fun i x => Q x (pfold g i S)) n (fun r => r.1 = ix n ∧ Q r.2 (pfold g n S)) (fun i x hi hq => hs i x hi hq) (fun x hq => ⟨(ix n, x), ho x hq, rfl, hq⟩) (n - 0) 0 1000000 μ rfl (Nat.zero_le _) (by omega) h
  exact ⟨r.2, by rw [← h0, h1, ← h2], h3⟩
theorem zb_lp {B : Type} {x : Option (Int32 × zM)} {a : Int32} {μ' : zM} {f : Int32 → zM → Option B} (h : x = some (a, μ')) : zb2 x f = f a μ' := by rw [h]; rfl
/-! CLASS: addresses, states of ports -/
def sp_forget (N : zN) (e : Nat) (S : zS) : zS := pfold (fun h S => if ceq (S 42 (bo N e * 8 + h)) (nI (po N e)) = true then zu S 42 (bo N e * 8 + h) (-1) else S) 8 S
section zC2
variable {N : zN} {s w : Nat} {μ0 μ : zM} {S : zS} {e b : Nat}
theorem C_forget (h : CS N s w μ0 μ S) (he : e < 2 * nL N) : ∃ μ', f8_forgetAt s (nI e) μ = some μ' ∧ CS N s w μ0 μ' (sp_forget N e S) := by
  have nw := h.nw
  have hb := nw.bo_b he
  have hb8 := nw.bo_8 he
  unfold f8_forgetAt sp_forget
  simp (disch := omega) only [h.c_wir, h.w_bo he, obs, pk_mul, nI_add, nI_1, mulR2, mulR3, mulR4, mulR6, mulR7, mulR8, mulR10, mulR12, mulR16, mulQ2, mulQ3, mulQ4, mulQ6, mulQ7, mulQ8, mulQ10, mulQ12, mulQ16, mulQ18, mulQ48, addR2, addR3, addR4, addR5, addR6, addR7, addR8, addR9, addR10, addR16, addR20, addQ4, addQ100, addQ964, addQ978, addQ986, addQ1114, addQ1274, cltR2, cltR3, cltR4, cltR6, cltR8, cltR10, cltR13, cltR14, cltR18, cltR28, cltR40, cltR62, cltR64, cltR84, cltR96, ceqR0, ceqR1, ceqR2, ceqR3, ceqR5, ceqR6, ceqR8, ceqR14, ceqR39, ceqR40, ceqR64, ceqR13, clt_nI, ceq_nI, rI_nI, rA_nI, wA_nI, rZ_nI, wZ_nI, wF, wB, wR, zand, zor, zandn, zorn, ozb2, ozb3, ozb4, decide_true, decide_false, Nat.lt_irrefl, Bool.false_eq_true, ↓reduceIte]
  obtain ⟨μ', e1, h1⟩ := lp (Q := CS N s w μ0) (body := fun q => f8_forgetAt_L1 s (nI e) (nI (bo N e * 8)) q.1 q.2) nI (fun h S => if ceq (S 42 (bo N e * 8 + h)) (nI (po N e)) = true then zu S 42 (bo N e * 8 + h) (-1) else S) 8 (S := S) (μ := μ) (by
    intro i μ1 hi h1
    show ∃ μ', f8_forgetAt_L1 s (nI e) (nI (bo N e * 8)) (nI i) μ1 = _ ∧ _
    simp (disch := omega) only [f8_forgetAt_L1, h1.c_wir, h1.w_po he, h1.r_la, hi, obs, pk_mul, nI_add, nI_1, mulR2, mulR3, mulR4, mulR6, mulR7, mulR8, mulR10, mulR12, mulR16, mulQ2, mulQ3, mulQ4, mulQ6, mulQ7, mulQ8, mulQ10, mulQ12, mulQ16, mulQ18, mulQ48, addR2, addR3, addR4, addR5, addR6, addR7, addR8, addR9, addR10, addR16, addR20, addQ4, addQ100, addQ964, addQ978, addQ986, addQ1114, addQ1274, cltR2, cltR3, cltR4, cltR6, cltR8, cltR10, cltR13, cltR14, cltR18, cltR28, cltR40, cltR62, cltR64, cltR84, cltR96, ceqR0, ceqR1, ceqR2, ceqR3, ceqR5, ceqR6, ceqR8, ceqR14, ceqR39, ceqR40, ceqR64, ceqR13, clt_nI, ceq_nI, rI_nI, rA_nI, wA_nI, rZ_nI, wZ_nI, wF, wB, wR, zand, zor, zandn, zorn, ozb2, ozb3, ozb4, decide_true, decide_false, Nat.lt_irrefl, Bool.false_eq_true, ↓reduceIte]
    by_cases c : ceq (pfold (fun h S => if ceq (S 42 (bo N e * 8 + h)) (nI (po N e)) = true then zu S 42 (bo N e * 8 + h) (-1) else S) i S 42 (bo N e * 8 + i)) (nI (po N e)) = true
    · simp only [if_pos c]
      exact ⟨_, rfl, h1.w_la (by omega) hb hi rfl (Or.inl rfl)⟩
    · simp only [if_neg c]
      exact ⟨_, rfl, h1⟩) (by
    intro μ1 h1
    show f8_forgetAt_L1 s (nI e) (nI (bo N e * 8)) (nI 8) μ1 = _
    simp (disch := omega) only [f8_forgetAt_L1, obs, pk_mul, nI_add, nI_1, mulR2, mulR3, mulR4, mulR6, mulR7, mulR8, mulR10, mulR12, mulR16, mulQ2, mulQ3, mulQ4, mulQ6, mulQ7, mulQ8, mulQ10, mulQ12, mulQ16, mulQ18, mulQ48, addR2, addR3, addR4, addR5, addR6, addR7, addR8, addR9, addR10, addR16, addR20, addQ4, addQ100, addQ964, addQ978, addQ986, addQ1114, addQ1274, cltR2, cltR3, cltR4, cltR6, cltR8, cltR10, cltR13, cltR14, cltR18, cltR28, cltR40, cltR62, cltR64, cltR84, cltR96, ceqR0, ceqR1, ceqR2, ceqR3, ceqR5, ceqR6, ceqR8, ceqR14, ceqR39, ceqR40, ceqR64, ceqR13, clt_nI, ceq_nI, rI_nI, rA_nI, wA_nI, rZ_nI, wZ_nI, wF, wB, wR, zand, zor, zandn, zorn, ozb2, ozb3, ozb4, decide_true, decide_false, Nat.lt_irrefl, Bool.false_eq_true, ↓reduceIte]) (by omega) h
  exact ⟨μ', zb_lp e1, h1⟩
end zC2
