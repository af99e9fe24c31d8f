/-! WHEN ALL RESTS: both go the same steps over a copy -/
/-- the state `n` steps on -/
def stp (N : zN) (st : Nat) (n : Nat) (S : zS) : zS := pfold (fun k S => sp_step N (st + k) S) n S
/-- the first of at most `m` steps at which `P` holds -/
def Fst (P : Nat → Prop) (m n : Nat) : Prop := n ≤ m ∧ P n ∧ ∀ k, k < n → ¬ P k
section zH3
variable {N : zN} {x w m B st n k i f : Nat} {μ0 μ μ' ν0 ν : zM} {S : zS} {P : Nat → Prop}
theorem fst_u {m a b : Nat} (h1 : Fst P m a) (h2 : Fst P m b) : a = b := by
  by_cases c : a < b
  · exact absurd h1.2.1 (h2.2.2 a c)
  · by_cases c2 : b < a
    · exact absurd h2.2.1 (h1.2.2 b c2)
    · omega
theorem stp_s : stp N st (n + 1) S = sp_step N (st + n) (stp N st n S) := rfl
theorem stp_k (nw : NW N) (hf : f = 20 ∨ f = 21 ∨ f = 22 ∨ f = 40 ∨ f = 41 ∨ f = 46 ∨ f = 47 ∨ f = 38) : ∀ n, stp N st n S f i = S f i
  | 0 => rfl
  | n + 1 => by
    rw [stp_s, step_k nw hf]
    exact stp_k nw hf n
theorem stp_i (nw : NW N) (hI : INV N st S) : ∀ n, INV N (st + n) (stp N st n S)
  | 0 => hI
  | n + 1 => by
    rw [stp_s]
    exact step_inv nw (stp_i nw hI n)
theorem stp_0 (h : S 44 0 = nI st) : ∀ n, stp N st n S 44 0 = nI (st + n)
  | 0 => h
  | n + 1 => by
    rw [stp_s, step_0]; rfl
theorem stp_d (nw : NW N) (n : Nat) : DSm S (stp N st n S) := fun f i hf => stp_k nw (by omega) n
/-- cells that the class uses up when it looks ahead -/
def FrA (x : Nat) (μ μ' : zM) : Prop := ∀ a, (a < x + 312 ∨ x + 573 ≤ a) → (a < x + 3 ∨ x + 14 ≤ a) → SA a μ μ'
theorem FrA.rf : FrA x μ μ := fun _ _ _ => SA.rf
theorem FrA.tr {μ1 : zM} (h : FrA x μ μ1) (h2 : FrA x μ1 μ') : FrA x μ μ' := fun a p q => (h a p q).tr (h2 a p q)
theorem FrA.fc (h : FrC (x + 312) μ μ') : FrA x μ μ' := fun a p q => h a (by omega)
theorem FrA.fd {o n : Nat} (h : FrD o n μ μ') (h1 : x + 3 ≤ o) (h2 : o + n ≤ x + 14) : FrA x μ μ' := fun a p q => h a (by omega)
/-- the class looks ahead, step by step, for what `f` answers `P` -/
theorem C_whl (nw : NW N) (hI : INV N st S) (h0 : S 44 0 = nI st) (hs : st + 1000 < 2 ^ 30) {T : zS} (hd : DOK N S T) (hw : w = x + 23 ∨ w = x + 36) (q : DF N (x + 312) w (x + 3) S μ μ (wW N S) T) : (∃ a, zloop (fun s => f11_when_L1 x s.1 s.2) 1000000 (0, μ) = some (.inl a) ∧ ∃ n, a.1 = nI n ∧ Fst (fun n => MetA N (stp N st n S)) 400 n ∧ CS N (x + 312) w a.2 a.2 (stp N st n S) ∧ FrA x μ a.2) ∨ ∃ r, zloop (fun s => f11_when_L1 x s.1 s.2) 1000000 (0, μ) = some (.inr r) ∧ (∀ n, n ≤ 400 → ¬ MetA N (stp N st n S)) ∧ CS N (x + 312) w r.2 r.2 (stp N st 401 S) ∧ FrA x μ r.2 := by
  have key := lpX (body := fun s => f11_when_L1 x s.1 s.2) (fun i (μ : zM) => (nI i, μ)) (fun i μ1 => (∀ n, n < i → ¬ MetA N (stp N st n S)) ∧ CS N (x + 312) w μ1 μ1 (stp N st i S) ∧ FrA x μ μ1 ∧ ∀ d j, 1 ≤ d → d ≤ 5 → gA μ1 (x + 3 + d) j = gA μ (x + 3 + d) j) 401 (fun a => ∃ n, a.1 = nI n ∧ Fst (fun n => MetA N (stp N st n S)) 400 n ∧ CS N (x + 312) w a.2 a.2 (stp N st n S) ∧ FrA x μ a.2) (fun r => (∀ n, n ≤ 400 → ¬ MetA N (stp N st n S)) ∧ CS N (x + 312) w r.2 r.2 (stp N st 401 S) ∧ FrA x μ r.2) (by
    intro i μ1 hi ⟨hn, hc, hf, ha⟩
    have dm := stp_d (S := S) (st := st) nw i
    have qd : DF N (x + 312) w (x + 3) (stp N st i S) μ1 μ1 (wW N (stp N st i S)) T := ⟨⟨hc, FrD.rf, fun k hk => by rw [dm_wW dm, ha 1 k (by omega) (by omega)]; exact q.1.2.2 k hk⟩, fun d j h1 h2 => by rw [ha d j (by omega) (by omega)]; exact q.2 d j h1 h2⟩
    obtain ⟨r, e1, h1⟩ := C_met qd (dm_ok dm hd)
    have c4 : clt 400 (nI i) = false := by rw [show (400 : Int32) = nI 400 from rfl, clt_nI (by omega) (by omega)]; exact decide_eq_false (by omega)
    have start : f11_when_L1 x (nI i) μ1 = if r = true then some (.inr (.inl (nI i, μ1))) else ((f8_step (x + 312) μ1).bind fun μ9 => some (.inl (nI (i + 1), μ9))) := by
      unfold f11_when_L1
      rw [c4, if_neg (by decide), e1, obs, nI_1]
      simp only [obs]
    cases r with
    | true =>
      rw [if_pos rfl] at start
      exact Or.inr ⟨_, start, i, rfl, ⟨by omega, h1.mp rfl, hn⟩, hc, hf⟩
    | false =>
      rw [if_neg (by decide)] at start
      obtain ⟨μ2, e2, h2⟩ := C_step hc (stp_0 h0 i) (by omega)
      rw [e2, obs] at start
      refine Or.inl ⟨μ2, start, fun n hn2 => ?_, h2.self, hf.tr (FrA.fc h2.c_fr), fun d j h3 h4 => ?_⟩
      · by_cases c : n = i
        · rw [c]; exact fun hM => absurd (h1.mpr hM) (by decide)
        · exact hn n (by omega)
      · rw [(h2.c_fr (x + 3 + d) (by omega)).2.2.2.1]; exact ha d j h3 h4) (by
    intro μ1 ⟨hn, hc, hf, ha⟩
    refine ⟨(nI 401, μ1), ?_, fun n h => hn n (by omega), hc, hf⟩
    show f11_when_L1 x (nI 401) μ1 = _
    have c4 : clt 400 (nI 401) = true := by decide
    unfold f11_when_L1
    rw [c4, if_pos rfl]) 401 0 1000000 μ (by omega) (by omega) (by omega) ⟨fun n h => absurd h (by omega), q.1.1, FrA.rf, fun _ _ _ _ => rfl⟩
  exact key
end zH3
