/-! PURE SIDE: reading behind writing, numbers, loops -/
theorem gF_sF (μ : zM) (k a : Nat) (v : Int32) (k' a' : Nat) : gF (sF μ k a v) k' a' = if k' = k ∧ a' = a then v else gF μ k' a' := rfl
theorem gF_sA (μ : zM) (a j : Nat) (v : Int32) (k' a' : Nat) : gF (sA μ a j v) k' a' = gF μ k' a' := rfl
theorem gF_sB (μ : zM) (k a : Nat) (v : Bool) (k' a' : Nat) : gF (sB μ k a v) k' a' = gF μ k' a' := rfl
theorem gF_sZ (μ : zM) (a j : Nat) (v : Bool) (k' a' : Nat) : gF (sZ μ a j v) k' a' = gF μ k' a' := rfl
theorem gF_sR (μ : zM) (k a : Nat) (v : Option Nat) (k' a' : Nat) : gF (sR μ k a v) k' a' = gF μ k' a' := rfl
theorem gA_sA (μ : zM) (a j : Nat) (v : Int32) (a' j' : Nat) : gA (sA μ a j v) a' j' = if a' = a ∧ j' = j then v else gA μ a' j' := rfl
theorem gA_sF (μ : zM) (k a : Nat) (v : Int32) (a' j' : Nat) : gA (sF μ k a v) a' j' = gA μ a' j' := rfl
theorem gA_sB (μ : zM) (k a : Nat) (v : Bool) (a' j' : Nat) : gA (sB μ k a v) a' j' = gA μ a' j' := rfl
theorem gA_sZ (μ : zM) (a j : Nat) (v : Bool) (a' j' : Nat) : gA (sZ μ a j v) a' j' = gA μ a' j' := rfl
theorem gA_sR (μ : zM) (k a : Nat) (v : Option Nat) (a' j' : Nat) : gA (sR μ k a v) a' j' = gA μ a' j' := rfl
theorem gB_sB (μ : zM) (k a : Nat) (v : Bool) (k' a' : Nat) : gB (sB μ k a v) k' a' = if k' = k ∧ a' = a then v else gB μ k' a' := rfl
theorem gB_sF (μ : zM) (k a : Nat) (v : Int32) (k' a' : Nat) : gB (sF μ k a v) k' a' = gB μ k' a' := rfl
theorem gB_sA (μ : zM) (a j : Nat) (v : Int32) (k' a' : Nat) : gB (sA μ a j v) k' a' = gB μ k' a' := rfl
theorem gB_sZ (μ : zM) (a j : Nat) (v : Bool) (k' a' : Nat) : gB (sZ μ a j v) k' a' = gB μ k' a' := rfl
theorem gB_sR (μ : zM) (k a : Nat) (v : Option Nat) (k' a' : Nat) : gB (sR μ k a v) k' a' = gB μ k' a' := rfl
theorem gZ_sZ (μ : zM) (a j : Nat) (v : Bool) (a' j' : Nat) : gZ (sZ μ a j v) a' j' = if a' = a ∧ j' = j then v else gZ μ a' j' := rfl
theorem gZ_sF (μ : zM) (k a : Nat) (v : Int32) (a' j' : Nat) : gZ (sF μ k a v) a' j' = gZ μ a' j' := rfl
theorem gZ_sA (μ : zM) (a j : Nat) (v : Int32) (a' j' : Nat) : gZ (sA μ a j v) a' j' = gZ μ a' j' := rfl
theorem gZ_sB (μ : zM) (k a : Nat) (v : Bool) (a' j' : Nat) : gZ (sB μ k a v) a' j' = gZ μ a' j' := rfl
theorem gZ_sR (μ : zM) (k a : Nat) (v : Option Nat) (a' j' : Nat) : gZ (sR μ k a v) a' j' = gZ μ a' j' := rfl
theorem gR_sR (μ : zM) (k a : Nat) (v : Option Nat) (k' a' : Nat) : gR (sR μ k a v) k' a' = if k' = k ∧ a' = a then v else gR μ k' a' := rfl
theorem gR_sF (μ : zM) (k a : Nat) (v : Int32) (k' a' : Nat) : gR (sF μ k a v) k' a' = gR μ k' a' := rfl
theorem gR_sA (μ : zM) (a j : Nat) (v : Int32) (k' a' : Nat) : gR (sA μ a j v) k' a' = gR μ k' a' := rfl
theorem gR_sB (μ : zM) (k a : Nat) (v : Bool) (k' a' : Nat) : gR (sB μ k a v) k' a' = gR μ k' a' := rfl
theorem gR_sZ (μ : zM) (a j : Nat) (v : Bool) (k' a' : Nat) : gR (sZ μ a j v) k' a' = gR μ k' a' := rfl
theorem gX_sF (μ : zM) (k a : Nat) (v : Int32) (a' j' : Nat) : gX (sF μ k a v) a' j' = gX μ a' j' := rfl
theorem gX_sA (μ : zM) (a j : Nat) (v : Int32) (a' j' : Nat) : gX (sA μ a j v) a' j' = gX μ a' j' := rfl
theorem gX_sB (μ : zM) (k a : Nat) (v : Bool) (a' j' : Nat) : gX (sB μ k a v) a' j' = gX μ a' j' := rfl
theorem gX_sZ (μ : zM) (a j : Nat) (v : Bool) (a' j' : Nat) : gX (sZ μ a j v) a' j' = gX μ a' j' := rfl
theorem gX_sR (μ : zM) (k a : Nat) (v : Option Nat) (a' j' : Nat) : gX (sR μ k a v) a' j' = gX μ a' j' := rfl
theorem rA_nI {μ : zM} {a n j : Nat} (hj : j < n) (hn : n < 2 ^ 31) : rA μ a n (nI j) = some (gA μ a j) := by rw [rA, rI_nI hj hn]; rfl
theorem rZ_nI {μ : zM} {a n j : Nat} (hj : j < n) (hn : n < 2 ^ 31) : rZ μ a n (nI j) = some (gZ μ a j) := by rw [rZ, rI_nI hj hn]; rfl
theorem wA_nI {μ : zM} {a n j : Nat} {v : Int32} (hj : j < n) (hn : n < 2 ^ 31) : wA μ a n (nI j) v = some (sA μ a j v) := by rw [wA, rI_nI hj hn]; rfl
theorem wZ_nI {μ : zM} {a n j : Nat} {v : Bool} (hj : j < n) (hn : n < 2 ^ 31) : wZ μ a n (nI j) v = some (sZ μ a j v) := by rw [wZ, rI_nI hj hn]; rfl
theorem lit_nI (n : Nat) : (OfNat.ofNat n : Int32) = nI n := rfl
theorem clt_nI {a b : Nat} (ha : a < 2 ^ 31) (hb : b < 2 ^ 31) : clt (nI a) (nI b) = decide (a < b) := by
  unfold clt
  exact decide_eq_decide.mpr (nI_ltI ha hb)
theorem ceq_nI {a b : Nat} (ha : a < 2 ^ 31) (hb : b < 2 ^ 31) : ceq (nI a) (nI b) = decide (a = b) := by
  unfold ceq
  exact decide_eq_decide.mpr (nI_eq ha hb)
theorem iDiv_nI {a d : Nat} (ha : a < 2 ^ 31) (h0 : 0 < d) (hd : d < 2 ^ 31) : iDiv (nI a) (nI d) = some (nI (a / d)) := by
  rw [iDiv, if_neg (nI_ne0 h0 hd), pk_div ha h0 hd]
theorem iRem_nI {a d : Nat} (ha : a < 2 ^ 31) (h0 : 0 < d) (hd : d < 2 ^ 31) : iRem (nI a) (nI d) = some (nI (a % d)) := by
  rw [iRem, if_neg (nI_ne0 h0 hd), pk_rem ha h0 hd]
/-- a loop that counts up, as a fold on the side of the spec -/
def pfold {σ : Type} (g : Nat → σ → σ) : Nat → σ → σ
  | 0, s => s
  | n + 1, s => g n (pfold g n s)
theorem zloop_up {σ τ ρ : Type} {body : σ → Option (σ ⊕ ρ)} (st : Nat → τ → σ) (P : Nat → τ → Prop) (n : Nat) (R : ρ → Prop)
    (step : ∀ i x, i < n → P i x → ∃ y, body (st i x) = some (.inl (st (i + 1) y)) ∧ P (i + 1) y) (out : ∀ x, P n x → ∃ r, body (st n x) = some (.inr r) ∧ R r) :
    ∀ (q i fuel : Nat) (x : τ), n - i = q → i ≤ n → q < fuel → P i x → ∃ r, zloop body fuel (st i x) = some r ∧ R r := by
  intro q
  induction q with
  | zero =>
    intro i fuel x h1 h2 h3 h4
    have e : i = n := by omega
    subst e
    obtain ⟨r, h5, h6⟩ := out x h4
    cases fuel with
    | zero => omega
    | succ f => exact ⟨r, by simp [zloop, h5], h6⟩
  | succ q ih =>
    intro i fuel x h1 h2 h3 h4
    obtain ⟨y, h5, h6⟩ := step i x (by omega) h4
    cases fuel with
    | zero => omega
    | succ f =>
      obtain ⟨r, h7, h8⟩ := ih (i + 1) f y (by omega) (by omega) (by omega) h6
      exact ⟨r, by simp [zloop, h5, h7], h8⟩
