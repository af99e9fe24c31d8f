/-! READING: a number, in the reference -/
section zN7
variable {x m n p q e k i j a z : Nat} {μ ν μ' ν' μ1 ν1 : zM} {g : Nat → Nat} {v v' l : Int32}
theorem DG.le (h : DG g n q z) (hq : q ≤ n) : q + z ≤ n := by
  cases z with
  | zero => omega
  | succ z => have := (h.2.1 z (by omega)).1; omega
theorem R_numB (t : TpR m n g ν) (h7 : gF ν 1237 m = nI (q + i)) (h8 : gF ν 1238 m = nI q) (h9 : gF ν 1239 m = 0) (hi : i < 3) (y1 : q + i < n) (y2 : dgt (g (q + i))) : f12_number_L1 m (nI (dvl g q i)) ν = some (.inl (nI (dvl g q (i + 1)), sF ν 1237 m (nI (q + (i + 1))))) := by
  have t1 := t.1
  have y48 : 48 ≤ g (q + i) := by unfold dgt at y2; omega
  unfold f12_number_L1 f12_goes
  rw [h7, h8, h9, R_digit t (by omega), decide_eq_true ⟨y1, y2⟩, nI_sub (by omega), show q + i - q = i by omega, show ceq (nI i) 3 = false from by rw [show (3 : Int32) = nI 3 from rfl, ceq_nI (by omega) (by omega), decide_eq_false (by omega)], show ceq (0 : Int32) 0 = true from rfl]
  simp only [obs, ↓reduceIte, Bool.false_eq_true]
  rw [h7, R_seen t (by omega), if_pos y1, obs, nI_dig y48, nI_1]
  rfl
theorem R_numL (hd : DG g n q z) : ∀ (d i F : Nat) (ν : zM) (r : Int32 × zM), z - i = d → i ≤ z → d ≤ F → TpR m n g ν → gF ν 1237 m = nI (q + i) → gF ν 1238 m = nI q → gF ν 1239 m = 0 → zloop (fun s => f12_number_L1 m s.1 s.2) (F - d) (nI (dvl g q z), sF ν 1237 m (nI (q + z))) = some r → zloop (fun s => f12_number_L1 m s.1 s.2) F (nI (dvl g q i), ν) = some r := by
  have z3 := hd.1
  intro d
  induction d with
  | zero =>
    intro i F ν r h1 h2 h3 t h7 h8 h9 hr
    have : i = z := by omega
    subst this
    rw [sF_id h7, Nat.sub_zero] at hr
    exact hr
  | succ d ih =>
    intro i F ν r h1 h2 h3 t h7 h8 h9 hr
    cases F with
    | zero => omega
    | succ F =>
      obtain ⟨y1, y2⟩ := hd.2.1 i (by omega)
      rw [Nat.add_sub_add_right] at hr
      refine zl_in2 (body := fun s => f12_number_L1 m s.1 s.2) (R_numB t h7 h8 h9 (by omega) y1 y2) ?_
      exact ih (i + 1) F (sF ν 1237 m (nI (q + (i + 1)))) r (by omega) (by omega) (by omega) (t.w (by omega)) sF_eq (by rw [sF_ne (by omega)]; exact h8) (by rw [sF_ne (by omega)]; exact h9) (by rw [sF_2]; exact hr)
/-- the digits end -/
theorem R_numE (t : TpR m n g ν) (h7 : gF ν 1237 m = nI (q + i)) (hq : q + i ≤ n) (hn : ¬ (q + i < n ∧ dgt (g (q + i)))) : f12_number_L1 m v ν = some (.inr (v, ν)) := by
  have t1 := t.1
  unfold f12_number_L1
  rw [h7, R_digit t (by omega), decide_eq_false hn]
  rfl
/-- a fourth digit -/
theorem R_num4 (t : TpR m n g ν) (h7 : gF ν 1237 m = nI (q + 3)) (h8 : gF ν 1238 m = nI q) (h9 : gF ν 1239 m = 0) (y1 : q + 3 < n) (y2 : dgt (g (q + 3))) : ∃ r, f12_number_L1 m v ν = some (.inl (r, sF (sF (sF ν 1239 m 1) 1240 m (nI (q + 3))) 1237 m (nI (q + 4)))) := by
  have t1 := t.1
  have t2 : TpR m n g (sF (sF ν 1239 m 1) 1240 m (nI (q + 3))) := (t.w (by omega)).w (by omega)
  have g7 : gF (sF (sF ν 1239 m 1) 1240 m (nI (q + 3))) 1237 m = nI (q + 3) := by rw [sF_ne (by omega), sF_ne (by omega)]; exact h7
  have ff : f12_fails m 1 (nI (q + 3)) ν = some (sF (sF ν 1239 m 1) 1240 m (nI (q + 3))) := by
    unfold f12_fails
    rw [h9, show ceq (0 : Int32) 0 = true from rfl, if_pos rfl]; rfl
  unfold f12_number_L1 f12_goes
  rw [h7, h8, h9, R_digit t (by omega), decide_eq_true ⟨y1, y2⟩, nI_sub (by omega), show q + 3 - q = 3 by omega, show ceq (nI 3) 3 = true from by decide, show ceq (0 : Int32) 0 = true from rfl, ff]
  simp only [obs, ↓reduceIte]
  rw [g7, R_seen t2 (by omega), if_pos y1, obs, nI_1]
  exact ⟨_, rfl⟩
/-- what has failed reads no digits -/
theorem R_numX (t : TpR m n g ν) (h7 : gF ν 1237 m = nI p) (hp : p ≤ 1600) (h9 : ceq (gF ν 1239 m) 0 = false) : f12_number_L1 m v ν = some (.inr (v, ν)) := by
  unfold f12_number_L1 f12_goes
  rw [h7, R_digit t hp, h9]
  cases decide (p < n ∧ dgt (g p)) <;> rfl
end zN7
