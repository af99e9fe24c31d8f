/-! A STATE IS COPIED, in the class -/
def cpS (μ : zM) (t : Nat) (S : zS) : zS := fun f i => if f = 46 then bI (gB μ 817 t) else if f = 47 then bI (gZ μ (t + 9) i) else if 50 ≤ f ∧ f ≤ 59 ∧ S 60 i ≠ 1 then (if f = 50 then gF μ 302 (t + 93 + 2 * i) else if f = 53 then bI (gB μ 303 (t + 93 + 2 * i)) else if f = 54 then gF μ 900 (t + 93 + 2 * i + 1) else if f = 55 then gF μ 901 (t + 93 + 2 * i + 1) else if f = 56 then gF μ 902 (t + 93 + 2 * i + 1) else if f = 57 then gF μ 903 (t + 93 + 2 * i + 1) else if f = 58 then gF μ 304 (t + 93 + 2 * i) else if f = 59 then gF μ 305 (t + 93 + 2 * i) else S f i) else S f i
section zV2
variable {N : zN} {s w t : Nat} {μ0 μ μ' μ1 : zM} {S : zS} {f i n : Nat}
theorem cpS_f (h1 : f ≠ 46) (h2 : f ≠ 47) (h3 : f < 50 ∨ 59 < f ∨ S 60 i = 1) : cpS μ t S f i = S f i := by
  unfold cpS
  rw [if_neg h1, if_neg h2, if_neg]
  rintro ⟨x1, x2, x3⟩
  rcases h3 with h | h | h
  · omega
  · omega
  · exact x3 h
theorem pf_n : ∀ n, pfold (fun i (_ : Nat) => i + 1) n 0 = n
  | 0 => rfl
  | _ + 1 => rfl
theorem C_cp1 (hst : s + 261 ≤ t ∨ t + 261 ≤ s) : ∃ μ', zloop (fun q => f8_copyFrom_L1 t s q.1 q.2) 1000000 (0, μ) = some (nI 8, μ') ∧ CPn (fun _ => inL LBr) 3 (t + 13) (s + 13) 8 μ μ' := by
  obtain ⟨μ', e, h⟩ := lp (Q := fun μ' k => CPn (fun _ => inL LBr) 3 (t + 13) (s + 13) k μ μ') (body := fun q => f8_copyFrom_L1 t s q.1 q.2) nI (fun i (_ : Nat) => i + 1) 8 (S := 0) (μ := μ) (x0 := 0) (by
    intro i μ1 hi q1
    rw [pf_n] at q1
    show ∃ μ', f8_copyFrom_L1 t s (nI i) μ1 = some (.inl (nI (i + 1), μ')) ∧ CPn (fun _ => inL LBr) 3 (t + 13) (s + 13) (i + 1) μ μ'
    unfold f8_copyFrom_L1
    rw [cltR8 (by omega), decide_eq_true hi, if_pos rfl, rI_nI hi (by omega), obs, obs, cp_B, obs, obs, nI_1]
    refine ⟨_, rfl, CPn.s (by omega) (by omega) q1 (cps_1 LBr μ1 (by decide) (by omega))⟩) (by
    intro μ1 q1
    rfl) (by omega) CPn.z
  rw [pf_n] at h
  exact ⟨μ', e, h⟩
theorem C_cp2 (hst : s + 261 ≤ t ∨ t + 261 ≤ s) : ∃ μ', zloop (fun q => f8_copyFrom_L2 t s q.1 q.2) 1000000 (0, μ) = some (nI 28, μ') ∧ CPn (fun _ => inL LPo) 2 (t + 37) (s + 37) 28 μ μ' := by
  obtain ⟨μ', e, h⟩ := lp (Q := fun μ' k => CPn (fun _ => inL LPo) 2 (t + 37) (s + 37) k μ μ') (body := fun q => f8_copyFrom_L2 t s q.1 q.2) nI (fun i (_ : Nat) => i + 1) 28 (S := 0) (μ := μ) (x0 := 0) (by
    intro i μ1 hi q1
    rw [pf_n] at q1
    show ∃ μ', f8_copyFrom_L2 t s (nI i) μ1 = some (.inl (nI (i + 1), μ')) ∧ CPn (fun _ => inL LPo) 2 (t + 37) (s + 37) (i + 1) μ μ'
    unfold f8_copyFrom_L2
    rw [cltR28 (by omega), decide_eq_true hi, if_pos rfl, rI_nI hi (by omega), obs, obs, cp_P, obs, obs, nI_1]
    refine ⟨_, rfl, CPn.s (by omega) (by omega) q1 (cps_1 LPo μ1 (by decide) (by omega))⟩) (by
    intro μ1 q1
    rfl) (by omega) CPn.z
  rw [pf_n] at h
  exact ⟨μ', e, h⟩
theorem C_cp3 (hst : s + 261 ≤ t ∨ t + 261 ≤ s) : ∃ μ', zloop (fun q => f8_copyFrom_L3 t s q.1 q.2) 1000000 (0, μ) = some (nI 84, μ') ∧ CPn (fun j => inL (if gB μ 301 (s + 93 + 2 * j) = true then LMs else LMs0)) 2 (t + 93) (s + 93) 84 μ μ' := by
  obtain ⟨μ', e, h⟩ := lp (Q := fun μ' k => CPn (fun j => inL (if gB μ 301 (s + 93 + 2 * j) = true then LMs else LMs0)) 2 (t + 93) (s + 93) k μ μ') (body := fun q => f8_copyFrom_L3 t s q.1 q.2) nI (fun i (_ : Nat) => i + 1) 84 (S := 0) (μ := μ) (x0 := 0) (by
    intro i μ1 hi q1
    rw [pf_n] at q1
    show ∃ μ', f8_copyFrom_L3 t s (nI i) μ1 = some (.inl (nI (i + 1), μ')) ∧ CPn (fun j => inL (if gB μ 301 (s + 93 + 2 * j) = true then LMs else LMs0)) 2 (t + 93) (s + 93) (i + 1) μ μ'
    have e0 : gB μ1 301 (s + 93 + 2 * i) = gB μ 301 (s + 93 + 2 * i) := by rw [q1.2.1, if_neg (by omega)]
    have e1 : clt (nI i) (Int32.ofNat 84) = true := by
      show clt (nI i) (nI 84) = true
      rw [clt_nI (by omega) (by omega)]; exact decide_eq_true hi
    unfold f8_copyFrom_L3
    rw [e1, if_pos rfl, rI_nI hi (by omega), obs, obs, cp_M, obs, obs, nI_1, e0]
    refine ⟨_, rfl, CPn.s (by omega) (by omega) q1 (cps_1 _ μ1 ?_ (by omega))⟩
    by_cases c : gB μ 301 (s + 93 + 2 * i) = true
    · rw [if_pos c]; decide
    · rw [if_neg c]; decide) (by
    intro μ1 q1
    rfl) (by omega) CPn.z
  rw [pf_n] at h
  exact ⟨μ', e, h⟩
theorem C_cp4 (hst : s + 261 ≤ t ∨ t + 261 ≤ s) : ∃ μ', zloop (fun q => f8_copyFrom_L4 t s q.1 q.2) 1000000 (0, μ) = some (nI 14, μ') ∧ (∀ a j, gZ μ' a j = if a = t + 4 ∧ j < 14 then gZ μ (s + 4) j else gZ μ a j) ∧ (∀ k a, gF μ' k a = gF μ k a) ∧ (∀ k a, gB μ' k a = gB μ k a) ∧ (∀ a j, gA μ' a j = gA μ a j) ∧ (∀ k a, gR μ' k a = gR μ k a) ∧ ∀ a j, gX μ' a j = gX μ a j := by
  obtain ⟨μ', e, h⟩ := lp (Q := fun μ' k => (∀ a j, gZ μ' a j = if a = t + 4 ∧ j < k then gZ μ (s + 4) j else gZ μ a j) ∧ (∀ k a, gF μ' k a = gF μ k a) ∧ (∀ k a, gB μ' k a = gB μ k a) ∧ (∀ a j, gA μ' a j = gA μ a j) ∧ (∀ k a, gR μ' k a = gR μ k a) ∧ ∀ a j, gX μ' a j = gX μ a j) (body := fun q => f8_copyFrom_L4 t s q.1 q.2) nI (fun i (_ : Nat) => i + 1) 14 (S := 0) (μ := μ) (x0 := 0) (by
    intro i μ1 hi q1
    rw [pf_n] at q1
    show ∃ μ', f8_copyFrom_L4 t s (nI i) μ1 = some (.inl (nI (i + 1), μ')) ∧ ((∀ a j, gZ μ' a j = if a = t + 4 ∧ j < i + 1 then gZ μ (s + 4) j else gZ μ a j) ∧ (∀ k a, gF μ' k a = gF μ k a) ∧ (∀ k a, gB μ' k a = gB μ k a) ∧ (∀ a j, gA μ' a j = gA μ a j) ∧ (∀ k a, gR μ' k a = gR μ k a) ∧ ∀ a j, gX μ' a j = gX μ a j)
    obtain ⟨z1, z2, z3, z4, z5, z6⟩ := q1
    unfold f8_copyFrom_L4
    rw [cltR14 (by omega), decide_eq_true hi, if_pos rfl, rZ_nI hi (by omega), obs, wZ_nI hi (by omega), obs, obs, nI_1]
    refine ⟨_, rfl, fun a j => ?_, z2, z3, z4, z5, z6⟩
    have zs : gZ μ1 (s + 4) i = gZ μ (s + 4) i := by rw [z1, if_neg (by omega)]
    rw [gZ_sZ, zs]
    by_cases c : a = t + 4 ∧ j = i
    · rw [if_pos c, if_pos ⟨c.1, by omega⟩, c.2]
    · rw [if_neg c, z1]
      by_cases c2 : a = t + 4 ∧ j < i
      · rw [if_pos c2, if_pos ⟨c2.1, by omega⟩]
      · rw [if_neg c2, if_neg (by omega)]) (by
    intro μ1 q1
    rfl) (by omega) ⟨fun a j => (if_neg (by omega)).symm, fun _ _ => rfl, fun _ _ => rfl, fun _ _ => rfl, fun _ _ => rfl, fun _ _ => rfl⟩
  rw [pf_n] at h
  exact ⟨μ', e, h⟩
theorem gA_cp {a j d : Nat} : gA (copyA μ s d 0 0 n) a j = if a = d ∧ j < n then gA μ s j else gA μ a j := by
  show (if a = d then (if 0 ≤ j ∧ j < 0 + n then gA μ s (0 + (j - 0)) else gA μ d j) else gA μ a j) = _
  by_cases c : a = d
  · rw [if_pos c]
    by_cases c2 : j < n
    · rw [if_pos (by omega), if_pos ⟨c, c2⟩, show 0 + (j - 0) = j by omega]
    · rw [if_neg (by omega), if_neg (fun x => c2 x.2), c]
  · rw [if_neg c, if_neg (fun x => c x.1)]
end zV2
