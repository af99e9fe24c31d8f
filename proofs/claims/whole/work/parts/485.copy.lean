/-! A STATE IS COPIED, in the class: all of it -/
section zV3
variable {N : zN} {s w t : Nat} {μ0 μ μ' μ1 : zM} {S : zS} {f i n : Nat}
theorem mod_o (o d i x : Nat) (hx : x < d) : (o + d * i + x - o) % d = x ∧ (o + d * i + x - o) / d = i := by
  have e : o + d * i + x - o = d * i + x := by omega
  have hd : 0 < d := by omega
  rw [e]
  exact ⟨by rw [Nat.mul_add_mod]; exact Nat.mod_eq_of_lt hx, by rw [Nat.mul_add_div hd, Nat.div_eq_of_lt hx, Nat.add_zero]⟩
theorem CPn.f_in {g : Nat → zFd → Bool} {d o v n i x k : Nat} (h : CPn g d o v n μ μ') (hx : x < d) (hi : d * i + x < d * n) : gF μ' k (o + d * i + x) = if g i (true, k, x) = true then gF μ k (v + d * i + x) else gF μ k (o + d * i + x) := by
  obtain ⟨e1, e2⟩ := mod_o o d i x hx
  rw [h.1, e1, e2]
  by_cases c : g i (true, k, x) = true
  · rw [if_pos c, if_pos ⟨by omega, by omega, c⟩, show v + (o + d * i + x - o) = v + d * i + x by omega]
  · rw [if_neg c, if_neg (fun y => c y.2.2)]
theorem CPn.b_in {g : Nat → zFd → Bool} {d o v n i x k : Nat} (h : CPn g d o v n μ μ') (hx : x < d) (hi : d * i + x < d * n) : gB μ' k (o + d * i + x) = if g i (false, k, x) = true then gB μ k (v + d * i + x) else gB μ k (o + d * i + x) := by
  obtain ⟨e1, e2⟩ := mod_o o d i x hx
  rw [h.2.1, e1, e2]
  by_cases c : g i (false, k, x) = true
  · rw [if_pos c, if_pos ⟨by omega, by omega, c⟩, show v + (o + d * i + x - o) = v + d * i + x by omega]
  · rw [if_neg c, if_neg (fun y => c y.2.2)]
theorem CPn.f_out {g : Nat → zFd → Bool} {d o v n a k : Nat} (h : CPn g d o v n μ μ') (ha : a < o ∨ o + d * n ≤ a) : gF μ' k a = gF μ k a := by rw [h.1, if_neg (by omega)]
theorem CPn.b_out {g : Nat → zFd → Bool} {d o v n a k : Nat} (h : CPn g d o v n μ μ') (ha : a < o ∨ o + d * n ≤ a) : gB μ' k a = gB μ k a := by rw [h.2.1, if_neg (by omega)]
theorem C_copy (h : CS N s w μ0 μ S) (hst : s + 261 ≤ t ∨ t + 261 ≤ s) (hw : w + 13 ≤ t ∨ t + 261 ≤ w) (hn : ∀ i, i < 8 → gF μ 0 (t + 13 + 3 * i) = nI i) : ∃ μ', f8_copyFrom t s μ = some μ' ∧ CS N t w μ μ' (cpS μ t S) := by
  have e1 : f8_copyFrom t s μ = zb2 (zloop (fun q => f8_copyFrom_L1 t s q.1 q.2) 1000000 (0, sF (sF (sF (sF (sR μ 812 t (some w)) 813 t (gF μ 813 s)) 814 t (gF μ 814 s)) 815 t (gF μ 815 s)) 816 t (gF μ 816 s))) fun v_b_9 μ10 => zb2 (zloop (fun q => f8_copyFrom_L2 t s q.1 q.2) 1000000 (0, μ10)) fun v_end_17 μ18 => zb2 (zloop (fun q => f8_copyFrom_L3 t s q.1 q.2) 1000000 (0, μ18)) fun v_slot_25 μ26 => zb2 (zloop (fun q => f8_copyFrom_L4 t s q.1 q.2) 1000000 (0, μ26)) fun v_link_33 μ34 => some (copyA (copyA (copyA (copyA μ34 (s + 5) (t + 5) 0 0 8) (s + 6) (t + 6) 0 0 64) (s + 7) (t + 7) 0 0 64) (s + 8) (t + 8) 0 0 160) := by
    have n1 : s ≠ t := by omega
    unfold f8_copyFrom
    rw [h.c_wir, obs]
    simp only [wR, wF, obs]
    rw [gF_sF, gF_sF, gF_sF, if_neg (fun x => n1 x.2), if_neg (fun x => n1 x.2), if_neg (fun x => n1 x.2)]
    rw [gF_sF, gF_sF, if_neg (fun x => n1 x.2), if_neg (fun x => n1 x.2), gF_sF, if_neg (fun x => n1 x.2)]
    rfl
  have F0 : ∀ k a, a ≠ t → gF (sF (sF (sF (sF (sR μ 812 t (some w)) 813 t (gF μ 813 s)) 814 t (gF μ 814 s)) 815 t (gF μ 815 s)) 816 t (gF μ 816 s)) k a = gF μ k a := fun k a ha => by
    rw [gF_sF, if_neg (fun x => ha x.2), gF_sF, if_neg (fun x => ha x.2), gF_sF, if_neg (fun x => ha x.2), gF_sF, if_neg (fun x => ha x.2)]; rfl
  have FT : ∀ k, 813 ≤ k → k ≤ 816 → gF (sF (sF (sF (sF (sR μ 812 t (some w)) 813 t (gF μ 813 s)) 814 t (gF μ 814 s)) 815 t (gF μ 815 s)) 816 t (gF μ 816 s)) k t = gF μ k s := fun k h1 h2 => by
    rw [gF_sF, gF_sF, gF_sF, gF_sF]
    by_cases c1 : k = 816
    · rw [if_pos ⟨c1, rfl⟩, c1]
    · rw [if_neg (fun x => c1 x.1)]
      by_cases c2 : k = 815
      · rw [if_pos ⟨c2, rfl⟩, c2]
      · rw [if_neg (fun x => c2 x.1)]
        by_cases c3 : k = 814
        · rw [if_pos ⟨c3, rfl⟩, c3]
        · rw [if_neg (fun x => c3 x.1), if_pos ⟨by omega, rfl⟩, show k = 813 by omega]
  have RT : ∀ k a, gR (sF (sF (sF (sF (sR μ 812 t (some w)) 813 t (gF μ 813 s)) 814 t (gF μ 814 s)) 815 t (gF μ 815 s)) 816 t (gF μ 816 s)) k a = if k = 812 ∧ a = t then some w else gR μ k a := fun k a => rfl
  have BT : ∀ k a, gB (sF (sF (sF (sF (sR μ 812 t (some w)) 813 t (gF μ 813 s)) 814 t (gF μ 814 s)) 815 t (gF μ 815 s)) 816 t (gF μ 816 s)) k a = gB μ k a := fun k a => rfl
  have AT : ∀ k a, gA (sF (sF (sF (sF (sR μ 812 t (some w)) 813 t (gF μ 813 s)) 814 t (gF μ 814 s)) 815 t (gF μ 815 s)) 816 t (gF μ 816 s)) k a = gA μ k a := fun k a => rfl
  have ZT : ∀ k a, gZ (sF (sF (sF (sF (sR μ 812 t (some w)) 813 t (gF μ 813 s)) 814 t (gF μ 814 s)) 815 t (gF μ 815 s)) 816 t (gF μ 816 s)) k a = gZ μ k a := fun k a => rfl
  have XT : ∀ k a, gX (sF (sF (sF (sF (sR μ 812 t (some w)) 813 t (gF μ 813 s)) 814 t (gF μ 814 s)) 815 t (gF μ 815 s)) 816 t (gF μ 816 s)) k a = gX μ k a := fun k a => rfl
  generalize sF (sF (sF (sF (sR μ 812 t (some w)) 813 t (gF μ 813 s)) 814 t (gF μ 814 s)) 815 t (gF μ 815 s)) 816 t (gF μ 816 s) = μ5 at *
  obtain ⟨μ1, l1, k1⟩ := C_cp1 (μ := μ5) hst
  obtain ⟨μ2, l2, k2⟩ := C_cp2 (μ := μ1) hst
  obtain ⟨μ3, l3, k3⟩ := C_cp3 (μ := μ2) hst
  obtain ⟨μ4, l4, z1, z2, z3, z4, z5, z6⟩ := C_cp4 (μ := μ3) hst
  refine ⟨_, by rw [e1, l1, ozb2, l2, ozb2, l3, ozb2, l4, ozb2], ?_⟩
  have A4 : ∀ a j, gA μ4 a j = gA μ a j := fun a j => by rw [z4, k3.2.2.1, k2.2.2.1, k1.2.2.1, AT]
  have GA : ∀ a j, gA (copyA (copyA (copyA (copyA μ4 (s + 5) (t + 5) 0 0 8) (s + 6) (t + 6) 0 0 64) (s + 7) (t + 7) 0 0 64) (s + 8) (t + 8) 0 0 160) a j = if a = t + 8 ∧ j < 160 then gA μ (s + 8) j else if a = t + 7 ∧ j < 64 then gA μ (s + 7) j else if a = t + 6 ∧ j < 64 then gA μ (s + 6) j else if a = t + 5 ∧ j < 8 then gA μ (s + 5) j else gA μ a j := fun a j => by
    simp only [gA_cp, A4]
    rw [if_neg (show ¬ (s + 8 = t + 7 ∧ j < 64) by omega), if_neg (show ¬ (s + 8 = t + 6 ∧ j < 64) by omega), if_neg (show ¬ (s + 8 = t + 5 ∧ j < 8) by omega), if_neg (show ¬ (s + 7 = t + 6 ∧ j < 64) by omega), if_neg (show ¬ (s + 7 = t + 5 ∧ j < 8) by omega), if_neg (show ¬ (s + 6 = t + 5 ∧ j < 8) by omega)]
  have GF : ∀ k a, gF (copyA (copyA (copyA (copyA μ4 (s + 5) (t + 5) 0 0 8) (s + 6) (t + 6) 0 0 64) (s + 7) (t + 7) 0 0 64) (s + 8) (t + 8) 0 0 160) k a = gF μ3 k a := fun k a => z2 k a
  have GB : ∀ k a, gB (copyA (copyA (copyA (copyA μ4 (s + 5) (t + 5) 0 0 8) (s + 6) (t + 6) 0 0 64) (s + 7) (t + 7) 0 0 64) (s + 8) (t + 8) 0 0 160) k a = gB μ3 k a := fun k a => z3 k a
  have GZ : ∀ a j, gZ (copyA (copyA (copyA (copyA μ4 (s + 5) (t + 5) 0 0 8) (s + 6) (t + 6) 0 0 64) (s + 7) (t + 7) 0 0 64) (s + 8) (t + 8) 0 0 160) a j = if a = t + 4 ∧ j < 14 then gZ μ (s + 4) j else gZ μ a j := fun a j => by
    refine (z1 a j).trans ?_
    rw [k3.2.2.2.1, k3.2.2.2.1, k2.2.2.2.1, k2.2.2.2.1, k1.2.2.2.1, k1.2.2.2.1, ZT, ZT]
  have GR : ∀ k a, gR (copyA (copyA (copyA (copyA μ4 (s + 5) (t + 5) 0 0 8) (s + 6) (t + 6) 0 0 64) (s + 7) (t + 7) 0 0 64) (s + 8) (t + 8) 0 0 160) k a = if k = 812 ∧ a = t then some w else gR μ k a := fun k a => by
    refine (z5 k a).trans ?_
    rw [k3.2.2.2.2.1, k2.2.2.2.2.1, k1.2.2.2.2.1, RT]
  have GX : ∀ a j, gX (copyA (copyA (copyA (copyA μ4 (s + 5) (t + 5) 0 0 8) (s + 6) (t + 6) 0 0 64) (s + 7) (t + 7) 0 0 64) (s + 8) (t + 8) 0 0 160) a j = gX μ a j := fun a j => by
    refine (z6 a j).trans ?_
    rw [k3.2.2.2.2.2, k2.2.2.2.2.2, k1.2.2.2.2.2, XT]
  generalize copyA (copyA (copyA (copyA μ4 (s + 5) (t + 5) 0 0 8) (s + 6) (t + 6) 0 0 64) (s + 7) (t + 7) 0 0 64) (s + 8) (t + 8) 0 0 160 = μ' at *
  have PF : ∀ i x k, i < 28 → x < 2 → gF μ' k (t + 37 + 2 * i + x) = if inL LPo (true, k, x) = true then gF μ k (s + 37 + 2 * i + x) else gF μ k (t + 37 + 2 * i + x) := fun i x k hi hx => by
    rw [GF, k3.f_out (by omega), k2.f_in (i := i) (x := x) hx (by omega), k1.f_out (by omega), k1.f_out (by omega), F0 _ _ (by omega), F0 _ _ (by omega)]
  have PB : ∀ i x k, i < 28 → x < 2 → gB μ' k (t + 37 + 2 * i + x) = if inL LPo (false, k, x) = true then gB μ k (s + 37 + 2 * i + x) else gB μ k (t + 37 + 2 * i + x) := fun i x k hi hx => by
    rw [GB, k3.b_out (by omega), k2.b_in (i := i) (x := x) hx (by omega), k1.b_out (by omega), k1.b_out (by omega), BT, BT]
  have DF : ∀ i x k, i < 8 → x < 3 → gF μ' k (t + 13 + 3 * i + x) = if inL LBr (true, k, x) = true then gF μ k (s + 13 + 3 * i + x) else gF μ k (t + 13 + 3 * i + x) := fun i x k hi hx => by
    rw [GF, k3.f_out (by omega), k2.f_out (by omega), k1.f_in (i := i) (x := x) hx (by omega), F0 _ _ (by omega), F0 _ _ (by omega)]
  have DB : ∀ i x k, i < 8 → x < 3 → gB μ' k (t + 13 + 3 * i + x) = if inL LBr (false, k, x) = true then gB μ k (s + 13 + 3 * i + x) else gB μ k (t + 13 + 3 * i + x) := fun i x k hi hx => by
    rw [GB, k3.b_out (by omega), k2.b_out (by omega), k1.b_in (i := i) (x := x) hx (by omega), BT, BT]
  have th : ∀ i, i < 84 → gB μ2 301 (s + 93 + 2 * i) = gB μ 301 (s + 93 + 2 * i) := fun i hi => by rw [k2.b_out (by omega), k1.b_out (by omega), BT]
  have MF : ∀ i x k, i < 84 → x < 2 → gF μ' k (t + 93 + 2 * i + x) = if inL (if gB μ 301 (s + 93 + 2 * i) = true then LMs else LMs0) (true, k, x) = true then gF μ k (s + 93 + 2 * i + x) else gF μ k (t + 93 + 2 * i + x) := fun i x k hi hx => by
    rw [GF, k3.f_in (i := i) (x := x) hx (by omega), th i hi, k2.f_out (by omega), k2.f_out (by omega), k1.f_out (by omega), k1.f_out (by omega), F0 _ _ (by omega), F0 _ _ (by omega)]
  have MB : ∀ i x k, i < 84 → x < 2 → gB μ' k (t + 93 + 2 * i + x) = if inL (if gB μ 301 (s + 93 + 2 * i) = true then LMs else LMs0) (false, k, x) = true then gB μ k (s + 93 + 2 * i + x) else gB μ k (t + 93 + 2 * i + x) := fun i x k hi hx => by
    rw [GB, k3.b_in (i := i) (x := x) hx (by omega), th i hi, k2.b_out (by omega), k2.b_out (by omega), k1.b_out (by omega), k1.b_out (by omega), BT, BT]
  have T0 : ∀ k, gF μ' k t = gF μ5 k t := fun k => by rw [GF, k3.f_out (by omega), k2.f_out (by omega), k1.f_out (by omega)]
  have hth : ∀ i, i < 84 → (S 60 i = 1 → gB μ 301 (s + 93 + 2 * i) = true) ∧ (S 60 i ≠ 1 → gB μ 301 (s + 93 + 2 * i) = false) := fun i hi => by
    have x := h.c_there i hi
    cases c : gB μ 301 (s + 93 + 2 * i) with
    | true => exact ⟨fun _ => rfl, fun y => absurd (by rw [← x, c]; rfl) y⟩
    | false => exact ⟨fun y => by rw [← x, c] at y; exact absurd y (by decide), fun _ => rfl⟩
  have TH : ∀ i, i < 84 → gB μ' 301 (t + 93 + 2 * i) = gB μ 301 (s + 93 + 2 * i) := fun i hi => by
    refine (MB i 0 301 hi (by omega)).trans ?_
    by_cases c : gB μ 301 (s + 93 + 2 * i) = true
    · rw [if_pos c]; rfl
    · rw [if_neg c]; rfl
  have MV : ∀ i x k f, i < 84 → x < 2 → inL LMs (true, k, x) = true → inL LMs0 (true, k, x) = false → gF μ k (s + 93 + 2 * i + x) = S f i → f ≠ 46 → f ≠ 47 → (S 60 i ≠ 1 → cpS μ t S f i = gF μ k (t + 93 + 2 * i + x)) → gF μ' k (t + 93 + 2 * i + x) = cpS μ t S f i := fun i x k f hi hx h1 h2 h3 h4 h5 h6 => by
    rw [MF i x k hi hx]
    by_cases c : S 60 i = 1
    · rw [(hth i hi).1 c, if_pos rfl, if_pos h1, h3, cpS_f h4 h5 (Or.inr (Or.inr c))]
    · rw [(hth i hi).2 c, if_neg Bool.false_ne_true, h2, if_neg Bool.false_ne_true, h6 c]
  refine ⟨fun i hi => ((PF i 0 404 hi (by omega)).trans (if_pos rfl)).trans ((h.c_role i hi).trans (cpS_f (by omega) (by omega) (Or.inl (by omega))).symm),
    fun i hi => ((PF i 0 406 hi (by omega)).trans (if_pos rfl)).trans ((h.c_state i hi).trans (cpS_f (by omega) (by omega) (Or.inl (by omega))).symm),
    fun i hi => ((PF i 0 407 hi (by omega)).trans (if_pos rfl)).trans ((h.c_wait i hi).trans (cpS_f (by omega) (by omega) (Or.inl (by omega))).symm),
    fun i hi => ((PF i 0 408 hi (by omega)).trans (if_pos rfl)).trans ((h.c_chg i hi).trans (cpS_f (by omega) (by omega) (Or.inl (by omega))).symm),
    fun i hi => ((PF i 0 402 hi (by omega)).trans (if_pos rfl)).trans ((h.c_hage i hi).trans (cpS_f (by omega) (by omega) (Or.inl (by omega))).symm),
    fun i hi => ((PF i 0 403 hi (by omega)).trans (if_pos rfl)).trans ((h.c_life i hi).trans (cpS_f (by omega) (by omega) (Or.inl (by omega))).symm),
    fun i hi => ((PF i 0 405 hi (by omega)).trans (if_pos rfl)).trans ((h.c_was i hi).trans (cpS_f (by omega) (by omega) (Or.inl (by omega))).symm),
    fun i hi => ((PF i 1 900 hi (by omega)).trans (if_pos rfl)).trans ((h.c_hroot i hi).trans (cpS_f (by omega) (by omega) (Or.inl (by omega))).symm),
    fun i hi => ((PF i 1 901 hi (by omega)).trans (if_pos rfl)).trans ((h.c_hcost i hi).trans (cpS_f (by omega) (by omega) (Or.inl (by omega))).symm),
    fun i hi => ((PF i 1 902 hi (by omega)).trans (if_pos rfl)).trans ((h.c_hid i hi).trans (cpS_f (by omega) (by omega) (Or.inl (by omega))).symm),
    fun i hi => ((PF i 1 903 hi (by omega)).trans (if_pos rfl)).trans ((h.c_hport i hi).trans (cpS_f (by omega) (by omega) (Or.inl (by omega))).symm),
    fun i hi => (congrArg bI ((PB i 0 409 hi (by omega)).trans (if_pos rfl))).trans ((h.c_agr i hi).trans (cpS_f (by omega) (by omega) (Or.inl (by omega))).symm),
    fun i hi => (congrArg bI ((PB i 0 410 hi (by omega)).trans (if_pos rfl))).trans ((h.c_edge i hi).trans (cpS_f (by omega) (by omega) (Or.inl (by omega))).symm),
    fun i hi => (congrArg bI ((PB i 0 411 hi (by omega)).trans (if_pos rfl))).trans ((h.c_spk i hi).trans (cpS_f (by omega) (by omega) (Or.inl (by omega))).symm),
    fun i hi => (congrArg bI ((PB i 0 412 hi (by omega)).trans (if_pos rfl))).trans ((h.c_owes i hi).trans (cpS_f (by omega) (by omega) (Or.inl (by omega))).symm),
    fun i hi => (congrArg bI ((PB i 0 413 hi (by omega)).trans (if_pos rfl))).trans ((h.c_answ i hi).trans (cpS_f (by omega) (by omega) (Or.inl (by omega))).symm),
    fun i hi => (congrArg bI ((PB i 0 414 hi (by omega)).trans (if_pos rfl))).trans ((h.c_mark i hi).trans (cpS_f (by omega) (by omega) (Or.inl (by omega))).symm),
    fun i hi => (congrArg bI ((PB i 0 401 hi (by omega)).trans (if_pos rfl))).trans ((h.c_holds i hi).trans (cpS_f (by omega) (by omega) (Or.inl (by omega))).symm),
    fun i hi => (congrArg bI ((DB i 0 3 hi (by omega)).trans (if_pos rfl))).trans ((h.c_on i hi).trans (cpS_f (by omega) (by omega) (Or.inl (by omega))).symm),
    fun i hi => ((DF i 0 5 hi (by omega)).trans (if_pos rfl)).trans ((h.c_prio i hi).trans (cpS_f (by omega) (by omega) (Or.inl (by omega))).symm),
    fun i hi => (congrArg bI ((DB i 0 4 hi (by omega)).trans (if_pos rfl))).trans ((h.c_old i hi).trans (cpS_f (by omega) (by omega) (Or.inl (by omega))).symm),
    fun i hi => ((DF i 0 7 hi (by omega)).trans (if_pos rfl)).trans ((h.c_rport i hi).trans (cpS_f (by omega) (by omega) (Or.inl (by omega))).symm),
    fun i hi => ((DF i 0 6 hi (by omega)).trans (if_pos rfl)).trans ((h.c_bage i hi).trans (cpS_f (by omega) (by omega) (Or.inl (by omega))).symm),
    fun i hi => ((DF i 0 8 hi (by omega)).trans (if_pos rfl)).trans ((h.c_short i hi).trans (cpS_f (by omega) (by omega) (Or.inl (by omega))).symm),
    fun i hi => ((DF i 1 900 hi (by omega)).trans (if_pos rfl)).trans ((h.c_root i hi).trans (cpS_f (by omega) (by omega) (Or.inl (by omega))).symm),
    fun i hi => ((DF i 1 901 hi (by omega)).trans (if_pos rfl)).trans ((h.c_cost i hi).trans (cpS_f (by omega) (by omega) (Or.inl (by omega))).symm),
    fun i hi => ((DF i 1 902 hi (by omega)).trans (if_pos rfl)).trans ((h.c_cid i hi).trans (cpS_f (by omega) (by omega) (Or.inl (by omega))).symm),
    fun i hi => ((DF i 1 903 hi (by omega)).trans (if_pos rfl)).trans ((h.c_cport i hi).trans (cpS_f (by omega) (by omega) (Or.inl (by omega))).symm),
    fun i hi => ((DF i 2 900 hi (by omega)).trans (if_pos rfl)).trans ((h.c_froot i hi).trans (cpS_f (by omega) (by omega) (Or.inl (by omega))).symm),
    fun i hi => ((DF i 2 901 hi (by omega)).trans (if_pos rfl)).trans ((h.c_fcost i hi).trans (cpS_f (by omega) (by omega) (Or.inl (by omega))).symm),
    fun i hi => ((DF i 2 902 hi (by omega)).trans (if_pos rfl)).trans ((h.c_fid i hi).trans (cpS_f (by omega) (by omega) (Or.inl (by omega))).symm),
    fun i hi => ((DF i 2 903 hi (by omega)).trans (if_pos rfl)).trans ((h.c_fport i hi).trans (cpS_f (by omega) (by omega) (Or.inl (by omega))).symm),
    fun i hi => by rw [GZ, if_pos ⟨rfl, hi⟩]; exact (h.c_whole i hi).trans (cpS_f (by omega) (by omega) (Or.inl (by omega))).symm,
    fun i hi => by rw [GA, if_neg (by omega), if_neg (by omega), if_neg (by omega), if_pos ⟨rfl, hi⟩]; exact (h.c_home i hi).trans (cpS_f (by omega) (by omega) (Or.inl (by omega))).symm,
    fun i hi => by rw [GA, if_neg (by omega), if_neg (by omega), if_pos ⟨rfl, hi⟩]; exact (h.c_la i hi).trans (cpS_f (by omega) (by omega) (Or.inl (by omega))).symm,
    fun i hi => by rw [GA, if_neg (by omega), if_pos ⟨rfl, hi⟩]; exact (h.c_lg i hi).trans (cpS_f (by omega) (by omega) (Or.inl (by omega))).symm,
    fun i hi => by rw [GZ, if_neg (by omega)]; rfl,
    fun i hi => MV i 0 302 50 hi (by omega) rfl rfl (h.c_arr i hi) (by omega) (by omega) (fun c => by
      unfold cpS
      rw [if_neg (by omega), if_neg (by omega), if_pos ⟨by omega, by omega, c⟩, if_pos rfl]
      rfl),
    fun i hi => MV i 0 304 58 hi (by omega) rfl rfl (h.c_mage i hi) (by omega) (by omega) (fun c => by
      unfold cpS
      rw [if_neg (by omega), if_neg (by omega), if_pos ⟨by omega, by omega, c⟩, if_neg (by omega), if_neg (by omega), if_neg (by omega), if_neg (by omega), if_neg (by omega), if_neg (by omega), if_pos rfl]
      rfl),
    fun i hi => MV i 0 305 59 hi (by omega) rfl rfl (h.c_bits i hi) (by omega) (by omega) (fun c => by
      unfold cpS
      rw [if_neg (by omega), if_neg (by omega), if_pos ⟨by omega, by omega, c⟩, if_neg (by omega), if_neg (by omega), if_neg (by omega), if_neg (by omega), if_neg (by omega), if_neg (by omega), if_neg (by omega), if_pos rfl]
      rfl),
    fun i hi => MV i 1 900 54 hi (by omega) rfl rfl (h.c_mroot i hi) (by omega) (by omega) (fun c => by
      unfold cpS
      rw [if_neg (by omega), if_neg (by omega), if_pos ⟨by omega, by omega, c⟩, if_neg (by omega), if_neg (by omega), if_pos rfl]),
    fun i hi => MV i 1 901 55 hi (by omega) rfl rfl (h.c_mcost i hi) (by omega) (by omega) (fun c => by
      unfold cpS
      rw [if_neg (by omega), if_neg (by omega), if_pos ⟨by omega, by omega, c⟩, if_neg (by omega), if_neg (by omega), if_neg (by omega), if_pos rfl]),
    fun i hi => MV i 1 902 56 hi (by omega) rfl rfl (h.c_mid i hi) (by omega) (by omega) (fun c => by
      unfold cpS
      rw [if_neg (by omega), if_neg (by omega), if_pos ⟨by omega, by omega, c⟩, if_neg (by omega), if_neg (by omega), if_neg (by omega), if_neg (by omega), if_pos rfl]),
    fun i hi => MV i 1 903 57 hi (by omega) rfl rfl (h.c_mport i hi) (by omega) (by omega) (fun c => by
      unfold cpS
      rw [if_neg (by omega), if_neg (by omega), if_pos ⟨by omega, by omega, c⟩, if_neg (by omega), if_neg (by omega), if_neg (by omega), if_neg (by omega), if_neg (by omega), if_pos rfl]),
    fun i hi => by rw [TH i hi, h.c_there i hi, cpS_f (by omega) (by omega) (Or.inr (Or.inl (by omega)))],
    fun i hi => by
      rw [show gB μ' 303 (t + 93 + 2 * i) = _ from MB i 0 303 hi (by omega)]
      by_cases c : S 60 i = 1
      · rw [(hth i hi).1 c, if_pos rfl, show inL LMs (false, 303, 0) = true from rfl, if_pos rfl, cpS_f (by omega) (by omega) (Or.inr (Or.inr c))]; exact h.c_reply i hi
      · rw [(hth i hi).2 c, if_neg Bool.false_ne_true, show inL LMs0 (false, 303, 0) = false from rfl, if_neg Bool.false_ne_true]
        unfold cpS
        rw [if_neg (by omega), if_neg (by omega), if_pos ⟨by omega, by omega, c⟩, if_neg (by omega), if_pos rfl]
        rfl,
    by rw [T0, FT _ (by omega) (by omega)]; exact h.c_step.trans (cpS_f (by omega) (by omega) (Or.inl (by omega))).symm, by rw [T0, FT _ (by omega) (by omega)]; exact h.c_flu.trans (cpS_f (by omega) (by omega) (Or.inl (by omega))).symm, by rw [GB, k3.b_out (by omega), k2.b_out (by omega), k1.b_out (by omega), BT]; rfl,
    fun i hi => ((DF i 0 0 hi (by omega)).trans (if_neg (by decide))).trans (hn i hi), by rw [GR, if_pos ⟨rfl, rfl⟩], ?_, ⟨fun b x hb hx => by rw [cpS_f (by omega) (by omega) (Or.inl (by omega))]; exact h.c_so.1 b x hb hx, fun x hx => by rw [cpS_f (by omega) (by omega) (Or.inl (by omega))]; exact h.c_so.2 x hx⟩, ⟨h.nw, h.wi, hw⟩, fun a ha => ⟨fun k => ?_, fun k => ?_, fun k => ?_, fun j => ?_, fun j => ?_, fun j => GX a j⟩⟩
  · obtain ⟨f, n, h1, h2, h3, h4, h5, h6⟩ := h.c_kept
    refine ⟨f, n, h1, h2, by rw [T0, FT _ (by omega) (by omega)]; exact h3, by rw [T0, FT _ (by omega) (by omega)]; exact h4, by rw [cpS_f (by omega) (by omega) (Or.inl (by omega))]; exact h5, fun k c hk hc => ?_⟩
    rw [GA, if_pos ⟨rfl, by omega⟩, cpS_f (by omega) (by omega) (Or.inl (by omega))]
    exact h6 k c hk hc
  · rw [GF, k3.f_out (by omega), k2.f_out (by omega), k1.f_out (by omega), F0 _ _ (by omega)]
  · rw [GB, k3.b_out (by omega), k2.b_out (by omega), k1.b_out (by omega), BT]
  · rw [GR, if_neg (by omega)]
  · rw [GA, if_neg (by omega), if_neg (by omega), if_neg (by omega), if_neg (by omega)]
  · rw [GZ, if_neg (by omega)]
end zV3
