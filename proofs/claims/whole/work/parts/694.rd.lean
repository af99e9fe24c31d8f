/-! READING: when nothing goes on; new names and known ones; both -/
section zNe
variable {x m w n p q e k i j a z r c f v lo hi : Nat} {μ0 ν0 μ ν μ' ν' μ1 ν1 : zM} {g T : Nat → Nat} {N N' : zN} {V V' : Nat → Nat → Prop} {u u1 u2 : Int32}
theorem R_mustD (hd : ceq (gF ν 1239 m) 0 = false) : f12_must m u ν = some ν := by
  unfold f12_must f12_goes
  rw [R_wordD hd, obs, hd]; rfl
theorem R_numD (hd : ceq (gF ν 1239 m) 0 = false) : f12_number m u1 u2 ν = some (0, ν) := by
  unfold f12_number f12_goes
  rw [hd]; rfl
theorem R_toldD (hd : ceq (gF ν 1239 m) 0 = false) : f12_told m u u1 u2 ν = some (0, ν) := by
  unfold f12_told
  rw [R_mustD hd, obs, R_numD hd, ozb2]
theorem R_nameD (hd : ceq (gF ν 1239 m) 0 = false) : f12_name m ν = some ν := by
  unfold f12_name f12_goes
  rw [R_wordD hd, obs, hd]; rfl
theorem R_freshD (hd : ceq (gF ν 1239 m) 0 = false) : f12_freshName m u ν = some ν := by
  unfold f12_freshName f12_goes
  rw [R_nameD hd, obs, hd]; rfl
theorem R_knownD (hd : ceq (gF ν 1239 m) 0 = false) : f12_knownBridge m ν = some (0, ν) := by
  unfold f12_knownBridge f12_goes
  rw [R_nameD hd, obs, hd]; rfl
theorem R_endsD (hd : ceq (gF ν 1239 m) 0 = false) : f12_endsWell m ν = some ν := by
  unfold f12_endsWell f12_goes
  rw [hd]; rfl
theorem gA_cpd {s d dp : Nat} : gA (copyA μ s d 0 dp 6) a j = if a = d ∧ dp ≤ j ∧ j < dp + 6 then gA μ s (j - dp) else gA μ a j := by
  show (if a = d then (if dp ≤ j ∧ j < dp + 6 then gA μ s (0 + (j - dp)) else gA μ d j) else gA μ a j) = _
  by_cases c : a = d
  · rw [if_pos c]
    by_cases c2 : dp ≤ j ∧ j < dp + 6
    · rw [if_pos c2, if_pos ⟨c, c2⟩, Nat.zero_add]
    · rw [if_neg c2, if_neg (fun x => c2 x.2), c]
  · rw [if_neg c, if_neg (fun x => c x.1)]
theorem fJ_cd {s d : Nat} (h : k < 8) : fJ_copy s 6 0 d 48 (nI k * 6) 6 μ = some (copyA μ s d 0 (6 * k) 6) := by
  unfold fJ_copy
  rw [show (6 : Int32) = nI 6 from rfl, pk_mul, nI_clamp (by omega), nI_clamp (by omega), show (0 : Int32).toNatClampNeg = 0 from rfl, show k * 6 = 6 * k by omega, if_neg]
  intro z
  rcases z with z | z | z | z | z
  · exact absurd z (by decide)
  · exact nI_nn (by omega) z
  · exact nI_nn (by omega) z
  · omega
  · omega
/-- what the reference must have to look names up -/
def VN (N : zN) (V : Nat → Nat → Prop) : Prop := V 0 0 ∧ V 0 2 ∧ (∀ i, i < 6 * N 0 0 → V 11 i) ∧ (∀ i, i < 6 * N 0 2 → V 12 i) ∧ N 0 0 ≤ 8 ∧ N 0 2 ≤ 8
theorem nmB_eq (h : PT x m w n g μ0 ν0 N V p μ ν) (hn : NM x m g q e μ ν) (v5 : N 0 0 ≤ 8) (v3 : ∀ i, i < 6 * N 0 0 → V 11 i) : fnN (b6 (gA μ (w + 1)) (gA μ (x + 50))) (N 0 0) 0 = fnN (fun k => b6 (gA ν (m + 20)) (fun i => nI (nmv g q e i)) (0 + k)) (N 0 0) 0 := by
  refine fnN_c _ _ (fun k _ hk => ?_)
  rw [Nat.zero_add] at hk ⊢
  refine b6_c (fun i hi => ?_) (fun i hi => hn.1 i hi)
  have c1 : gA μ (w + 1) (6 * k + i) = nI (N 11 (6 * k + i)) := h.gc 11 (6 * k + i) (by omega) (by omega)
  have c2 : gA ν (m + 20) (6 * k + i) = nI (N 11 (6 * k + i)) := h.gr 11 (6 * k + i) ⟨by omega, by omega, by omega, by omega⟩ (v3 _ (by omega))
  rw [c1, c2]
theorem nmH_eq (h : PT x m w n g μ0 ν0 N V p μ ν) (hn : NM x m g q e μ ν) (hv : VN N V) : fnN (b6 (gA μ (w + 2)) (gA μ (x + 50))) (N 0 2) 0 = fnN (fun k => b6 (gA ν (m + 20)) (fun i => nI (nmv g q e i)) (8 + k)) (N 0 2) 0 := by
  obtain ⟨v1, v2, v3, v4, v5, v6⟩ := hv
  refine fnN_c _ _ (fun k _ hk => ?_)
  rw [Nat.zero_add] at hk
  have c3 : ∀ i, i < 6 → gA μ (w + 2) (6 * k + i) = gA ν (m + 20) (6 * (8 + k) + i) := fun i hi => by
    have c1 : gA μ (w + 2) (6 * k + i) = nI (N 12 (6 * k + i)) := h.gc 12 (6 * k + i) (by omega) (by omega)
    have c2 : gA ν (m + 20) (48 + (6 * k + i)) = nI (N 12 (6 * k + i)) := h.gr 12 (6 * k + i) ⟨by omega, by omega, by omega, by omega⟩ (v4 _ (by omega))
    rw [c1, show 6 * (8 + k) + i = 48 + (6 * k + i) by omega, c2]
  show b6 (gA μ (w + 2)) (gA μ (x + 50)) k = b6 (gA ν (m + 20)) (fun i => nI (nmv g q e i)) (8 + k)
  refine bb_eq ?_
  rw [b6_iff, b6_iff]
  constructor
  · intro y i hi; rw [← c3 i hi, y i hi, hn.1 i hi]
  · intro z i hi; rw [c3 i hi, z i hi, hn.1 i hi]
theorem fn_m1 {P : Nat → Bool} (hc : c < 100) : (fnN P c 0 = -1 ∧ ceq (fnN P c 0) (-1) = true) ∨ ∃ j, j < c ∧ fnN P c 0 = nI j ∧ ceq (fnN P c 0) (-1) = false := by
  rcases fnN_or (P := P) c 0 with y | ⟨j, y1, y2⟩
  · exact Or.inl ⟨y, by rw [y]; rfl⟩
  · refine Or.inr ⟨j, by omega, y2, ?_⟩
    rw [y2]
    exact decide_eq_false (fun z => m1_ne (p := j) (by omega) z.symm)
/-- a bridge that must be known -/
theorem knownB (h : PT x m w n g μ0 ν0 N V p μ ν) (v5 : N 0 0 ≤ 8) (v0 : V 0 0) (v3 : ∀ i, i < 6 * N 0 0 → V 11 i) : (∃ q e b μ' ν', p < e ∧ b < N 0 0 ∧ f5_bridgeName (x + 49) μ = some (nI b, μ') ∧ f12_knownBridge m ν = some (nI b, ν') ∧ gF μ' 506 (x + 49) = nI q ∧ gF ν' 1238 m = nI q ∧ RTf m ν ν' ∧ PT x m w n g μ0 ν0 N V e μ' ν') ∨ (∃ μ' ν', f5_bridgeName (x + 49) μ = some (-1, μ') ∧ f12_knownBridge m ν = some (0, ν') ∧ RTf m ν ν' ∧ BDD x m w μ0 ν0 μ' ν') := by
  unfold f5_bridgeName f12_knownBridge
  rcases nameP h with ⟨q, e, μ', ν', a0, a1, a2, a3, a4, a5, aR, a6⟩ | ⟨μ', ν', a1, a2, aR, a3⟩
  · have g9 : gF ν' 1239 m = 0 := a6.1.2.2.2.2.2.2.2.1
    have g7 : gF ν' 1237 m = nI e := a6.1.2.2.2.2.2.1
    have k15 : gF μ' 1015 w = nI (N 0 0) := a6.gc 0 0 (by omega) (by omega)
    have k17 : gF ν' 1217 m = nI (N 0 0) := a6.gr 0 0 ⟨by omega, by omega, by omega, by omega⟩ v0
    have hC : f5_named (x + 49) (w + 1) 48 (nI (N 0 0)) μ' = some (fnN (b6 (gA μ' (w + 1)) (gA μ' (x + 50))) (N 0 0) 0) := C_named v5
    have hR : f12_nameIn m 0 (nI (N 0 0)) ν' = some (fnN (b6 (gA μ' (w + 1)) (gA μ' (x + 50))) (N 0 0) 0) := by
      rw [nmB_eq a6 a5 v5 v3]
      exact R_nameIn (f0 := 0) a6.1.2.1 a1 a5.2.2 g7 (by omega)
    unfold f12_goes
    rw [a3, a4, ozb2, if_pos rfl, a6.2.1, obs, obs, k15, hC, obs, obs, g9, show ceq (0 : Int32) 0 = true from rfl, obs, obs, if_pos rfl, k17, hR, obs, a5.2.1, a5.2.2]
    rcases fn_m1 (P := b6 (gA μ' (w + 1)) (gA μ' (x + 50))) (c := N 0 0) (by omega) with ⟨y1, y2⟩ | ⟨b, y0, y1, y2⟩
    · rw [y2, if_pos rfl, if_pos rfl, if_pos rfl, y1, R_fails0 g9]
      refine Or.inr ⟨sF (sF μ' 507 (x + 49) 3) 508 (x + 49) (nI q), sF (sF ν' 1239 m 3) 1240 m (nI q), rfl, rfl, (aR.tr (RTf.w (by omega))).tr (RTf.w (by omega)), ⟨3, by omega, by omega, by rw [sF_ne (by omega), sF_eq]; rfl, by rw [sF_ne (by omega), sF_eq]; rfl, by rw [sF_eq, sF_eq]⟩, a6.2.2.2.2.1.tr (CNf.ct ((CTf.w (by omega)).tr (CTf.w (by omega)))), a6.2.2.2.2.2.1.tr (RNf.rt ((RTf.w (by omega)).tr (RTf.w (by omega))))⟩
    · rw [y2, if_neg (by decide), if_neg (by decide), if_neg (by decide), y1]
      exact Or.inl ⟨q, e, b, μ', ν', a0, y0, rfl, rfl, a5.2.1, a5.2.2, aR, a6⟩
  · have hd := a3.1.nz
    unfold f12_goes
    rw [a1, a2, ozb2, if_neg (by decide), obs, hd]
    exact Or.inr ⟨μ', ν', rfl, rfl, aR, a3⟩
theorem knownP (h : PT x m w n g μ0 ν0 N V p μ ν) (hv : VN N V) : (∃ q e b μ' ν', p < e ∧ b < N 0 0 ∧ f5_bridgeName (x + 49) μ = some (nI b, μ') ∧ f12_knownBridge m ν = some (nI b, ν') ∧ gF μ' 506 (x + 49) = nI q ∧ gF ν' 1238 m = nI q ∧ RTf m ν ν' ∧ PT x m w n g μ0 ν0 N V e μ' ν') ∨ (∃ μ' ν', f5_bridgeName (x + 49) μ = some (-1, μ') ∧ f12_knownBridge m ν = some (0, ν') ∧ RTf m ν ν' ∧ BDD x m w μ0 ν0 μ' ν') := knownB h hv.2.2.2.2.1 hv.1 hv.2.2.1
/-- six letters laid down by both -/
theorem PT.six (h : PT x m w n g μ0 ν0 N V p μ ν) (hf : f = 11 ∨ f = 12) (hk : k < 8) (h1 : ∀ i, i < 6 → gA μ (x + 50) i = nI (T i)) (c1 : ∀ k a, gF ν' k a = gF ν k a) (c2 : ∀ k a, gB ν' k a = gB ν k a) (c3 : ∀ k a, gR ν' k a = gR ν k a) (c4 : ∀ a i, gZ ν' a i = gZ ν a i) (c5 : ∀ a i, gX ν' a i = gX ν a i) (c6 : ∀ a i, gA ν' a i = if a = m + 20 ∧ 6 * (if f = 11 then k else 8 + k) ≤ i ∧ i < 6 * (if f = 11 then k else 8 + k) + 6 then nI (T (i - 6 * (if f = 11 then k else 8 + k))) else gA ν a i) : PT x m w n g μ0 ν0 (nub N f (6 * k) T) (fun f' i' => V f' i' ∨ (f' = f ∧ 6 * k ≤ i' ∧ i' < 6 * k + 6)) p (copyA μ (x + 50) (w + oc f) 0 (6 * k) 6) ν' := by
  obtain ⟨b0, b1, b2, b3, b4, b5, b6⟩ := h
  have o := oc_b f (by omega)
  have f0 : f ≠ 0 := by omega
  refine ⟨(b0.cw (μ' := copyA μ (x + 50) (w + oc f) 0 (6 * k) 6) (fun _ => rfl) (fun j => by rw [gA_cpd, if_neg (by omega)])).rwr (fun k' _ _ => c1 k' m) (fun a j _ _ => by rw [c6, if_neg (by omega)]), b1, fun f' i' g1 g2 => ?_, fun f' i' g1 g2 => ?_, b4.tr ⟨fun _ _ _ _ => rfl, fun _ _ _ => rfl, fun _ _ _ => rfl, fun a j y1 y2 => by rw [gA_cpd, if_neg (by omega)], fun _ _ _ => rfl, fun _ _ => rfl⟩, b5.tr ⟨fun k' a _ _ => c1 k' a, fun k' a => c2 k' a, fun k' a => c3 k' a, fun a j y => by rw [c6, if_neg (by omega)], fun a j => c4 a j, fun a j => c5 a j⟩, b6⟩
  · have h3 := b2 f' i' g1 g2
    unfold cl at h3 ⊢
    unfold nub
    by_cases d0 : f' = 0
    · rw [if_pos d0] at h3 ⊢
      rw [if_neg (fun y => f0 (y.1.symm.trans d0))]
      exact h3
    · rw [if_neg d0] at h3 ⊢
      by_cases d5 : f' = 5 ∨ f' = 9
      · rw [if_pos d5] at h3 ⊢
        rw [if_neg (by omega)]
        exact h3
      · rw [if_neg d5] at h3 ⊢
        rw [gA_cpd]
        by_cases y : f' = f ∧ 6 * k ≤ i' ∧ i' < 6 * k + 6
        · rw [if_pos y, if_pos ⟨by rw [y.1], y.2⟩]
          exact h1 _ (by omega)
        · rw [if_neg y, if_neg (fun z => y ⟨oc_i f' g1 f (by omega) (by omega), z.2⟩)]
          exact h3
  · unfold nub
    by_cases y : f' = f ∧ 6 * k ≤ i' ∧ i' < 6 * k + 6
    · unfold rf ri
      rw [if_pos y, if_neg (show ¬ f' = 0 by omega), if_neg (show ¬ f' = 3 by omega), if_neg (show ¬ f' = 4 by omega), c6]
      rcases hf with z | z
      · rw [if_pos z, if_neg (show ¬ f' = 12 by omega), if_pos ⟨by rw [y.1, z]; rfl, y.2⟩]
      · rw [if_neg (show ¬ f = 11 by omega), if_pos (show f' = 12 by omega), if_pos ⟨by rw [y.1, z]; rfl, by omega⟩]
        exact congrArg (fun q => nI (T q)) (by omega)
    · have h3 := b3 f' i' g1 (g2.resolve_right y)
      rw [if_neg y, ← h3]
      unfold rf
      by_cases d0 : f' = 0
      · rw [if_pos d0, if_pos d0, c1]
      · rw [if_neg d0, if_neg d0, c6, if_neg]
        rintro ⟨z1, z2⟩
        have q1 : f' = 11 ∨ f' = 12 := by
          have := ra_i f' g1.1 11 (by omega) (by
            have : ra f' = 20 := by omega
            rw [this]; rfl)
          omega
        have q2 := g1.2.2.2
        unfold ri at z2
        rw [if_neg (show ¬ f' = 3 by omega), if_neg (show ¬ f' = 4 by omega)] at z2
        rcases hf with z | z
        · rw [if_pos z] at z2
          by_cases d : f' = 12
          · rw [if_pos d] at z2; omega
          · rw [if_neg d] at z2; omega
        · rw [if_neg (show ¬ f = 11 by omega)] at z2
          by_cases d : f' = 12
          · rw [if_pos d] at z2; omega
          · rw [if_neg d] at z2; omega
/-- a name that must be new -/
theorem freshP (h : PT x m w n g μ0 ν0 N V p μ ν) (hv : VN N V) (hf : f = 11 ∨ f = 12) (hk : k < 8) : (∃ e T μ' μ'' ν', p < e ∧ f5_newName (x + 49) μ = some (true, μ') ∧ gR μ' 509 (x + 49) = some w ∧ gF μ' 1015 w = nI (N 0 0) ∧ gF μ' 1017 w = nI (N 0 2) ∧ fJ_copy (x + 49 + 1) 6 0 (w + oc f) 48 (nI k * 6) 6 μ' = some μ'' ∧ f12_freshName m (nI (if f = 11 then k else 8 + k)) ν = some ν' ∧ (∀ k, k < 1237 → gF ν' k m = gF ν k m) ∧ PT x m w n g μ0 ν0 (nub N f (6 * k) T) (fun f' i' => V f' i' ∨ (f' = f ∧ 6 * k ≤ i' ∧ i' < 6 * k + 6)) e μ'' ν') ∨ (∃ μ' ν', f5_newName (x + 49) μ = some (false, μ') ∧ f12_freshName m (nI (if f = 11 then k else 8 + k)) ν = some ν' ∧ (∀ k, k < 1237 → gF ν' k m = gF ν k m) ∧ BDD x m w μ0 ν0 μ' ν') := by
  have v5 := hv.2.2.2.2.1
  have v6 := hv.2.2.2.2.2
  generalize hK : (if f = 11 then k else 8 + k) = K
  unfold f5_newName f12_freshName
  rcases nameP h with ⟨q, e, μ', ν', a0, a1, a2, a3, a4, a5, aR, a6⟩ | ⟨μ', ν', a1, a2, aR, a3⟩
  · have g9 : gF ν' 1239 m = 0 := a6.1.2.2.2.2.2.2.2.1
    have g7 : gF ν' 1237 m = nI e := a6.1.2.2.2.2.2.1
    have k15 : gF μ' 1015 w = nI (N 0 0) := a6.gc 0 0 (by omega) (by omega)
    have k17 : gF ν' 1217 m = nI (N 0 0) := a6.gr 0 0 ⟨by omega, by omega, by omega, by omega⟩ hv.1
    have j15 : gF μ' 1017 w = nI (N 0 2) := a6.gc 0 2 (by omega) (by omega)
    have j17 : gF ν' 1219 m = nI (N 0 2) := a6.gr 0 2 ⟨by omega, by omega, by omega, by omega⟩ hv.2.1
    have hC : f5_named (x + 49) (w + 1) 48 (nI (N 0 0)) μ' = some (fnN (b6 (gA μ' (w + 1)) (gA μ' (x + 50))) (N 0 0) 0) := C_named v5
    have hR : f12_nameIn m 0 (nI (N 0 0)) ν' = some (fnN (b6 (gA μ' (w + 1)) (gA μ' (x + 50))) (N 0 0) 0) := by
      rw [nmB_eq a6 a5 hv.2.2.2.2.1 hv.2.2.1]
      exact R_nameIn (f0 := 0) a6.1.2.1 a1 a5.2.2 g7 (by omega)
    have hC2 : f5_named (x + 49) (w + 2) 48 (nI (N 0 2)) μ' = some (fnN (b6 (gA μ' (w + 2)) (gA μ' (x + 50))) (N 0 2) 0) := C_named v6
    have hR2 : f12_nameIn m 8 (nI (N 0 2)) ν' = some (fnN (b6 (gA μ' (w + 2)) (gA μ' (x + 50))) (N 0 2) 0) := by
      rw [nmH_eq a6 a5 hv]
      exact R_nameIn (f0 := 8) a6.1.2.1 a1 a5.2.2 g7 (by omega)
    have bad : BDD x m w μ0 ν0 (sF (sF μ' 507 (x + 49) 3) 508 (x + 49) (nI q)) (sF (sF ν' 1239 m 3) 1240 m (nI q)) := ⟨⟨3, by omega, by omega, by rw [sF_ne (by omega), sF_eq]; rfl, by rw [sF_ne (by omega), sF_eq]; rfl, by rw [sF_eq, sF_eq]⟩, a6.2.2.2.2.1.tr (CNf.ct ((CTf.w (by omega)).tr (CTf.w (by omega)))), a6.2.2.2.2.2.1.tr (RNf.rt ((RTf.w (by omega)).tr (RTf.w (by omega))))⟩
    unfold f12_goes
    rw [a3, a4, ozb2, if_pos rfl, a6.2.1]
    simp only [obs]
    rw [k15, j15, hC, hC2, g9, show ceq (0 : Int32) 0 = true from rfl, if_pos rfl, k17, j17, hR, hR2]
    simp only [obs]
    rw [a5.2.1, a5.2.2]
    generalize fnN (b6 (gA μ' (w + 1)) (gA μ' (x + 50))) (N 0 0) 0 = A
    generalize fnN (b6 (gA μ' (w + 2)) (gA μ' (x + 50))) (N 0 2) 0 = B
    cases cA : ceq A (-1) with
    | false =>
      rw [Bool.not_false, if_pos rfl, obs, if_pos rfl, obs, if_pos rfl, R_fails0 g9]
      exact Or.inr ⟨_, _, rfl, rfl, fun k hk => by rw [sF_ne (by omega), sF_ne (by omega)]; exact aR.1 k m (by omega), bad⟩
    | true =>
      rw [Bool.not_true, if_neg (by decide), obs, obs]
      cases cB : ceq B (-1) with
      | false =>
        rw [Bool.not_false, if_pos rfl, if_pos rfl, R_fails0 g9]
        exact Or.inr ⟨_, _, rfl, rfl, fun k hk => by rw [sF_ne (by omega), sF_ne (by omega)]; exact aR.1 k m (by omega), bad⟩
      | true =>
        rw [Bool.not_true, if_neg (by decide), if_neg (by decide)]
        obtain ⟨ν2, f1, f2, f3, f4, f5, f6, f7⟩ := R_layL (m := m) (k := K) a1 (by
          by_cases d : f = 11
          · rw [if_pos d] at hK; omega
          · rw [if_neg d] at hK; omega) 6 0 1000000 ν' (by omega) (by omega) (by omega) a6.1.2.1 a5.2.2 g7
        rw [show ((0 : Int32), ν') = (nI 0, ν') from rfl, f1]
        subst hK
        exact Or.inl ⟨e, nmv g q e, μ', _, ν2, a0, rfl, a6.2.1, k15, j15, fJ_cd hk, rfl, fun k hk => (f2 k m).trans (aR.1 k m (by omega)), a6.six hf hk (fun i hi => a5.1 i hi) f2 f3 f4 f5 f6 f7⟩
  · have hd := a3.1.nz
    unfold f12_goes
    rw [a1, a2, ozb2, if_neg (by decide), obs, hd]
    exact Or.inr ⟨μ', ν', rfl, rfl, fun k hk => aR.1 k m (by omega), a3⟩
end zNe
