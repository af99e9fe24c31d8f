/-! READING: a whole text, both -/
def c8 (x w n : Nat) (μ : zM) : zM := sF (sF (sF (sF (fillA (sF (sF (sF (sF (sF (sB (sR (sF μ 502 (x + 49) (nI n)) 509 (x + 49) (some w)) 1012 w false) 1013 w 0) 1014 w 0) 1015 w 0) 1016 w 0) 1017 w 0) (w + 5) 8 0) 503 (x + 49) 0) 504 (x + 49) (-1)) 507 (x + 49) 0) 508 (x + 49) (-1)
def r6 (m n : Nat) (ν : zM) : zM := sF (sF (sF (sF ν 1236 m (nI n)) 1237 m 0) 1239 m 0) 1240 m (-1)
def r8 (m n : Nat) (ν : zM) : zM := sF (sF (sF (r6 m n ν) 1217 m 0) 1218 m 0) 1219 m 0
theorem nI_tb (v : Int32) : v = nI v.toBitVec.toNat := by
  cases v with
  | ofUInt32 y =>
    cases y with
    | ofBitVec b =>
      show Int32.ofUInt32 (UInt32.ofBitVec b) = Int32.ofUInt32 (UInt32.ofBitVec (BitVec.ofNat 32 b.toNat))
      refine congrArg (fun b => Int32.ofUInt32 (UInt32.ofBitVec b)) ?_
      exact BitVec.eq_of_toNat_eq (by rw [BitVec.toNat_ofNat, Nat.mod_eq_of_lt b.isLt])
section zNm
variable {x m w n p q e k i j a z r c f v o b P ne l d : Nat} {μ0 ν0 μ ν μ' ν' μ1 ν1 μ2 ν2 μ6 : zM} {g T : Nat → Nat} {N N' : zN} {V V' : Nat → Nat → Prop} {u u1 u2 : Int32} {t : Bool}
theorem fst_def : f5_statements (x + 49) (nI n) w μ = (zloop (fun s => f5_statements_L1 (x + 49) s.1 s.2) 1000000 (0, c8 x w n μ)).bind fun r11 => Sum.elim (fun v => some v) (zq2 fun v_count_11 μ12 => some ((-1), μ12)) r11 := by
  unfold f5_statements f10_clear fJ_fill c8
  simp only [wF, wR, wB, obs]
  rw [show gR (sR (sF μ 502 (x + 49) (nI n)) 509 (x + 49) (some w)) 509 (x + 49) = some w from if_pos ⟨rfl, rfl⟩, obs]
theorem rA_def : f12_readsAll m (r6 m n ν) = ((rnT m (r8 m n ν)).bind fun μ22 => f12_endsWell m μ22).bind fun μ11 => zloop (fun s => f12_readsAll_L1 m s.1 s.2) 1000000 (nI 1, μ11) := by
  unfold f12_readsAll rnT
  simp only [wF, obs]
  show (f12_must m 0 (r8 m n ν)).bind _ = _
  cases f12_must m 0 (r8 m n ν) with
  | none => rfl
  | some μ4 =>
    rw [obs, obs]
    cases f12_told m 1 2 20 μ4 with
    | none => rfl
    | some y =>
      obtain ⟨y1, y2⟩ := y
      rw [ozb2, ozb2]
      cases f12_told m 2 1 9 (sF y2 1220 m y1) with
      | none => rfl
      | some z =>
        obtain ⟨z1, z2⟩ := z
        rw [ozb2, ozb2, obs]
        refine congrArg _ ?_
        funext μ11
        exact zb2_id _
theorem readP (hn : n ≤ 1600) (hC : ∀ j, j < 1600 → gA μ (x + 1) j = nI (g j) ∧ g j < 256) (hR : ∀ j, j < 1600 → gA ν (m + 21) j = nI (g j) ∧ g j < 256) (ol : OL m ν) (hw : x + 2 ≤ w ∧ w + 13 ≤ x + 49) : (∃ c N μ' ν', c < 1600 ∧ f5_statements (x + 49) (nI n) w μ = some (nI c, sB μ' 1012 w true) ∧ f12_readsAll m (r6 m n ν) = some (nI c, ν') ∧ PT x m w n g μ ν N (vN N (2 * N 0 1)) n μ' ν' ∧ QW N (2 * N 0 1)) ∨ (∃ r μ' ν', f5_statements (x + 49) (nI n) w μ = some (-1, μ') ∧ f12_readsAll m (r6 m n ν) = some (r, ν') ∧ BDD x m w μ ν μ' ν') := by
  have fc : CNf x w μ (c8 x w n μ) := by
    refine ⟨fun k a h1 h2 => ?_, fun k a h => ?_, fun k a h => ?_, fun a j h1 h2 => ?_, fun a j h => rfl, fun a j => rfl⟩
    · unfold c8
      rw [gF_sF, if_neg (by omega), gF_sF, if_neg (by omega), gF_sF, if_neg (by omega), gF_sF, if_neg (by omega)]
      show gF (sF (sF (sF (sF (sF (sB (sR (sF μ 502 (x + 49) (nI n)) 509 (x + 49) (some w)) 1012 w false) 1013 w 0) 1014 w 0) 1015 w 0) 1016 w 0) 1017 w 0) k a = _
      rw [gF_sF, if_neg (by omega), gF_sF, if_neg (by omega), gF_sF, if_neg (by omega), gF_sF, if_neg (by omega), gF_sF, if_neg (by omega)]
      show gF (sF μ 502 (x + 49) (nI n)) k a = _
      rw [gF_sF, if_neg (by omega)]
    · show (if k = 1012 ∧ a = w then false else gB μ k a) = _
      rw [if_neg h]
    · show (if k = 509 ∧ a = x + 49 then some w else gR μ k a) = _
      rw [if_neg h]
    · show (if a = w + 5 ∧ j < 8 then 0 else gA μ a j) = _
      rw [if_neg (by omega)]
  have fr : RNf m ν (r8 m n ν) := ((((((RNf.re.sf (by omega)).sf (by omega)).sf (by omega)).sf (by omega)).sf (by omega)).sf (by omega)).sf (by omega)
  have gc : ∀ k, k = 1013 ∨ k = 1014 ∨ k = 1015 ∨ k = 1016 ∨ k = 1017 → gF (c8 x w n μ) k w = 0 := fun k hk => by
    unfold c8
    rw [gF_sF, if_neg (by omega), gF_sF, if_neg (by omega), gF_sF, if_neg (by omega), gF_sF, if_neg (by omega)]
    show gF (sF (sF (sF (sF (sF (sB (sR (sF μ 502 (x + 49) (nI n)) 509 (x + 49) (some w)) 1012 w false) 1013 w 0) 1014 w 0) 1015 w 0) 1016 w 0) 1017 w 0) k w = _
    rcases hk with y | y | y | y | y <;> subst y
    · rw [sF_ne (by omega), sF_ne (by omega), sF_ne (by omega), sF_ne (by omega), sF_eq]
    · rw [sF_ne (by omega), sF_ne (by omega), sF_ne (by omega), sF_eq]
    · rw [sF_ne (by omega), sF_ne (by omega), sF_eq]
    · rw [sF_ne (by omega), sF_eq]
    · rw [sF_eq]
  have g2 : gF (c8 x w n μ) 502 (x + 49) = nI n := by
    unfold c8
    rw [sF_ne (by omega), sF_ne (by omega), sF_ne (by omega), sF_ne (by omega)]
    show gF (sF (sF (sF (sF (sF (sB (sR (sF μ 502 (x + 49) (nI n)) 509 (x + 49) (some w)) 1012 w false) 1013 w 0) 1014 w 0) 1015 w 0) 1016 w 0) 1017 w 0) 502 (x + 49) = _
    rw [gF_sF, if_neg (by omega), gF_sF, if_neg (by omega), gF_sF, if_neg (by omega), gF_sF, if_neg (by omega), gF_sF, if_neg (by omega)]
    show gF (sF μ 502 (x + 49) (nI n)) 502 (x + 49) = _
    rw [sF_eq]
  have g3 : gF (c8 x w n μ) 503 (x + 49) = nI 0 := by
    unfold c8
    rw [sF_ne (by omega), sF_ne (by omega), sF_ne (by omega), sF_eq]; rfl
  have g4 : gF (c8 x w n μ) 504 (x + 49) = -1 := by
    unfold c8
    rw [sF_ne (by omega), sF_ne (by omega), sF_eq]
  have g7 : gF (c8 x w n μ) 507 (x + 49) = 0 := by
    unfold c8
    rw [sF_ne (by omega), sF_eq]
  have g8 : gF (c8 x w n μ) 508 (x + 49) = -1 := sF_eq
  have gw : gR (c8 x w n μ) 509 (x + 49) = some w := if_pos ⟨rfl, rfl⟩
  have g5 : ∀ b, b < 8 → gA (c8 x w n μ) (w + 5) b = 0 := fun b hb => if_pos ⟨rfl, hb⟩
  have rs : RS x m n g 0 (c8 x w n μ) (r8 m n ν) := by
    refine ⟨⟨hn, g2, fun j hj => ?_⟩, ⟨hn, ?_, fun j hj => hR j hj⟩, fun j hj => ol j hj, by omega, g3, ?_, ?_, ?_, g7, g8, ?_⟩
    · rw [fc.2.2.2.1 _ _ (by omega) (by omega)]; exact hC j hj
    · unfold r8 r6
      rw [sF_ne (by omega), sF_ne (by omega), sF_ne (by omega), sF_ne (by omega), sF_ne (by omega), sF_ne (by omega), sF_eq]
    · unfold r8 r6
      rw [sF_ne (by omega), sF_ne (by omega), sF_ne (by omega), sF_ne (by omega), sF_ne (by omega), sF_eq]; rfl
    · rw [g4]
      exact Or.inl ⟨rfl, fun j hj => absurd hj (by omega)⟩
    · unfold r8 r6
      rw [sF_ne (by omega), sF_ne (by omega), sF_ne (by omega), sF_ne (by omega), sF_eq]
    · unfold r8 r6
      rw [sF_ne (by omega), sF_ne (by omega), sF_ne (by omega), sF_eq]
  rw [fst_def, rA_def]
  generalize c8 x w n μ = μ8 at fc gc g2 g3 g4 g7 g8 gw g5 rs ⊢
  have rc : ∀ k, k = 1217 ∨ k = 1218 ∨ k = 1219 → gF (r8 m n ν) k m = 0 := fun k hk => by
    unfold r8
    rcases hk with y | y | y <;> subst y
    · rw [sF_ne (by omega), sF_ne (by omega), sF_eq]
    · rw [sF_ne (by omega), sF_eq]
    · rw [sF_eq]
  generalize r8 m n ν = ν8 at fr rs rc ⊢
  have P0 : PT x m w n g μ ν (fun f i => if f = 0 ∨ (f = 1 ∧ i < 8) then 0 else (cl w μ8 f i).toBitVec.toNat) (fun f i => f = 0 ∧ i < 3) 0 μ8 ν8 := by
    refine ⟨rs, gw, fun f i h1 h2 => ?_, fun f i h1 h2 => ?_, fc, fr, hw⟩
    · show cl w μ8 f i = nI (if f = 0 ∨ (f = 1 ∧ i < 8) then 0 else (cl w μ8 f i).toBitVec.toNat)
      by_cases y0 : f = 0
      · rw [if_pos (Or.inl y0)]
        unfold cl
        rw [if_pos y0]
        have := h2 y0
        refine gc _ ?_
        rcases (show i = 0 ∨ i = 1 ∨ i = 2 ∨ i = 3 ∨ i = 4 by omega) with z | z | z | z | z <;> subst z
        · exact Or.inr (Or.inr (Or.inl rfl))
        · exact Or.inr (Or.inr (Or.inr (Or.inl rfl)))
        · exact Or.inr (Or.inr (Or.inr (Or.inr rfl)))
        · exact Or.inl rfl
        · exact Or.inr (Or.inl rfl)
      · by_cases y1 : f = 1 ∧ i < 8
        · rw [if_pos (Or.inr y1)]
          unfold cl
          rw [if_neg y0, if_neg (by omega), y1.1]
          exact g5 i y1.2
        · rw [if_neg (fun z => z.elim y0 y1)]
          exact nI_tb _
    · show rf m ν8 f i = nI (if f = 0 ∨ (f = 1 ∧ i < 8) then 0 else (cl w μ8 f i).toBitVec.toNat)
      rw [if_pos (Or.inl h2.1)]
      unfold rf
      rw [if_pos h2.1]
      have h3 := h2.2
      refine rc _ (by omega)
  obtain ⟨q, s⟩ := SK.ex g n (n - 0) 0 rfl (by omega)
  have S := (netP (μ1 := sF μ8 503 (x + 49) (nI q)) P0 (wd_sk rs.1 g3 s).symm (if_pos (Or.inl rfl)) (if_pos (Or.inl rfl)) (if_pos (Or.inl rfl)) (fun b hb => if_pos (Or.inr ⟨rfl, hb⟩)) ⟨⟨rfl, by omega⟩, ⟨rfl, by omega⟩, ⟨rfl, by omega⟩⟩).st
  have bC : f5_statements_L1 (x + 49) 0 μ8 = zb2 (f5_netStatement (x + 49) (sF μ8 503 (x + 49) (nI q))) fun v_good_16 μ17 => zb2 (if v_good_16 = true then (zb2 (f5_semicolon (x + 49) μ17) fun t21 μ22 => some ((!t21), μ22)) else (some (true, μ17))) fun b18 μ19 => if b18 = true then (some (.inr (.inl ((-1), μ19)))) else (some (.inl (nI 1, μ19))) := by
    unfold f5_statements_L1
    rw [show clt 0 1600 = true from by decide, if_pos rfl, C_sk s rs.1 g3, obs, show clt (0 : Int32) 0 = false from by decide, Bool.false_and, if_neg (by decide), show ceq (0 : Int32) 0 = true from rfl, if_pos rfl, zb2_id]
    rfl
  rcases S with ⟨e, N', μa, μ', ν', a0, a1, a2, a3, a4, a5⟩ | ⟨μ', ν', a1, a2, a3⟩
  · rw [a1, ozb2, if_pos rfl, a2, ozb2, ozb2, Bool.not_true, if_neg (by decide)] at bC
    rw [a3, obs]
    rcases loopP (x := x) (m := m) (n - e) e 1 999999 1000000 N' μ' ν' rfl (by omega) (by omega) (by omega) (by omega) a4 a5 with ⟨c', N2, μ3, ν3, y0, y1, y2, y3, y4⟩ | ⟨r, μ3, ν3, y1, y2, y3⟩
    · rw [zl_in2 (body := fun s => f5_statements_L1 (x + 49) s.1 s.2) bC y1, obs, el_l, y2]
      exact Or.inl ⟨c', N2, μ3, ν3, y0, rfl, rfl, y3, y4⟩
    · rw [zl_in2 (body := fun s => f5_statements_L1 (x + 49) s.1 s.2) bC y1, obs, el_l, y2]
      exact Or.inr ⟨r, μ3, ν3, rfl, rfl, y3⟩
  · have hd := a2.1.nz
    have hg2 : f12_goes m ν' = some false := by unfold f12_goes; rw [hd]; rfl
    have bR2 := ra_def m (nI 1) ν'
    rw [hg2, obs, obs, if_neg (by decide), ozb2, if_neg (by decide)] at bR2
    have zC : f5_statements_L1 (x + 49) 0 μ8 = some (.inr (.inl (-1, μ'))) := by
      rcases a3 with a3 | ⟨μa, a3, a4⟩
      · rw [a3, ozb2, if_neg (by decide), ozb2, if_pos rfl] at bC
        exact bC
      · rw [a3, ozb2, if_pos rfl, a4, ozb2, ozb2, Bool.not_false, if_pos rfl] at bC
        exact bC
    have zl1 : zloop (fun s => f12_readsAll_L1 m s.1 s.2) 1000000 (nI 1, ν') = some (nI 1, ν') := zloop_out (show 0 < 1000000 by omega) bR2
    have zl2 : zloop (fun s => f5_statements_L1 (x + 49) s.1 s.2) 1000000 (0, μ8) = some (.inl (-1, μ')) := zloop_out (show 0 < 1000000 by omega) zC
    rw [a1, obs, zl1, zl2, obs, el_l]
    exact Or.inr ⟨_, μ', ν', rfl, rfl, a2⟩
end zNm
