/-! READING: a bridge's statement, both in one -/
def cTold (o_ k : Nat) (lo hi : Int32) (μ7 : zM) : Option (Bool × zM) := zb2 (zb2 (f5_word o_ k μ7) fun t29 μ30 => some ((!t29), μ30)) fun b25 μ26 => if b25 = true then (some (true, μ26)) else (zb2 (f5_number o_ lo hi μ26) fun t27 μ28 => some ((!t27), μ28))
section zNg
variable {x m w n p q e k i j a z r c f v o b ne lo hi : Nat} {μ0 ν0 μ ν μ' ν' μ1 ν1 μ2 ν2 μ6 : zM} {g T : Nat → Nat} {N N' : zN} {V V' : Nat → Nat → Prop} {u u1 u2 : Int32} {t : Bool}
theorem toldP (h : PT x m w n g μ0 ν0 N V p μ ν) (hk : k < 13) (hh : hi < 1000) (ll : lo < 1000) : (∃ e v μ' ν', p < e ∧ lo ≤ v ∧ v ≤ hi ∧ cTold (x + 49) k (nI lo) (nI hi) μ = some (false, μ') ∧ f12_told m (nI k) (nI lo) (nI hi) ν = some (nI v, ν') ∧ gF μ' 505 (x + 49) = nI v ∧ RTf m ν ν' ∧ PT x m w n g μ0 ν0 N V e μ' ν') ∨ (∃ μ' ν', cTold (x + 49) k (nI lo) (nI hi) μ = some (true, μ') ∧ f12_told m (nI k) (nI lo) (nI hi) ν = some (0, ν') ∧ BDD x m w μ0 ν0 μ' ν') := by
  unfold cTold f12_told
  rcases mustP h hk with ⟨e, μ1, ν1, a0, a1, a2, a3, a4⟩ | ⟨μ1, ν1, a1, a2, aR, a3⟩
  · rw [a1, a2, ozb2, ozb2, obs, Bool.not_true, if_neg (by decide)]
    rcases numP (lo := lo) (hi := hi) a4 hh ll with ⟨e2, v, μ2, ν2, c0, c1, c2, c3, c4, c5, c6, c7⟩ | ⟨μ2, ν2, c1, c2, cR, c3⟩
    · rw [c3, c4, ozb2, ozb2]
      exact Or.inl ⟨e2, v, μ2, ν2, by omega, c1, c2, rfl, rfl, c5, a3.tr c6, c7⟩
    · rw [c1, c2, ozb2, ozb2]
      exact Or.inr ⟨μ2, ν2, rfl, rfl, c3⟩
  · rw [a1, a2, ozb2, ozb2, obs, Bool.not_false, if_pos rfl, R_numD a3.1.nz, ozb2]
    exact Or.inr ⟨μ1, ν1, rfl, rfl, a3⟩
theorem cbT_eq (h1 : gR μ 509 (x + 49) = some w) (h2 : gF μ 505 (x + 49) = nI v) (hb : b < 8) (h3 : f5_nextIs (x + 49) 5 (sA μ (w + 3) b (nI v)) = some (t, μ6)) (h4 : gR μ6 509 (x + 49) = some w) (h5 : gF μ6 1015 w = nI b) : cbT (x + 49) b μ = if t = true then f5_word (x + 49) 5 (sF (sZ μ6 (w + 4) b t) 1015 w (nI (b + 1))) else some (true, sF (sZ μ6 (w + 4) b t) 1015 w (nI (b + 1))) := by
  unfold cbT
  rw [h1, obs, h2, wA_nI hb (by omega), obs, show gR (sA μ (w + 3) b (nI v)) 509 (x + 49) = some w from h1, obs, h3, ozb2, wZ_nI hb (by omega), obs, show gR (sZ μ6 (w + 4) b t) 509 (x + 49) = some w from h4, obs, show gF (sZ μ6 (w + 4) b t) 1015 w = nI b from h5, nI_1]
  show cbL (x + 49) b (sF (sZ μ6 (w + 4) b t) 1015 w (nI (b + 1))) = _
  unfold cbL
  rw [show gR (sF (sZ μ6 (w + 4) b t) 1015 w (nI (b + 1))) 509 (x + 49) = some w from h4, obs, rZ_nI hb (by omega), show gZ (sF (sZ μ6 (w + 4) b t) 1015 w (nI (b + 1))) (w + 4) b = t from if_pos ⟨rfl, rfl⟩, obs, obs]
  cases t with
  | true =>
    rw [Bool.not_true, if_neg (by decide), if_pos rfl]
    cases f5_word (x + 49) 5 (sF (sZ μ6 (w + 4) b true) 1015 w (nI (b + 1))) with
    | none => rfl
    | some y => rfl
  | false => rfl
/-- how a statement ends, both -/
def STM (x m w n : Nat) (g : Nat → Nat) (μ0 ν0 : zM) (p : Nat) (A : Option (Bool × zM)) (B : Option zM) : Prop := (∃ e N' μ' ν', p < e ∧ A = some (true, μ') ∧ B = some ν' ∧ PT x m w n g μ0 ν0 N' (vN N' (2 * N' 0 1)) e μ' ν' ∧ QW N' (2 * N' 0 1)) ∨ (∃ μ' ν', A = some (false, μ') ∧ B = some ν' ∧ BDD x m w μ0 ν0 μ' ν') ∨ (∃ μ' μ2 ν', A = some (true, μ') ∧ B = some ν' ∧ f5_semicolon (x + 49) μ' = some (false, μ2) ∧ BDD x m w μ0 ν0 μ2 ν')
theorem brT (h : PT x m w n g μ0 ν0 (nub N 11 (6 * b) T) (fun f' i' => vN N (2 * N 0 1) f' i' ∨ (f' = 11 ∧ 6 * b ≤ i' ∧ i' < 6 * b + 6)) p μ ν) (Q : QW N (2 * N 0 1)) (hb : N 0 0 = b) (h8 : b < 8) (hv : v ≤ 15) (h5 : gF μ 505 (x + 49) = nI v) (hp : 0 < p) : STM x m w n g μ0 ν0 (p - 1) (cbT (x + 49) b μ) (zb2 (rbO m ν) fun v_old_5 μ6 => rbW m (nI v) v_old_5 μ6) := by
  have h4 := h.ca (f := 8) (i := b) (v := v) (by omega) (by omega) (by omega)
  obtain ⟨q, s⟩ := SK.ex g n (n - p) p rfl h.1.2.2.2.1
  obtain ⟨e, w1⟩ := WE.ex g n (n - q) q rfl s.2.1
  have s1 := s.1
  have tn := h.1.1.1
  have s2 := s.2.1
  have hR := R_here s h4.1.2.1 h4.1.2.2.2.2.2.1
  have g9 : gF ν 1239 m = 0 := h.1.2.2.2.2.2.2.2.1
  have k17 : gF ν 1217 m = nI b := by rw [← hb]; exact (h.gr 0 0 ⟨by omega, by omega, by omega, by omega⟩ (Or.inl (by unfold vN; omega))).trans (by rw [nub_ne (by omega)])
  have h6 := h4.tk (h4.1.sk s) (CTf.w (by omega)) (RTf.w (by omega))
  have hW : ∀ {t : Bool} {o : Nat}, bI t = nI o → PT x m w n g μ0 ν0 (nu (nu (nu (nub N 11 (6 * b) T) 8 b v) 9 b o) 0 0 (b + 1)) (fun f' i' => ((((vN N (2 * N 0 1) f' i' ∨ (f' = 11 ∧ 6 * b ≤ i' ∧ i' < 6 * b + 6)) ∧ ¬ (f' = 8 ∧ i' = b)) ∧ ¬ (f' = 9 ∧ i' = b)) ∧ ¬ (f' = 0 ∧ i' = 0))) q (sF (sZ (sF (sA μ (w + 3) b (nI v)) 503 (x + 49) (nI q)) (w + 4) b t) 1015 w (nI (b + 1))) (sF ν 1237 m (nI q)) := fun ht => (h6.cz (f := 9) (i := b) (by omega) ht).cf (i := 0) (v := b + 1) (by omega)
  have hV : ∀ f i, rv f i → (vN N (2 * N 0 1) f i ∨ (f = 11 ∧ 6 * b ≤ i ∧ i < 6 * b + 6)) ∧ ¬ (f = 8 ∧ i = b) ∧ ¬ (f = 9 ∧ i = b) ∧ ¬ (f = 0 ∧ i = 0) → (((vN N (2 * N 0 1) f i ∨ (f = 11 ∧ 6 * b ≤ i ∧ i < 6 * b + 6)) ∧ ¬ (f = 8 ∧ i = b)) ∧ ¬ (f = 9 ∧ i = b)) ∧ ¬ (f = 0 ∧ i = 0) := fun f i _ y => ⟨⟨⟨y.1, y.2.1⟩, y.2.2.1⟩, y.2.2.2⟩
  have k17' : gF (sF ν 1237 m (nI q)) 1217 m = nI b := by rw [sF_ne (by omega)]; exact k17
  have gw : gR (sF (sA μ (w + 3) b (nI v)) 503 (x + 49) (nI q)) 509 (x + 49) = some w := h.2.1
  have k15 : gF (sF (sA μ (w + 3) b (nI v)) 503 (x + 49) (nI q)) 1015 w = nI b := by
    have : gF (sF (sA μ (w + 3) b (nI v)) 503 (x + 49) (nI q)) 1015 w = nI (nu (nub N 11 (6 * b) T) 8 b v 0 0) := h6.gc 0 0 (by omega) (by omega)
    rw [this, nu_ne (by omega), nub_ne (by omega), hb]
  have rO : rbO m ν = if (!(ceq (if q < n then nI (g q) else -1) 59)) = true then ((f12_must m 5 (sF ν 1237 m (nI q))).bind fun μ14 => some (1, μ14)) else (some (0, (sF ν 1237 m (nI q)))) := by
    unfold rbO f12_goes
    rw [g9, show ceq (0 : Int32) 0 = true from rfl, obs, obs, obs, if_pos rfl, hR, ozb2, ozb2]
  have c59 : (!(ceq (if q < n then nI (g q) else -1) 59)) = decide (¬ (q < n ∧ g q = 59)) := by
    by_cases c : q < n
    · have y2 := (h.1.2.1.2.2 q (by omega)).2
      rw [if_pos c, show (59 : Int32) = nI 59 from rfl, ceq_nI (by omega) (by omega)]
      by_cases d : g q = 59
      · rw [decide_eq_true d, decide_eq_false (fun y => y ⟨c, d⟩)]; rfl
      · rw [decide_eq_false d, decide_eq_true (show ¬ (q < n ∧ g q = 59) from fun y => d y.2)]; rfl
    · rw [if_neg c, decide_eq_true (show ¬ (q < n ∧ g q = 59) from fun y => c y.1)]; rfl
  rw [rO, c59]
  rcases C_next (k := 5) h4.1.1 h4.1.2.2.2.2.1 h4.1.2.2.2.2.2.2.1 s w1 (by omega) with ⟨a1, a2, a3⟩ | ⟨a1, a3⟩
  · have n59 : ¬ (q < n ∧ g q = 59) := by
      rintro ⟨_, y2⟩
      have := w1.2.2.1 q (Nat.le_refl _) (by have := a2.1; have := (w_len 5 (by omega)).2.2; omega)
      unfold sml at this
      omega
    rw [cbT_eq h.2.1 h5 h8 a3 gw k15, if_pos rfl, decide_eq_true n59, if_pos rfl]
    have h7 := hW (t := true) (o := 1) rfl
    rcases mustP h7 (k := 5) (by omega) with ⟨e2, μ8, ν8, c0, c1, c2, c3, c4⟩ | ⟨μ8, ν8, c1, c2, cR, c3⟩
    · have c2' : f12_must m 5 (sF ν 1237 m (nI q)) = some ν8 := c2
      rw [c2', obs, ozb2]
      obtain ⟨N', ν9, d1, d2, d3⟩ := c4.br Q hb h8 hv (by omega) (by rw [c3.1 _ _ (by omega)]; exact k17') hV
      exact Or.inl ⟨e2, N', μ8, ν9, by omega, c1, d1, d2, d3⟩
    · have c2' : f12_must m 5 (sF ν 1237 m (nI q)) = some ν8 := c2
      rw [c2', obs, ozb2, rbW_x c3.1.nz]
      exact Or.inr (Or.inl ⟨μ8, ν8, c1, rfl, c3⟩)
  · rw [cbT_eq h.2.1 h5 h8 a3 gw k15, if_neg (by decide)]
    have h7 := hW (t := false) (o := 0) rfl
    by_cases c : q < n ∧ g q = 59
    · rw [decide_eq_false (fun y => y c), if_neg (by decide), ozb2]
      obtain ⟨N', ν9, d1, d2, d3⟩ := h7.br Q hb h8 hv (by omega) k17' hV
      exact Or.inl ⟨q, N', _, ν9, by omega, rfl, d1, d2, d3⟩
    · rw [decide_eq_true c, if_pos rfl]
      have hc := C_word (k := 5) h7.1.1 h7.1.2.2.2.2.1 h7.1.2.2.2.2.2.2.1 s.self w1 (by omega)
      have hs := C_semi h7.1.1 h7.1.2.2.2.2.1 s.self
      rw [if_neg c] at hs
      rcases hc with ⟨y1, y2, _⟩ | ⟨_, y3⟩
      · exact absurd ⟨y1, y2⟩ a1
      · rcases mustP h7 (k := 5) (by omega) with ⟨e2, μ8, ν8, c0, c1, c2, c3, c4⟩ | ⟨μ8, ν8, c1, c2, cR, c3⟩
        · rw [y3] at c1
          cases c1
        · have c2' : f12_must m 5 (sF ν 1237 m (nI q)) = some ν8 := c2
          rw [y3] at c1
          rw [c2', obs, ozb2, rbW_x c3.1.nz]
          refine Or.inr (Or.inr ⟨_, μ8, ν8, rfl, rfl, ?_, c3⟩)
          exact hs.trans c1
theorem bridgeP (h0 : PT x m w n g μ0 ν0 N V q μ1 ν1) (hw : f5_word (x + 49) 3 μ1 = some (true, μ2)) (h : PT x m w n g μ0 ν0 N (vN N (2 * N 0 1)) p μ2 ν2) (h8 : gF ν2 1238 m = nI q) (Q : QW N (2 * N 0 1)) : STM x m w n g μ0 ν0 p (f5_bridgeStatement (x + 49) μ1) (f12_readsBridge m ν2) := by
  have k15 : gF μ1 1015 w = nI (N 0 0) := h0.gc 0 0 (by omega) (by omega)
  have k17 : gF ν2 1217 m = nI (N 0 0) := h.gr 0 0 ⟨by omega, by omega, by omega, by omega⟩ (by unfold vN; omega)
  have g9 : gF ν2 1239 m = 0 := h.1.2.2.2.2.2.2.2.1
  have b8 := Q.1.1
  have e8 : ceq (nI (N 0 0)) 8 = decide (N 0 0 = 8) := ceq_nI (b := 8) (by omega) (by omega)
  by_cases c8 : N 0 0 = 8
  · rw [decide_eq_true c8] at e8
    have hd : ceq (gF (sF (sF ν2 1239 m 5) 1240 m (nI q)) 1239 m) 0 = false := by rw [sF_ne (by omega), sF_eq]; rfl
    rw [rb_def, k17, e8, if_pos rfl, h8, R_fails0 g9, obs, obs, R_freshD hd, obs, R_toldD hd, ozb2, rbO_x hd, ozb2, rbW_x hd]
    refine Or.inr (Or.inl ⟨sF (sF μ1 507 (x + 49) 5) 508 (x + 49) (nI q), _, ?_, rfl, ⟨5, by omega, by omega, by rw [sF_ne (by omega), sF_eq]; rfl, by rw [sF_ne (by omega), sF_eq]; rfl, by rw [sF_eq, sF_eq]⟩, h0.2.2.2.2.1.tr (CNf.ct ((CTf.w (by omega)).tr (CTf.w (by omega)))), h.2.2.2.2.2.1.tr (RNf.rt ((RTf.w (by omega)).tr (RTf.w (by omega))))⟩)
    unfold f5_bridgeStatement
    rw [h0.2.1, obs, k15, e8, if_pos rfl, h0.1.2.2.2.2.1]
    rfl
  · rw [decide_eq_false c8] at e8
    rw [rb_def, k17, e8, if_neg (by decide), obs, k17]
    have hC : ∀ μ3 t, f5_newName (x + 49) μ2 = some (t, μ3) → f5_bridgeStatement (x + 49) μ1 = if (!t) = true then some (false, μ3) else ((gR μ3 509 (x + 49)).bind fun w4 => (some (gF μ3 1015 w4)).bind fun v_bridge_5 => (gR μ3 509 (x + 49)).bind fun w6 => (fJ_copy (x + 49 + 1) 6 0 (w6 + 1) 48 (v_bridge_5 * 6) 6 μ3).bind fun μ7 => zb2 (zb2 (zb2 (f5_word (x + 49) 4 μ7) fun t29 μ30 => some ((!t29), μ30)) fun b25 μ26 => if b25 = true then (some (true, μ26)) else (zb2 (f5_number (x + 49) 0 15 μ26) fun t27 μ28 => some ((!t27), μ28))) fun b8 μ9 => if b8 = true then (some (false, μ9)) else ((gR μ9 509 (x + 49)).bind fun w10 => (wA μ9 (w10 + 3) 8 v_bridge_5 (gF μ9 505 (x + 49))).bind fun μ11 => (gR μ11 509 (x + 49)).bind fun w12 => zb2 (f5_nextIs (x + 49) 5 μ11) fun t13 μ14 => (wZ μ14 (w12 + 4) 8 v_bridge_5 t13).bind fun μ15 => (gR μ15 509 (x + 49)).bind fun w16 => (wF μ15 1015 w16 ((gF μ15 1015 w16) + 1)).bind fun μ17 => zb2 (((gR μ17 509 (x + 49)).bind fun w23 => (rZ μ17 (w23 + 4) 8 v_bridge_5).bind fun t24 => some (!t24)).bind fun b20 => if b20 = true then (some (true, μ17)) else (zb2 (f5_word (x + 49) 5 μ17) fun t21 μ22 => some (t21, μ22))) fun b18 μ19 => some (b18, μ19))) := fun μ3 t hn => by
      unfold f5_bridgeStatement
      rw [h0.2.1, obs, k15, e8, if_neg (by decide), hw, ozb2, ozb2, Bool.not_true, if_neg (by decide), hn, ozb2, ozb2]
    rcases freshP (f := 11) (k := N 0 0) h (VN.of Q (fun f i _ y => y)) (Or.inl rfl) (by omega) with ⟨e2, T, μ3, μ4, ν4, c0, c1, c2, c3, c4, c5, c6, c7, c8⟩ | ⟨μ3, ν4, c1, c2, cR, c3⟩
    · have c5' : fJ_copy (x + 49 + 1) 6 0 (w + 1) 48 (nI (N 0 0) * 6) 6 μ3 = some μ4 := c5
      have c6' : f12_freshName m (nI (N 0 0)) ν2 = some ν4 := c6
      rw [hC _ _ c1, Bool.not_true, if_neg (by decide), c2, obs, c3, obs, obs, c5', obs, c6', obs]
      rcases toldP (k := 4) (lo := 0) (hi := 15) c8 (by omega) (by omega) (by omega) with ⟨e3, v, μ5, ν5, d0, d1, d2, d3, d4, d5, d6, d7⟩ | ⟨μ5, ν5, d1, d2, d3⟩
      · have d4' : f12_told m 4 0 15 ν4 = some (nI v, ν5) := d4
        have d3' : zb2 (zb2 (f5_word (x + 49) 4 μ4) fun t29 μ30 => some ((!t29), μ30)) (fun b25 μ26 => if b25 = true then (some (true, μ26)) else (zb2 (f5_number (x + 49) 0 15 μ26) fun t27 μ28 => some ((!t27), μ28))) = some (false, μ5) := d3
        rw [d4', ozb2, d3', ozb2, if_neg (by decide)]
        have S := brT d7 Q rfl (by omega) d2 d5 (by omega)
        rcases S with ⟨e', N', μ', ν', s0, s1, s2, s3, s4⟩ | S | S
        · exact Or.inl ⟨e', N', μ', ν', by omega, s1, s2, s3, s4⟩
        · exact Or.inr (Or.inl S)
        · exact Or.inr (Or.inr S)
      · have d2' : f12_told m 4 0 15 ν4 = some (0, ν5) := d2
        have d1' : zb2 (zb2 (f5_word (x + 49) 4 μ4) fun t29 μ30 => some ((!t29), μ30)) (fun b25 μ26 => if b25 = true then (some (true, μ26)) else (zb2 (f5_number (x + 49) 0 15 μ26) fun t27 μ28 => some ((!t27), μ28))) = some (true, μ5) := d1
        rw [d2', ozb2, d1', ozb2, if_pos rfl, rbO_x d3.1.nz, ozb2, rbW_x d3.1.nz]
        exact Or.inr (Or.inl ⟨μ5, ν5, rfl, rfl, d3⟩)
    · have c2' : f12_freshName m (nI (N 0 0)) ν2 = some ν4 := c2
      rw [hC _ _ c1, Bool.not_false, if_pos rfl, c2', obs, R_toldD c3.1.nz, ozb2, rbO_x c3.1.nz, ozb2, rbW_x c3.1.nz]
      exact Or.inr (Or.inl ⟨μ3, ν4, rfl, rfl, c3⟩)
end zNg
