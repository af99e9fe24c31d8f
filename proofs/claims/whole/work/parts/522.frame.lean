/-! A FRAME, in the class: flooded, carried -/
theorem pf_hd {σ : Type} (g : Nat → σ → σ) (n : Nat) (x : σ) : pfold g (n + 1) x = pfold (fun i => g (i + 1)) n (g 0 x) := by
  have h := pf_add g 1 n x
  rw [show 1 + n = n + 1 by omega] at h
  rw [h]
  have e : (fun i x => g (1 + i) x) = (fun i => g (i + 1)) := by funext i x; rw [Nat.add_comm]
  rw [e]; rfl
theorem zl_in2 {σ ρ : Type} {body : σ → Option (σ ⊕ ρ)} {x y : σ} {f : Nat} {r : ρ} (e : body x = some (.inl y)) (e2 : zloop body f y = some r) : zloop body (f + 1) x = some r := by rw [zl_inl e, e2]
def frn (N : zN) (h t : Nat) : Nat → Nat → zS × zT → zS × zT
  | 0, _, x => x
  | f + 1, k, x => if k < x.2 0 0 ∧ x.2 3 0 ≠ 1 then frn N h t f (k + 1) (fgo N h t (x.2 4 k) x) else x
section zG2
variable {N : zN} {s w o : Nat} {μ0 μ μ' : zM} {S : zS} {T : zT} {x : zS × zT} {h e b p t k c i j n : Nat} {v : Int32}
theorem ffl_st (hs : x.2 3 0 = 1) : ffl N h b j p x = x := by
  unfold ffl fps
  split
  · rfl
  · rw [decide_eq_true hs, Bool.or_true, if_pos rfl]
theorem pf_st {g : Nat → zS × zT → zS × zT} (hg : ∀ k x, x.2 3 0 = 1 → g k x = x) : ∀ n x, x.2 3 0 = 1 → pfold g n x = x
  | 0, x, _ => rfl
  | n + 1, x, hs => by
    show g n (pfold g n x) = x
    rw [pf_st hg n x hs, hg n x hs]
theorem C_reach (q : CG N s w o μ0 μ S T) (ho : Out o 3 s w) (hb : b < 8) (ht : t < 8) : ∃ μ', f2_reach o s (nI b) (nI t) μ = some μ' ∧ CF N s w o μ0 μ' (frc t b (S, T)) := by
  have spec : frc t b (S, T) = if ceq (S 41 t) (nI b) = true then (S, zu T 1 0 (T 1 0 + 1)) else (S, T) := rfl
  rw [spec]
  unfold f2_reach
  rw [rA_nI ht (by omega), obs, q.1.c_home t ht]
  by_cases c : ceq (S 41 t) (nI b) = true
  · rw [if_pos c, if_pos c]
    simp only [wF, obs]
    obtain ⟨q1, ⟨f1, f2, f3, f4, f5⟩, q3, q4⟩ := q
    have d1 : FrD o 3 μ (sF μ 204 o (gF μ 204 o + 1)) := FrD.rf.wF (by omega) (by omega)
    refine ⟨_, rfl, q1.fd ho d1, ⟨?_, ?_, ?_, f4, f5⟩, q3.tr ⟨fun a h1 h2 => d1 a h2, rfl⟩, q4⟩
    · rw [gF_sF, if_neg (by omega)]; exact f1
    · rw [gF_sF, if_pos ⟨rfl, rfl⟩, f2, nI_1]; rfl
    · rw [gF_sF, if_neg (by omega)]; exact f3
  · rw [if_neg c, if_neg c]; exact ⟨μ, rfl, q⟩
theorem C_fl (ho : Out o 3 s w) (hh : h < 8) (hb : b < nB N) (hk : k < 65) : ∀ q i fuel μ x, nP N b - i = q → i ≤ nP N b → q < fuel → CF N s w o μ0 μ x → k < x.2 0 0 → x.2 4 k = c → c / 7 = b → ∃ r μ', zloop (fun s_1 => f2_flood_L1 o s (nI h) (nI k) (nI b) s_1.1 s_1.2) fuel (nI i, μ) = some (r, μ') ∧ CF N s w o μ0 μ' (pfold (fun j => ffl N h b (c % 7) (i + j)) q x) := by
  intro q
  induction q with
  | zero =>
    intro i fuel μ x h1 h2 h3 h4 h5 h6 h7
    have nw := h4.1.nw
    have b8 := nw.b8; have p6 := nw.p6 hb
    cases fuel with
    | zero => omega
    | succ f =>
      refine ⟨nI i, μ, zl_inr ?_, h4⟩
      show f2_flood_L1 o s (nI h) (nI k) (nI b) (nI i) μ = _
      unfold f2_flood_L1
      rw [h4.1.c_wir, obs, h4.1.w_p hb, obs, clt_nI (by omega) (by omega), decide_eq_false (by omega), obs, if_neg (by decide), obs, if_neg (by decide)]
  | succ q ih =>
    intro i fuel μ x h1 h2 h3 h4 h5 h6 h7
    have nw := h4.1.nw
    have b8 := nw.b8; have p6 := nw.p6 hb
    obtain ⟨S, T⟩ := x
    have h4 : CG N s w o μ0 μ S T := h4
    have h5 : k < T 0 0 := h5
    have h6 : T 4 k = c := h6
    cases fuel with
    | zero => omega
    | succ f =>
      have hi : i < nP N b := by omega
      have e1 : ∀ μ1, zloop (fun s_1 => f2_flood_L1 o s (nI h) (nI k) (nI b) s_1.1 s_1.2) 0 (nI i, μ1) = none := fun _ => rfl
      by_cases cs : T 3 0 = 1
      · refine ⟨nI i, μ, zl_inr ?_, ?_⟩
        · show f2_flood_L1 o s (nI h) (nI k) (nI b) (nI i) μ = _
          unfold f2_flood_L1
          rw [h4.1.c_wir, obs, h4.1.w_p hb, obs, clt_nI (by omega) (by omega), decide_eq_true hi, obs, if_pos rfl, h4.2.1.2.2.2.1, decide_eq_true cs, obs, if_neg (by decide)]
        · rw [pf_st (fun j y hy => ffl_st hy) (q + 1) (S, T) cs]; exact h4
      · have fk := (h4.2.1.2.2.2.2 k h5).2
        rw [h6] at fk
        have cp : ceq (nI i) (gA μ (o + 2) k) = decide (i = c % 7) := by
          rw [fk]
          unfold qpt
          by_cases c6 : c % 7 = 6
          · rw [if_pos c6, oI_none (by omega), decide_eq_false (by omega)]
          · rw [if_neg c6, ceq_nI (by omega) (by omega)]
        have start : f2_flood_L1 o s (nI h) (nI k) (nI b) (nI i) μ = if decide (i = c % 7) = true then some (.inl (nI (i + 1), μ)) else ((f2_pass o s (nI (eo N b i)) (nI h) μ).bind fun μ11 => some (.inl (nI (i + 1), μ11))) := by
          unfold f2_flood_L1
          rw [h4.1.c_wir, obs, h4.1.w_p hb, obs, clt_nI (by omega) (by omega), decide_eq_true hi, obs, if_pos rfl, h4.2.1.2.2.2.1, decide_eq_false cs, obs, if_pos (show (!false) = true from rfl), rA_nI (by omega) (by omega), obs, cp, obs, obs, h4.1.w_eo hb hi, obs, nI_1]
          simp only [obs]
        have hd : pfold (fun j => ffl N h b (c % 7) (i + j)) (q + 1) (S, T) = pfold (fun j => ffl N h b (c % 7) (i + 1 + j)) q (ffl N h b (c % 7) i (S, T)) := by
          rw [pf_hd]
          have e : (fun j => ffl N h b (c % 7) (i + (j + 1))) = (fun j => ffl N h b (c % 7) (i + 1 + j)) := by funext j; rw [show i + (j + 1) = i + 1 + j by omega]
          rw [e]; rfl
        rw [hd]
        by_cases cq : i = c % 7
        · rw [decide_eq_true cq, if_pos rfl] at start
          have ef : ffl N h b (c % 7) i (S, T) = (S, T) := if_pos cq
          rw [ef]
          obtain ⟨r, μ2, e2, q2⟩ := ih (i + 1) f μ (S, T) (by omega) (by omega) (by omega) h4 h5 h6 h7
          exact ⟨r, μ2, zl_in2 start e2, q2⟩
        · rw [decide_eq_false cq, if_neg (by decide)] at start
          have ef : ffl N h b (c % 7) i (S, T) = fps N h (eo N b i) (S, T) := if_neg cq
          rw [ef]
          obtain ⟨μ1, e1, q1⟩ := C_pass h4 ho (nw.eo_l hb hi) hh cs
          rw [e1, obs] at start
          have keep : k < (fps N h (eo N b i) (S, T)).2 0 0 ∧ (fps N h (eo N b i) (S, T)).2 4 k = c := by
            have spec : fps N h (eo N b i) (S, T) = if (!(ceq (S 1 (eo N b i)) 2) || decide (T 3 0 = 1)) = true then (S, T) else if T 2 0 = 64 then (S, zu T 3 0 1) else if ceq (S 1 (fe (eo N b i))) 0 = true then (S, zu T 2 0 (T 2 0 + 1)) else (lrn (bo N (fe (eo N b i))) h (nI (po N (fe (eo N b i)))) S, if ceq (S 1 (fe (eo N b i))) 2 = true then enq (zu T 2 0 (T 2 0 + 1)) (7 * bo N (fe (eo N b i)) + po N (fe (eo N b i))) else zu T 2 0 (T 2 0 + 1)) := rfl
            rw [spec]
            split
            · exact ⟨h5, h6⟩
            · split
              · exact ⟨h5, h6⟩
              · split
                · exact ⟨h5, h6⟩
                · show k < (if ceq (S 1 (fe (eo N b i))) 2 = true then enq (zu T 2 0 (T 2 0 + 1)) (7 * bo N (fe (eo N b i)) + po N (fe (eo N b i))) else zu T 2 0 (T 2 0 + 1)) 0 0 ∧ (if ceq (S 1 (fe (eo N b i))) 2 = true then enq (zu T 2 0 (T 2 0 + 1)) (7 * bo N (fe (eo N b i)) + po N (fe (eo N b i))) else zu T 2 0 (T 2 0 + 1)) 4 k = c
                  split
                  · rw [enq_0, enq_4]
                    have z : zu T 2 0 (T 2 0 + 1) 0 0 = T 0 0 := rfl
                    rw [z, if_neg (by omega)]
                    exact ⟨by omega, h6⟩
                  · exact ⟨h5, h6⟩
          obtain ⟨r, μ2, e2, q2⟩ := ih (i + 1) f μ1 (fps N h (eo N b i) (S, T)) (by omega) (by omega) (by omega) q1 keep.1 keep.2 h7
          exact ⟨r, μ2, zl_in2 start e2, q2⟩
end zG2
