/-! A NET BEGINS as an image says, in the class -/
def bo1 (S : zS) : zS := fun f i => if f = 42 then -1 else if f = 43 then 0 else if f = 44 then 0 else if f = 46 then 1 else if f = 28 ∨ f = 29 ∨ f = 30 ∨ f = 32 ∨ f = 61 ∨ f = 62 ∨ f = 63 then 0 else S f i
def bgv (N : zN) (U : Nat → Bool) (e : Nat) (S : zS) : zS := sp_clr e (if U e = true then nI (tE N e) else 0) (sp_dm e S)
def ybg (N : zN) (U : Nat → Bool) (S : zS) : zS := pfold bgt (nB N) (pfold (bgv N U) (2 * nL N) (bo1 S))
def BOW (s : Nat) (μ μ' : zM) : Prop := (∀ k a, gF μ' k a = if 813 ≤ k ∧ k ≤ 816 ∧ a = s then 0 else gF μ k a) ∧ (∀ k a, gB μ' k a = if k = 817 ∧ a = s then true else gB μ k a) ∧ (∀ a j, gZ μ' a j = gZ μ a j) ∧ (∀ a j, gA μ' a j = if a = s + 6 ∧ j < 64 then -1 else if a = s + 7 ∧ j < 64 then 0 else gA μ a j) ∧ (∀ k a, gR μ' k a = gR μ k a) ∧ ∀ a j, gX μ' a j = gX μ a j
section zM2
variable {N : zN} {x m w s B st top n k i f c p j b l t e P h : Nat} {μ0 μ μ' μ1 ν0 ν ν' ν1 M : zM} {S S' S1 X : zS} {v : Int32} {U : Nat → Bool}
theorem bo1_o (h : f ≠ 42 ∧ f ≠ 43 ∧ f ≠ 44 ∧ f ≠ 46 ∧ f ≠ 28 ∧ f ≠ 29 ∧ f ≠ 30 ∧ f ≠ 32 ∧ f ≠ 61 ∧ f ≠ 62 ∧ f ≠ 63) : bo1 S f i = S f i := by
  unfold bo1
  rw [if_neg (by omega), if_neg (by omega), if_neg (by omega), if_neg (by omega), if_neg (by omega)]
theorem CS.bo (h : CS N s w μ0 μ S) (q : BOW s μ μ') : CS N s w μ0 μ' (bo1 S) := by
  obtain ⟨qF, qB, qZ, qA, qR, qX⟩ := q
  have F : ∀ k a, (k < 813 ∨ 816 < k ∨ a ≠ s) → gF μ' k a = gF μ k a := fun k a h2 => by rw [qF, if_neg (by omega)]
  have Bb : ∀ k a, k ≠ 817 → gB μ' k a = gB μ k a := fun k a h3 => by rw [qB, if_neg (fun x => h3 x.1)]
  refine ⟨fun i hi => by rw [F _ _ (by omega), bo1_o (by omega)]; exact h.c_role i hi,
    fun i hi => by rw [F _ _ (by omega), bo1_o (by omega)]; exact h.c_state i hi,
    fun i hi => by rw [F _ _ (by omega), bo1_o (by omega)]; exact h.c_wait i hi,
    fun i hi => by rw [F _ _ (by omega), bo1_o (by omega)]; exact h.c_chg i hi,
    fun i hi => by rw [F _ _ (by omega), bo1_o (by omega)]; exact h.c_hage i hi,
    fun i hi => by rw [F _ _ (by omega), bo1_o (by omega)]; exact h.c_life i hi,
    fun i hi => by rw [F _ _ (by omega), bo1_o (by omega)]; exact h.c_was i hi,
    fun i hi => by rw [F _ _ (by omega), bo1_o (by omega)]; exact h.c_hroot i hi,
    fun i hi => by rw [F _ _ (by omega), bo1_o (by omega)]; exact h.c_hcost i hi,
    fun i hi => by rw [F _ _ (by omega), bo1_o (by omega)]; exact h.c_hid i hi,
    fun i hi => by rw [F _ _ (by omega), bo1_o (by omega)]; exact h.c_hport i hi,
    fun i hi => by rw [Bb _ _ (by omega), bo1_o (by omega)]; exact h.c_agr i hi,
    fun i hi => by rw [Bb _ _ (by omega), bo1_o (by omega)]; exact h.c_edge i hi,
    fun i hi => by rw [Bb _ _ (by omega), bo1_o (by omega)]; exact h.c_spk i hi,
    fun i hi => by rw [Bb _ _ (by omega), bo1_o (by omega)]; exact h.c_owes i hi,
    fun i hi => by rw [Bb _ _ (by omega), bo1_o (by omega)]; exact h.c_answ i hi,
    fun i hi => by rw [Bb _ _ (by omega), bo1_o (by omega)]; exact h.c_mark i hi,
    fun i hi => by rw [Bb _ _ (by omega), bo1_o (by omega)]; exact h.c_holds i hi,
    fun i hi => by rw [Bb _ _ (by omega), bo1_o (by omega)]; exact h.c_on i hi,
    fun i hi => by rw [F _ _ (by omega), bo1_o (by omega)]; exact h.c_prio i hi,
    fun i hi => by rw [Bb _ _ (by omega), bo1_o (by omega)]; exact h.c_old i hi,
    fun i hi => by rw [F _ _ (by omega), bo1_o (by omega)]; exact h.c_rport i hi,
    fun i hi => by rw [F _ _ (by omega), bo1_o (by omega)]; exact h.c_bage i hi,
    fun i hi => by rw [F _ _ (by omega), bo1_o (by omega)]; exact h.c_short i hi,
    fun i hi => by rw [F _ _ (by omega), bo1_o (by omega)]; exact h.c_root i hi,
    fun i hi => by rw [F _ _ (by omega), bo1_o (by omega)]; exact h.c_cost i hi,
    fun i hi => by rw [F _ _ (by omega), bo1_o (by omega)]; exact h.c_cid i hi,
    fun i hi => by rw [F _ _ (by omega), bo1_o (by omega)]; exact h.c_cport i hi,
    fun i hi => by rw [F _ _ (by omega), bo1_o (by omega)]; exact h.c_froot i hi,
    fun i hi => by rw [F _ _ (by omega), bo1_o (by omega)]; exact h.c_fcost i hi,
    fun i hi => by rw [F _ _ (by omega), bo1_o (by omega)]; exact h.c_fid i hi,
    fun i hi => by rw [F _ _ (by omega), bo1_o (by omega)]; exact h.c_fport i hi,
    fun i hi => by rw [qZ, bo1_o (by omega)]; exact h.c_whole i hi,
    fun i hi => by rw [qA, if_neg (by omega), if_neg (by omega), bo1_o (by omega)]; exact h.c_home i hi,
    fun i hi => by rw [qA, if_pos ⟨rfl, hi⟩]; rfl,
    fun i hi => by rw [qA, if_neg (by omega), if_pos ⟨rfl, hi⟩]; rfl,
    fun i hi => by rw [qZ, bo1_o (by omega)]; exact h.c_tch i hi,
    fun i hi => by rw [F _ _ (by omega), bo1_o (by omega)]; exact h.c_arr i hi,
    fun i hi => by rw [F _ _ (by omega), bo1_o (by omega)]; exact h.c_mage i hi,
    fun i hi => by rw [F _ _ (by omega), bo1_o (by omega)]; exact h.c_bits i hi,
    fun i hi => by rw [F _ _ (by omega), bo1_o (by omega)]; exact h.c_mroot i hi,
    fun i hi => by rw [F _ _ (by omega), bo1_o (by omega)]; exact h.c_mcost i hi,
    fun i hi => by rw [F _ _ (by omega), bo1_o (by omega)]; exact h.c_mid i hi,
    fun i hi => by rw [F _ _ (by omega), bo1_o (by omega)]; exact h.c_mport i hi,
    fun i hi => by rw [Bb _ _ (by omega), bo1_o (by omega)]; exact h.c_there i hi,
    fun i hi => by rw [Bb _ _ (by omega), bo1_o (by omega)]; exact h.c_reply i hi,
    by rw [qF, if_pos ⟨by omega, by omega, rfl⟩]; rfl, by rw [qF, if_pos ⟨by omega, by omega, rfl⟩]; rfl, by rw [qB, if_pos ⟨rfl, rfl⟩]; rfl,
    fun i hi => by rw [F _ _ (by omega)]; exact h.c_num i hi, by rw [qR]; exact h.c_wir, ⟨0, 0, by omega, by omega, by rw [qF, if_pos ⟨by omega, by omega, rfl⟩]; rfl, by rw [qF, if_pos ⟨by omega, by omega, rfl⟩]; rfl, rfl, fun k c hk => absurd hk (by omega)⟩, ⟨fun b x hb hx => Or.inl rfl, fun x hx => by rw [bo1_o (by omega)]; exact h.c_so.2 x hx⟩, h.c_ct, fun a ha => SA.tr (h.c_fr a ha) ⟨fun k => ?_, fun k => ?_, fun k => qR k a, fun j => ?_, fun j => qZ a j, fun j => qX a j⟩⟩
  · rw [qF, if_neg (by omega)]
  · rw [qB, if_neg (by omega)]
  · rw [qA, if_neg (by omega), if_neg (by omega)]
theorem bgv_60 : ∀ n, pfold (bgv N U) n S 60 i = if i / 3 < n then 0 else S 60 i
  | 0 => (if_neg (by omega)).symm
  | n + 1 => by
    have ih := bgv_60 n
    show bgv N U n (pfold (bgv N U) n S) 60 i = _
    generalize pfold (bgv N U) n S = Y at *
    unfold bgv
    rw [clr_f, if_neg (by omega), dm_f, ih]
    by_cases c2 : i / 3 = n
    · rw [if_pos ⟨rfl, c2⟩, if_pos (show i / 3 < n + 1 by omega)]
    · rw [if_neg (fun x => c2 x.2)]
      by_cases c3 : i / 3 < n
      · rw [if_pos c3, if_pos (show i / 3 < n + 1 by omega)]
      · rw [if_neg c3, if_neg (show ¬ i / 3 < n + 1 by omega)]
theorem bgv_f (h60 : f ≠ 60) : ∀ n, pfold (bgv N U) n S f i = if i < n ∧ (f ≤ 10 ∨ f = 15 ∨ f = 16 ∨ f = 49) then (if f = 5 then (if U i = true then nI (tE N i) else 0) else 0) else S f i
  | 0 => (if_neg (by omega)).symm
  | n + 1 => by
    have ih := bgv_f h60 n
    show bgv N U n (pfold (bgv N U) n S) f i = _
    generalize pfold (bgv N U) n S = Y at *
    have e : sp_dm n Y f i = Y f i := by rw [dm_f, if_neg (fun x => h60 x.1)]
    unfold bgv
    rw [clr_f, e, ih]
    by_cases ck : f ≤ 10 ∨ f = 15 ∨ f = 16 ∨ f = 49
    · by_cases c2 : i = n
      · rw [if_pos (show i = n ∧ (f ≤ 10 ∨ f = 15 ∨ f = 16 ∨ f = 49) from ⟨c2, ck⟩), if_pos (show i < n + 1 ∧ (f ≤ 10 ∨ f = 15 ∨ f = 16 ∨ f = 49) from ⟨by omega, ck⟩), c2]
      · rw [if_neg (show ¬ (i = n ∧ (f ≤ 10 ∨ f = 15 ∨ f = 16 ∨ f = 49)) from fun x => c2 x.1)]
        by_cases c3 : i < n
        · rw [if_pos (show i < n ∧ (f ≤ 10 ∨ f = 15 ∨ f = 16 ∨ f = 49) from ⟨c3, ck⟩), if_pos (show i < n + 1 ∧ (f ≤ 10 ∨ f = 15 ∨ f = 16 ∨ f = 49) from ⟨by omega, ck⟩)]
        · rw [if_neg (show ¬ (i < n ∧ (f ≤ 10 ∨ f = 15 ∨ f = 16 ∨ f = 49)) from fun x => c3 x.1), if_neg (show ¬ (i < n + 1 ∧ (f ≤ 10 ∨ f = 15 ∨ f = 16 ∨ f = 49)) from fun x => c3 (by have := x.1; omega))]
    · rw [if_neg (fun x => ck x.2), if_neg (fun x => ck x.2), if_neg (fun x => ck x.2)]
theorem yb_o (h1 : f ≠ 47) (h2 : f ≠ 27) (h3 : f ≠ 60) (h4 : (f ≤ 10 ∨ f = 15 ∨ f = 16 ∨ f = 49) → ¬ i < 2 * nL N) : ybg N U S f i = bo1 S f i := by
  unfold ybg
  rw [bgt_f, if_neg (fun x => h1 x.1), if_neg (fun x => h2 x.1), bgv_f h3, if_neg (fun x => h4 x.2 x.1)]
theorem yb_k (hk : f ≤ 10 ∨ f = 15 ∨ f = 16 ∨ f = 49) (hi : i < 2 * nL N) : ybg N U S f i = if f = 5 then (if U i = true then nI (tE N i) else 0) else 0 := by
  unfold ybg
  rw [bgt_f, if_neg (by omega), if_neg (by omega), bgv_f (by omega), if_pos (show i < 2 * nL N ∧ (f ≤ 10 ∨ f = 15 ∨ f = 16 ∨ f = 49) from ⟨hi, hk⟩)]
theorem yb_60 : ybg N U S 60 i = if i / 3 < 2 * nL N then 0 else S 60 i := by
  unfold ybg
  rw [bgt_f, if_neg (by omega), if_neg (by omega), bgv_60, bo1_o (by omega)]
theorem yb_27 : ybg N U S 27 i = if i < nB N then 0 else S 27 i := by
  unfold ybg
  rw [bgt_f, if_neg (by omega)]
  by_cases c : i < nB N
  · rw [if_pos ⟨rfl, c⟩, if_pos c]
  · rw [if_neg (fun x => c x.2), if_neg c, bgv_f (by omega), if_neg (by omega), bo1_o (by omega)]
theorem yb_47 : ybg N U S 47 i = if i < nB N then 1 else S 47 i := by
  unfold ybg
  rw [bgt_f]
  by_cases c : i < nB N
  · rw [if_pos ⟨rfl, c⟩, if_pos c]
  · rw [if_neg (fun x => c x.2), if_neg c, if_neg (by omega), bgv_f (by omega), if_neg (by omega), bo1_o (by omega)]
theorem yb_fz : Fz0 (ybg N U S) := ⟨fun j => by rw [yb_o (by omega) (by omega) (by omega) (by omega)]; rfl, by rw [yb_o (by omega) (by omega) (by omega) (by omega)]; rfl, by rw [yb_o (by omega) (by omega) (by omega) (by omega)]; rfl, by rw [yb_o (by omega) (by omega) (by omega) (by omega)]; rfl⟩
theorem yb_up : up N (ybg N U S) e = up N S e := by
  unfold up
  rw [yb_o (by omega) (by omega) (by omega) (by omega), yb_o (by omega) (by omega) (by omega) (by omega), yb_o (by omega) (by omega) (by omega) (by omega), bo1_o (by omega), bo1_o (by omega), bo1_o (by omega)]
theorem yb_inv (nw : NW N) (sv : SV S) (hU : ∀ e, e < 2 * nL N → U e = up N S e) : CTP N (ybg N U S) ∧ MI N 0 (ybg N U S) ∧ AD N (ybg N U S) := by
  refine ⟨⟨fun i => ?_, fun e he hu k hk => ?_, fun b hb ho => ⟨fun h => ?_, fun h p hp => ?_⟩, fun b hb ho h47 => ?_⟩, fun q hq => ?_, fun b h p hb hh hp hx => ?_⟩
  · obtain ⟨s1, s2, s3, s4⟩ := sv i
    have v27 : ¬ ybg N U S 27 i < 0 := by
      rw [yb_27]; split
      · decide
      · exact s3
    by_cases c : i < 2 * nL N
    · refine ⟨?_, ?_, v27, fun h => ?_⟩
      · rw [yb_k (f := 2) (by omega) c, if_neg (by omega)]; decide
      · rw [yb_k (f := 3) (by omega) c, if_neg (by omega)]; decide
      · rw [yb_k (f := 10) (by omega) c, if_neg (by omega)] at h
        exact absurd h (by decide)
    · refine ⟨?_, ?_, v27, fun h => ?_⟩
      · rw [yb_o (f := 2) (by omega) (by omega) (by omega) (fun _ => c), bo1_o (by omega)]; exact s1
      · rw [yb_o (f := 3) (by omega) (by omega) (by omega) (fun _ => c), bo1_o (by omega)]; exact s2
      · rw [yb_o (f := 10) (by omega) (by omega) (by omega) (fun _ => c), bo1_o (by omega)] at h
        rw [yb_o (f := 16) (by omega) (by omega) (by omega) (fun _ => c), bo1_o (by omega)]; exact s4 h
  · rw [yb_up, ← hU e he] at hu
    rw [yb_k (by omega) he, hu]
    by_cases c5 : k = 5
    · rw [if_pos c5]; rfl
    · rw [if_neg c5]
  · rw [yb_o (by omega) (by omega) (by omega) (by omega)] at h
    exact absurd h (show ¬ (0 : Int32) = 1 by decide)
  · rw [yb_k (by omega) (nw.eo_l hb hp), if_neg (by omega)]
  · rw [yb_47, if_pos hb] at h47
    exact absurd rfl h47
  · have e60 : ybg N U S 60 q = 0 := by rw [yb_60, if_pos (by omega)]
    have e61 : ybg N U S 61 q = 0 := by rw [yb_o (by omega) (by omega) (by omega) (by omega)]; rfl
    rw [e60, e61]
    exact ⟨rfl, Or.inl rfl, fun h => absurd h (by decide)⟩
  · rw [yb_fz.1] at hx
    exact absurd hx (m1_ne (by have := nw.p6 hb; omega))
theorem C_begin2 (h : CS N s w μ0 μ S) : ∃ μ', f8_begin s μ = some μ' ∧ CS N s w μ0 μ' (zu (sp_ct N (ybg N (up N S) S)) 46 0 0) := by
  have nw := h.nw
  have b8 := nw.b8; have l14 := nw.l14
  have bw : BOW s μ (sB (fillA (fillA (sF (sF (sF (sF μ 813 s 0) 814 s 0) 815 s 0) 816 s 0) (s + 6) 64 (-1)) (s + 7) 64 0) 817 s true) := by
    refine ⟨fun k a => ?_, fun k a => ?_, fun a j => rfl, fun a j => ?_, fun k a => rfl, fun a j => rfl⟩
    · have e : gF (sB (fillA (fillA (sF (sF (sF (sF μ 813 s 0) 814 s 0) 815 s 0) 816 s 0) (s + 6) 64 (-1)) (s + 7) 64 0) 817 s true) k a = if k = 816 ∧ a = s then 0 else if k = 815 ∧ a = s then 0 else if k = 814 ∧ a = s then 0 else if k = 813 ∧ a = s then 0 else gF μ k a := rfl
      rw [e]
      by_cases c2 : 813 ≤ k ∧ k ≤ 816 ∧ a = s
      · rw [if_pos c2]
        by_cases d1 : k = 816
        · rw [if_pos ⟨d1, c2.2.2⟩]
        · rw [if_neg (fun x => d1 x.1)]
          by_cases d2 : k = 815
          · rw [if_pos ⟨d2, c2.2.2⟩]
          · rw [if_neg (fun x => d2 x.1)]
            by_cases d3 : k = 814
            · rw [if_pos ⟨d3, c2.2.2⟩]
            · rw [if_neg (fun x => d3 x.1), if_pos ⟨by omega, c2.2.2⟩]
      · rw [if_neg c2, if_neg (by omega), if_neg (by omega), if_neg (by omega), if_neg (by omega)]
    · rfl
    · have e : gA (sB (fillA (fillA (sF (sF (sF (sF μ 813 s 0) 814 s 0) 815 s 0) 816 s 0) (s + 6) 64 (-1)) (s + 7) 64 0) 817 s true) a j = if a = s + 7 ∧ j < 64 then 0 else if a = s + 6 ∧ j < 64 then -1 else gA μ a j := rfl
      rw [e]
      by_cases c7 : a = s + 7 ∧ j < 64
      · rw [if_pos c7, if_neg (by omega), if_pos c7]
      · rw [if_neg c7, if_neg c7]
  have start2 : f8_begin s μ = zb2 (zloop (fun q => f8_begin_L1 s q.1 q.2) 1000000 (0, sB (fillA (fillA (sF (sF (sF (sF μ 813 s 0) 814 s 0) 815 s 0) 816 s 0) (s + 6) 64 (-1)) (s + 7) 64 0) 817 s true)) fun v_end_10 μ11 => zb2 (zloop (fun q => f8_begin_L2 s q.1 q.2) 1000000 (0, μ11)) fun v_b_24 μ25 => (f8_chooseTouched s μ25).bind fun μ31 => some (sB μ31 817 s false) := by
    unfold f8_begin fJ_fill
    simp only [wF, wB, obs]
  have h1 := h.bo bw
  generalize sB (fillA (fillA (sF (sF (sF (sF μ 813 s 0) 814 s 0) 815 s 0) 816 s 0) (s + 6) 64 (-1)) (s + 7) 64 0) 817 s true = μ5 at *
  have hup : ∀ n e, e < 2 * nL N → up N (sp_dm e (pfold (bgv N (up N S)) n (bo1 S))) e = up N S e := fun n e he => by
    unfold up
    rw [dm_f, if_neg (by omega), dm_f, if_neg (by omega), dm_f, if_neg (by omega), bgv_f (by omega), if_neg (by omega), bgv_f (by omega), if_neg (by omega), bgv_f (by omega), if_neg (by omega), bo1_o (by omega), bo1_o (by omega), bo1_o (by omega)]
  obtain ⟨μ6, e6, h6⟩ := lp (Q := CS N s w μ0) (body := fun q => f8_begin_L1 s q.1 q.2) nI (bgv N (up N S)) (2 * nL N) (S := bo1 S) (μ := μ5) (x0 := 0) (by
    intro i μ1 hi q1
    have hu := hup i i hi
    generalize pfold (bgv N (up N S)) i (bo1 S) = S2 at *
    show ∃ μ', f8_begin_L1 s (nI i) μ1 = some (.inl (nI (i + 1), μ')) ∧ CS N s w μ0 μ' (bgv N (up N S) i S2)
    obtain ⟨μ7, e7, h7⟩ := C_dm q1 (e := i) (by omega)
    have te := nw.te hi
    unfold bgv f8_begin_L1
    rw [q1.c_wir, obs, q1.w_l, mulQ2, clt_nI (by omega) (by omega), decide_eq_true hi, if_pos rfl, e7, obs, rI_nI (by omega) (by omega), obs, C_up h7 hi, hu, obs, obs]
    cases cu : up N S i with
    | true =>
      obtain ⟨μ8, e8, h8⟩ := C_clr h7 (e := i) (by omega) (ceq (nI (tE N i)) 1)
      have et : bI (ceq (nI (tE N i)) 1) = nI (tE N i) := by rcases (show tE N i = 0 ∨ tE N i = 1 by omega) with x | x <;> rw [x] <;> rfl
      rw [et] at h8
      rw [if_pos rfl, if_pos rfl, h7.c_wir, obs, h7.w_te hi, obs, obs, e8, obs, obs, nI_1]
      exact ⟨μ8, rfl, h8⟩
    | false =>
      obtain ⟨μ8, e8, h8⟩ := C_clr h7 (e := i) (by omega) false
      rw [if_neg (by decide), if_neg (by decide), obs, e8, obs, obs, nI_1]
      exact ⟨μ8, rfl, h8⟩) (by
    intro μ1 q1
    show f8_begin_L1 s (nI (2 * nL N)) μ1 = _
    unfold f8_begin_L1
    rw [q1.c_wir, obs, q1.w_l, mulQ2, clt_nI (by omega) (by omega), decide_eq_false (by omega), if_neg (by decide)]) (by omega) h1
  obtain ⟨μ7, e7, h7⟩ := lp (Q := CS N s w μ0) (body := fun q => f8_begin_L2 s q.1 q.2) nI bgt (nB N) (S := pfold (bgv N (up N S)) (2 * nL N) (bo1 S)) (μ := μ6) (x0 := 0) (by
    intro i μ1 hi q1
    generalize pfold bgt i (pfold (bgv N (up N S)) (2 * nL N) (bo1 S)) = S2 at *
    show ∃ μ', f8_begin_L2 s (nI i) μ1 = some (.inl (nI (i + 1), μ')) ∧ CS N s w μ0 μ' (bgt i S2)
    have q2 := q1.w_short (e := i) (by omega) (v := 0)
    unfold f8_begin_L2
    rw [q1.c_wir, obs, q1.w_b, clt_nI (by omega) (by omega), decide_eq_true hi, if_pos rfl, rI_nI (by omega) (by omega), obs]
    simp only [wF, obs]
    rw [wZ_nI (by omega) (by omega), obs, nI_1]
    exact ⟨_, rfl, q2.w_tch (e := i) (by omega) (v := true)⟩) (by
    intro μ1 q1
    show f8_begin_L2 s (nI (nB N)) μ1 = _
    unfold f8_begin_L2
    rw [q1.c_wir, obs, q1.w_b, clt_nI (by omega) (by omega), decide_eq_false (by omega), if_neg (by decide)]) (by omega) h6
  obtain ⟨μ8, e8, h8⟩ := C_ct h7
  refine ⟨sB μ8 817 s false, ?_, ?_⟩
  · rw [start2, e6, ozb2, e7, ozb2, e8, obs]
  · exact h8.w_beg (v := false)
end zM2
