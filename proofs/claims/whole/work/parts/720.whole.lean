/-! THE LAW, from its entry -/
section zW0
variable {Sh Sh' : zSh} {x m a : Nat} {μ : zM} {D : zDt} {K : zKd} {H : Heap} {A : Nat → Prop}
set_option maxRecDepth 20000 in
set_option maxHeartbeats 4000000 in
theorem i12O (l : Launch) (D : zDt) (hA : ∀ q, m + 1 ≤ q → zAf D q) : zMet l D zK0 yX12_init cX12_init 1 none (zrc 1 20 36 66446) [.ref m] (shM Sh m 1) (m + 1) μ none (shM Sh m 37) (m + 37) (mmO m μ) 36 66446 := by
  have h := i12 l D (shM Sh m 1) (m + 1) μ m (by
    have e : shM Sh m 1 (m + 0) = (19, 0) := shM_in (by omega)
    rw [show shM Sh m 1 m = (19, 0) from e]) (by omega) hA
  rw [shM_s (n := 1) (by omega) rfl, shM_s (n := 2) (by omega) rfl, shM_s (n := 3) (by omega) rfl, shM_s (n := 4) (by omega) rfl, shM_s (n := 5) (by omega) rfl, shM_s (n := 6) (by omega) rfl, shM_s (n := 7) (by omega) rfl, shM_s (n := 8) (by omega) rfl, shM_s (n := 9) (by omega) rfl, shM_s (n := 10) (by omega) rfl, shM_s (n := 11) (by omega) rfl, shM_s (n := 12) (by omega) rfl, shM_s (n := 13) (by omega) rfl, shM_s (n := 14) (by omega) rfl, shM_s (n := 15) (by omega) rfl, shM_s (n := 16) (by omega) rfl, shM_s (n := 17) (by omega) rfl, shM_s (n := 18) (by omega) rfl, shM_s (n := 19) (by omega) rfl, shM_s (n := 20) (by omega) rfl, shM_s (n := 21) (by omega) rfl, shM_s (n := 22) (by omega) rfl, shM_s (n := 23) (by omega) rfl, shM_s (n := 24) (by omega) rfl, shM_s (n := 25) (by omega) rfl, shM_s (n := 26) (by omega) rfl, shM_s (n := 27) (by omega) rfl, shM_s (n := 28) (by omega) rfl, shM_s (n := 29) (by omega) rfl, shM_s (n := 30) (by omega) rfl, shM_s (n := 31) (by omega) rfl, shM_s (n := 32) (by omega) rfl, shM_s (n := 33) (by omega) rfl, shM_s (n := 34) (by omega) rfl, shM_s (n := 35) (by omega) rfl, shM_s (n := 36) (by omega) rfl] at h
  exact h
theorem zcell_da {sh : Nat × Nat} (h : zcell D K μ sh a H) : zcell (zDa D A) K μ sh a H := by
  obtain ⟨t, n⟩ := sh
  match t, h with
  | 0, _ => trivial
  | 1, h => exact h
  | 2, h => exact h
  | 3, h => exact h
  | 4, h => exact h
  | 5, h => exact h
  | 6, h => exact h
  | t + 7, h => exact h
theorem zH.sub (h : zH D K Sh μ H) (hs : ∀ a, (Sh' a).1 ≠ 0 → Sh' a = Sh a) (hA : ∀ a, (Sh' a).1 ≠ 0 → A a) (hd : zDy K Sh' μ) : zH (zDa D A) K Sh' μ H := by
  refine ⟨fun a => ?_, fun a ha => hA a ha, hd⟩
  by_cases c : (Sh' a).1 = 0
  · have e : Sh' a = (0, (Sh' a).2) := Prod.ext c rfl
    rw [e]; trivial
  · rw [hs a c]
    exact zcell_da (h.1 a)
theorem k4_17 : ∀ ci, ci < 13 → ∀ k, k < 67 → (zK1.1 ci k).1 = 4 → (zK1.1 ci k).2 = 17 := by decide +kernel
theorem k4 {ci k : Nat} (h : (zK1.1 ci k).1 = 4) : (zK1.1 ci k).2 = 17 := by
  by_cases c : ci < 13 ∧ k < 67
  · exact k4_17 ci c.1 k c.2 h
  · rw [(kk_hi (ci := ci) (k := k) (by omega)).1] at h
    exact absurd h (by decide)
theorem mL_t : ∀ d, d < 37 → (mL.getD d (0, 0)).1 = 19 ∨ (mL.getD d (0, 0)).1 = 1 := by decide
abbrev Sa (x : Nat) : zSh := shM (shX Sz x 573) (x + 573) 37
/-- every reference as the places say -/
theorem wFL : FL (Sa x) (M0w x) (M0w x) := by
  refine FL.of fun a => ?_
  by_cases c : x + 573 ≤ a ∧ a < x + 573 + 37
  · obtain ⟨d, rfl⟩ : ∃ d, a = x + 573 + d := ⟨a - (x + 573), by omega⟩
    rw [show Sa x (x + 573 + d) = mL.getD d (0, 0) from shM_in (by omega)]
    exact mFL (μ := zz (xm14 Z0 x) (x + 573)) (by omega) (fun k => by rw [gR_zz, if_pos rfl])
  · rw [show Sa x a = shX Sz x 573 a from shM_out (by omega)]
    by_cases c1 : x ≤ a ∧ a < x + 573
    · obtain ⟨d, rfl⟩ : ∃ d, a = x + d := ⟨a - x, by omega⟩
      refine FLa.mv ?_ (w_SA (by omega))
      rw [shX_in (by omega)]
      by_cases c2 : d < 51
      · exact xFL51 c2
      · have z0 : ∀ {ν : zM}, FL Sz ν ν := FL.of (fun a => FLa.no (t := 0) (n := 0) (by omega))
        by_cases c3 : d < 312
        · have f := (FL.state (s := x + 51) (w := x + 23) (z0 (ν := xm11 Z0 x))).at1 (x + d)
          have e : shP Sz (x + 51) 261 (x + d) = xT d := by
            have := shP_in (Sh := Sz) (s := x + 51) (n := 261) (a := d - 51) (by omega)
            rw [show x + 51 + (d - 51) = x + d by omega] at this
            rw [this]; unfold xT; rw [if_neg (by omega), if_pos c3]
          rw [e] at f
          refine f.mv ⟨fun k => ?_, fun k => ?_, fun k => ?_, fun j => ?_, fun j => ?_, fun j => ?_⟩
          · rw [xS1 (by omega) (by omega), gF_mP, if_pos (by omega)]
          · rw [xB, gB_mP, if_pos (by omega)]
          · show gR (sR (muP (xm12 Z0 x) (x + 312) (x + 23) 261 13 8 28 84) 1102 x (some (x + 312))) k (x + d) = _
            rw [gR_sR, if_neg (by omega), gR_mP, if_neg (by omega)]
            show gR (sR (muP (xm11 Z0 x) (x + 51) (x + 23) 261 13 8 28 84) 1103 x (some (x + 51))) k (x + d) = _
            rw [gR_sR, if_neg (by omega)]
          · rw [xA, gA_mP, if_pos (by omega)]
          · rw [xZ, gZ_mP, if_pos (by omega)]
          · show gX (muP (xm12 Z0 x) (x + 312) (x + 23) 261 13 8 28 84) (x + d) j = _
            rw [gX_mP, if_neg (by omega)]
            rfl
        · have f := (FL.state (s := x + 312) (w := x + 23) (z0 (ν := xm12 Z0 x))).at1 (x + d)
          have e : shP Sz (x + 312) 261 (x + d) = xT d := by
            have := shP_in (Sh := Sz) (s := x + 312) (n := 261) (a := d - 312) (by omega)
            rw [show x + 312 + (d - 312) = x + d by omega] at this
            rw [this]; unfold xT; rw [if_neg (by omega), if_neg c3]
          rw [e] at f
          refine f.mv ⟨fun k => ?_, fun k => ?_, fun k => ?_, fun j => ?_, fun j => ?_, fun j => ?_⟩
          · rw [xS2 (by omega) (by omega), gF_mP, if_pos (by omega)]
          · rw [xB, gB_mP, if_pos (by omega)]
          · show gR (sR (muP (xm12 Z0 x) (x + 312) (x + 23) 261 13 8 28 84) 1102 x (some (x + 312))) k (x + d) = _
            rw [gR_sR, if_neg (by omega)]
          · rw [xA, gA_mP, if_pos (by omega)]
          · rw [xZ, gZ_mP, if_pos (by omega)]
          · rfl
    · rw [shX_out (by omega)]
      exact FLa.no (t := 0) (n := 0) (by omega)
/-- the one world as two -/
theorem wTwo (h : zH D zK0 (Sa x) (M0w x) H) (hz : H.size = x + 610) : lP D x (shX Sz x 573) (shM Sz (x + 573) 37) (x + 610) (M0w x) (M0w x) H := by
  have h1 : zH D zK1 (Sa x) (M0w x) H := wFL.down h
  have inM : ∀ w, ¬ (x + 573 ≤ w ∧ w < x + 573 + 37) → Sa x w = shX Sz x 573 w := fun w hw => shM_out (by omega)
  have tg : ∀ w, (Sa x w).1 = 17 ∨ (Sa x w).1 = 15 → shX Sz x 573 w = Sa x w := fun w hw => by
    by_cases c : x + 573 ≤ w ∧ w < x + 573 + 37
    · obtain ⟨d, rfl⟩ : ∃ d, w = x + 573 + d := ⟨w - (x + 573), by omega⟩
      rw [show Sa x (x + 573 + d) = mL.getD d (0, 0) from shM_in (by omega)] at hw
      have := mL_t d (by omega)
      omega
    · exact (inM w c).symm
  have xin : ∀ a, (shX Sz x 573 a).1 ≠ 0 → x ≤ a ∧ a < x + 573 := fun a ha => by
    by_cases c : x ≤ a ∧ a < x + 573
    · exact c
    · exact absurd (by rw [shX_out (by omega)]) ha
  have min : ∀ a, (shM Sz (x + 573) 37 a).1 ≠ 0 → x + 573 ≤ a ∧ a < x + 573 + 37 := fun a ha => by
    by_cases c : x + 573 ≤ a ∧ a < x + 573 + 37
    · exact c
    · exact absurd (by rw [shM_out (by omega)]) ha
  refine ⟨h1.sub (fun a ha => (inM a (by have := xin a ha; omega)).symm) (fun a ha => Or.inl (xin a ha)) ⟨fun a ci k w e1 e2 e3 => ?_, fun a t n j w e1 e2 e3 e4 => ?_⟩, h1.sub (fun a ha => ?_) (fun a ha => ?_) ⟨fun a ci k w e1 e2 e3 => ?_, fun a t n j w e1 e2 e3 e4 => ?_⟩, hz⟩
  · have ha := xin a (by rw [e1]; omega)
    have := h1.2.2.1 a ci k w (by rw [inM a (by omega)]; exact e1) e2 e3
    rw [tg w (Or.inl (this.trans (k4 e2)))]
    exact this
  · have ha := xin a (by rw [e2]; show t + 3 ≠ 0; omega)
    have := h1.2.2.2 a t n j w e1 (by rw [inM a (by omega)]; exact e2) e3 e4
    have t3 : t = 3 := by
      rcases (show t = 0 ∨ t = 1 ∨ t = 2 ∨ t = 3 by omega) with y | y | y | y
      · subst y; exact absurd e3 (by decide)
      · subst y; exact absurd e3 (by decide)
      · subst y; exact absurd e3 (by decide)
      · exact y
    subst t3
    rw [tg w (Or.inr this)]
    exact this
  · have := min a ha
    obtain ⟨d, rfl⟩ : ∃ d, a = x + 573 + d := ⟨a - (x + 573), by omega⟩
    rw [shM_in (by omega), show Sa x (x + 573 + d) = mL.getD d (0, 0) from shM_in (by omega)]
  · have := min a ha
    exact ⟨by omega, by omega⟩
  · have ha := min a (by rw [e1]; omega)
    obtain ⟨d, rfl⟩ : ∃ d, a = x + 573 + d := ⟨a - (x + 573), by omega⟩
    rw [shM_in (by omega)] at e1
    have := mL_t d (by omega)
    have : ci = 12 := by omega
    subst this
    by_cases c : k < 67
    · exact absurd e2 ((by decide +kernel : ∀ k, k < 67 → ¬ (zK1.1 12 k).1 = 4) k c)
    · rw [(kk_hi (ci := 12) (k := k) (by omega)).1] at e2
      exact absurd e2 (by decide)
  · have ha := min a (by rw [e2]; show t + 3 ≠ 0; omega)
    obtain ⟨d, rfl⟩ : ∃ d, a = x + 573 + d := ⟨a - (x + 573), by omega⟩
    rw [shM_in (by omega)] at e2
    have := mL_t d (by omega)
    rw [e2] at this
    have : t + 3 = 19 ∨ t + 3 = 1 := this
    omega
end zW0
set_option maxHeartbeats 4000000 in
set_option maxRecDepth 100000 in
theorem law_new {X : zCx} {b L x : Nat} {xs : Nat → Int32} (C : LC X b L xs x) (hE : ∀ (P : Heap → Prop) (cs ss : Nat) (lv : List (Nat × Value)), cs ≤ 600000 → ss ≤ 7302250 → lZ X P cs ss 1412 lv []) : zZ zK0 X (Sz, x, 0, 0) Z0 0 [(0, .ref b)] [] := by
  have C0 := C
  obtain ⟨fx, hX, hb, hs, hA, hL⟩ := C
  have hA' : ∀ q, x ≤ q → zAf (zDo X) q := fun q hq => (hA q).mpr hq
  have e1 : zSu Sz x 18 0 = shX Sz x 1 := by
    funext q
    unfold zSu shX
    by_cases c : q = x
    · subst c
      rw [if_pos rfl, if_pos (by omega), Nat.sub_self]; rfl
    · rw [if_neg c, if_neg (by omega)]
  have e2 : zSu (shX Sz x 573) (x + 573) 19 0 = shM (shX Sz x 573) (x + 573) 1 := by
    funext q
    unfold zSu shM
    by_cases c : q = x + 573
    · subst c
      rw [if_pos rfl, if_pos (by omega), Nat.sub_self]; rfl
    · rw [if_neg c, if_neg (by omega)]
  refine z_newO (T := (Sz, x, 0, 0)) fx zK0_ok 11 (C := (RX11, TX11, 18)) rfl ⟨zTb1 21 rfl rfl, zTb1 22 rfl rfl, zTb1 1 rfl rfl⟩ (by decide) (hA' _ (Nat.le_refl _)) ⟨Nat.le_of_ble_eq_true rfl, Nat.le_of_ble_eq_true rfl⟩ ⟨dL_0, rfl⟩ ?_
  refine z_dup fx rfl ⟨dL_3, rfl⟩ ?_
  rw [show zTn (Sz, x, 0, 0) (11 + 7) 0 (RX11, TX11, 18).2.2 = (shX Sz x 1, x + 1, 1, 18) by unfold zTn; exact congrArg (fun q => (q, x + 1, 1, 18)) e1]
  refine z_callI fx [.ref x] rfl (i11 (Sh := Sz) (x := x) (μ := Z0) (zLo X) (zDo X) hA') mi11 mii11 (zTb1 23 rfl rfl) rfl ⟨rfl, rfl, Nat.le_of_ble_eq_true rfl, Nat.le_of_ble_eq_true rfl, Nat.le_of_ble_eq_true rfl, Nat.le_of_ble_eq_true rfl⟩ rfl (Nat.le_of_ble_eq_true rfl) ⟨dL_4, rfl⟩ ?_
  refine z_astore_n fx (k := 1) (i := 1) (x := x) (lv' := [(0, .ref b), (1, .ref x)]) rfl rfl rfl rfl ⟨dL_7, rfl⟩ ?_
  refine z_newO (T := (shX Sz x 573, x + 573, 573, 7052)) fx zK0_ok 12 (C := (RX12, TX12, 67)) rfl ⟨zTb7 28 rfl rfl, zTb7 29 rfl rfl, zTb1 13 rfl rfl⟩ (by decide) (hA' _ (by show x ≤ x + 573; omega)) ⟨Nat.le_of_ble_eq_true rfl, Nat.le_of_ble_eq_true rfl⟩ ⟨dL_8, rfl⟩ ?_
  refine z_dup fx rfl ⟨dL_11, rfl⟩ ?_
  rw [show zTn (shX Sz x 573, x + 573, 573, 7052) (12 + 7) 0 (RX12, TX12, 67).2.2 = (shM (shX Sz x 573) (x + 573) 1, x + 573 + 1, 574, 7119) by unfold zTn; exact congrArg (fun q => (q, x + 573 + 1, 574, 7119)) e2]
  refine z_callI fx [.ref (x + 573)] rfl (i12O (Sh := shX Sz x 573) (m := x + 573) (μ := zz (xm14 Z0 x) (x + 573)) (zLo X) (zDo X) (fun q hq => hA' q (by omega))) mi12 mii12 (zTb7 30 rfl rfl) rfl ⟨rfl, rfl, Nat.le_of_ble_eq_true rfl, Nat.le_of_ble_eq_true rfl, Nat.le_of_ble_eq_true rfl, Nat.le_of_ble_eq_true rfl⟩ rfl (Nat.le_of_ble_eq_true rfl) ⟨dL_12, rfl⟩ ?_
  refine z_astore_n fx (k := 2) (i := 2) (x := x + 573) (lv' := [(0, .ref b), (1, .ref x), (2, .ref (x + 573))]) rfl rfl rfl rfl ⟨dL_15, rfl⟩ ?_
  refine z_iconst fx (v := 0) (by decide) ⟨dL_16, rfl⟩ ?_
  refine z_istore_n fx (k := 3) (i := 3) (x := 0) (lv' := lvL b x 0) rfl rfl rfl rfl ⟨dL_17, rfl⟩ ?_
  have pk : zPk (zDa (zDo X) (Ax x)) (shX Sz x 573) (x + 610) x := ⟨xOK, xRw, fun a ha => shX_out (by omega), fun q hq => Or.inr hq, by rw [shX_0 (by omega)]⟩
  have hm : (shM Sz (x + 573) 37 (x + 573)).1 = 19 := by
    rw [show shM Sz (x + 573) 37 (x + 573) = (19, 0) from shM_in (d := 0) (by omega)]
  have loop := law_loop C0 hE mOK hm 513 0 610 73565 (x + 610) (shX Sz x 573) (M0w x) (M0w x) (Nat.zero_le _) (by omega) (Nat.le_of_ble_eq_true rfl) (Nat.le_of_ble_eq_true rfl) JR0 pk
  show zZ zK0 X (Sa x, x + 610, 610, 73565) (M0w x) 18 (lvL b x 0) []
  obtain ⟨p, l, e, R, s, m, args, below, meth, c, nL, Q, D⟩ := X
  intro H locs ls h1 h2 h3 h4
  exact loop H locs ls (wTwo h1 h2) h3 h4
theorem whole_start {p : Program} {e : Env} {s : State} {m : MethodId} {below : List Frame} {meth : Method} {c : Code} (l : Launch) (hflags : l.flags = flags0) {b L : Nat} {xs : Nat → Int32} (hL : L ≤ 3072) (C0 : lw_At p s m meth c b L xs) : W p l e room_1 s m #[Value.ref b] below meth c s.heap [] 0 0 (lw_Z below #[Value.ref b] s) (entryFrame m ([Value.ref b] : List Value).toArray 4) := by
  obtain ⟨D, fx, hA⟩ := lw_fix (l := l) (e := e) (below := below) (Q := lw_Z below #[Value.ref b] s) C0
  obtain ⟨hx, hb, hr, hml, hown, hts, hX, hbl, hlocks, hgv⟩ := C0
  have C : LC (p, l, e, room_1, s, m, #[Value.ref b], below, meth, c, 4, lw_Z below #[Value.ref b] s, D) b L xs s.heap.size := ⟨fx, hX, hbl, rfl, hA, hL⟩
  have key := law_new C (law_end hx hb hr hlocks (fun q hq => (hA q).mp hq))
  have hl := lv_entry ([.ref b]) (n := 4) (Nat.le_of_ble_eq_true rfl)
  rw [lg_entry_eq]
  refine key s.heap [] _ ⟨fun a => trivial, fun a ha => absurd rfl ha, fun a ci k w e1 => ?_, fun a t n j w _ e2 => ?_⟩ rfl va_S.rf hl
  · have e1 : 0 = ci + 7 := e1
    omega
  · have := congrArg Prod.fst e2
    have : 0 = t + 3 := this
    omega
