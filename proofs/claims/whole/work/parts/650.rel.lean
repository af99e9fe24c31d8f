/-! THE WHOLE RELATION between the class's memory and the reference's -/
/-- what no copy changes in a State: its numbers; nobody touched, nothing begins -/
def FZ (s : Nat) (μ : zM) : Prop := (∀ i, i < 8 → gF μ 0 (s + 13 + 3 * i) = nI i) ∧ (∀ b, b < 8 → gZ μ (s + 9) b = false) ∧ gB μ 817 s = false
/-- the reference keeps S as its k-th row -/
def KR (N : zN) (m k : Nat) (ν : zM) (S : zS) : Prop := ∃ R : Nat → Int32, (∀ i, i < 2874 → R i = gA ν (m + 25) (2874 * k + i)) ∧ MR N R S
def PE (N : zN) (S : zS) (st : Nat) : Prop := INV N st S ∧ S 44 0 = nI st ∧ st ≤ 9999 ∧ T0 N S ∧ S 46 0 = 0
def PSk (N : zN) (x m w : Nat) (μ ν : zM) (f k : Nat) : Prop := ∃ p S st, gX μ (x + 2) ((f + k) % 20) = some p ∧ CS N p w μ μ S ∧ SO N S ∧ KR N m k ν S ∧ PE N S st
def PSb (x top : Nat) (μ : zM) : Prop := (∀ j p, j < 20 → gX μ (x + 2) j = some p → x + 573 ≤ p ∧ p + 261 ≤ top ∧ FZ p μ) ∧ ∀ i j p q, i < 20 → j < 20 → i ≠ j → gX μ (x + 2) i = some p → gX μ (x + 2) j = some q → p + 261 ≤ q ∨ q + 261 ≤ p
def PS (N : zN) (x m w top : Nat) (μ ν : zM) : Prop := PSb x top μ ∧ ∃ f c, f < 20 ∧ c ≤ 20 ∧ gF μ 1114 x = nI f ∧ gF μ 1115 x = nI c ∧ gF ν 1245 m = nI c ∧ ∀ k, k < c → PSk N x m w μ ν f k
def SGk (N : zN) (x m : Nat) (μ ν : zM) (k : Nat) : Prop := ∃ b p r, b < nB N ∧ p < nP N b ∧ r < 5 ∧ gA μ (x + 18) (3 * k) = nI b ∧ gA μ (x + 18) (3 * k + 1) = nI p ∧ gA μ (x + 18) (3 * k + 2) = nI r ∧ gA ν (m + 31) k = nI (6 * b + p) ∧ gA ν (m + 32) k = nI r
def SG (N : zN) (x m : Nat) (μ ν : zM) : Prop := ∃ c n, c ≤ 16 ∧ n ≤ 80 ∧ gF μ 703 (x + 17) = nI c ∧ gF ν 1252 m = nI c ∧ gF μ 704 (x + 17) = nI n ∧ gF ν 1253 m = nI n ∧ ∀ k, k < c → SGk N x m μ ν k
def FM (x m : Nat) (μ ν : zM) : Prop := gB μ 203 (x + 14) = gB ν 1260 m ∧ (gB μ 203 (x + 14) = true → gF μ 204 (x + 14) = gF ν 1261 m ∧ gF μ 205 (x + 14) = gF ν 1262 m ∧ bI (gB μ 206 (x + 14)) = gF ν 1263 m)
def ownL : List Nat := [14, 5, 20, 0, 1, 7, 5, 0, 4, 5, 12, 1, 25, 0, 2, 18, 9, 4, 7, 5, 0, 16, 18, 9, 15, 0, 15, 12, 4, 0, 12, 9, 14, 11, 0, 5, 4, 7, 5, 0, 20, 15, 0, 3, 15, 19, 20, 0, 20, 1, 11, 5, 19, 0, 8, 15, 19, 20, 0, 1, 20, 0]
def OL (m : Nat) (ν : zM) : Prop := ∀ j, j < 62 → gA ν (m + 23) j = nI (ownL.getD j 0)
def TD (N : zN) (m w : Nat) (μ ν : zM) : Prop := gB μ 1012 w = gB ν 1246 m ∧ (gB μ 1012 w = false → nB N = 0 ∧ nL N = 0 ∧ nH N = 0)
/-- a byte -/
def tb (v : Int32) : Prop := ∃ k, k < 256 ∧ v = nI k
def rT8 (x m : Nat) (μ ν : zM) : Prop := (∃ n, n ≤ 1600 ∧ gF μ 1113 x = nI n ∧ gF ν 1232 m = nI n) ∧ ∀ j, j < 1600 → gA μ (x + 1) j = gA ν (m + 21) j ∧ tb (gA ν (m + 21) j)
def R5 (x m : Nat) (μ ν : zM) : Prop := rT8 x m μ ν ∧ rR x m μ ν ∧ rFt x m μ ν ∧ rSd x m μ ν ∧ rIm x m μ ν
def JJ (N : zN) (S : zS) (st w x m top : Nat) (μ ν : zM) : Prop := K0 N S st x m w μ ν ∧ TD N m w μ ν ∧ R5 x m μ ν ∧ FZ (x + 312) μ ∧ SG N x m μ ν ∧ FM x m μ ν ∧ PS N x m w top μ ν ∧ OL m ν ∧ x + 573 ≤ top
def JR (x m top : Nat) (μ ν : zM) : Prop := ∃ N S st w, JJ N S st w x m top μ ν
section zJ5
variable {N : zN} {x m w s B st top n k i f c p j : Nat} {μ0 μ μ' ν0 ν ν' : zM} {S S' : zS}
theorem INV.h8 (hI : INV N st S) (c : ∀ f i, f ≠ 38 → f ≠ 48 → S' f i = S f i) : INV N st S' := by
  obtain ⟨⟨sv, dn, br⟩, mi, ad⟩ := hI
  have u : ∀ e, up N S' e = up N S e := fun e => up_of (fun i => c _ _ (by omega) (by omega)) (fun i => c _ _ (by omega) (by omega))
  refine ⟨⟨fun i => ?_, fun e he hu k hk => ?_, fun a ha hx => ?_⟩, fun q hq => ?_, fun a h p ha hh hp hx => ?_⟩
  · rw [c 2 i (by omega) (by omega), c 3 i (by omega) (by omega), c 27 i (by omega) (by omega), c 10 i (by omega) (by omega), c 16 i (by omega) (by omega)]
    exact sv i
  · rw [c k e (by omega) (by omega)]
    rw [u] at hu
    exact dn e he hu k hk
  · rw [c 20 a (by omega) (by omega)] at hx
    exact BR.keep2 (br a ha hx) (fun f p hf hp => c _ _ (by omega) (by omega)) (fun f hf => c _ _ (by omega) (by omega)) (fun p hp => u _)
  · obtain ⟨x1, x2, x3⟩ := mi q hq
    rw [c 60 q (by omega) (by omega), c 61 q (by omega) (by omega), u, c 50 q (by omega) (by omega)]
    exact ⟨x1, x2, x3⟩
  · rw [c 42 _ (by omega) (by omega)] at hx
    rw [u]; exact ad a h p ha hh hp hx
theorem FZ.mv (h : FZ s μ) (hs : ∀ a, s ≤ a → a < s + 261 → SA a μ μ') : FZ s μ' := ⟨fun i hi => by rw [(hs _ (by omega) (by omega)).1]; exact h.1 i hi, fun b hb => by rw [(hs _ (by omega) (by omega)).2.2.2.2.1]; exact h.2.1 b hb, by rw [(hs _ (by omega) (by omega)).2.1]; exact h.2.2⟩
theorem KR.mv (h : KR N m k ν S) (hk : ∀ i, i < 2874 → gA ν' (m + 25) (2874 * k + i) = gA ν (m + 25) (2874 * k + i)) : KR N m k ν' S := by
  obtain ⟨R, h1, h2⟩ := h
  exact ⟨R, fun i hi => by rw [hk i hi]; exact h1 i hi, h2⟩
theorem PSb.mv (h : PSb x top μ) (hx : SA (x + 2) μ μ') (hs : ∀ a, x + 573 ≤ a → SA a μ μ') : PSb x top μ' := by
  refine ⟨fun j p hj hp => ?_, fun i j p q hi hj hn hp hq => ?_⟩
  · rw [hx.2.2.2.2.2] at hp
    obtain ⟨a1, a2, a3⟩ := h.1 j p hj hp
    exact ⟨a1, a2, a3.mv (fun a b1 b2 => hs a (by omega))⟩
  · rw [hx.2.2.2.2.2] at hp hq
    exact h.2 i j p q hi hj hn hp hq
theorem PSk.mv (h : PSk N x m w μ ν f k) (hb : PSb x top μ) (hx : SA (x + 2) μ μ') (hs : ∀ a, x + 573 ≤ a → SA a μ μ') (hw : ∀ a, w ≤ a → a < w + 13 → SA a μ μ') (hk : ∀ i, i < 2874 → gA ν' (m + 25) (2874 * k + i) = gA ν (m + 25) (2874 * k + i)) : PSk N x m w μ' ν' f k := by
  obtain ⟨p, S, st, h1, h2, h3, h4, h5⟩ := h
  have hp := hb.1 _ p (by omega) h1
  exact ⟨p, S, st, by rw [hx.2.2.2.2.2]; exact h1, h2.mv (fun a b1 b2 => hs a (by omega)) hw, h3, h4.mv hk, h5⟩
theorem PS.mv (h : PS N x m w top μ ν) (h0 : SA x μ μ') (hx : SA (x + 2) μ μ') (hs : ∀ a, x + 573 ≤ a → SA a μ μ') (hw : ∀ a, w ≤ a → a < w + 13 → SA a μ μ') (hF : gF ν' 1245 m = gF ν 1245 m) (hk : ∀ j, gA ν' (m + 25) j = gA ν (m + 25) j) : PS N x m w top μ' ν' := by
  obtain ⟨hb, f, c, a1, a2, a3, a4, a5, a6⟩ := h
  exact ⟨hb.mv hx hs, f, c, a1, a2, by rw [h0.1]; exact a3, by rw [h0.1]; exact a4, by rw [hF]; exact a5, fun k hk2 => (a6 k hk2).mv hb hx hs hw (fun i hi => hk _)⟩
theorem SG.mv (h : SG N x m μ ν) (h1 : ∀ k, k = 703 ∨ k = 704 → gF μ' k (x + 17) = gF μ k (x + 17)) (h2 : SA (x + 18) μ μ') (hF : gF ν' 1252 m = gF ν 1252 m) (hF2 : gF ν' 1253 m = gF ν 1253 m) (hA : ∀ j, gA ν' (m + 31) j = gA ν (m + 31) j) (hA2 : ∀ j, gA ν' (m + 32) j = gA ν (m + 32) j) : SG N x m μ' ν' := by
  obtain ⟨c, n, a1, a2, a3, a4, a5, a6, a7⟩ := h
  refine ⟨c, n, a1, a2, by rw [h1 _ (by omega)]; exact a3, by rw [hF]; exact a4, by rw [h1 _ (by omega)]; exact a5, by rw [hF2]; exact a6, fun k hk => ?_⟩
  obtain ⟨b, p, r, b1, b2, b3, b4, b5, b6, b7, b8⟩ := a7 k hk
  exact ⟨b, p, r, b1, b2, b3, by rw [h2.2.2.2.1]; exact b4, by rw [h2.2.2.2.1]; exact b5, by rw [h2.2.2.2.1]; exact b6, by rw [hA]; exact b7, by rw [hA2]; exact b8⟩
theorem FM.mv (h : FM x m μ ν) (h1 : SA (x + 14) μ μ') (hF : ∀ k, 1261 ≤ k → k ≤ 1263 → gF ν' k m = gF ν k m) (hB : gB ν' 1260 m = gB ν 1260 m) : FM x m μ' ν' := by
  refine ⟨by rw [h1.2.1, hB]; exact h.1, fun e => ?_⟩
  rw [h1.2.1] at e
  obtain ⟨a1, a2, a3⟩ := h.2 e
  exact ⟨by rw [h1.1, hF _ (by omega) (by omega)]; exact a1, by rw [h1.1, hF _ (by omega) (by omega)]; exact a2, by rw [h1.2.1, hF _ (by omega) (by omega)]; exact a3⟩
theorem R5.mv (h : R5 x m μ ν) (h0 : ∀ k, k = 1113 ∨ k = 1116 ∨ k = 1117 → gF μ' k x = gF μ k x) (hx : ∀ a, a = x + 1 ∨ a = x + 49 ∨ a = x + 21 ∨ a = x + 22 → SA a μ μ') (hF : ∀ k, k = 1232 ∨ k = 1234 ∨ k = 1235 ∨ k = 1264 ∨ k = 1266 → gF ν' k m = gF ν k m) (hA : ∀ a j, a = m + 21 ∨ a = m + 22 ∨ a = m + 36 → gA ν' a j = gA ν a j) : R5 x m μ' ν' := by
  obtain ⟨⟨⟨n, t1, t2, t3⟩, t4⟩, r1, ⟨f1, f2⟩, ⟨s1, s2⟩, ⟨q, i1, i2, i3, i4⟩⟩ := h
  have h1 := hx (x + 1) (by omega)
  have h2 := hx (x + 49) (by omega)
  have h23 := hx (x + 21) (by omega)
  have h24 := hx (x + 22) (by omega)
  refine ⟨⟨⟨n, t1, by rw [h0 _ (by omega)]; exact t2, by rw [hF _ (by omega)]; exact t3⟩, fun j hj => by rw [h1.2.2.2.1, hA _ _ (by omega)]; exact t4 j hj⟩, fun k hk => by rw [h24.2.2.2.1, hA _ _ (by omega)]; exact r1 k hk, ⟨by rw [h2.1, hF _ (by omega)]; exact f1, by rw [h2.1, hF _ (by omega)]; exact f2⟩, ⟨by rw [h0 _ (by omega), hF _ (by omega)]; exact s1, by rw [h0 _ (by omega)]; exact s2⟩, ⟨q, i1, by rw [h0 _ (by omega)]; exact i2, by rw [hF _ (by omega)]; exact i3, fun j hj => by rw [h23.2.2.2.1, hA _ _ (by omega)]; exact i4 j hj⟩⟩
theorem JJ.ww (h : JJ N S st w x m top μ ν) : w = x + 23 ∨ w = x + 36 := h.1.ww
/-- cells that the class uses up, with those of its sight -/
def FrB (x : Nat) (μ μ' : zM) : Prop := (∀ a, (a < x + 312 ∨ x + 573 ≤ a) → (a < x + 3 ∨ x + 14 ≤ a) → a ≠ x + 17 → a ≠ x + 19 → a ≠ x + 20 → SA a μ μ') ∧ ∀ k, k < 705 ∨ 708 < k → gF μ' k (x + 17) = gF μ k (x + 17)
theorem FrB.fa (h : FrA x μ μ') : FrB x μ μ' := ⟨fun a p q _ _ _ => h a p q, fun k _ => (h (x + 17) (by omega) (by omega)).1 k⟩
theorem FrB.rf : FrB x μ μ := FrB.fa FrA.rf
theorem FrB.tr {μ1 : zM} (h : FrB x μ μ1) (h2 : FrB x μ1 μ') : FrB x μ μ' := ⟨fun a p q r s t => (h.1 a p q r s t).tr (h2.1 a p q r s t), fun k hk => (h2.2 k hk).trans (h.2 k hk)⟩
/-- what a look ahead leaves -/
theorem JJ.look2 (h : JJ N S st w x m top μ ν) (fa : FrB x μ μ') (fz : FZ (x + 312) μ') (ft : FrT m ν ν') : JJ N (hi38 ν' m S) st w x m top μ' ν' := by
  have hw := h.ww
  obtain ⟨k0, td, r5, _, sg, fm, ps, ol, ht⟩ := h
  have A : ∀ a, a < x + 312 ∨ x + 573 ≤ a → (a < x + 3 ∨ x + 14 ≤ a) ∧ a ≠ x + 17 ∧ a ≠ x + 19 ∧ a ≠ x + 20 → SA a μ μ' := fun a h1 h2 => fa.1 a h1 h2.1 h2.2.1 h2.2.2.1 h2.2.2.2
  have F : ∀ k, k ≠ 1244 → gF ν' k m = gF ν k m := fun k hk => ft.1 k m (by omega) (by omega)
  have Am : ∀ a j, a < m + 26 → a ≠ m + 24 → gA ν' a j = gA ν a j := fun a j h1 h2 => ft.2.2.2.1 a j (by omega) (by omega)
  have c8 : ∀ f i, f ≠ 38 → f ≠ 48 → hi38 ν' m S f i = S f i := fun f i h1 h2 => hi38_f h1 h2
  obtain ⟨cs, wr, sw, m0, inv, s0, s9, t0, bg⟩ := k0
  have hx0 := A x (by omega) (by omega)
  refine ⟨⟨(cs.mv (fun a h1 h2 => A a (by omega) (by omega)) (fun a h1 h2 => A a (by omega) (by omega))).ig (fun f i hf => c8 f i (by unfold csF at hf; omega) (by unfold csF at hf; omega)), by rw [hx0.2.2.1]; exact wr, ?_, m0.ft ft, inv.h8 c8, by rw [c8 _ _ (by omega) (by omega)]; exact s0, s9, fun b hb => by rw [c8 _ _ (by omega) (by omega)]; exact t0 b hb, by rw [c8 _ _ (by omega) (by omega)]; exact bg⟩, ⟨?_, ?_⟩, r5.mv (fun k _ => hx0.1 k) (fun a ha => A a (by omega) (by omega)) (fun k hk => F k (by omega)) (fun a j ha => ?_), fz, sg.mv (fun k hk => fa.2 k (by omega)) (A _ (by omega) (by omega)) (F _ (by omega)) (F _ (by omega)) (fun j => ft.2.2.2.1 _ j (by omega) (by omega)) (fun j => ft.2.2.2.1 _ j (by omega) (by omega)), fm.mv (A _ (by omega) (by omega)) (fun k h1 h2 => F k (by omega)) (ft.2.1 _ _ (by omega)), ps.mv hx0 (A _ (by omega) (by omega)) (fun a ha => A a (by omega) (by omega)) (fun a h1 h2 => A a (by omega) (by omega)) (F _ (by omega)) (fun j => Am _ _ (by omega) (by omega)), fun j hj => by rw [Am _ _ (by omega) (by omega)]; exact ol j hj, ht⟩
  · rw [hx0.2.2.1]; exact sw
  · rw [(A w (by omega) (by omega)).2.1, ft.2.1 _ _ (by omega)]; exact td.1
  · rw [(A w (by omega) (by omega)).2.1]; exact td.2
  · exact ft.2.2.2.1 a j (by omega) (by omega)
theorem JJ.look (h : JJ N S st w x m top μ ν) (fa : FrA x μ μ') (fz : FZ (x + 312) μ') (ft : FrT m ν ν') : JJ N (hi38 ν' m S) st w x m top μ' ν' := h.look2 (FrB.fa fa) fz ft
/-- a question that changes nothing but the reference's base -/
theorem JJ.ask (h : JJ N S st w x m top μ ν) : JR x m top μ (sF ν 1244 m 0) := ⟨_, _, _, _, h.look FrA.rf h.2.2.2.1 ft_b0⟩
theorem JJ.b0 (h : JJ N S st w x m top μ ν) : MS N m 0 (sF ν 1244 m 0) (sF ν 1244 m 0) S := h.1.m0.b0
end zJ5
