/-! READING: the net as far as it is told, both -/
def oc (f : Nat) : Nat := [0, 5, 6, 7, 8, 9, 10, 11, 3, 4, 12, 1, 2].getD f 0
def ok0 (i : Nat) : Nat := [1015, 1016, 1017, 1013, 1014].getD i 0
/-- the class's cell -/
def cl (w : Nat) (μ : zM) (f i : Nat) : Int32 := if f = 0 then gF μ (ok0 i) w else if f = 5 ∨ f = 9 then bI (gZ μ (w + oc f) i) else gA μ (w + oc f) i
def ra (f : Nat) : Nat := [0, 14, 99, 15, 15, 16, 17, 18, 12, 13, 19, 20, 20].getD f 0
def ri (f i : Nat) : Nat := if f = 3 then 2 * i else if f = 4 then 2 * i + 1 else if f = 12 then 48 + i else i
/-- the reference's cell -/
def rf (m : Nat) (ν : zM) (f i : Nat) : Int32 := if f = 0 then gF ν (1217 + i) m else gA ν (m + ra f) (ri f i)
def nu (N : zN) (f i v : Nat) : zN := fun f' i' => if f' = f ∧ i' = i then v else N f' i'
/-- six at once -/
def nub (N : zN) (f j : Nat) (v : Nat → Nat) : zN := fun f' i' => if f' = f ∧ j ≤ i' ∧ i' < j + 6 then v (i' - j) else N f' i'
/-- cells that the reference has -/
def rv (f i : Nat) : Prop := f < 13 ∧ f ≠ 2 ∧ (f = 0 → i < 5) ∧ (f = 11 → i < 48)
def PC (N : zN) (w : Nat) (μ : zM) : Prop := ∀ f i, f < 13 → (f = 0 → i < 5) → cl w μ f i = nI (N f i)
def RP (N : zN) (V : Nat → Nat → Prop) (m : Nat) (ν : zM) : Prop := ∀ f i, rv f i → V f i → rf m ν f i = nI (N f i)
def CNf (x w : Nat) (μ μ' : zM) : Prop := (∀ k a, ¬ (a = x + 49 ∧ 502 ≤ k ∧ k ≤ 508) → ¬ (a = w ∧ 1013 ≤ k ∧ k ≤ 1017) → gF μ' k a = gF μ k a) ∧ (∀ k a, ¬ (k = 1012 ∧ a = w) → gB μ' k a = gB μ k a) ∧ (∀ k a, ¬ (k = 509 ∧ a = x + 49) → gR μ' k a = gR μ k a) ∧ (∀ a j, a ≠ x + 50 → ¬ (w < a ∧ a ≤ w + 12) → gA μ' a j = gA μ a j) ∧ (∀ a j, ¬ (w < a ∧ a ≤ w + 12) → gZ μ' a j = gZ μ a j) ∧ ∀ a j, gX μ' a j = gX μ a j
def RNf (m : Nat) (ν ν' : zM) : Prop := (∀ k a, ¬ (a = m ∧ 1217 ≤ k ∧ k ≤ 1221) → ¬ (a = m ∧ 1234 ≤ k ∧ k ≤ 1240) → gF ν' k a = gF ν k a) ∧ (∀ k a, gB ν' k a = gB ν k a) ∧ (∀ k a, gR ν' k a = gR ν k a) ∧ (∀ a j, ¬ (m + 12 ≤ a ∧ a ≤ m + 20) → gA ν' a j = gA ν a j) ∧ (∀ a j, gZ ν' a j = gZ ν a j) ∧ ∀ a j, gX ν' a j = gX ν a j
/-- both readers at p, the net N told so far, V its cells that the reference has already -/
def PT (x m w n : Nat) (g : Nat → Nat) (μ0 ν0 : zM) (N : zN) (V : Nat → Nat → Prop) (p : Nat) (μ ν : zM) : Prop := RS x m n g p μ ν ∧ gR μ 509 (x + 49) = some w ∧ PC N w μ ∧ RP N V m ν ∧ CNf x w μ0 μ ∧ RNf m ν0 ν ∧ (x + 2 ≤ w ∧ w + 13 ≤ x + 49)
def BDD (x m w : Nat) (μ0 ν0 μ ν : zM) : Prop := BAD x m μ ν ∧ CNf x w μ0 μ ∧ RNf m ν0 ν
section zNd
variable {x m w n p q e k i j a z r c f v : Nat} {μ0 ν0 μ ν μ' ν' μ1 ν1 : zM} {g : Nat → Nat} {N N' : zN} {V V' : Nat → Nat → Prop} {u : Int32}
theorem CNf.re : CNf x w μ μ := ⟨fun _ _ _ _ => rfl, fun _ _ _ => rfl, fun _ _ _ => rfl, fun _ _ _ _ => rfl, fun _ _ _ => rfl, fun _ _ => rfl⟩
theorem CNf.tr (h : CNf x w μ μ1) (h2 : CNf x w μ1 μ') : CNf x w μ μ' := ⟨fun k a z y => (h2.1 k a z y).trans (h.1 k a z y), fun k a z => (h2.2.1 k a z).trans (h.2.1 k a z), fun k a z => (h2.2.2.1 k a z).trans (h.2.2.1 k a z), fun a j z y => (h2.2.2.2.1 a j z y).trans (h.2.2.2.1 a j z y), fun a j z => (h2.2.2.2.2.1 a j z).trans (h.2.2.2.2.1 a j z), fun a j => (h2.2.2.2.2.2 a j).trans (h.2.2.2.2.2 a j)⟩
theorem CNf.ct (h : CTf x μ μ') : CNf x w μ μ' := ⟨fun k a z y => h.1 k a (by omega), fun k a _ => h.2.1 k a, fun k a _ => h.2.2.1 k a, fun a j z y => h.2.2.2.1 a j z, fun a j _ => h.2.2.2.2.1 a j, fun a j => h.2.2.2.2.2 a j⟩
theorem RNf.re : RNf m ν ν := ⟨fun _ _ _ _ => rfl, fun _ _ => rfl, fun _ _ => rfl, fun _ _ _ => rfl, fun _ _ => rfl, fun _ _ => rfl⟩
theorem RNf.tr (h : RNf m ν ν1) (h2 : RNf m ν1 ν') : RNf m ν ν' := ⟨fun k a z y => (h2.1 k a z y).trans (h.1 k a z y), fun k a => (h2.2.1 k a).trans (h.2.1 k a), fun k a => (h2.2.2.1 k a).trans (h.2.2.1 k a), fun a j z => (h2.2.2.2.1 a j z).trans (h.2.2.2.1 a j z), fun a j => (h2.2.2.2.2.1 a j).trans (h.2.2.2.2.1 a j), fun a j => (h2.2.2.2.2.2 a j).trans (h.2.2.2.2.2 a j)⟩
theorem RNf.rt (h : RTf m ν ν') : RNf m ν ν' := ⟨fun k a z y => h.1 k a (by omega), fun k a => h.2.1 k a, fun k a => h.2.2.1 k a, fun a j z => h.2.2.2.1 a j, fun a j => h.2.2.2.2.1 a j, fun a j => h.2.2.2.2.2 a j⟩
theorem RNf.sf (h : RNf m ν0 ν) (hk : (1217 ≤ k ∧ k ≤ 1221) ∨ (1234 ≤ k ∧ k ≤ 1240)) : RNf m ν0 (sF ν k m u) := h.tr ⟨fun k' a z y => by rw [gF_sF, if_neg (by omega)], fun _ _ => rfl, fun _ _ => rfl, fun _ _ _ => rfl, fun _ _ => rfl, fun _ _ => rfl⟩
theorem RNf.sa (h : RNf m ν0 ν) (ha : m + 12 ≤ a ∧ a ≤ m + 20) : RNf m ν0 (sA ν a j u) := h.tr ⟨fun _ _ _ _ => rfl, fun _ _ => rfl, fun _ _ => rfl, fun a' j' z => by rw [gA_sA, if_neg (by omega)], fun _ _ => rfl, fun _ _ => rfl⟩
theorem CNf.sf (h : CNf x w μ0 μ) (hk : 1013 ≤ k ∧ k ≤ 1017) : CNf x w μ0 (sF μ k w u) := h.tr ⟨fun k' a z y => by rw [gF_sF, if_neg (by omega)], fun _ _ _ => rfl, fun _ _ _ => rfl, fun _ _ _ _ => rfl, fun _ _ _ => rfl, fun _ _ => rfl⟩
theorem CNf.sa (h : CNf x w μ0 μ) (ha : w < a ∧ a ≤ w + 12) : CNf x w μ0 (sA μ a j u) := h.tr ⟨fun _ _ _ _ => rfl, fun _ _ _ => rfl, fun _ _ _ => rfl, fun a' j' z y => by rw [gA_sA, if_neg (by omega)], fun _ _ _ => rfl, fun _ _ => rfl⟩
theorem CNf.sz {b : Bool} (h : CNf x w μ0 μ) (ha : w < a ∧ a ≤ w + 12) : CNf x w μ0 (sZ μ a j b) := h.tr ⟨fun _ _ _ _ => rfl, fun _ _ _ => rfl, fun _ _ _ => rfl, fun _ _ _ _ => rfl, fun a' j' z => by rw [gZ_sZ, if_neg (by omega)], fun _ _ => rfl⟩
theorem oc_b : ∀ f, f < 13 → oc f ≤ 12 ∧ (0 < f → 0 < oc f) := by decide
theorem oc_i : ∀ f, f < 13 → ∀ f', f' < 13 → oc f = oc f' → f = f' := by decide
theorem ok_i : ∀ i, i < 5 → ∀ i', i' < 5 → ok0 i = ok0 i' → i = i' := by decide
theorem ok_b : ∀ i, i < 5 → 1013 ≤ ok0 i ∧ ok0 i ≤ 1017 := by decide
theorem ra_k : ∀ f, f < 13 → ∀ f', f' < 13 → ra f = ra f' → f = f' ∨ f + f' = 7 ∨ f + f' = 23 := by decide
theorem ra_j : ∀ f, f < 13 → ∀ f', f' < 13 → ra f = ra f' → f = f' ∨ 3 ≤ f := by decide
theorem ra_i : ∀ f, f < 13 → ∀ f', f' < 13 → ra f = ra f' → f = f' ∨ (f = 3 ∧ f' = 4) ∨ (f = 4 ∧ f' = 3) ∨ (f = 11 ∧ f' = 12) ∨ (f = 12 ∧ f' = 11) := fun f h f' h' e => by
  have a1 := ra_k f h f' h' e
  have a2 := ra_j f h f' h' e
  have a3 := ra_j f' h' f h e.symm
  omega
theorem ra_b : ∀ f, f < 13 → f ≠ 0 → f ≠ 2 → 12 ≤ ra f ∧ ra f ≤ 20 := by decide
theorem PC.fr (h : PC N w μ) (fr : CTf x μ μ') (hw : x + 2 ≤ w ∧ w + 13 ≤ x + 49) : PC N w μ' := by
  intro f i hf hi
  refine Eq.trans ?_ (h f i hf hi)
  have o := oc_b f hf
  unfold cl
  by_cases c0 : f = 0
  · rw [if_pos c0, if_pos c0, fr.1 _ _ (by omega)]
  · rw [if_neg c0, if_neg c0, fr.2.2.2.2.1, fr.2.2.2.1 _ _ (by omega)]
theorem RP.fr (h : RP N V m ν) (fr : RTf m ν ν') : RP N V m ν' := by
  intro f i hf hi
  refine Eq.trans ?_ (h f i hf hi)
  unfold rf
  by_cases c0 : f = 0
  · have := hf.2.2.1 c0
    rw [if_pos c0, if_pos c0, fr.1 _ _ (by omega)]
  · rw [if_neg c0, if_neg c0, fr.2.2.2.1]
theorem RP.wk (h : RP N V m ν) (hv : ∀ f i, rv f i → V' f i → V f i) : RP N V' m ν := fun f i h1 h2 => h f i h1 (hv f i h1 h2)
/-- the class writes -/
theorem PC.wr (h : PC N w μ) (hw : ∀ f' i', f' < 13 → (f' = 0 → i' < 5) → cl w μ' f' i' = if f' = f ∧ i' = i then nI v else cl w μ f' i') : PC (nu N f i v) w μ' := by
  intro f' i' h1 h2
  rw [hw f' i' h1 h2, h f' i' h1 h2]
  unfold nu
  by_cases c : f' = f ∧ i' = i
  · rw [if_pos c, if_pos c]
  · rw [if_neg c, if_neg c]
theorem RP.un (h : RP N V m ν) : RP (nu N f i v) (fun f' i' => V f' i' ∧ ¬ (f' = f ∧ i' = i)) m ν := by
  intro f' i' h1 h2
  rw [h f' i' h1 h2.1]
  show _ = nI (if f' = f ∧ i' = i then v else N f' i')
  rw [if_neg h2.2]
theorem cl_sA (hf : f < 13) (h0 : f ≠ 0) (h5 : ¬ (f = 5 ∨ f = 9)) : ∀ f' i', f' < 13 → (f' = 0 → i' < 5) → cl w (sA μ (w + oc f) i u) f' i' = if f' = f ∧ i' = i then u else cl w μ f' i' := by
  intro f' i' h1 _
  unfold cl
  by_cases c0 : f' = 0
  · rw [if_pos c0, if_neg (by omega), if_pos c0]; rfl
  · rw [if_neg c0, if_neg c0]
    by_cases c5 : f' = 5 ∨ f' = 9
    · rw [if_pos c5, if_pos c5, if_neg (by omega)]; rfl
    · rw [if_neg c5, if_neg c5, gA_sA]
      by_cases c : f' = f ∧ i' = i
      · rw [if_pos c, if_pos ⟨by rw [c.1], c.2⟩]
      · rw [if_neg c, if_neg (fun y => c ⟨oc_i f' h1 f hf (by omega), y.2⟩)]
theorem cl_sZ {b : Bool} (hf : f = 5 ∨ f = 9) : ∀ f' i', f' < 13 → (f' = 0 → i' < 5) → cl w (sZ μ (w + oc f) i b) f' i' = if f' = f ∧ i' = i then bI b else cl w μ f' i' := by
  intro f' i' h1 _
  unfold cl
  by_cases c0 : f' = 0
  · rw [if_pos c0, if_neg (by omega), if_pos c0]; rfl
  · rw [if_neg c0, if_neg c0]
    by_cases c5 : f' = 5 ∨ f' = 9
    · rw [if_pos c5, if_pos c5, gZ_sZ]
      by_cases c : f' = f ∧ i' = i
      · rw [if_pos c, if_pos ⟨by rw [c.1], c.2⟩]
      · rw [if_neg c, if_neg (fun y => c ⟨oc_i f' h1 f (by omega) (by omega), y.2⟩)]
    · rw [if_neg c5, if_neg c5, if_neg (by omega)]; rfl
theorem cl_sF (hi : i < 5) : ∀ f' i', f' < 13 → (f' = 0 → i' < 5) → cl w (sF μ (ok0 i) w u) f' i' = if f' = 0 ∧ i' = i then u else cl w μ f' i' := by
  intro f' i' h1 h2
  unfold cl
  by_cases c0 : f' = 0
  · rw [if_pos c0, if_pos c0, gF_sF]
    by_cases c : i' = i
    · rw [if_pos (show ok0 i' = ok0 i ∧ w = w from ⟨by rw [c], rfl⟩), if_pos (show f' = 0 ∧ i' = i from ⟨c0, c⟩)]
    · rw [if_neg (show ¬ (ok0 i' = ok0 i ∧ w = w) from fun y => c (ok_i i' (h2 c0) i hi y.1)), if_neg (show ¬ (f' = 0 ∧ i' = i) from fun y => c y.2)]
  · rw [if_neg c0, if_neg c0, if_neg (show ¬ (f' = 0 ∧ i' = i) from fun y => c0 y.1)]; rfl
/-- the reference writes what the class has -/
theorem RP.wa (h : RP N V m ν) (hv : rv f i) (h0 : f ≠ 0) (hu : u = nI (N f i)) : RP N (fun f' i' => V f' i' ∨ (f' = f ∧ i' = i)) m (sA ν (m + ra f) (ri f i) u) := by
  intro f' i' h1 h2
  unfold rf
  by_cases c0 : f' = 0
  · have h3 := h f' i' h1 (h2.resolve_right (by omega))
    unfold rf at h3
    rw [if_pos c0] at h3 ⊢
    exact h3
  · rw [if_neg c0, gA_sA]
    by_cases c : f' = f ∧ i' = i
    · rw [if_pos ⟨by rw [c.1], by rw [c.1, c.2]⟩, c.1, c.2]; exact hu
    · have h3 := h f' i' h1 (h2.resolve_right c)
      unfold rf at h3
      rw [if_neg c0] at h3
      rw [if_neg, h3]
      rintro ⟨y1, y2⟩
      have y3 := ra_i f' h1.1 f hv.1 (by omega)
      have y4 := h1.2.2.2
      have y5 := hv.2.2.2
      unfold ri at y2
      by_cases d3 : f' = 3
      · rw [if_pos d3] at y2
        by_cases e3 : f = 3
        · rw [if_pos e3] at y2; omega
        · rw [if_neg e3] at y2
          by_cases e4 : f = 4
          · rw [if_pos e4] at y2; omega
          · omega
      · rw [if_neg d3] at y2
        by_cases d4 : f' = 4
        · rw [if_pos d4] at y2
          by_cases e3 : f = 3
          · rw [if_pos e3] at y2; omega
          · rw [if_neg e3] at y2
            by_cases e4 : f = 4
            · rw [if_pos e4] at y2; omega
            · omega
        · rw [if_neg d4] at y2
          by_cases d12 : f' = 12
          · rw [if_pos d12] at y2
            by_cases e12 : f = 12
            · rw [if_neg (by omega), if_neg (by omega), if_pos e12] at y2; omega
            · by_cases e11 : f = 11
              · rw [if_neg (by omega), if_neg (by omega), if_neg (by omega)] at y2; omega
              · omega
          · rw [if_neg d12] at y2
            by_cases e12 : f = 12
            · rw [if_neg (by omega), if_neg (by omega), if_pos e12] at y2; omega
            · by_cases ee : f = f'
              · rw [if_neg (by omega), if_neg (by omega), if_neg (by omega)] at y2; omega
              · omega
theorem RP.wf (h : RP N V m ν) (hu : u = nI (N 0 i)) : RP N (fun f' i' => V f' i' ∨ (f' = 0 ∧ i' = i)) m (sF ν (1217 + i) m u) := by
  intro f' i' h1 h2
  unfold rf
  by_cases c0 : f' = 0
  · rw [if_pos c0, gF_sF]
    by_cases c : i' = i
    · rw [if_pos ⟨by rw [c], rfl⟩, c0, c]; exact hu
    · have h3 := h f' i' h1 (h2.resolve_right (fun y => c y.2))
      unfold rf at h3
      rw [if_pos c0] at h3
      rw [if_neg (by omega), h3]
  · have h3 := h f' i' h1 (h2.resolve_right (by omega))
    unfold rf at h3
    rw [if_neg c0] at h3 ⊢
    exact h3
theorem BAD.nz (h : BAD x m μ ν) : ceq (gF ν 1239 m) 0 = false := by
  obtain ⟨c, h1, h2, h3, h4, h5⟩ := h
  rw [h4]
  exact (ceq_nI (b := 0) (by omega) (by omega)).trans (decide_eq_false (by omega))
theorem PT.tk (h : PT x m w n g μ0 ν0 N V p μ ν) (h2 : RS x m n g e μ' ν') (c : CTf x μ μ') (d : RTf m ν ν') : PT x m w n g μ0 ν0 N V e μ' ν' := by
  obtain ⟨_, b1, b2, b3, b4, b5, b6⟩ := h
  exact ⟨h2, by rw [c.2.2.1]; exact b1, b2.fr c b6, b3.fr d, b4.tr (CNf.ct c), b5.tr (RNf.rt d), b6⟩
theorem PT.bd (h : PT x m w n g μ0 ν0 N V p μ ν) (h2 : BAD x m μ' ν') (c : CTf x μ μ') (d : RTf m ν ν') : BDD x m w μ0 ν0 μ' ν' := ⟨h2, h.2.2.2.2.1.tr (CNf.ct c), h.2.2.2.2.2.1.tr (RNf.rt d)⟩
theorem mustP (h : PT x m w n g μ0 ν0 N V p μ ν) (hk : k < 13) : (∃ e μ' ν', p < e ∧ f5_word (x + 49) k μ = some (true, μ') ∧ f12_must m (nI k) ν = some ν' ∧ RTf m ν ν' ∧ PT x m w n g μ0 ν0 N V e μ' ν') ∨ (∃ μ' ν', f5_word (x + 49) k μ = some (false, μ') ∧ f12_must m (nI k) ν = some ν' ∧ RTf m ν ν' ∧ BDD x m w μ0 ν0 μ' ν') := by
  rcases must2 h.1 hk with ⟨e, μ', ν', a0, a1, a2, a3, a4, a5⟩ | ⟨μ', ν', a1, a2, a3, a4, a5⟩
  · exact Or.inl ⟨e, μ', ν', a0, a1, a2, a5, h.tk a3 a4 a5⟩
  · exact Or.inr ⟨μ', ν', a1, a2, a5, h.bd a3 a4 a5⟩
theorem numP {lo hi : Nat} (h : PT x m w n g μ0 ν0 N V p μ ν) (hh : hi < 1000) (ll : lo < 1000) : (∃ e v μ' ν', p < e ∧ lo ≤ v ∧ v ≤ hi ∧ f5_number (x + 49) (nI lo) (nI hi) μ = some (true, μ') ∧ f12_number m (nI lo) (nI hi) ν = some (nI v, ν') ∧ gF μ' 505 (x + 49) = nI v ∧ RTf m ν ν' ∧ PT x m w n g μ0 ν0 N V e μ' ν') ∨ (∃ μ' ν', f5_number (x + 49) (nI lo) (nI hi) μ = some (false, μ') ∧ f12_number m (nI lo) (nI hi) ν = some (0, ν') ∧ RTf m ν ν' ∧ BDD x m w μ0 ν0 μ' ν') := by
  rcases number2 h.1 hh ll with ⟨e, v, μ', ν', a0, a1, a2, a3, a4, a5, a6, a7, a8⟩ | ⟨μ', ν', a1, a2, a3, a4, a5⟩
  · exact Or.inl ⟨e, v, μ', ν', a0, a1, a2, a3, a4, a5, a8, h.tk a6 a7 a8⟩
  · exact Or.inr ⟨μ', ν', a1, a2, a5, h.bd a3 a4 a5⟩
theorem semiP (h : PT x m w n g μ0 ν0 N V p μ ν) : (∃ e μ' ν', p < e ∧ f5_semicolon (x + 49) μ = some (true, μ') ∧ f12_endsWell m ν = some ν' ∧ PT x m w n g μ0 ν0 N V e μ' ν') ∨ (∃ μ' ν', f5_semicolon (x + 49) μ = some (false, μ') ∧ f12_endsWell m ν = some ν' ∧ BDD x m w μ0 ν0 μ' ν') := by
  rcases semi2 h.1 with ⟨e, μ', ν', a0, a1, a2, a3, a4, a5⟩ | ⟨μ', ν', a1, a2, a3, a4, a5⟩
  · exact Or.inl ⟨e, μ', ν', a0, a1, a2, h.tk a3 a4 a5⟩
  · exact Or.inr ⟨μ', ν', a1, a2, h.bd a3 a4 a5⟩
theorem nameP (h : PT x m w n g μ0 ν0 N V p μ ν) : (∃ q e μ' ν', p < e ∧ WE g n q e ∧ e ≤ q + 6 ∧ f5_name (x + 49) μ = some (true, μ') ∧ f12_name m ν = some ν' ∧ NM x m g q e μ' ν' ∧ RTf m ν ν' ∧ PT x m w n g μ0 ν0 N V e μ' ν') ∨ (∃ μ' ν', f5_name (x + 49) μ = some (false, μ') ∧ f12_name m ν = some ν' ∧ RTf m ν ν' ∧ BDD x m w μ0 ν0 μ' ν') := by
  rcases name2 h.1 with ⟨q, e, μ', ν', a0, a1, a2, a3, a4, a5, a6, a7, a8⟩ | ⟨μ', ν', a1, a2, a3, a4, a5⟩
  · exact Or.inl ⟨q, e, μ', ν', a0, a1, a2, a3, a4, a6, a8, h.tk a5 a7 a8⟩
  · exact Or.inr ⟨μ', ν', a1, a2, a5, h.bd a3 a4 a5⟩
/-- the readers stay where they are -/
theorem RS.cw (h : RS x m n g p μ ν) (c : ∀ k, gF μ' k (x + 49) = gF μ k (x + 49)) (d : ∀ j, gA μ' (x + 1) j = gA μ (x + 1) j) : RS x m n g p μ' ν := by
  obtain ⟨tc, tr, ol, pn, e3, e7, hl, e9, kp⟩ := h
  exact ⟨⟨tc.1, by rw [c]; exact tc.2.1, fun j hj => by rw [d]; exact tc.2.2 j hj⟩, tr, ol, pn, by rw [c]; exact e3, e7, by rw [c]; exact hl, e9, by rw [c]; exact kp.1, by rw [c]; exact kp.2.1, kp.2.2⟩
theorem RS.rwr (h : RS x m n g p μ ν) (c : ∀ k, 1236 ≤ k → k ≤ 1240 → gF ν' k m = gF ν k m) (d : ∀ a j, m + 21 ≤ a → a ≤ m + 23 → gA ν' a j = gA ν a j) : RS x m n g p μ ν' := by
  obtain ⟨tc, tr, ol, pn, e3, e7, hl, e9, kp⟩ := h
  exact ⟨tc, ⟨tr.1, by rw [c _ (by omega) (by omega)]; exact tr.2.1, fun j hj => by rw [d _ _ (by omega) (by omega)]; exact tr.2.2 j hj⟩, fun j hj => by rw [d _ _ (by omega) (by omega)]; exact ol j hj, pn, e3, by rw [c _ (by omega) (by omega)]; exact e7, hl, by rw [c _ (by omega) (by omega)]; exact e9, kp.kr (c _ (by omega) (by omega))⟩
/-- the class lays a number down -/
theorem PT.ca (h : PT x m w n g μ0 ν0 N V p μ ν) (hf : f < 13) (h0 : f ≠ 0) (h5 : ¬ (f = 5 ∨ f = 9)) : PT x m w n g μ0 ν0 (nu N f i v) (fun f' i' => V f' i' ∧ ¬ (f' = f ∧ i' = i)) p (sA μ (w + oc f) i (nI v)) ν := by
  obtain ⟨b0, b1, b2, b3, b4, b5, b6⟩ := h
  have o := oc_b f hf
  exact ⟨b0.cw (fun _ => rfl) (fun j => by rw [gA_sA, if_neg (by omega)]), b1, b2.wr (cl_sA hf h0 h5), b3.un, b4.sa (by omega), b5, b6⟩
theorem PT.cz {b : Bool} (h : PT x m w n g μ0 ν0 N V p μ ν) (hf : f = 5 ∨ f = 9) (hb : bI b = nI v) : PT x m w n g μ0 ν0 (nu N f i v) (fun f' i' => V f' i' ∧ ¬ (f' = f ∧ i' = i)) p (sZ μ (w + oc f) i b) ν := by
  obtain ⟨b0, b1, b2, b3, b4, b5, b6⟩ := h
  have o := oc_b f (by omega)
  exact ⟨b0.cw (fun _ => rfl) (fun j => rfl), b1, b2.wr (by rw [← hb]; exact cl_sZ hf), b3.un, b4.sz (by omega), b5, b6⟩
theorem PT.cf (h : PT x m w n g μ0 ν0 N V p μ ν) (hi : i < 5) : PT x m w n g μ0 ν0 (nu N 0 i v) (fun f' i' => V f' i' ∧ ¬ (f' = 0 ∧ i' = i)) p (sF μ (ok0 i) w (nI v)) ν := by
  obtain ⟨b0, b1, b2, b3, b4, b5, b6⟩ := h
  have o := ok_b i hi
  exact ⟨b0.cw (fun k => by rw [gF_sF, if_neg (by omega)]) (fun j => rfl), b1, b2.wr (cl_sF hi), b3.un, b4.sf (by omega), b5, b6⟩
/-- the reference lays it down -/
theorem PT.wa (h : PT x m w n g μ0 ν0 N V p μ ν) (hv : rv f i) (h0 : f ≠ 0) (hu : u = nI (N f i)) : PT x m w n g μ0 ν0 N (fun f' i' => V f' i' ∨ (f' = f ∧ i' = i)) p μ (sA ν (m + ra f) (ri f i) u) := by
  obtain ⟨b0, b1, b2, b3, b4, b5, b6⟩ := h
  have o := ra_b f hv.1 h0 hv.2.1
  exact ⟨b0.rwr (fun _ _ _ => rfl) (fun a j _ _ => by rw [gA_sA, if_neg (by omega)]), b1, b2, b3.wa hv h0 hu, b4, b5.sa (by omega), b6⟩
theorem PT.wf (h : PT x m w n g μ0 ν0 N V p μ ν) (hi : i < 5) (hu : u = nI (N 0 i)) : PT x m w n g μ0 ν0 N (fun f' i' => V f' i' ∨ (f' = 0 ∧ i' = i)) p μ (sF ν (1217 + i) m u) := by
  obtain ⟨b0, b1, b2, b3, b4, b5, b6⟩ := h
  exact ⟨b0.rwr (fun k _ _ => by rw [gF_sF, if_neg (by omega)]) (fun a j _ _ => rfl), b1, b2, b3.wf hu, b4, b5.sf (by omega), b6⟩
theorem PT.wk (h : PT x m w n g μ0 ν0 N V p μ ν) (hv : ∀ f i, rv f i → V' f i → V f i) : PT x m w n g μ0 ν0 N V' p μ ν := by
  obtain ⟨b0, b1, b2, b3, b4, b5, b6⟩ := h
  exact ⟨b0, b1, b2, b3.wk hv, b4, b5, b6⟩
/-- what stands in both -/
theorem PT.gc (h : PT x m w n g μ0 ν0 N V p μ ν) (f i : Nat) (hf : f < 13) (hi : f = 0 → i < 5) : cl w μ f i = nI (N f i) := h.2.2.1 f i hf hi
theorem PT.gr (h : PT x m w n g μ0 ν0 N V p μ ν) (f i : Nat) (hf : rv f i) (hv : V f i) : rf m ν f i = nI (N f i) := h.2.2.2.1 f i hf hv
theorem nu_eq : nu N f i v f i = v := if_pos ⟨rfl, rfl⟩
theorem nu_ne {f' i' : Nat} (h : ¬ (f' = f ∧ i' = i)) : nu N f i v f' i' = N f' i' := if_neg h
theorem nub_ne {f' i' : Nat} {T : Nat → Nat} (h : ¬ (f' = f ∧ j ≤ i' ∧ i' < j + 6)) : nub N f j T f' i' = N f' i' := if_neg h
end zNd
