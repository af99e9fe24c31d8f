/-! COMBINATORS, and rules for the printed walks -/
theorem zTb1 {w : Cond} (i : Nat) (h : tables_1_1[i]? = some w) (g : goodWord w = true) : w ∈ zTb := List.mem_filter.mpr ⟨List.mem_append_right _ (show w ∈ tables_1 from List.mem_append_left _ (List.mem_of_getElem? h)), g⟩
theorem zTb2 {w : Cond} (i : Nat) (h : tables_1_2[i]? = some w) (g : goodWord w = true) : w ∈ zTb := List.mem_filter.mpr ⟨List.mem_append_right _ (show w ∈ tables_1 from List.mem_append_right _ (List.mem_append_left _ (List.mem_of_getElem? h))), g⟩
theorem zTb3 {w : Cond} (i : Nat) (h : tables_1_3[i]? = some w) (g : goodWord w = true) : w ∈ zTb := List.mem_filter.mpr ⟨List.mem_append_right _ (show w ∈ tables_1 from List.mem_append_right _ (List.mem_append_right _ (List.mem_append_left _ (List.mem_of_getElem? h)))), g⟩
theorem zTb4 {w : Cond} (i : Nat) (h : tables_1_4[i]? = some w) (g : goodWord w = true) : w ∈ zTb := List.mem_filter.mpr ⟨List.mem_append_right _ (show w ∈ tables_1 from List.mem_append_right _ (List.mem_append_right _ (List.mem_append_right _ (List.mem_append_left _ (List.mem_of_getElem? h))))), g⟩
theorem zTb5 {w : Cond} (i : Nat) (h : tables_1_5[i]? = some w) (g : goodWord w = true) : w ∈ zTb := List.mem_filter.mpr ⟨List.mem_append_right _ (show w ∈ tables_1 from List.mem_append_right _ (List.mem_append_right _ (List.mem_append_right _ (List.mem_append_right _ (List.mem_append_left _ (List.mem_of_getElem? h)))))), g⟩
theorem zTb6 {w : Cond} (i : Nat) (h : tables_1_6[i]? = some w) (g : goodWord w = true) : w ∈ zTb := List.mem_filter.mpr ⟨List.mem_append_right _ (show w ∈ tables_1 from List.mem_append_right _ (List.mem_append_right _ (List.mem_append_right _ (List.mem_append_right _ (List.mem_append_right _ (List.mem_append_left _ (List.mem_of_getElem? h))))))), g⟩
theorem zTb7 {w : Cond} (i : Nat) (h : tables_1_7[i]? = some w) (g : goodWord w = true) : w ∈ zTb := List.mem_filter.mpr ⟨List.mem_append_right _ (show w ∈ tables_1 from List.mem_append_right _ (List.mem_append_right _ (List.mem_append_right _ (List.mem_append_right _ (List.mem_append_right _ (List.mem_append_right _ (List.mem_append_left _ (List.mem_of_getElem? h)))))))), g⟩
theorem zTb8 {w : Cond} (i : Nat) (h : tables_1_8[i]? = some w) (g : goodWord w = true) : w ∈ zTb := List.mem_filter.mpr ⟨List.mem_append_right _ (show w ∈ tables_1 from List.mem_append_right _ (List.mem_append_right _ (List.mem_append_right _ (List.mem_append_right _ (List.mem_append_right _ (List.mem_append_right _ (List.mem_append_right _ (List.mem_append_left _ (List.mem_of_getElem? h))))))))), g⟩
theorem zTb9 {w : Cond} (i : Nat) (h : tables_1_9[i]? = some w) (g : goodWord w = true) : w ∈ zTb := List.mem_filter.mpr ⟨List.mem_append_right _ (show w ∈ tables_1 from List.mem_append_right _ (List.mem_append_right _ (List.mem_append_right _ (List.mem_append_right _ (List.mem_append_right _ (List.mem_append_right _ (List.mem_append_right _ (List.mem_append_right _ (List.mem_append_left _ (List.mem_of_getElem? h)))))))))), g⟩
theorem zTb10 {w : Cond} (i : Nat) (h : tables_1_10[i]? = some w) (g : goodWord w = true) : w ∈ zTb := List.mem_filter.mpr ⟨List.mem_append_right _ (show w ∈ tables_1 from List.mem_append_right _ (List.mem_append_right _ (List.mem_append_right _ (List.mem_append_right _ (List.mem_append_right _ (List.mem_append_right _ (List.mem_append_right _ (List.mem_append_right _ (List.mem_append_right _ (List.mem_of_getElem? h)))))))))), g⟩
def zb2 {A0 A1 B : Type} (x : Option (A0 × A1)) (f : A0 → A1 → Option B) : Option B := x.bind fun q => f q.1 q.2
theorem zinv2 {A0 A1 B : Type} {x : Option (A0 × A1)} {f : A0 → A1 → Option B} {r : B} (h : zb2 x f = some r) : ∃ x0 x1, x = some (x0, x1) ∧ f x0 x1 = some r := by
  obtain ⟨q, h1, h2⟩ := zinv h
  exact ⟨q.1, q.2, h1, h2⟩
theorem zb2_some {A0 A1 B : Type} {f : A0 → A1 → Option B} (x0 : A0) (x1 : A1) : zb2 (some (x0, x1)) f = f x0 x1 := rfl
def zq2 {A0 A1 B : Type} (f : A0 → A1 → Option B) : A0 × A1 → Option B := fun q => f q.1 q.2
theorem zel2 {A0 A1 B R : Type} {F : R → Option B} {f : A0 → A1 → Option B} {r : B} {x0 : A0} {x1 : A1} (h : Sum.elim F (zq2 f) (.inr (x0, x1)) = some r) : f x0 x1 = some r := h
def zb3 {A0 A1 A2 B : Type} (x : Option (A0 × A1 × A2)) (f : A0 → A1 → A2 → Option B) : Option B := x.bind fun q => f q.1 q.2.1 q.2.2
theorem zinv3 {A0 A1 A2 B : Type} {x : Option (A0 × A1 × A2)} {f : A0 → A1 → A2 → Option B} {r : B} (h : zb3 x f = some r) : ∃ x0 x1 x2, x = some (x0, x1, x2) ∧ f x0 x1 x2 = some r := by
  obtain ⟨q, h1, h2⟩ := zinv h
  exact ⟨q.1, q.2.1, q.2.2, h1, h2⟩
theorem zb3_some {A0 A1 A2 B : Type} {f : A0 → A1 → A2 → Option B} (x0 : A0) (x1 : A1) (x2 : A2) : zb3 (some (x0, x1, x2)) f = f x0 x1 x2 := rfl
def zq3 {A0 A1 A2 B : Type} (f : A0 → A1 → A2 → Option B) : A0 × A1 × A2 → Option B := fun q => f q.1 q.2.1 q.2.2
theorem zel3 {A0 A1 A2 B R : Type} {F : R → Option B} {f : A0 → A1 → A2 → Option B} {r : B} {x0 : A0} {x1 : A1} {x2 : A2} (h : Sum.elim F (zq3 f) (.inr (x0, x1, x2)) = some r) : f x0 x1 x2 = some r := h
def zb4 {A0 A1 A2 A3 B : Type} (x : Option (A0 × A1 × A2 × A3)) (f : A0 → A1 → A2 → A3 → Option B) : Option B := x.bind fun q => f q.1 q.2.1 q.2.2.1 q.2.2.2
theorem zinv4 {A0 A1 A2 A3 B : Type} {x : Option (A0 × A1 × A2 × A3)} {f : A0 → A1 → A2 → A3 → Option B} {r : B} (h : zb4 x f = some r) : ∃ x0 x1 x2 x3, x = some (x0, x1, x2, x3) ∧ f x0 x1 x2 x3 = some r := by
  obtain ⟨q, h1, h2⟩ := zinv h
  exact ⟨q.1, q.2.1, q.2.2.1, q.2.2.2, h1, h2⟩
theorem zb4_some {A0 A1 A2 A3 B : Type} {f : A0 → A1 → A2 → A3 → Option B} (x0 : A0) (x1 : A1) (x2 : A2) (x3 : A3) : zb4 (some (x0, x1, x2, x3)) f = f x0 x1 x2 x3 := rfl
def zq4 {A0 A1 A2 A3 B : Type} (f : A0 → A1 → A2 → A3 → Option B) : A0 × A1 × A2 × A3 → Option B := fun q => f q.1 q.2.1 q.2.2.1 q.2.2.2
theorem zel4 {A0 A1 A2 A3 B R : Type} {F : R → Option B} {f : A0 → A1 → A2 → A3 → Option B} {r : B} {x0 : A0} {x1 : A1} {x2 : A2} {x3 : A3} (h : Sum.elim F (zq4 f) (.inr (x0, x1, x2, x3)) = some r) : f x0 x1 x2 x3 = some r := h
def zb5 {A0 A1 A2 A3 A4 B : Type} (x : Option (A0 × A1 × A2 × A3 × A4)) (f : A0 → A1 → A2 → A3 → A4 → Option B) : Option B := x.bind fun q => f q.1 q.2.1 q.2.2.1 q.2.2.2.1 q.2.2.2.2
theorem zinv5 {A0 A1 A2 A3 A4 B : Type} {x : Option (A0 × A1 × A2 × A3 × A4)} {f : A0 → A1 → A2 → A3 → A4 → Option B} {r : B} (h : zb5 x f = some r) : ∃ x0 x1 x2 x3 x4, x = some (x0, x1, x2, x3, x4) ∧ f x0 x1 x2 x3 x4 = some r := by
  obtain ⟨q, h1, h2⟩ := zinv h
  exact ⟨q.1, q.2.1, q.2.2.1, q.2.2.2.1, q.2.2.2.2, h1, h2⟩
theorem zb5_some {A0 A1 A2 A3 A4 B : Type} {f : A0 → A1 → A2 → A3 → A4 → Option B} (x0 : A0) (x1 : A1) (x2 : A2) (x3 : A3) (x4 : A4) : zb5 (some (x0, x1, x2, x3, x4)) f = f x0 x1 x2 x3 x4 := rfl
def zq5 {A0 A1 A2 A3 A4 B : Type} (f : A0 → A1 → A2 → A3 → A4 → Option B) : A0 × A1 × A2 × A3 × A4 → Option B := fun q => f q.1 q.2.1 q.2.2.1 q.2.2.2.1 q.2.2.2.2
theorem zel5 {A0 A1 A2 A3 A4 B R : Type} {F : R → Option B} {f : A0 → A1 → A2 → A3 → A4 → Option B} {r : B} {x0 : A0} {x1 : A1} {x2 : A2} {x3 : A3} {x4 : A4} (h : Sum.elim F (zq5 f) (.inr (x0, x1, x2, x3, x4)) = some r) : f x0 x1 x2 x3 x4 = some r := h
def zb6 {A0 A1 A2 A3 A4 A5 B : Type} (x : Option (A0 × A1 × A2 × A3 × A4 × A5)) (f : A0 → A1 → A2 → A3 → A4 → A5 → Option B) : Option B := x.bind fun q => f q.1 q.2.1 q.2.2.1 q.2.2.2.1 q.2.2.2.2.1 q.2.2.2.2.2
theorem zinv6 {A0 A1 A2 A3 A4 A5 B : Type} {x : Option (A0 × A1 × A2 × A3 × A4 × A5)} {f : A0 → A1 → A2 → A3 → A4 → A5 → Option B} {r : B} (h : zb6 x f = some r) : ∃ x0 x1 x2 x3 x4 x5, x = some (x0, x1, x2, x3, x4, x5) ∧ f x0 x1 x2 x3 x4 x5 = some r := by
  obtain ⟨q, h1, h2⟩ := zinv h
  exact ⟨q.1, q.2.1, q.2.2.1, q.2.2.2.1, q.2.2.2.2.1, q.2.2.2.2.2, h1, h2⟩
theorem zb6_some {A0 A1 A2 A3 A4 A5 B : Type} {f : A0 → A1 → A2 → A3 → A4 → A5 → Option B} (x0 : A0) (x1 : A1) (x2 : A2) (x3 : A3) (x4 : A4) (x5 : A5) : zb6 (some (x0, x1, x2, x3, x4, x5)) f = f x0 x1 x2 x3 x4 x5 := rfl
def zq6 {A0 A1 A2 A3 A4 A5 B : Type} (f : A0 → A1 → A2 → A3 → A4 → A5 → Option B) : A0 × A1 × A2 × A3 × A4 × A5 → Option B := fun q => f q.1 q.2.1 q.2.2.1 q.2.2.2.1 q.2.2.2.2.1 q.2.2.2.2.2
theorem zel6 {A0 A1 A2 A3 A4 A5 B R : Type} {F : R → Option B} {f : A0 → A1 → A2 → A3 → A4 → A5 → Option B} {r : B} {x0 : A0} {x1 : A1} {x2 : A2} {x3 : A3} {x4 : A4} {x5 : A5} (h : Sum.elim F (zq6 f) (.inr (x0, x1, x2, x3, x4, x5)) = some r) : f x0 x1 x2 x3 x4 x5 = some r := h
def zb7 {A0 A1 A2 A3 A4 A5 A6 B : Type} (x : Option (A0 × A1 × A2 × A3 × A4 × A5 × A6)) (f : A0 → A1 → A2 → A3 → A4 → A5 → A6 → Option B) : Option B := x.bind fun q => f q.1 q.2.1 q.2.2.1 q.2.2.2.1 q.2.2.2.2.1 q.2.2.2.2.2.1 q.2.2.2.2.2.2
theorem zinv7 {A0 A1 A2 A3 A4 A5 A6 B : Type} {x : Option (A0 × A1 × A2 × A3 × A4 × A5 × A6)} {f : A0 → A1 → A2 → A3 → A4 → A5 → A6 → Option B} {r : B} (h : zb7 x f = some r) : ∃ x0 x1 x2 x3 x4 x5 x6, x = some (x0, x1, x2, x3, x4, x5, x6) ∧ f x0 x1 x2 x3 x4 x5 x6 = some r := by
  obtain ⟨q, h1, h2⟩ := zinv h
  exact ⟨q.1, q.2.1, q.2.2.1, q.2.2.2.1, q.2.2.2.2.1, q.2.2.2.2.2.1, q.2.2.2.2.2.2, h1, h2⟩
theorem zb7_some {A0 A1 A2 A3 A4 A5 A6 B : Type} {f : A0 → A1 → A2 → A3 → A4 → A5 → A6 → Option B} (x0 : A0) (x1 : A1) (x2 : A2) (x3 : A3) (x4 : A4) (x5 : A5) (x6 : A6) : zb7 (some (x0, x1, x2, x3, x4, x5, x6)) f = f x0 x1 x2 x3 x4 x5 x6 := rfl
def zq7 {A0 A1 A2 A3 A4 A5 A6 B : Type} (f : A0 → A1 → A2 → A3 → A4 → A5 → A6 → Option B) : A0 × A1 × A2 × A3 × A4 × A5 × A6 → Option B := fun q => f q.1 q.2.1 q.2.2.1 q.2.2.2.1 q.2.2.2.2.1 q.2.2.2.2.2.1 q.2.2.2.2.2.2
theorem zel7 {A0 A1 A2 A3 A4 A5 A6 B R : Type} {F : R → Option B} {f : A0 → A1 → A2 → A3 → A4 → A5 → A6 → Option B} {r : B} {x0 : A0} {x1 : A1} {x2 : A2} {x3 : A3} {x4 : A4} {x5 : A5} {x6 : A6} (h : Sum.elim F (zq7 f) (.inr (x0, x1, x2, x3, x4, x5, x6)) = some r) : f x0 x1 x2 x3 x4 x5 x6 = some r := h
def zb8 {A0 A1 A2 A3 A4 A5 A6 A7 B : Type} (x : Option (A0 × A1 × A2 × A3 × A4 × A5 × A6 × A7)) (f : A0 → A1 → A2 → A3 → A4 → A5 → A6 → A7 → Option B) : Option B := x.bind fun q => f q.1 q.2.1 q.2.2.1 q.2.2.2.1 q.2.2.2.2.1 q.2.2.2.2.2.1 q.2.2.2.2.2.2.1 q.2.2.2.2.2.2.2
theorem zinv8 {A0 A1 A2 A3 A4 A5 A6 A7 B : Type} {x : Option (A0 × A1 × A2 × A3 × A4 × A5 × A6 × A7)} {f : A0 → A1 → A2 → A3 → A4 → A5 → A6 → A7 → Option B} {r : B} (h : zb8 x f = some r) : ∃ x0 x1 x2 x3 x4 x5 x6 x7, x = some (x0, x1, x2, x3, x4, x5, x6, x7) ∧ f x0 x1 x2 x3 x4 x5 x6 x7 = some r := by
  obtain ⟨q, h1, h2⟩ := zinv h
  exact ⟨q.1, q.2.1, q.2.2.1, q.2.2.2.1, q.2.2.2.2.1, q.2.2.2.2.2.1, q.2.2.2.2.2.2.1, q.2.2.2.2.2.2.2, h1, h2⟩
theorem zb8_some {A0 A1 A2 A3 A4 A5 A6 A7 B : Type} {f : A0 → A1 → A2 → A3 → A4 → A5 → A6 → A7 → Option B} (x0 : A0) (x1 : A1) (x2 : A2) (x3 : A3) (x4 : A4) (x5 : A5) (x6 : A6) (x7 : A7) : zb8 (some (x0, x1, x2, x3, x4, x5, x6, x7)) f = f x0 x1 x2 x3 x4 x5 x6 x7 := rfl
def zq8 {A0 A1 A2 A3 A4 A5 A6 A7 B : Type} (f : A0 → A1 → A2 → A3 → A4 → A5 → A6 → A7 → Option B) : A0 × A1 × A2 × A3 × A4 × A5 × A6 × A7 → Option B := fun q => f q.1 q.2.1 q.2.2.1 q.2.2.2.1 q.2.2.2.2.1 q.2.2.2.2.2.1 q.2.2.2.2.2.2.1 q.2.2.2.2.2.2.2
theorem zel8 {A0 A1 A2 A3 A4 A5 A6 A7 B R : Type} {F : R → Option B} {f : A0 → A1 → A2 → A3 → A4 → A5 → A6 → A7 → Option B} {r : B} {x0 : A0} {x1 : A1} {x2 : A2} {x3 : A3} {x4 : A4} {x5 : A5} {x6 : A6} {x7 : A7} (h : Sum.elim F (zq8 f) (.inr (x0, x1, x2, x3, x4, x5, x6, x7)) = some r) : f x0 x1 x2 x3 x4 x5 x6 x7 = some r := h
def zb9 {A0 A1 A2 A3 A4 A5 A6 A7 A8 B : Type} (x : Option (A0 × A1 × A2 × A3 × A4 × A5 × A6 × A7 × A8)) (f : A0 → A1 → A2 → A3 → A4 → A5 → A6 → A7 → A8 → Option B) : Option B := x.bind fun q => f q.1 q.2.1 q.2.2.1 q.2.2.2.1 q.2.2.2.2.1 q.2.2.2.2.2.1 q.2.2.2.2.2.2.1 q.2.2.2.2.2.2.2.1 q.2.2.2.2.2.2.2.2
theorem zinv9 {A0 A1 A2 A3 A4 A5 A6 A7 A8 B : Type} {x : Option (A0 × A1 × A2 × A3 × A4 × A5 × A6 × A7 × A8)} {f : A0 → A1 → A2 → A3 → A4 → A5 → A6 → A7 → A8 → Option B} {r : B} (h : zb9 x f = some r) : ∃ x0 x1 x2 x3 x4 x5 x6 x7 x8, x = some (x0, x1, x2, x3, x4, x5, x6, x7, x8) ∧ f x0 x1 x2 x3 x4 x5 x6 x7 x8 = some r := by
  obtain ⟨q, h1, h2⟩ := zinv h
  exact ⟨q.1, q.2.1, q.2.2.1, q.2.2.2.1, q.2.2.2.2.1, q.2.2.2.2.2.1, q.2.2.2.2.2.2.1, q.2.2.2.2.2.2.2.1, q.2.2.2.2.2.2.2.2, h1, h2⟩
theorem zb9_some {A0 A1 A2 A3 A4 A5 A6 A7 A8 B : Type} {f : A0 → A1 → A2 → A3 → A4 → A5 → A6 → A7 → A8 → Option B} (x0 : A0) (x1 : A1) (x2 : A2) (x3 : A3) (x4 : A4) (x5 : A5) (x6 : A6) (x7 : A7) (x8 : A8) : zb9 (some (x0, x1, x2, x3, x4, x5, x6, x7, x8)) f = f x0 x1 x2 x3 x4 x5 x6 x7 x8 := rfl
def zq9 {A0 A1 A2 A3 A4 A5 A6 A7 A8 B : Type} (f : A0 → A1 → A2 → A3 → A4 → A5 → A6 → A7 → A8 → Option B) : A0 × A1 × A2 × A3 × A4 × A5 × A6 × A7 × A8 → Option B := fun q => f q.1 q.2.1 q.2.2.1 q.2.2.2.1 q.2.2.2.2.1 q.2.2.2.2.2.1 q.2.2.2.2.2.2.1 q.2.2.2.2.2.2.2.1 q.2.2.2.2.2.2.2.2
theorem zel9 {A0 A1 A2 A3 A4 A5 A6 A7 A8 B R : Type} {F : R → Option B} {f : A0 → A1 → A2 → A3 → A4 → A5 → A6 → A7 → A8 → Option B} {r : B} {x0 : A0} {x1 : A1} {x2 : A2} {x3 : A3} {x4 : A4} {x5 : A5} {x6 : A6} {x7 : A7} {x8 : A8} (h : Sum.elim F (zq9 f) (.inr (x0, x1, x2, x3, x4, x5, x6, x7, x8)) = some r) : f x0 x1 x2 x3 x4 x5 x6 x7 x8 = some r := h
def zq1 {A B : Type} (f : A → Option B) : A → Option B := f
theorem zel1 {A B R : Type} {F : R → Option B} {f : A → Option B} {r : B} {a : A} (h : Sum.elim F (zq1 f) (.inr a) = some r) : f a = some r := h
def zgo {σ ρ : Type} (body : σ → Option (σ ⊕ ρ)) (n : Nat) (r : ρ) : σ ⊕ ρ → Prop
  | .inl x => zloop body n x = some r
  | .inr q => q = r
theorem zloop_inv {σ ρ : Type} {body : σ → Option (σ ⊕ ρ)} {n : Nat} {x : σ} {r : ρ} (h : zloop body (n + 1) x = some r) : ∃ y, body x = some y ∧ zgo body n r y := by
  obtain ⟨y, h1, h2⟩ := zinv h
  refine ⟨y, h1, ?_⟩
  cases y with
  | inl a => exact h2
  | inr a => exact Option.some.inj h2
theorem rI_lt {n : Nat} {i : Int32} {j : Nat} (h : rI n i = some j) : j < n := by
  obtain ⟨h1, h2⟩ := rI_in h
  rw [← h2]
  exact Nat.not_le.mp fun q => h1 (Or.inr q)
abbrev zT0 (Sh : zSh) (top : Nat) : zTt := (Sh, top, 0, 0)
abbrev zrm (f n : Nat) : Room := { frames := f, cells := 0, slots := 0, locals := n }

theorem ceq_of {x y : Int32} (h : ceq x y = true) : x = y := of_decide_eq_true h
theorem zne {x y : Int32} {k : Int} (h : ceq x y = false) (hk : y.toInt = k) : x.toInt ≠ k := fun e => (of_decide_eq_false h) (Int32.toInt_inj.mp (e.trans hk.symm))
def zsw (dflt lo hi : Int) (offs : Array Int) (x : Int32) : Int := if x.toInt < lo ∨ hi < x.toInt then dflt else offs.getD (x.toInt - lo).toNat dflt
theorem zsw_out {dflt lo hi : Int} {offs : Array Int} {x : Int32} (h : x.toInt < lo ∨ hi < x.toInt) : zsw dflt lo hi offs x = dflt := if_pos h
theorem zci {Sh : zSh} {a ci k0 : Nat} (h : (Sh a).1 = ci + 7) (h1 : ci < 50) (h2 : k0 < 100) : ci < 50 ∧ k0 < 100 ∧ ∀ ci' k', 100 * ci' + k' = 100 * ci + k0 → (Sh a).1 = ci' + 7 → ci' = ci ∧ k' = k0 := ⟨h1, h2, fun ci' k' e h3 => by omega⟩
section zMore
variable {K : zKd} {X : zCx} {cc : ByteArray} {own : String} {T : zTt} {μ μ' : zM} {pc pc' tgt : Nat} {lv lv' : List (Nat × Value)} {st : List Value} {rv : Room} {nv : Nat} {Sh : zSh} {top : Nat}
theorem z_table (fx : zFix X cc own rv nv) {x : Int32} {dflt lo hi off : Int} {offs : Array Int} {len : Nat} (d : decode cc pc = .ok (.tableswitch dflt lo hi offs, len)) (hs : zsw dflt lo hi offs x = off ∧ offs.size = (hi - lo + 1).toNat) (ht : (pc : Int) + off = (tgt : Int)) (k : zZ K X T μ tgt lv st) : zZ K X T μ pc lv (.int x :: st) := by
  obtain ⟨p, l, e, R, s, m, args, below, meth, c, nL, Q, D⟩ := X
  obtain ⟨hx, hb, hml, hown, hts, hlk, hK, hTx, hbs, hR, hnv⟩ := fx
  intro H locs ls h1 h2 h3 h4
  obtain ⟨hs, hz⟩ := hs
  unfold zsw at hs
  by_cases h : x.toInt < lo ∨ hi < x.toInt
  · rw [if_pos h] at hs
    subst hs
    exact lv_tableOut hx hb d h ht (k H locs ls h1 h2 h3 h4)
  · rw [if_neg h] at hs
    have hl : (x.toInt - lo).toNat < offs.size := by omega
    refine lv_tableIn (off := off) hx hb d (fun q => h (Or.inl q)) (fun q => h (Or.inr q)) ?_ ht (k H locs ls h1 h2 h3 h4)
    rw [← hs]
    simp [Array.getD, hl]
theorem z_lookup (fx : zFix X cc own rv nv) {x : Int32} {dflt off : Int} {ps : Array (Int × Int)} {len : Nat} (d : decode cc pc = .ok (.lookupswitch dflt ps, len)) (hs : Op.lookupswitch.offset ps.toList dflt x.toInt = off ∧ (ps.toList.zip (ps.toList.drop 1)).all (fun (a, next) => a.1 < next.1) = true) (ht : (pc : Int) + off = (tgt : Int)) (k : zZ K X T μ tgt lv st) : zZ K X T μ pc lv (.int x :: st) := by
  obtain ⟨p, l, e, R, s, m, args, below, meth, c, nL, Q, D⟩ := X
  obtain ⟨hx, hb, hml, hown, hts, hlk, hK, hTx, hbs, hR, hnv⟩ := fx
  intro H locs ls h1 h2 h3 h4
  exact lv_lookup hx hb d hs.2 hs.1 ht (k H locs ls h1 h2 h3 h4)
/-- an instance method that can be called -/
def zMv (y : MethodName) (cc : ByteArray) (maxL : Nat) (ret : Option FieldType) (n ci : Nat) : Prop := zMw y cc maxL ret n ∧ Cond.instanceMethod y ∈ zTb ∧ Cond.selects y.cls y y ∈ zTb ∧ (zcl[ci]?).map (fun q => q.1) = some y.cls
def zMs (y : MethodName) (cc : ByteArray) (maxL : Nat) (ret : Option FieldType) (n : Nat) : Prop := zMw y cc maxL ret n ∧ Cond.static y ∈ zTb
def zRb (rm rv : Room) (maxL : Nat) : Bool := Nat.beq rm.cells 0 && Nat.beq rm.slots 0 && Nat.ble (rm.frames + 1) rv.frames && Nat.ble (8 + (maxL + 11) + rm.locals) rv.locals
theorem zRb_of {rm rv : Room} {maxL : Nat} (h : zRb rm rv maxL = true) : zRoom rm rv maxL 0 0 (zT0 Sh top) := by
  simp only [zRb, Bool.and_eq_true] at h
  obtain ⟨⟨⟨h1, h2⟩, h3⟩, h4⟩ := h
  exact ⟨Nat.eq_of_beq_eq_true h1, Nat.eq_of_beq_eq_true h2, Nat.le_of_ble_eq_true h3, Nat.le_of_ble_eq_true h4, Nat.zero_le _, Nat.zero_le _⟩
theorem z_cVv (fx : zFix X cc own rv nv) {y : MethodName} {cc' : ByteArray} {maxL : Nat} {ret : Option FieldType} {rm : Room} {As rest : List Value} {b i n ci : Nat}
    (hM : zMet (zLo X) (zDo X) K y cc' maxL ret rm (.ref b :: As) Sh top μ none Sh top μ' 0 0) (hw : zMv y cc' maxL ret n ci) (hl : Cond.methodLink own i y ∈ zTb) (hb : (Sh b).1 = ci + 7) (hn : Nat.beq As.length n = true) (hr : zRb rm rv maxL = true) (hst : st = As.reverse ++ .ref b :: rest) (hcat : Nat.ble (rest.map fun v => v.category).sum 8 = true)
    (d : zd cc pc (.invokevirtual i) 3 pc') (k : zZ K X (zT0 Sh top) μ' pc' lv rest) : zZ K X (zT0 Sh top) μ pc lv st :=
  z_callV fx rest hM hw.1 hw.2.1 hw.2.2.1 hl hw.2.2.2 hb (Nat.eq_of_beq_eq_true hn) (zRb_of hr) hst (Nat.le_of_ble_eq_true hcat) d k
theorem z_cVr (fx : zFix X cc own rv nv) {y : MethodName} {cc' : ByteArray} {maxL : Nat} {ret : Option FieldType} {rm : Room} {As rest : List Value} {b i n ci : Nat} {v : Value}
    (hM : zMet (zLo X) (zDo X) K y cc' maxL ret rm (.ref b :: As) Sh top μ (some v) Sh top μ' 0 0) (hw : zMv y cc' maxL ret n ci) (hl : Cond.methodLink own i y ∈ zTb) (hb : (Sh b).1 = ci + 7) (hn : Nat.beq As.length n = true) (hr : zRb rm rv maxL = true) (hst : st = As.reverse ++ .ref b :: rest) (hcat : Nat.ble (rest.map fun v => v.category).sum 8 = true)
    (d : zd cc pc (.invokevirtual i) 3 pc') (k : zZ K X (zT0 Sh top) μ' pc' lv (v :: rest)) : zZ K X (zT0 Sh top) μ pc lv st :=
  z_callV fx rest hM hw.1 hw.2.1 hw.2.2.1 hl hw.2.2.2 hb (Nat.eq_of_beq_eq_true hn) (zRb_of hr) hst (Nat.le_of_ble_eq_true hcat) d k
theorem z_cSv (fx : zFix X cc own rv nv) {y : MethodName} {cc' : ByteArray} {maxL : Nat} {ret : Option FieldType} {rm : Room} {As rest : List Value} {i n : Nat}
    (hM : zMet (zLo X) (zDo X) K y cc' maxL ret rm As Sh top μ none Sh top μ' 0 0) (hw : zMs y cc' maxL ret n) (hl : Cond.methodLink own i y ∈ zTb) (hn : Nat.beq As.length n = true) (hr : zRb rm rv maxL = true) (hst : st = As.reverse ++ rest) (hcat : Nat.ble (rest.map fun v => v.category).sum 8 = true)
    (d : zd cc pc (.invokestatic i) 3 pc') (k : zZ K X (zT0 Sh top) μ' pc' lv rest) : zZ K X (zT0 Sh top) μ pc lv st :=
  z_callS fx rest hM hw.1 hw.2 hl (Nat.eq_of_beq_eq_true hn) (zRb_of hr) hst (Nat.le_of_ble_eq_true hcat) d k
theorem z_cSr (fx : zFix X cc own rv nv) {y : MethodName} {cc' : ByteArray} {maxL : Nat} {ret : Option FieldType} {rm : Room} {As rest : List Value} {i n : Nat} {v : Value}
    (hM : zMet (zLo X) (zDo X) K y cc' maxL ret rm As Sh top μ (some v) Sh top μ' 0 0) (hw : zMs y cc' maxL ret n) (hl : Cond.methodLink own i y ∈ zTb) (hn : Nat.beq As.length n = true) (hr : zRb rm rv maxL = true) (hst : st = As.reverse ++ rest) (hcat : Nat.ble (rest.map fun v => v.category).sum 8 = true)
    (d : zd cc pc (.invokestatic i) 3 pc') (k : zZ K X (zT0 Sh top) μ' pc' lv (v :: rest)) : zZ K X (zT0 Sh top) μ pc lv st :=
  z_callS fx rest hM hw.1 hw.2 hl (Nat.eq_of_beq_eq_true hn) (zRb_of hr) hst (Nat.le_of_ble_eq_true hcat) d k
theorem z_alenX (fx : zFix X cc own rv nv) {a n : Nat} (t : Nat) (ht : t < 4) (hs : T.1 a = (t + 3, n)) (d : zd cc pc .arraylength 1 pc') (k : zZ K X T μ pc' lv (.int (Int32.ofNat n) :: st)) : zZ K X T μ pc lv (.ref a :: st) := by
  obtain ⟨d, rfl⟩ := d
  obtain ⟨p, l, e, R, s, m, args, below, meth, c, nL, Q, D⟩ := X
  obtain ⟨hx, hb, hml, hown, hts, hlk, hK, hTx, hbs, hR, hnv⟩ := fx
  intro H locs ls h1 h2 h3 h4
  match t, ht, hs with
  | 0, _, hs => exact W.alen hx hb (zat h1 hs) ((hK.2 2 _ rfl).1 n (zx K μ 0 a)) (by rw [arrV_size]) rfl rfl d (k H locs ls h1 h2 h3 h4)
  | 1, _, hs => exact W.alen hx hb (zat h1 hs) ((hK.2 3 _ rfl).1 n (zx K μ 1 a)) (by rw [arrV_size]) rfl rfl d (k H locs ls h1 h2 h3 h4)
  | 2, _, hs => exact W.alen hx hb (zat h1 hs) ((hK.2 4 _ rfl).1 n (zx K μ 2 a)) (by rw [arrV_size]) rfl rfl d (k H locs ls h1 h2 h3 h4)
  | 3, _, hs => exact W.alen hx hb (zat h1 hs) ((hK.2 5 _ rfl).1 n (zx K μ 3 a)) (by rw [arrV_size]) rfl rfl d (k H locs ls h1 h2 h3 h4)
end zMore
/-- addresses of the texts -/
def zSa (D : zDt) (i : Nat) : Nat := D.2.2.2.1 i

/-! what a field is: kind and distance (by program, out of the constructors) -/
def zKl : List (List (Nat × Nat)) := [[(0, 0), (2, 1), (2, 2), (1, 0), (1, 0), (0, 0), (0, 0), (0, 0), (0, 0)],
  [(2, 1), (2, 2), (2, 3), (2, 4), (2, 5), (2, 6), (2, 7), (0, 0), (0, 0), (0, 0)],
  [(2, 1), (2, 2), (0, 0), (1, 0), (0, 0), (0, 0), (1, 0)],
  [(2, 1), (1, 0), (0, 0), (1, 0), (0, 0), (0, 0)],
  [(2, 1), (1, 0), (0, 0), (0, 0), (0, 0), (0, 0), (0, 0), (0, 0), (0, 0), (1, 0), (1, 0), (1, 0), (1, 0), (1, 0), (1, 0)],
  [(2, 1), (3, 48), (0, 0), (0, 0), (0, 0), (0, 0), (0, 0), (0, 0), (0, 0), (4, 17)],
  [(2, 1), (2, 2)],
  [(2, 1), (2, 2), (2, 3), (0, 0), (0, 0), (0, 0), (0, 0), (0, 0), (0, 0)],
  [(2, 1), (2, 2), (2, 3), (2, 4), (2, 5), (2, 6), (2, 7), (2, 8), (2, 9), (2, 10), (2, 11), (2, 12), (4, 17), (0, 0), (0, 0), (0, 0), (0, 0), (1, 0)],
  [(0, 0), (0, 0), (0, 0), (0, 0)],
  [(2, 1), (2, 2), (2, 3), (2, 4), (2, 5), (2, 6), (2, 7), (2, 8), (2, 9), (2, 10), (2, 11), (2, 12), (1, 0), (0, 0), (0, 0), (0, 0), (0, 0), (0, 0)],
  [(2, 1), (2, 49), (2, 312), (2, 51), (2, 2), (2, 3), (2, 11), (2, 14), (2, 17), (2, 21), (2, 22), (4, 17), (4, 17), (0, 0), (0, 0), (0, 0), (0, 0), (0, 0)],
  [(0, 0), (0, 0), (0, 0), (0, 0), (0, 0), (0, 0), (2, 1), (2, 2), (2, 3), (2, 4), (2, 5), (2, 6), (2, 7), (2, 8), (2, 9), (2, 10), (2, 11), (0, 0), (0, 0), (0, 0), (0, 0), (0, 0), (2, 12), (2, 13), (2, 14), (2, 15), (2, 16), (2, 17), (2, 18), (2, 19), (2, 20), (2, 21), (0, 0), (2, 22), (0, 0), (0, 0), (0, 0), (0, 0), (0, 0), (0, 0), (0, 0), (2, 23), (2, 24), (2, 25), (0, 0), (0, 0), (1, 0), (2, 26), (2, 27), (2, 28), (2, 29), (2, 30), (0, 0), (0, 0), (2, 31), (2, 32), (2, 33), (2, 34), (2, 35), (0, 0), (1, 0), (0, 0), (0, 0), (0, 0), (0, 0), (2, 36), (0, 0)]]
def zK1 : zKd := (fun ci k => (zKl.getD ci []).getD k (0, 0), fun t => if t = 0 then (1, 12, 3) else if t = 1 then (1, 35, 2) else if t = 2 then (1, 90, 2) else (0, 15, 0))
theorem fk0_0 : zK1.1 0 0 = (0, 0) := rfl
theorem fk0_1 : zK1.1 0 1 = (2, 1) := rfl
theorem fk0_2 : zK1.1 0 2 = (2, 2) := rfl
theorem fk0_3 : zK1.1 0 3 = (1, 0) := rfl
theorem fp0_3 : zFk zK1 0 3 1 .boolean := ⟨rfl, rfl, fun q h => by cases h; rfl⟩
theorem fk0_4 : zK1.1 0 4 = (1, 0) := rfl
theorem fp0_4 : zFk zK1 0 4 1 .boolean := ⟨rfl, rfl, fun q h => by cases h; rfl⟩
theorem fk0_5 : zK1.1 0 5 = (0, 0) := rfl
theorem fp0_5 : zFk zK1 0 5 0 .int := ⟨rfl, rfl, fun q h => by cases h; rfl⟩
theorem fk0_6 : zK1.1 0 6 = (0, 0) := rfl
theorem fp0_6 : zFk zK1 0 6 0 .int := ⟨rfl, rfl, fun q h => by cases h; rfl⟩
theorem fk0_7 : zK1.1 0 7 = (0, 0) := rfl
theorem fp0_7 : zFk zK1 0 7 0 .int := ⟨rfl, rfl, fun q h => by cases h; rfl⟩
theorem fk0_8 : zK1.1 0 8 = (0, 0) := rfl
theorem fp0_8 : zFk zK1 0 8 0 .int := ⟨rfl, rfl, fun q h => by cases h; rfl⟩
theorem fk1_0 : zK1.1 1 0 = (2, 1) := rfl
theorem fk1_1 : zK1.1 1 1 = (2, 2) := rfl
theorem fk1_2 : zK1.1 1 2 = (2, 3) := rfl
theorem fk1_3 : zK1.1 1 3 = (2, 4) := rfl
theorem fk1_4 : zK1.1 1 4 = (2, 5) := rfl
theorem fk1_5 : zK1.1 1 5 = (2, 6) := rfl
theorem fk1_6 : zK1.1 1 6 = (2, 7) := rfl
theorem fk1_7 : zK1.1 1 7 = (0, 0) := rfl
theorem fp1_7 : zFk zK1 1 7 0 .int := ⟨rfl, rfl, fun q h => by cases h; rfl⟩
theorem fk1_8 : zK1.1 1 8 = (0, 0) := rfl
theorem fp1_8 : zFk zK1 1 8 0 .int := ⟨rfl, rfl, fun q h => by cases h; rfl⟩
theorem fk1_9 : zK1.1 1 9 = (0, 0) := rfl
theorem fp1_9 : zFk zK1 1 9 0 .int := ⟨rfl, rfl, fun q h => by cases h; rfl⟩
theorem fk2_0 : zK1.1 2 0 = (2, 1) := rfl
theorem fk2_1 : zK1.1 2 1 = (2, 2) := rfl
theorem fk2_2 : zK1.1 2 2 = (0, 0) := rfl
theorem fp2_2 : zFk zK1 2 2 0 .int := ⟨rfl, rfl, fun q h => by cases h; rfl⟩
theorem fk2_3 : zK1.1 2 3 = (1, 0) := rfl
theorem fp2_3 : zFk zK1 2 3 1 .boolean := ⟨rfl, rfl, fun q h => by cases h; rfl⟩
theorem fk2_4 : zK1.1 2 4 = (0, 0) := rfl
theorem fp2_4 : zFk zK1 2 4 0 .int := ⟨rfl, rfl, fun q h => by cases h; rfl⟩
theorem fk2_5 : zK1.1 2 5 = (0, 0) := rfl
theorem fp2_5 : zFk zK1 2 5 0 .int := ⟨rfl, rfl, fun q h => by cases h; rfl⟩
theorem fk2_6 : zK1.1 2 6 = (1, 0) := rfl
theorem fp2_6 : zFk zK1 2 6 1 .boolean := ⟨rfl, rfl, fun q h => by cases h; rfl⟩
theorem fk3_0 : zK1.1 3 0 = (2, 1) := rfl
theorem fk3_1 : zK1.1 3 1 = (1, 0) := rfl
theorem fp3_1 : zFk zK1 3 1 1 .boolean := ⟨rfl, rfl, fun q h => by cases h; rfl⟩
theorem fk3_2 : zK1.1 3 2 = (0, 0) := rfl
theorem fp3_2 : zFk zK1 3 2 0 .int := ⟨rfl, rfl, fun q h => by cases h; rfl⟩
theorem fk3_3 : zK1.1 3 3 = (1, 0) := rfl
theorem fp3_3 : zFk zK1 3 3 1 .boolean := ⟨rfl, rfl, fun q h => by cases h; rfl⟩
theorem fk3_4 : zK1.1 3 4 = (0, 0) := rfl
theorem fp3_4 : zFk zK1 3 4 0 .int := ⟨rfl, rfl, fun q h => by cases h; rfl⟩
theorem fk3_5 : zK1.1 3 5 = (0, 0) := rfl
theorem fp3_5 : zFk zK1 3 5 0 .int := ⟨rfl, rfl, fun q h => by cases h; rfl⟩
theorem fk4_0 : zK1.1 4 0 = (2, 1) := rfl
theorem fk4_1 : zK1.1 4 1 = (1, 0) := rfl
theorem fp4_1 : zFk zK1 4 1 1 .boolean := ⟨rfl, rfl, fun q h => by cases h; rfl⟩
theorem fk4_2 : zK1.1 4 2 = (0, 0) := rfl
theorem fp4_2 : zFk zK1 4 2 0 .int := ⟨rfl, rfl, fun q h => by cases h; rfl⟩
theorem fk4_3 : zK1.1 4 3 = (0, 0) := rfl
theorem fp4_3 : zFk zK1 4 3 0 .int := ⟨rfl, rfl, fun q h => by cases h; rfl⟩
theorem fk4_4 : zK1.1 4 4 = (0, 0) := rfl
theorem fp4_4 : zFk zK1 4 4 0 .int := ⟨rfl, rfl, fun q h => by cases h; rfl⟩
theorem fk4_5 : zK1.1 4 5 = (0, 0) := rfl
theorem fp4_5 : zFk zK1 4 5 0 .int := ⟨rfl, rfl, fun q h => by cases h; rfl⟩
theorem fk4_6 : zK1.1 4 6 = (0, 0) := rfl
theorem fp4_6 : zFk zK1 4 6 0 .int := ⟨rfl, rfl, fun q h => by cases h; rfl⟩
theorem fk4_7 : zK1.1 4 7 = (0, 0) := rfl
theorem fp4_7 : zFk zK1 4 7 0 .int := ⟨rfl, rfl, fun q h => by cases h; rfl⟩
theorem fk4_8 : zK1.1 4 8 = (0, 0) := rfl
theorem fp4_8 : zFk zK1 4 8 0 .int := ⟨rfl, rfl, fun q h => by cases h; rfl⟩
theorem fk4_9 : zK1.1 4 9 = (1, 0) := rfl
theorem fp4_9 : zFk zK1 4 9 1 .boolean := ⟨rfl, rfl, fun q h => by cases h; rfl⟩
theorem fk4_10 : zK1.1 4 10 = (1, 0) := rfl
theorem fp4_10 : zFk zK1 4 10 1 .boolean := ⟨rfl, rfl, fun q h => by cases h; rfl⟩
theorem fk4_11 : zK1.1 4 11 = (1, 0) := rfl
theorem fp4_11 : zFk zK1 4 11 1 .boolean := ⟨rfl, rfl, fun q h => by cases h; rfl⟩
theorem fk4_12 : zK1.1 4 12 = (1, 0) := rfl
theorem fp4_12 : zFk zK1 4 12 1 .boolean := ⟨rfl, rfl, fun q h => by cases h; rfl⟩
theorem fk4_13 : zK1.1 4 13 = (1, 0) := rfl
theorem fp4_13 : zFk zK1 4 13 1 .boolean := ⟨rfl, rfl, fun q h => by cases h; rfl⟩
theorem fk4_14 : zK1.1 4 14 = (1, 0) := rfl
theorem fp4_14 : zFk zK1 4 14 1 .boolean := ⟨rfl, rfl, fun q h => by cases h; rfl⟩
theorem fk5_0 : zK1.1 5 0 = (2, 1) := rfl
theorem fk5_1 : zK1.1 5 1 = (3, 48) := rfl
theorem fk5_2 : zK1.1 5 2 = (0, 0) := rfl
theorem fp5_2 : zFk zK1 5 2 0 .int := ⟨rfl, rfl, fun q h => by cases h; rfl⟩
theorem fk5_3 : zK1.1 5 3 = (0, 0) := rfl
theorem fp5_3 : zFk zK1 5 3 0 .int := ⟨rfl, rfl, fun q h => by cases h; rfl⟩
theorem fk5_4 : zK1.1 5 4 = (0, 0) := rfl
theorem fp5_4 : zFk zK1 5 4 0 .int := ⟨rfl, rfl, fun q h => by cases h; rfl⟩
theorem fk5_5 : zK1.1 5 5 = (0, 0) := rfl
theorem fp5_5 : zFk zK1 5 5 0 .int := ⟨rfl, rfl, fun q h => by cases h; rfl⟩
theorem fk5_6 : zK1.1 5 6 = (0, 0) := rfl
theorem fp5_6 : zFk zK1 5 6 0 .int := ⟨rfl, rfl, fun q h => by cases h; rfl⟩
theorem fk5_7 : zK1.1 5 7 = (0, 0) := rfl
theorem fp5_7 : zFk zK1 5 7 0 .int := ⟨rfl, rfl, fun q h => by cases h; rfl⟩
theorem fk5_8 : zK1.1 5 8 = (0, 0) := rfl
theorem fp5_8 : zFk zK1 5 8 0 .int := ⟨rfl, rfl, fun q h => by cases h; rfl⟩
theorem fk5_9 : zK1.1 5 9 = (4, 17) := rfl
theorem fp5_9 : zFk zK1 5 9 4 (.object RX10) := ⟨rfl, rfl, fun q h => by cases h; rfl⟩
theorem fk6_0 : zK1.1 6 0 = (2, 1) := rfl
theorem fk6_1 : zK1.1 6 1 = (2, 2) := rfl
theorem fk7_0 : zK1.1 7 0 = (2, 1) := rfl
theorem fk7_1 : zK1.1 7 1 = (2, 2) := rfl
theorem fk7_2 : zK1.1 7 2 = (2, 3) := rfl
theorem fk7_3 : zK1.1 7 3 = (0, 0) := rfl
theorem fp7_3 : zFk zK1 7 3 0 .int := ⟨rfl, rfl, fun q h => by cases h; rfl⟩
theorem fk7_4 : zK1.1 7 4 = (0, 0) := rfl
theorem fp7_4 : zFk zK1 7 4 0 .int := ⟨rfl, rfl, fun q h => by cases h; rfl⟩
theorem fk7_5 : zK1.1 7 5 = (0, 0) := rfl
theorem fp7_5 : zFk zK1 7 5 0 .int := ⟨rfl, rfl, fun q h => by cases h; rfl⟩
theorem fk7_6 : zK1.1 7 6 = (0, 0) := rfl
theorem fp7_6 : zFk zK1 7 6 0 .int := ⟨rfl, rfl, fun q h => by cases h; rfl⟩
theorem fk7_7 : zK1.1 7 7 = (0, 0) := rfl
theorem fp7_7 : zFk zK1 7 7 0 .int := ⟨rfl, rfl, fun q h => by cases h; rfl⟩
theorem fk7_8 : zK1.1 7 8 = (0, 0) := rfl
theorem fp7_8 : zFk zK1 7 8 0 .int := ⟨rfl, rfl, fun q h => by cases h; rfl⟩
theorem fk8_0 : zK1.1 8 0 = (2, 1) := rfl
theorem fk8_1 : zK1.1 8 1 = (2, 2) := rfl
theorem fk8_2 : zK1.1 8 2 = (2, 3) := rfl
theorem fk8_3 : zK1.1 8 3 = (2, 4) := rfl
theorem fk8_4 : zK1.1 8 4 = (2, 5) := rfl
theorem fk8_5 : zK1.1 8 5 = (2, 6) := rfl
theorem fk8_6 : zK1.1 8 6 = (2, 7) := rfl
theorem fk8_7 : zK1.1 8 7 = (2, 8) := rfl
theorem fk8_8 : zK1.1 8 8 = (2, 9) := rfl
theorem fk8_9 : zK1.1 8 9 = (2, 10) := rfl
theorem fk8_10 : zK1.1 8 10 = (2, 11) := rfl
theorem fk8_11 : zK1.1 8 11 = (2, 12) := rfl
theorem fk8_12 : zK1.1 8 12 = (4, 17) := rfl
theorem fp8_12 : zFk zK1 8 12 4 (.object RX10) := ⟨rfl, rfl, fun q h => by cases h; rfl⟩
theorem fk8_13 : zK1.1 8 13 = (0, 0) := rfl
theorem fp8_13 : zFk zK1 8 13 0 .int := ⟨rfl, rfl, fun q h => by cases h; rfl⟩
theorem fk8_14 : zK1.1 8 14 = (0, 0) := rfl
theorem fp8_14 : zFk zK1 8 14 0 .int := ⟨rfl, rfl, fun q h => by cases h; rfl⟩
theorem fk8_15 : zK1.1 8 15 = (0, 0) := rfl
theorem fp8_15 : zFk zK1 8 15 0 .int := ⟨rfl, rfl, fun q h => by cases h; rfl⟩
theorem fk8_16 : zK1.1 8 16 = (0, 0) := rfl
theorem fp8_16 : zFk zK1 8 16 0 .int := ⟨rfl, rfl, fun q h => by cases h; rfl⟩
theorem fk8_17 : zK1.1 8 17 = (1, 0) := rfl
theorem fp8_17 : zFk zK1 8 17 1 .boolean := ⟨rfl, rfl, fun q h => by cases h; rfl⟩
theorem fk9_0 : zK1.1 9 0 = (0, 0) := rfl
theorem fp9_0 : zFk zK1 9 0 0 .int := ⟨rfl, rfl, fun q h => by cases h; rfl⟩
theorem fk9_1 : zK1.1 9 1 = (0, 0) := rfl
theorem fp9_1 : zFk zK1 9 1 0 .int := ⟨rfl, rfl, fun q h => by cases h; rfl⟩
theorem fk9_2 : zK1.1 9 2 = (0, 0) := rfl
theorem fp9_2 : zFk zK1 9 2 0 .int := ⟨rfl, rfl, fun q h => by cases h; rfl⟩
theorem fk9_3 : zK1.1 9 3 = (0, 0) := rfl
theorem fp9_3 : zFk zK1 9 3 0 .int := ⟨rfl, rfl, fun q h => by cases h; rfl⟩
theorem fk10_0 : zK1.1 10 0 = (2, 1) := rfl
theorem fk10_1 : zK1.1 10 1 = (2, 2) := rfl
theorem fk10_2 : zK1.1 10 2 = (2, 3) := rfl
theorem fk10_3 : zK1.1 10 3 = (2, 4) := rfl
theorem fk10_4 : zK1.1 10 4 = (2, 5) := rfl
theorem fk10_5 : zK1.1 10 5 = (2, 6) := rfl
theorem fk10_6 : zK1.1 10 6 = (2, 7) := rfl
theorem fk10_7 : zK1.1 10 7 = (2, 8) := rfl
theorem fk10_8 : zK1.1 10 8 = (2, 9) := rfl
theorem fk10_9 : zK1.1 10 9 = (2, 10) := rfl
theorem fk10_10 : zK1.1 10 10 = (2, 11) := rfl
theorem fk10_11 : zK1.1 10 11 = (2, 12) := rfl
theorem fk10_12 : zK1.1 10 12 = (1, 0) := rfl
theorem fp10_12 : zFk zK1 10 12 1 .boolean := ⟨rfl, rfl, fun q h => by cases h; rfl⟩
theorem fk10_13 : zK1.1 10 13 = (0, 0) := rfl
theorem fp10_13 : zFk zK1 10 13 0 .int := ⟨rfl, rfl, fun q h => by cases h; rfl⟩
theorem fk10_14 : zK1.1 10 14 = (0, 0) := rfl
theorem fp10_14 : zFk zK1 10 14 0 .int := ⟨rfl, rfl, fun q h => by cases h; rfl⟩
theorem fk10_15 : zK1.1 10 15 = (0, 0) := rfl
theorem fp10_15 : zFk zK1 10 15 0 .int := ⟨rfl, rfl, fun q h => by cases h; rfl⟩
theorem fk10_16 : zK1.1 10 16 = (0, 0) := rfl
theorem fp10_16 : zFk zK1 10 16 0 .int := ⟨rfl, rfl, fun q h => by cases h; rfl⟩
theorem fk10_17 : zK1.1 10 17 = (0, 0) := rfl
theorem fp10_17 : zFk zK1 10 17 0 .int := ⟨rfl, rfl, fun q h => by cases h; rfl⟩
theorem fk11_0 : zK1.1 11 0 = (2, 1) := rfl
theorem fk11_1 : zK1.1 11 1 = (2, 49) := rfl
theorem fk11_2 : zK1.1 11 2 = (2, 312) := rfl
theorem fk11_3 : zK1.1 11 3 = (2, 51) := rfl
theorem fk11_4 : zK1.1 11 4 = (2, 2) := rfl
theorem fk11_5 : zK1.1 11 5 = (2, 3) := rfl
theorem fk11_6 : zK1.1 11 6 = (2, 11) := rfl
theorem fk11_7 : zK1.1 11 7 = (2, 14) := rfl
theorem fk11_8 : zK1.1 11 8 = (2, 17) := rfl
theorem fk11_9 : zK1.1 11 9 = (2, 21) := rfl
theorem fk11_10 : zK1.1 11 10 = (2, 22) := rfl
theorem fk11_11 : zK1.1 11 11 = (4, 17) := rfl
theorem fp11_11 : zFk zK1 11 11 4 (.object RX10) := ⟨rfl, rfl, fun q h => by cases h; rfl⟩
theorem fk11_12 : zK1.1 11 12 = (4, 17) := rfl
theorem fp11_12 : zFk zK1 11 12 4 (.object RX10) := ⟨rfl, rfl, fun q h => by cases h; rfl⟩
theorem fk11_13 : zK1.1 11 13 = (0, 0) := rfl
theorem fp11_13 : zFk zK1 11 13 0 .int := ⟨rfl, rfl, fun q h => by cases h; rfl⟩
theorem fk11_14 : zK1.1 11 14 = (0, 0) := rfl
theorem fp11_14 : zFk zK1 11 14 0 .int := ⟨rfl, rfl, fun q h => by cases h; rfl⟩
theorem fk11_15 : zK1.1 11 15 = (0, 0) := rfl
theorem fp11_15 : zFk zK1 11 15 0 .int := ⟨rfl, rfl, fun q h => by cases h; rfl⟩
theorem fk11_16 : zK1.1 11 16 = (0, 0) := rfl
theorem fp11_16 : zFk zK1 11 16 0 .int := ⟨rfl, rfl, fun q h => by cases h; rfl⟩
theorem fk11_17 : zK1.1 11 17 = (0, 0) := rfl
theorem fp11_17 : zFk zK1 11 17 0 .int := ⟨rfl, rfl, fun q h => by cases h; rfl⟩
theorem fk12_0 : zK1.1 12 0 = (0, 0) := rfl
theorem fp12_0 : zFk zK1 12 0 0 .int := ⟨rfl, rfl, fun q h => by cases h; rfl⟩
theorem fk12_1 : zK1.1 12 1 = (0, 0) := rfl
theorem fp12_1 : zFk zK1 12 1 0 .int := ⟨rfl, rfl, fun q h => by cases h; rfl⟩
theorem fk12_2 : zK1.1 12 2 = (0, 0) := rfl
theorem fp12_2 : zFk zK1 12 2 0 .int := ⟨rfl, rfl, fun q h => by cases h; rfl⟩
theorem fk12_3 : zK1.1 12 3 = (0, 0) := rfl
theorem fp12_3 : zFk zK1 12 3 0 .int := ⟨rfl, rfl, fun q h => by cases h; rfl⟩
theorem fk12_4 : zK1.1 12 4 = (0, 0) := rfl
theorem fp12_4 : zFk zK1 12 4 0 .int := ⟨rfl, rfl, fun q h => by cases h; rfl⟩
theorem fk12_5 : zK1.1 12 5 = (0, 0) := rfl
theorem fp12_5 : zFk zK1 12 5 0 .int := ⟨rfl, rfl, fun q h => by cases h; rfl⟩
theorem fk12_6 : zK1.1 12 6 = (2, 1) := rfl
theorem fk12_7 : zK1.1 12 7 = (2, 2) := rfl
theorem fk12_8 : zK1.1 12 8 = (2, 3) := rfl
theorem fk12_9 : zK1.1 12 9 = (2, 4) := rfl
theorem fk12_10 : zK1.1 12 10 = (2, 5) := rfl
theorem fk12_11 : zK1.1 12 11 = (2, 6) := rfl
theorem fk12_12 : zK1.1 12 12 = (2, 7) := rfl
theorem fk12_13 : zK1.1 12 13 = (2, 8) := rfl
theorem fk12_14 : zK1.1 12 14 = (2, 9) := rfl
theorem fk12_15 : zK1.1 12 15 = (2, 10) := rfl
theorem fk12_16 : zK1.1 12 16 = (2, 11) := rfl
theorem fk12_17 : zK1.1 12 17 = (0, 0) := rfl
theorem fp12_17 : zFk zK1 12 17 0 .int := ⟨rfl, rfl, fun q h => by cases h; rfl⟩
theorem fk12_18 : zK1.1 12 18 = (0, 0) := rfl
theorem fp12_18 : zFk zK1 12 18 0 .int := ⟨rfl, rfl, fun q h => by cases h; rfl⟩
theorem fk12_19 : zK1.1 12 19 = (0, 0) := rfl
theorem fp12_19 : zFk zK1 12 19 0 .int := ⟨rfl, rfl, fun q h => by cases h; rfl⟩
theorem fk12_20 : zK1.1 12 20 = (0, 0) := rfl
theorem fp12_20 : zFk zK1 12 20 0 .int := ⟨rfl, rfl, fun q h => by cases h; rfl⟩
theorem fk12_21 : zK1.1 12 21 = (0, 0) := rfl
theorem fp12_21 : zFk zK1 12 21 0 .int := ⟨rfl, rfl, fun q h => by cases h; rfl⟩
theorem fk12_22 : zK1.1 12 22 = (2, 12) := rfl
theorem fk12_23 : zK1.1 12 23 = (2, 13) := rfl
theorem fk12_24 : zK1.1 12 24 = (2, 14) := rfl
theorem fk12_25 : zK1.1 12 25 = (2, 15) := rfl
theorem fk12_26 : zK1.1 12 26 = (2, 16) := rfl
theorem fk12_27 : zK1.1 12 27 = (2, 17) := rfl
theorem fk12_28 : zK1.1 12 28 = (2, 18) := rfl
theorem fk12_29 : zK1.1 12 29 = (2, 19) := rfl
theorem fk12_30 : zK1.1 12 30 = (2, 20) := rfl
theorem fk12_31 : zK1.1 12 31 = (2, 21) := rfl
theorem fk12_32 : zK1.1 12 32 = (0, 0) := rfl
theorem fp12_32 : zFk zK1 12 32 0 .int := ⟨rfl, rfl, fun q h => by cases h; rfl⟩
theorem fk12_33 : zK1.1 12 33 = (2, 22) := rfl
theorem fk12_34 : zK1.1 12 34 = (0, 0) := rfl
theorem fp12_34 : zFk zK1 12 34 0 .int := ⟨rfl, rfl, fun q h => by cases h; rfl⟩
theorem fk12_35 : zK1.1 12 35 = (0, 0) := rfl
theorem fp12_35 : zFk zK1 12 35 0 .int := ⟨rfl, rfl, fun q h => by cases h; rfl⟩
theorem fk12_36 : zK1.1 12 36 = (0, 0) := rfl
theorem fp12_36 : zFk zK1 12 36 0 .int := ⟨rfl, rfl, fun q h => by cases h; rfl⟩
theorem fk12_37 : zK1.1 12 37 = (0, 0) := rfl
theorem fp12_37 : zFk zK1 12 37 0 .int := ⟨rfl, rfl, fun q h => by cases h; rfl⟩
theorem fk12_38 : zK1.1 12 38 = (0, 0) := rfl
theorem fp12_38 : zFk zK1 12 38 0 .int := ⟨rfl, rfl, fun q h => by cases h; rfl⟩
theorem fk12_39 : zK1.1 12 39 = (0, 0) := rfl
theorem fp12_39 : zFk zK1 12 39 0 .int := ⟨rfl, rfl, fun q h => by cases h; rfl⟩
theorem fk12_40 : zK1.1 12 40 = (0, 0) := rfl
theorem fp12_40 : zFk zK1 12 40 0 .int := ⟨rfl, rfl, fun q h => by cases h; rfl⟩
theorem fk12_41 : zK1.1 12 41 = (2, 23) := rfl
theorem fk12_42 : zK1.1 12 42 = (2, 24) := rfl
theorem fk12_43 : zK1.1 12 43 = (2, 25) := rfl
theorem fk12_44 : zK1.1 12 44 = (0, 0) := rfl
theorem fp12_44 : zFk zK1 12 44 0 .int := ⟨rfl, rfl, fun q h => by cases h; rfl⟩
theorem fk12_45 : zK1.1 12 45 = (0, 0) := rfl
theorem fp12_45 : zFk zK1 12 45 0 .int := ⟨rfl, rfl, fun q h => by cases h; rfl⟩
theorem fk12_46 : zK1.1 12 46 = (1, 0) := rfl
theorem fp12_46 : zFk zK1 12 46 1 .boolean := ⟨rfl, rfl, fun q h => by cases h; rfl⟩
theorem fk12_47 : zK1.1 12 47 = (2, 26) := rfl
theorem fk12_48 : zK1.1 12 48 = (2, 27) := rfl
theorem fk12_49 : zK1.1 12 49 = (2, 28) := rfl
theorem fk12_50 : zK1.1 12 50 = (2, 29) := rfl
theorem fk12_51 : zK1.1 12 51 = (2, 30) := rfl
theorem fk12_52 : zK1.1 12 52 = (0, 0) := rfl
theorem fp12_52 : zFk zK1 12 52 0 .int := ⟨rfl, rfl, fun q h => by cases h; rfl⟩
theorem fk12_53 : zK1.1 12 53 = (0, 0) := rfl
theorem fp12_53 : zFk zK1 12 53 0 .int := ⟨rfl, rfl, fun q h => by cases h; rfl⟩
theorem fk12_54 : zK1.1 12 54 = (2, 31) := rfl
theorem fk12_55 : zK1.1 12 55 = (2, 32) := rfl
theorem fk12_56 : zK1.1 12 56 = (2, 33) := rfl
theorem fk12_57 : zK1.1 12 57 = (2, 34) := rfl
theorem fk12_58 : zK1.1 12 58 = (2, 35) := rfl
theorem fk12_59 : zK1.1 12 59 = (0, 0) := rfl
theorem fp12_59 : zFk zK1 12 59 0 .int := ⟨rfl, rfl, fun q h => by cases h; rfl⟩
theorem fk12_60 : zK1.1 12 60 = (1, 0) := rfl
theorem fp12_60 : zFk zK1 12 60 1 .boolean := ⟨rfl, rfl, fun q h => by cases h; rfl⟩
theorem fk12_61 : zK1.1 12 61 = (0, 0) := rfl
theorem fp12_61 : zFk zK1 12 61 0 .int := ⟨rfl, rfl, fun q h => by cases h; rfl⟩
theorem fk12_62 : zK1.1 12 62 = (0, 0) := rfl
theorem fp12_62 : zFk zK1 12 62 0 .int := ⟨rfl, rfl, fun q h => by cases h; rfl⟩
theorem fk12_63 : zK1.1 12 63 = (0, 0) := rfl
theorem fp12_63 : zFk zK1 12 63 0 .int := ⟨rfl, rfl, fun q h => by cases h; rfl⟩
theorem fk12_64 : zK1.1 12 64 = (0, 0) := rfl
theorem fp12_64 : zFk zK1 12 64 0 .int := ⟨rfl, rfl, fun q h => by cases h; rfl⟩
theorem fk12_65 : zK1.1 12 65 = (2, 36) := rfl
theorem fk12_66 : zK1.1 12 66 = (0, 0) := rfl
theorem fp12_66 : zFk zK1 12 66 0 .int := ⟨rfl, rfl, fun q h => by cases h; rfl⟩
/-- what lies where, once there is an object -/
def zOK (Sh : zSh) : Prop := ∀ a : Nat,
  ((Sh a).1 = 7 → (Sh (a + 1)).1 = 16 ∧ (Sh (a + 2)).1 = 16) ∧
  ((Sh a).1 = 8 → Sh (a + 1) = (1, 64) ∧ Sh (a + 2) = (1, 8) ∧ Sh (a + 3) = (1, 8) ∧ Sh (a + 4) = (1, 8) ∧ Sh (a + 5) = (1, 28) ∧ (Sh (a + 6)).1 = 16 ∧ (Sh (a + 7)).1 = 16) ∧
  ((Sh a).1 = 9 → Sh (a + 1) = (1, 65) ∧ Sh (a + 2) = (1, 65)) ∧
  ((Sh a).1 = 10 → (Sh (a + 1)).1 = 16) ∧
  ((Sh a).1 = 11 → (Sh (a + 1)).1 = 16) ∧
  ((Sh a).1 = 12 → Sh (a + 1) = (1, 6) ∧ Sh (a - 48) = (1, 1600)) ∧
  ((Sh a).1 = 13 → Sh (a + 1) = (1, 8) ∧ Sh (a + 2) = (1, 8)) ∧
  ((Sh a).1 = 14 → Sh (a + 1) = (1, 48) ∧ Sh (a + 2) = (1, 15) ∧ Sh (a + 3) = (1, 420)) ∧
  ((Sh a).1 = 15 → Sh (a + 1) = (3, 8) ∧ Sh (a + 2) = (4, 28) ∧ Sh (a + 3) = (5, 84) ∧ Sh (a + 4) = (2, 14) ∧ Sh (a + 5) = (1, 8) ∧ Sh (a + 6) = (1, 64) ∧ Sh (a + 7) = (1, 64) ∧ Sh (a + 8) = (1, 160) ∧ Sh (a + 9) = (2, 8) ∧ (Sh (a + 10)).1 = 16 ∧ (Sh (a + 11)).1 = 16 ∧ (Sh (a + 12)).1 = 16) ∧
  ((Sh a).1 = 17 → Sh (a + 1) = (1, 48) ∧ Sh (a + 2) = (1, 48) ∧ Sh (a + 3) = (1, 8) ∧ Sh (a + 4) = (2, 8) ∧ Sh (a + 5) = (1, 8) ∧ Sh (a + 6) = (1, 48) ∧ Sh (a + 7) = (1, 28) ∧ Sh (a + 8) = (1, 28) ∧ Sh (a + 9) = (2, 28) ∧ Sh (a + 10) = (1, 14) ∧ Sh (a + 11) = (1, 14) ∧ Sh (a + 12) = (1, 8)) ∧
  ((Sh a).1 = 18 → Sh (a + 1) = (1, 1600) ∧ (Sh (a + 49)).1 = 12 ∧ (Sh (a + 312)).1 = 15 ∧ (Sh (a + 51)).1 = 15 ∧ Sh (a + 2) = (6, 20) ∧ (Sh (a + 3)).1 = 8 ∧ (Sh (a + 11)).1 = 13 ∧ (Sh (a + 14)).1 = 9 ∧ (Sh (a + 17)).1 = 14 ∧ Sh (a + 21) = (1, 47) ∧ Sh (a + 22) = (1, 6)) ∧
  ((Sh a).1 = 19 → Sh (a + 1) = (1, 8) ∧ Sh (a + 2) = (1, 8) ∧ Sh (a + 3) = (1, 8) ∧ Sh (a + 4) = (1, 56) ∧ Sh (a + 5) = (1, 28) ∧ Sh (a + 6) = (1, 14) ∧ Sh (a + 7) = (1, 14) ∧ Sh (a + 8) = (1, 8) ∧ Sh (a + 9) = (1, 96) ∧ Sh (a + 10) = (1, 48) ∧ Sh (a + 11) = (1, 48) ∧ Sh (a + 12) = (1, 8) ∧ Sh (a + 13) = (1, 8) ∧ Sh (a + 14) = (1, 8) ∧ Sh (a + 15) = (1, 56) ∧ Sh (a + 16) = (1, 28) ∧ Sh (a + 17) = (1, 14) ∧ Sh (a + 18) = (1, 14) ∧ Sh (a + 19) = (1, 8) ∧ Sh (a + 20) = (1, 96) ∧ Sh (a + 21) = (1, 1600) ∧ Sh (a + 22) = (1, 6) ∧ Sh (a + 23) = (1, 62) ∧ Sh (a + 24) = (1, 5748) ∧ Sh (a + 25) = (1, 57480) ∧ Sh (a + 26) = (1, 8) ∧ Sh (a + 27) = (1, 6) ∧ Sh (a + 28) = (1, 64) ∧ Sh (a + 29) = (1, 8) ∧ Sh (a + 30) = (1, 8) ∧ Sh (a + 31) = (1, 16) ∧ Sh (a + 32) = (1, 16) ∧ Sh (a + 33) = (1, 15) ∧ Sh (a + 34) = (1, 720) ∧ Sh (a + 35) = (1, 66) ∧ Sh (a + 36) = (1, 47)) ∧
  (Sh a = (3, 8) → ∀ j, j < 8 → (Sh (a + 12 + 3 * j)).1 = 7) ∧
  (Sh a = (4, 28) → ∀ j, j < 28 → (Sh (a + 35 + 2 * j)).1 = 11) ∧
  (Sh a = (5, 84) → ∀ j, j < 84 → (Sh (a + 90 + 2 * j)).1 = 10)
theorem ok0_1 {Sh : zSh} (h : zOK Sh) {a : Nat} (ha : (Sh a).1 = 7) : (Sh (a + 1)).1 = 16 := ((h a).1 ha).1
theorem ok0_2 {Sh : zSh} (h : zOK Sh) {a : Nat} (ha : (Sh a).1 = 7) : (Sh (a + 2)).1 = 16 := ((h a).1 ha).2
theorem ok1_0 {Sh : zSh} (h : zOK Sh) {a : Nat} (ha : (Sh a).1 = 8) : Sh (a + 1) = (1, 64) := ((h a).2.1 ha).1
theorem ok1_1 {Sh : zSh} (h : zOK Sh) {a : Nat} (ha : (Sh a).1 = 8) : Sh (a + 2) = (1, 8) := ((h a).2.1 ha).2.1
theorem ok1_2 {Sh : zSh} (h : zOK Sh) {a : Nat} (ha : (Sh a).1 = 8) : Sh (a + 3) = (1, 8) := ((h a).2.1 ha).2.2.1
theorem ok1_3 {Sh : zSh} (h : zOK Sh) {a : Nat} (ha : (Sh a).1 = 8) : Sh (a + 4) = (1, 8) := ((h a).2.1 ha).2.2.2.1
theorem ok1_4 {Sh : zSh} (h : zOK Sh) {a : Nat} (ha : (Sh a).1 = 8) : Sh (a + 5) = (1, 28) := ((h a).2.1 ha).2.2.2.2.1
theorem ok1_5 {Sh : zSh} (h : zOK Sh) {a : Nat} (ha : (Sh a).1 = 8) : (Sh (a + 6)).1 = 16 := ((h a).2.1 ha).2.2.2.2.2.1
theorem ok1_6 {Sh : zSh} (h : zOK Sh) {a : Nat} (ha : (Sh a).1 = 8) : (Sh (a + 7)).1 = 16 := ((h a).2.1 ha).2.2.2.2.2.2
theorem ok2_0 {Sh : zSh} (h : zOK Sh) {a : Nat} (ha : (Sh a).1 = 9) : Sh (a + 1) = (1, 65) := ((h a).2.2.1 ha).1
theorem ok2_1 {Sh : zSh} (h : zOK Sh) {a : Nat} (ha : (Sh a).1 = 9) : Sh (a + 2) = (1, 65) := ((h a).2.2.1 ha).2
theorem ok3_0 {Sh : zSh} (h : zOK Sh) {a : Nat} (ha : (Sh a).1 = 10) : (Sh (a + 1)).1 = 16 := ((h a).2.2.2.1 ha)
theorem ok4_0 {Sh : zSh} (h : zOK Sh) {a : Nat} (ha : (Sh a).1 = 11) : (Sh (a + 1)).1 = 16 := ((h a).2.2.2.2.1 ha)
theorem ok5_0 {Sh : zSh} (h : zOK Sh) {a : Nat} (ha : (Sh a).1 = 12) : Sh (a + 1) = (1, 6) := ((h a).2.2.2.2.2.1 ha).1
theorem ok5_1 {Sh : zSh} (h : zOK Sh) {a : Nat} (ha : (Sh a).1 = 12) : Sh (a - 48) = (1, 1600) := ((h a).2.2.2.2.2.1 ha).2
theorem ok6_0 {Sh : zSh} (h : zOK Sh) {a : Nat} (ha : (Sh a).1 = 13) : Sh (a + 1) = (1, 8) := ((h a).2.2.2.2.2.2.1 ha).1
theorem ok6_1 {Sh : zSh} (h : zOK Sh) {a : Nat} (ha : (Sh a).1 = 13) : Sh (a + 2) = (1, 8) := ((h a).2.2.2.2.2.2.1 ha).2
theorem ok7_0 {Sh : zSh} (h : zOK Sh) {a : Nat} (ha : (Sh a).1 = 14) : Sh (a + 1) = (1, 48) := ((h a).2.2.2.2.2.2.2.1 ha).1
theorem ok7_1 {Sh : zSh} (h : zOK Sh) {a : Nat} (ha : (Sh a).1 = 14) : Sh (a + 2) = (1, 15) := ((h a).2.2.2.2.2.2.2.1 ha).2.1
theorem ok7_2 {Sh : zSh} (h : zOK Sh) {a : Nat} (ha : (Sh a).1 = 14) : Sh (a + 3) = (1, 420) := ((h a).2.2.2.2.2.2.2.1 ha).2.2
theorem ok8_0 {Sh : zSh} (h : zOK Sh) {a : Nat} (ha : (Sh a).1 = 15) : Sh (a + 1) = (3, 8) := ((h a).2.2.2.2.2.2.2.2.1 ha).1
theorem ok8_1 {Sh : zSh} (h : zOK Sh) {a : Nat} (ha : (Sh a).1 = 15) : Sh (a + 2) = (4, 28) := ((h a).2.2.2.2.2.2.2.2.1 ha).2.1
theorem ok8_2 {Sh : zSh} (h : zOK Sh) {a : Nat} (ha : (Sh a).1 = 15) : Sh (a + 3) = (5, 84) := ((h a).2.2.2.2.2.2.2.2.1 ha).2.2.1
theorem ok8_3 {Sh : zSh} (h : zOK Sh) {a : Nat} (ha : (Sh a).1 = 15) : Sh (a + 4) = (2, 14) := ((h a).2.2.2.2.2.2.2.2.1 ha).2.2.2.1
theorem ok8_4 {Sh : zSh} (h : zOK Sh) {a : Nat} (ha : (Sh a).1 = 15) : Sh (a + 5) = (1, 8) := ((h a).2.2.2.2.2.2.2.2.1 ha).2.2.2.2.1
theorem ok8_5 {Sh : zSh} (h : zOK Sh) {a : Nat} (ha : (Sh a).1 = 15) : Sh (a + 6) = (1, 64) := ((h a).2.2.2.2.2.2.2.2.1 ha).2.2.2.2.2.1
theorem ok8_6 {Sh : zSh} (h : zOK Sh) {a : Nat} (ha : (Sh a).1 = 15) : Sh (a + 7) = (1, 64) := ((h a).2.2.2.2.2.2.2.2.1 ha).2.2.2.2.2.2.1
theorem ok8_7 {Sh : zSh} (h : zOK Sh) {a : Nat} (ha : (Sh a).1 = 15) : Sh (a + 8) = (1, 160) := ((h a).2.2.2.2.2.2.2.2.1 ha).2.2.2.2.2.2.2.1
theorem ok8_8 {Sh : zSh} (h : zOK Sh) {a : Nat} (ha : (Sh a).1 = 15) : Sh (a + 9) = (2, 8) := ((h a).2.2.2.2.2.2.2.2.1 ha).2.2.2.2.2.2.2.2.1
theorem ok8_9 {Sh : zSh} (h : zOK Sh) {a : Nat} (ha : (Sh a).1 = 15) : (Sh (a + 10)).1 = 16 := ((h a).2.2.2.2.2.2.2.2.1 ha).2.2.2.2.2.2.2.2.2.1
theorem ok8_10 {Sh : zSh} (h : zOK Sh) {a : Nat} (ha : (Sh a).1 = 15) : (Sh (a + 11)).1 = 16 := ((h a).2.2.2.2.2.2.2.2.1 ha).2.2.2.2.2.2.2.2.2.2.1
theorem ok8_11 {Sh : zSh} (h : zOK Sh) {a : Nat} (ha : (Sh a).1 = 15) : (Sh (a + 12)).1 = 16 := ((h a).2.2.2.2.2.2.2.2.1 ha).2.2.2.2.2.2.2.2.2.2.2
theorem ok10_0 {Sh : zSh} (h : zOK Sh) {a : Nat} (ha : (Sh a).1 = 17) : Sh (a + 1) = (1, 48) := ((h a).2.2.2.2.2.2.2.2.2.1 ha).1
theorem ok10_1 {Sh : zSh} (h : zOK Sh) {a : Nat} (ha : (Sh a).1 = 17) : Sh (a + 2) = (1, 48) := ((h a).2.2.2.2.2.2.2.2.2.1 ha).2.1
theorem ok10_2 {Sh : zSh} (h : zOK Sh) {a : Nat} (ha : (Sh a).1 = 17) : Sh (a + 3) = (1, 8) := ((h a).2.2.2.2.2.2.2.2.2.1 ha).2.2.1
theorem ok10_3 {Sh : zSh} (h : zOK Sh) {a : Nat} (ha : (Sh a).1 = 17) : Sh (a + 4) = (2, 8) := ((h a).2.2.2.2.2.2.2.2.2.1 ha).2.2.2.1
theorem ok10_4 {Sh : zSh} (h : zOK Sh) {a : Nat} (ha : (Sh a).1 = 17) : Sh (a + 5) = (1, 8) := ((h a).2.2.2.2.2.2.2.2.2.1 ha).2.2.2.2.1
theorem ok10_5 {Sh : zSh} (h : zOK Sh) {a : Nat} (ha : (Sh a).1 = 17) : Sh (a + 6) = (1, 48) := ((h a).2.2.2.2.2.2.2.2.2.1 ha).2.2.2.2.2.1
theorem ok10_6 {Sh : zSh} (h : zOK Sh) {a : Nat} (ha : (Sh a).1 = 17) : Sh (a + 7) = (1, 28) := ((h a).2.2.2.2.2.2.2.2.2.1 ha).2.2.2.2.2.2.1
theorem ok10_7 {Sh : zSh} (h : zOK Sh) {a : Nat} (ha : (Sh a).1 = 17) : Sh (a + 8) = (1, 28) := ((h a).2.2.2.2.2.2.2.2.2.1 ha).2.2.2.2.2.2.2.1
theorem ok10_8 {Sh : zSh} (h : zOK Sh) {a : Nat} (ha : (Sh a).1 = 17) : Sh (a + 9) = (2, 28) := ((h a).2.2.2.2.2.2.2.2.2.1 ha).2.2.2.2.2.2.2.2.1
theorem ok10_9 {Sh : zSh} (h : zOK Sh) {a : Nat} (ha : (Sh a).1 = 17) : Sh (a + 10) = (1, 14) := ((h a).2.2.2.2.2.2.2.2.2.1 ha).2.2.2.2.2.2.2.2.2.1
theorem ok10_10 {Sh : zSh} (h : zOK Sh) {a : Nat} (ha : (Sh a).1 = 17) : Sh (a + 11) = (1, 14) := ((h a).2.2.2.2.2.2.2.2.2.1 ha).2.2.2.2.2.2.2.2.2.2.1
theorem ok10_11 {Sh : zSh} (h : zOK Sh) {a : Nat} (ha : (Sh a).1 = 17) : Sh (a + 12) = (1, 8) := ((h a).2.2.2.2.2.2.2.2.2.1 ha).2.2.2.2.2.2.2.2.2.2.2
theorem ok11_0 {Sh : zSh} (h : zOK Sh) {a : Nat} (ha : (Sh a).1 = 18) : Sh (a + 1) = (1, 1600) := ((h a).2.2.2.2.2.2.2.2.2.2.1 ha).1
theorem ok11_1 {Sh : zSh} (h : zOK Sh) {a : Nat} (ha : (Sh a).1 = 18) : (Sh (a + 49)).1 = 12 := ((h a).2.2.2.2.2.2.2.2.2.2.1 ha).2.1
theorem ok11_2 {Sh : zSh} (h : zOK Sh) {a : Nat} (ha : (Sh a).1 = 18) : (Sh (a + 312)).1 = 15 := ((h a).2.2.2.2.2.2.2.2.2.2.1 ha).2.2.1
theorem ok11_3 {Sh : zSh} (h : zOK Sh) {a : Nat} (ha : (Sh a).1 = 18) : (Sh (a + 51)).1 = 15 := ((h a).2.2.2.2.2.2.2.2.2.2.1 ha).2.2.2.1
theorem ok11_4 {Sh : zSh} (h : zOK Sh) {a : Nat} (ha : (Sh a).1 = 18) : Sh (a + 2) = (6, 20) := ((h a).2.2.2.2.2.2.2.2.2.2.1 ha).2.2.2.2.1
theorem ok11_5 {Sh : zSh} (h : zOK Sh) {a : Nat} (ha : (Sh a).1 = 18) : (Sh (a + 3)).1 = 8 := ((h a).2.2.2.2.2.2.2.2.2.2.1 ha).2.2.2.2.2.1
theorem ok11_6 {Sh : zSh} (h : zOK Sh) {a : Nat} (ha : (Sh a).1 = 18) : (Sh (a + 11)).1 = 13 := ((h a).2.2.2.2.2.2.2.2.2.2.1 ha).2.2.2.2.2.2.1
theorem ok11_7 {Sh : zSh} (h : zOK Sh) {a : Nat} (ha : (Sh a).1 = 18) : (Sh (a + 14)).1 = 9 := ((h a).2.2.2.2.2.2.2.2.2.2.1 ha).2.2.2.2.2.2.2.1
theorem ok11_8 {Sh : zSh} (h : zOK Sh) {a : Nat} (ha : (Sh a).1 = 18) : (Sh (a + 17)).1 = 14 := ((h a).2.2.2.2.2.2.2.2.2.2.1 ha).2.2.2.2.2.2.2.2.1
theorem ok11_9 {Sh : zSh} (h : zOK Sh) {a : Nat} (ha : (Sh a).1 = 18) : Sh (a + 21) = (1, 47) := ((h a).2.2.2.2.2.2.2.2.2.2.1 ha).2.2.2.2.2.2.2.2.2.1
theorem ok11_10 {Sh : zSh} (h : zOK Sh) {a : Nat} (ha : (Sh a).1 = 18) : Sh (a + 22) = (1, 6) := ((h a).2.2.2.2.2.2.2.2.2.2.1 ha).2.2.2.2.2.2.2.2.2.2
theorem ok12_6 {Sh : zSh} (h : zOK Sh) {a : Nat} (ha : (Sh a).1 = 19) : Sh (a + 1) = (1, 8) := ((h a).2.2.2.2.2.2.2.2.2.2.2.1 ha).1
theorem ok12_7 {Sh : zSh} (h : zOK Sh) {a : Nat} (ha : (Sh a).1 = 19) : Sh (a + 2) = (1, 8) := ((h a).2.2.2.2.2.2.2.2.2.2.2.1 ha).2.1
theorem ok12_8 {Sh : zSh} (h : zOK Sh) {a : Nat} (ha : (Sh a).1 = 19) : Sh (a + 3) = (1, 8) := ((h a).2.2.2.2.2.2.2.2.2.2.2.1 ha).2.2.1
theorem ok12_9 {Sh : zSh} (h : zOK Sh) {a : Nat} (ha : (Sh a).1 = 19) : Sh (a + 4) = (1, 56) := ((h a).2.2.2.2.2.2.2.2.2.2.2.1 ha).2.2.2.1
theorem ok12_10 {Sh : zSh} (h : zOK Sh) {a : Nat} (ha : (Sh a).1 = 19) : Sh (a + 5) = (1, 28) := ((h a).2.2.2.2.2.2.2.2.2.2.2.1 ha).2.2.2.2.1
theorem ok12_11 {Sh : zSh} (h : zOK Sh) {a : Nat} (ha : (Sh a).1 = 19) : Sh (a + 6) = (1, 14) := ((h a).2.2.2.2.2.2.2.2.2.2.2.1 ha).2.2.2.2.2.1
theorem ok12_12 {Sh : zSh} (h : zOK Sh) {a : Nat} (ha : (Sh a).1 = 19) : Sh (a + 7) = (1, 14) := ((h a).2.2.2.2.2.2.2.2.2.2.2.1 ha).2.2.2.2.2.2.1
theorem ok12_13 {Sh : zSh} (h : zOK Sh) {a : Nat} (ha : (Sh a).1 = 19) : Sh (a + 8) = (1, 8) := ((h a).2.2.2.2.2.2.2.2.2.2.2.1 ha).2.2.2.2.2.2.2.1
theorem ok12_14 {Sh : zSh} (h : zOK Sh) {a : Nat} (ha : (Sh a).1 = 19) : Sh (a + 9) = (1, 96) := ((h a).2.2.2.2.2.2.2.2.2.2.2.1 ha).2.2.2.2.2.2.2.2.1
theorem ok12_15 {Sh : zSh} (h : zOK Sh) {a : Nat} (ha : (Sh a).1 = 19) : Sh (a + 10) = (1, 48) := ((h a).2.2.2.2.2.2.2.2.2.2.2.1 ha).2.2.2.2.2.2.2.2.2.1
theorem ok12_16 {Sh : zSh} (h : zOK Sh) {a : Nat} (ha : (Sh a).1 = 19) : Sh (a + 11) = (1, 48) := ((h a).2.2.2.2.2.2.2.2.2.2.2.1 ha).2.2.2.2.2.2.2.2.2.2.1
theorem ok12_22 {Sh : zSh} (h : zOK Sh) {a : Nat} (ha : (Sh a).1 = 19) : Sh (a + 12) = (1, 8) := ((h a).2.2.2.2.2.2.2.2.2.2.2.1 ha).2.2.2.2.2.2.2.2.2.2.2.1
theorem ok12_23 {Sh : zSh} (h : zOK Sh) {a : Nat} (ha : (Sh a).1 = 19) : Sh (a + 13) = (1, 8) := ((h a).2.2.2.2.2.2.2.2.2.2.2.1 ha).2.2.2.2.2.2.2.2.2.2.2.2.1
theorem ok12_24 {Sh : zSh} (h : zOK Sh) {a : Nat} (ha : (Sh a).1 = 19) : Sh (a + 14) = (1, 8) := ((h a).2.2.2.2.2.2.2.2.2.2.2.1 ha).2.2.2.2.2.2.2.2.2.2.2.2.2.1
theorem ok12_25 {Sh : zSh} (h : zOK Sh) {a : Nat} (ha : (Sh a).1 = 19) : Sh (a + 15) = (1, 56) := ((h a).2.2.2.2.2.2.2.2.2.2.2.1 ha).2.2.2.2.2.2.2.2.2.2.2.2.2.2.1
theorem ok12_26 {Sh : zSh} (h : zOK Sh) {a : Nat} (ha : (Sh a).1 = 19) : Sh (a + 16) = (1, 28) := ((h a).2.2.2.2.2.2.2.2.2.2.2.1 ha).2.2.2.2.2.2.2.2.2.2.2.2.2.2.2.1
theorem ok12_27 {Sh : zSh} (h : zOK Sh) {a : Nat} (ha : (Sh a).1 = 19) : Sh (a + 17) = (1, 14) := ((h a).2.2.2.2.2.2.2.2.2.2.2.1 ha).2.2.2.2.2.2.2.2.2.2.2.2.2.2.2.2.1
theorem ok12_28 {Sh : zSh} (h : zOK Sh) {a : Nat} (ha : (Sh a).1 = 19) : Sh (a + 18) = (1, 14) := ((h a).2.2.2.2.2.2.2.2.2.2.2.1 ha).2.2.2.2.2.2.2.2.2.2.2.2.2.2.2.2.2.1
theorem ok12_29 {Sh : zSh} (h : zOK Sh) {a : Nat} (ha : (Sh a).1 = 19) : Sh (a + 19) = (1, 8) := ((h a).2.2.2.2.2.2.2.2.2.2.2.1 ha).2.2.2.2.2.2.2.2.2.2.2.2.2.2.2.2.2.2.1
theorem ok12_30 {Sh : zSh} (h : zOK Sh) {a : Nat} (ha : (Sh a).1 = 19) : Sh (a + 20) = (1, 96) := ((h a).2.2.2.2.2.2.2.2.2.2.2.1 ha).2.2.2.2.2.2.2.2.2.2.2.2.2.2.2.2.2.2.2.1
theorem ok12_31 {Sh : zSh} (h : zOK Sh) {a : Nat} (ha : (Sh a).1 = 19) : Sh (a + 21) = (1, 1600) := ((h a).2.2.2.2.2.2.2.2.2.2.2.1 ha).2.2.2.2.2.2.2.2.2.2.2.2.2.2.2.2.2.2.2.2.1
theorem ok12_33 {Sh : zSh} (h : zOK Sh) {a : Nat} (ha : (Sh a).1 = 19) : Sh (a + 22) = (1, 6) := ((h a).2.2.2.2.2.2.2.2.2.2.2.1 ha).2.2.2.2.2.2.2.2.2.2.2.2.2.2.2.2.2.2.2.2.2.1
theorem ok12_41 {Sh : zSh} (h : zOK Sh) {a : Nat} (ha : (Sh a).1 = 19) : Sh (a + 23) = (1, 62) := ((h a).2.2.2.2.2.2.2.2.2.2.2.1 ha).2.2.2.2.2.2.2.2.2.2.2.2.2.2.2.2.2.2.2.2.2.2.1
theorem ok12_42 {Sh : zSh} (h : zOK Sh) {a : Nat} (ha : (Sh a).1 = 19) : Sh (a + 24) = (1, 5748) := ((h a).2.2.2.2.2.2.2.2.2.2.2.1 ha).2.2.2.2.2.2.2.2.2.2.2.2.2.2.2.2.2.2.2.2.2.2.2.1
theorem ok12_43 {Sh : zSh} (h : zOK Sh) {a : Nat} (ha : (Sh a).1 = 19) : Sh (a + 25) = (1, 57480) := ((h a).2.2.2.2.2.2.2.2.2.2.2.1 ha).2.2.2.2.2.2.2.2.2.2.2.2.2.2.2.2.2.2.2.2.2.2.2.2.1
theorem ok12_47 {Sh : zSh} (h : zOK Sh) {a : Nat} (ha : (Sh a).1 = 19) : Sh (a + 26) = (1, 8) := ((h a).2.2.2.2.2.2.2.2.2.2.2.1 ha).2.2.2.2.2.2.2.2.2.2.2.2.2.2.2.2.2.2.2.2.2.2.2.2.2.1
theorem ok12_48 {Sh : zSh} (h : zOK Sh) {a : Nat} (ha : (Sh a).1 = 19) : Sh (a + 27) = (1, 6) := ((h a).2.2.2.2.2.2.2.2.2.2.2.1 ha).2.2.2.2.2.2.2.2.2.2.2.2.2.2.2.2.2.2.2.2.2.2.2.2.2.2.1
theorem ok12_49 {Sh : zSh} (h : zOK Sh) {a : Nat} (ha : (Sh a).1 = 19) : Sh (a + 28) = (1, 64) := ((h a).2.2.2.2.2.2.2.2.2.2.2.1 ha).2.2.2.2.2.2.2.2.2.2.2.2.2.2.2.2.2.2.2.2.2.2.2.2.2.2.2.1
theorem ok12_50 {Sh : zSh} (h : zOK Sh) {a : Nat} (ha : (Sh a).1 = 19) : Sh (a + 29) = (1, 8) := ((h a).2.2.2.2.2.2.2.2.2.2.2.1 ha).2.2.2.2.2.2.2.2.2.2.2.2.2.2.2.2.2.2.2.2.2.2.2.2.2.2.2.2.1
theorem ok12_51 {Sh : zSh} (h : zOK Sh) {a : Nat} (ha : (Sh a).1 = 19) : Sh (a + 30) = (1, 8) := ((h a).2.2.2.2.2.2.2.2.2.2.2.1 ha).2.2.2.2.2.2.2.2.2.2.2.2.2.2.2.2.2.2.2.2.2.2.2.2.2.2.2.2.2.1
theorem ok12_54 {Sh : zSh} (h : zOK Sh) {a : Nat} (ha : (Sh a).1 = 19) : Sh (a + 31) = (1, 16) := ((h a).2.2.2.2.2.2.2.2.2.2.2.1 ha).2.2.2.2.2.2.2.2.2.2.2.2.2.2.2.2.2.2.2.2.2.2.2.2.2.2.2.2.2.2.1
theorem ok12_55 {Sh : zSh} (h : zOK Sh) {a : Nat} (ha : (Sh a).1 = 19) : Sh (a + 32) = (1, 16) := ((h a).2.2.2.2.2.2.2.2.2.2.2.1 ha).2.2.2.2.2.2.2.2.2.2.2.2.2.2.2.2.2.2.2.2.2.2.2.2.2.2.2.2.2.2.2.1
theorem ok12_56 {Sh : zSh} (h : zOK Sh) {a : Nat} (ha : (Sh a).1 = 19) : Sh (a + 33) = (1, 15) := ((h a).2.2.2.2.2.2.2.2.2.2.2.1 ha).2.2.2.2.2.2.2.2.2.2.2.2.2.2.2.2.2.2.2.2.2.2.2.2.2.2.2.2.2.2.2.2.1
theorem ok12_57 {Sh : zSh} (h : zOK Sh) {a : Nat} (ha : (Sh a).1 = 19) : Sh (a + 34) = (1, 720) := ((h a).2.2.2.2.2.2.2.2.2.2.2.1 ha).2.2.2.2.2.2.2.2.2.2.2.2.2.2.2.2.2.2.2.2.2.2.2.2.2.2.2.2.2.2.2.2.2.1
theorem ok12_58 {Sh : zSh} (h : zOK Sh) {a : Nat} (ha : (Sh a).1 = 19) : Sh (a + 35) = (1, 66) := ((h a).2.2.2.2.2.2.2.2.2.2.2.1 ha).2.2.2.2.2.2.2.2.2.2.2.2.2.2.2.2.2.2.2.2.2.2.2.2.2.2.2.2.2.2.2.2.2.2.1
theorem ok12_65 {Sh : zSh} (h : zOK Sh) {a : Nat} (ha : (Sh a).1 = 19) : Sh (a + 36) = (1, 47) := ((h a).2.2.2.2.2.2.2.2.2.2.2.1 ha).2.2.2.2.2.2.2.2.2.2.2.2.2.2.2.2.2.2.2.2.2.2.2.2.2.2.2.2.2.2.2.2.2.2.2
theorem okA0 {Sh : zSh} (h : zOK Sh) {a : Nat} (ha : Sh a = (3, 8)) {j : Nat} (hj : j < 8) : (Sh (a + 12 + 3 * j)).1 = 7 := ((h a).2.2.2.2.2.2.2.2.2.2.2.2.1 ha) j hj
theorem okA1 {Sh : zSh} (h : zOK Sh) {a : Nat} (ha : Sh a = (4, 28)) {j : Nat} (hj : j < 28) : (Sh (a + 35 + 2 * j)).1 = 11 := ((h a).2.2.2.2.2.2.2.2.2.2.2.2.2.1 ha) j hj
theorem okA2 {Sh : zSh} (h : zOK Sh) {a : Nat} (ha : Sh a = (5, 84)) {j : Nat} (hj : j < 84) : (Sh (a + 90 + 2 * j)).1 = 10 := ((h a).2.2.2.2.2.2.2.2.2.2.2.2.2.2 ha) j hj
theorem zm_min : Cond.static Lib.Math.min.name ∈ zTb ∧ Cond.initialized "java/lang/Math" ∈ zTb ∧ Cond.code Lib.Math.min.name Lib.Math.min.code 2 (some .int) ∈ zTb := ⟨zTb4 230 rfl rfl, zTb1 20 rfl rfl, zTb4 231 rfl rfl⟩
theorem zm_max : Cond.static Lib.Math.max.name ∈ zTb ∧ Cond.initialized "java/lang/Math" ∈ zTb ∧ Cond.code Lib.Math.max.name Lib.Math.max.code 2 (some .int) ∈ zTb := ⟨zTb6 111 rfl rfl, zTb1 20 rfl rfl, zTb6 112 rfl rfl⟩
