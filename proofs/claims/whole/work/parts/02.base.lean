/-! reads and writes that may miss; joins; loops' ends: the words in which methods are told as functions -/
def rdI (n : Nat) (f : Nat → Int32) (i : Int32) : Option Int32 := if i < 0 ∨ n ≤ i.toNatClampNeg then none else some (f i.toNatClampNeg)
def rdL (n : Nat) (f : Nat → Int64) (i : Int32) : Option Int64 := if i < 0 ∨ n ≤ i.toNatClampNeg then none else some (f i.toNatClampNeg)
def wrI (n : Nat) (f : Nat → Int32) (i x : Int32) : Option (Nat → Int32) := if i < 0 ∨ n ≤ i.toNatClampNeg then none else some (upd f i.toNatClampNeg x)
def wrZ (n : Nat) (f : Nat → Int32) (i x : Int32) : Option (Nat → Int32) := if i < 0 ∨ n ≤ i.toNatClampNeg then none else some (upd f i.toNatClampNeg (vp_nar .boolean x))
def wrL (n : Nat) (f : Nat → Int64) (i : Int32) (x : Int64) : Option (Nat → Int64) := if i < 0 ∨ n ≤ i.toNatClampNeg then none else some (vp_updL f i.toNatClampNeg x)
def dvI (x y : Int32) : Option Int32 := if y = 0 then none else some (x / y)
def rmI (x y : Int32) : Option Int32 := if y = 0 then none else some (x - x / y * y)
def dvL (x y : Int64) : Option Int64 := if y = 0 then none else some (x / y)
def rmL (x y : Int64) : Option Int64 := if y = 0 then none else some (x - x / y * y)
def gdZ (x : Int32) : Option Int32 := if x = 0 ∨ x = 1 then some x else none
theorem rdI_e {β : Type} {n : Nat} {f : Nat → Int32} {i : Int32} {k : Int32 → Option β} {o : β} (h : (rdI n f i).bind k = some o) : vp_in i n ∧ k (f i.toNatClampNeg) = some o := by
  by_cases hc : i < 0 ∨ n ≤ i.toNatClampNeg
  · simp [rdI, hc] at h
  · rw [rdI, if_neg hc] at h
    exact ⟨hc, h⟩
theorem rdL_e {β : Type} {n : Nat} {f : Nat → Int64} {i : Int32} {k : Int64 → Option β} {o : β} (h : (rdL n f i).bind k = some o) : vp_in i n ∧ k (f i.toNatClampNeg) = some o := by
  by_cases hc : i < 0 ∨ n ≤ i.toNatClampNeg
  · simp [rdL, hc] at h
  · rw [rdL, if_neg hc] at h
    exact ⟨hc, h⟩
theorem wrI_e {β : Type} {n : Nat} {f : Nat → Int32} {i x : Int32} {k : (Nat → Int32) → Option β} {o : β} (h : (wrI n f i x).bind k = some o) : vp_in i n ∧ k (upd f i.toNatClampNeg x) = some o := by
  by_cases hc : i < 0 ∨ n ≤ i.toNatClampNeg
  · simp [wrI, hc] at h
  · rw [wrI, if_neg hc] at h
    exact ⟨hc, h⟩
theorem wrZ_e {β : Type} {n : Nat} {f : Nat → Int32} {i x : Int32} {k : (Nat → Int32) → Option β} {o : β} (h : (wrZ n f i x).bind k = some o) : vp_in i n ∧ k (upd f i.toNatClampNeg (vp_nar .boolean x)) = some o := by
  by_cases hc : i < 0 ∨ n ≤ i.toNatClampNeg
  · simp [wrZ, hc] at h
  · rw [wrZ, if_neg hc] at h
    exact ⟨hc, h⟩
theorem wrL_e {β : Type} {n : Nat} {f : Nat → Int64} {i : Int32} {x : Int64} {k : (Nat → Int64) → Option β} {o : β} (h : (wrL n f i x).bind k = some o) : vp_in i n ∧ k (vp_updL f i.toNatClampNeg x) = some o := by
  by_cases hc : i < 0 ∨ n ≤ i.toNatClampNeg
  · simp [wrL, hc] at h
  · rw [wrL, if_neg hc] at h
    exact ⟨hc, h⟩
theorem dvI_e {β : Type} {x y : Int32} {k : Int32 → Option β} {o : β} (h : (dvI x y).bind k = some o) : ¬ y = 0 ∧ k (x / y) = some o := by
  by_cases hc : y = 0
  · simp [dvI, hc] at h
  · rw [dvI, if_neg hc] at h
    exact ⟨hc, h⟩
theorem rmI_e {β : Type} {x y : Int32} {k : Int32 → Option β} {o : β} (h : (rmI x y).bind k = some o) : ¬ y = 0 ∧ k (x - x / y * y) = some o := by
  by_cases hc : y = 0
  · simp [rmI, hc] at h
  · rw [rmI, if_neg hc] at h
    exact ⟨hc, h⟩
theorem dvL_e {β : Type} {x y : Int64} {k : Int64 → Option β} {o : β} (h : (dvL x y).bind k = some o) : ¬ y = 0 ∧ k (x / y) = some o := by
  by_cases hc : y = 0
  · simp [dvL, hc] at h
  · rw [dvL, if_neg hc] at h
    exact ⟨hc, h⟩
theorem rmL_e {β : Type} {x y : Int64} {k : Int64 → Option β} {o : β} (h : (rmL x y).bind k = some o) : ¬ y = 0 ∧ k (x - x / y * y) = some o := by
  by_cases hc : y = 0
  · simp [rmL, hc] at h
  · rw [rmL, if_neg hc] at h
    exact ⟨hc, h⟩
theorem gdZ_e {β : Type} {x : Int32} {k : Int32 → Option β} {o : β} (h : (gdZ x).bind k = some o) : narrow .boolean (.int x) = .int x ∧ k x = some o := by
  by_cases hc : x = 0 ∨ x = 1
  · rw [gdZ, if_pos hc] at h
    rcases hc with rfl | rfl
    · exact ⟨by decide, h⟩
    · exact ⟨by decide, h⟩
  · simp [gdZ, hc] at h
theorem bd_e {α β : Type} {x : Option α} {k : α → Option β} {o : β} (h : x.bind k = some o) : ∃ a, x = some a ∧ k a = some o := by
  cases x with
  | none => simp at h
  | some a => exact ⟨a, rfl, h⟩
def jn0 {β : Type} (k : β) (b : β → β) : β := b k
theorem jn0_e {β : Type} {o : β} {k : Option β} {b : Option β → Option β} {G : Prop} (PJ : Prop) (h : jn0 k b = some o) (J : k = some o → PJ) (B : ∀ k1 : Option β, (k1 = some o → PJ) → b k1 = some o → G) : G := B k J h
def jn1 {A1 β : Type} (k : A1 → β) (b : (A1 → β) → β) : β := b k
theorem jn1_e {A1 β : Type} {o : β} {k : A1 → Option β} {b : (A1 → Option β) → Option β} {G : Prop} (PJ : A1 → Prop) (h : jn1 k b = some o) (J : ∀ (x1 : A1), k x1 = some o → PJ x1) (B : ∀ k1 : A1 → Option β, (∀ (x1 : A1), k1 x1 = some o → PJ x1) → b k1 = some o → G) : G := B k J h
def jn2 {A1 A2 β : Type} (k : A1 → A2 → β) (b : (A1 → A2 → β) → β) : β := b k
theorem jn2_e {A1 A2 β : Type} {o : β} {k : A1 → A2 → Option β} {b : (A1 → A2 → Option β) → Option β} {G : Prop} (PJ : A1 → A2 → Prop) (h : jn2 k b = some o) (J : ∀ (x1 : A1) (x2 : A2), k x1 x2 = some o → PJ x1 x2) (B : ∀ k1 : A1 → A2 → Option β, (∀ (x1 : A1) (x2 : A2), k1 x1 x2 = some o → PJ x1 x2) → b k1 = some o → G) : G := B k J h
def jn3 {A1 A2 A3 β : Type} (k : A1 → A2 → A3 → β) (b : (A1 → A2 → A3 → β) → β) : β := b k
theorem jn3_e {A1 A2 A3 β : Type} {o : β} {k : A1 → A2 → A3 → Option β} {b : (A1 → A2 → A3 → Option β) → Option β} {G : Prop} (PJ : A1 → A2 → A3 → Prop) (h : jn3 k b = some o) (J : ∀ (x1 : A1) (x2 : A2) (x3 : A3), k x1 x2 x3 = some o → PJ x1 x2 x3) (B : ∀ k1 : A1 → A2 → A3 → Option β, (∀ (x1 : A1) (x2 : A2) (x3 : A3), k1 x1 x2 x3 = some o → PJ x1 x2 x3) → b k1 = some o → G) : G := B k J h
def jn4 {A1 A2 A3 A4 β : Type} (k : A1 → A2 → A3 → A4 → β) (b : (A1 → A2 → A3 → A4 → β) → β) : β := b k
theorem jn4_e {A1 A2 A3 A4 β : Type} {o : β} {k : A1 → A2 → A3 → A4 → Option β} {b : (A1 → A2 → A3 → A4 → Option β) → Option β} {G : Prop} (PJ : A1 → A2 → A3 → A4 → Prop) (h : jn4 k b = some o) (J : ∀ (x1 : A1) (x2 : A2) (x3 : A3) (x4 : A4), k x1 x2 x3 x4 = some o → PJ x1 x2 x3 x4) (B : ∀ k1 : A1 → A2 → A3 → A4 → Option β, (∀ (x1 : A1) (x2 : A2) (x3 : A3) (x4 : A4), k1 x1 x2 x3 x4 = some o → PJ x1 x2 x3 x4) → b k1 = some o → G) : G := B k J h
def jn5 {A1 A2 A3 A4 A5 β : Type} (k : A1 → A2 → A3 → A4 → A5 → β) (b : (A1 → A2 → A3 → A4 → A5 → β) → β) : β := b k
theorem jn5_e {A1 A2 A3 A4 A5 β : Type} {o : β} {k : A1 → A2 → A3 → A4 → A5 → Option β} {b : (A1 → A2 → A3 → A4 → A5 → Option β) → Option β} {G : Prop} (PJ : A1 → A2 → A3 → A4 → A5 → Prop) (h : jn5 k b = some o) (J : ∀ (x1 : A1) (x2 : A2) (x3 : A3) (x4 : A4) (x5 : A5), k x1 x2 x3 x4 x5 = some o → PJ x1 x2 x3 x4 x5) (B : ∀ k1 : A1 → A2 → A3 → A4 → A5 → Option β, (∀ (x1 : A1) (x2 : A2) (x3 : A3) (x4 : A4) (x5 : A5), k1 x1 x2 x3 x4 x5 = some o → PJ x1 x2 x3 x4 x5) → b k1 = some o → G) : G := B k J h
def jn6 {A1 A2 A3 A4 A5 A6 β : Type} (k : A1 → A2 → A3 → A4 → A5 → A6 → β) (b : (A1 → A2 → A3 → A4 → A5 → A6 → β) → β) : β := b k
theorem jn6_e {A1 A2 A3 A4 A5 A6 β : Type} {o : β} {k : A1 → A2 → A3 → A4 → A5 → A6 → Option β} {b : (A1 → A2 → A3 → A4 → A5 → A6 → Option β) → Option β} {G : Prop} (PJ : A1 → A2 → A3 → A4 → A5 → A6 → Prop) (h : jn6 k b = some o) (J : ∀ (x1 : A1) (x2 : A2) (x3 : A3) (x4 : A4) (x5 : A5) (x6 : A6), k x1 x2 x3 x4 x5 x6 = some o → PJ x1 x2 x3 x4 x5 x6) (B : ∀ k1 : A1 → A2 → A3 → A4 → A5 → A6 → Option β, (∀ (x1 : A1) (x2 : A2) (x3 : A3) (x4 : A4) (x5 : A5) (x6 : A6), k1 x1 x2 x3 x4 x5 x6 = some o → PJ x1 x2 x3 x4 x5 x6) → b k1 = some o → G) : G := B k J h
def jn7 {A1 A2 A3 A4 A5 A6 A7 β : Type} (k : A1 → A2 → A3 → A4 → A5 → A6 → A7 → β) (b : (A1 → A2 → A3 → A4 → A5 → A6 → A7 → β) → β) : β := b k
theorem jn7_e {A1 A2 A3 A4 A5 A6 A7 β : Type} {o : β} {k : A1 → A2 → A3 → A4 → A5 → A6 → A7 → Option β} {b : (A1 → A2 → A3 → A4 → A5 → A6 → A7 → Option β) → Option β} {G : Prop} (PJ : A1 → A2 → A3 → A4 → A5 → A6 → A7 → Prop) (h : jn7 k b = some o) (J : ∀ (x1 : A1) (x2 : A2) (x3 : A3) (x4 : A4) (x5 : A5) (x6 : A6) (x7 : A7), k x1 x2 x3 x4 x5 x6 x7 = some o → PJ x1 x2 x3 x4 x5 x6 x7) (B : ∀ k1 : A1 → A2 → A3 → A4 → A5 → A6 → A7 → Option β, (∀ (x1 : A1) (x2 : A2) (x3 : A3) (x4 : A4) (x5 : A5) (x6 : A6) (x7 : A7), k1 x1 x2 x3 x4 x5 x6 x7 = some o → PJ x1 x2 x3 x4 x5 x6 x7) → b k1 = some o → G) : G := B k J h
def jn8 {A1 A2 A3 A4 A5 A6 A7 A8 β : Type} (k : A1 → A2 → A3 → A4 → A5 → A6 → A7 → A8 → β) (b : (A1 → A2 → A3 → A4 → A5 → A6 → A7 → A8 → β) → β) : β := b k
theorem jn8_e {A1 A2 A3 A4 A5 A6 A7 A8 β : Type} {o : β} {k : A1 → A2 → A3 → A4 → A5 → A6 → A7 → A8 → Option β} {b : (A1 → A2 → A3 → A4 → A5 → A6 → A7 → A8 → Option β) → Option β} {G : Prop} (PJ : A1 → A2 → A3 → A4 → A5 → A6 → A7 → A8 → Prop) (h : jn8 k b = some o) (J : ∀ (x1 : A1) (x2 : A2) (x3 : A3) (x4 : A4) (x5 : A5) (x6 : A6) (x7 : A7) (x8 : A8), k x1 x2 x3 x4 x5 x6 x7 x8 = some o → PJ x1 x2 x3 x4 x5 x6 x7 x8) (B : ∀ k1 : A1 → A2 → A3 → A4 → A5 → A6 → A7 → A8 → Option β, (∀ (x1 : A1) (x2 : A2) (x3 : A3) (x4 : A4) (x5 : A5) (x6 : A6) (x7 : A7) (x8 : A8), k1 x1 x2 x3 x4 x5 x6 x7 x8 = some o → PJ x1 x2 x3 x4 x5 x6 x7 x8) → b k1 = some o → G) : G := B k J h
def jn9 {A1 A2 A3 A4 A5 A6 A7 A8 A9 β : Type} (k : A1 → A2 → A3 → A4 → A5 → A6 → A7 → A8 → A9 → β) (b : (A1 → A2 → A3 → A4 → A5 → A6 → A7 → A8 → A9 → β) → β) : β := b k
theorem jn9_e {A1 A2 A3 A4 A5 A6 A7 A8 A9 β : Type} {o : β} {k : A1 → A2 → A3 → A4 → A5 → A6 → A7 → A8 → A9 → Option β} {b : (A1 → A2 → A3 → A4 → A5 → A6 → A7 → A8 → A9 → Option β) → Option β} {G : Prop} (PJ : A1 → A2 → A3 → A4 → A5 → A6 → A7 → A8 → A9 → Prop) (h : jn9 k b = some o) (J : ∀ (x1 : A1) (x2 : A2) (x3 : A3) (x4 : A4) (x5 : A5) (x6 : A6) (x7 : A7) (x8 : A8) (x9 : A9), k x1 x2 x3 x4 x5 x6 x7 x8 x9 = some o → PJ x1 x2 x3 x4 x5 x6 x7 x8 x9) (B : ∀ k1 : A1 → A2 → A3 → A4 → A5 → A6 → A7 → A8 → A9 → Option β, (∀ (x1 : A1) (x2 : A2) (x3 : A3) (x4 : A4) (x5 : A5) (x6 : A6) (x7 : A7) (x8 : A8) (x9 : A9), k1 x1 x2 x3 x4 x5 x6 x7 x8 x9 = some o → PJ x1 x2 x3 x4 x5 x6 x7 x8 x9) → b k1 = some o → G) : G := B k J h
def jn10 {A1 A2 A3 A4 A5 A6 A7 A8 A9 A10 β : Type} (k : A1 → A2 → A3 → A4 → A5 → A6 → A7 → A8 → A9 → A10 → β) (b : (A1 → A2 → A3 → A4 → A5 → A6 → A7 → A8 → A9 → A10 → β) → β) : β := b k
theorem jn10_e {A1 A2 A3 A4 A5 A6 A7 A8 A9 A10 β : Type} {o : β} {k : A1 → A2 → A3 → A4 → A5 → A6 → A7 → A8 → A9 → A10 → Option β} {b : (A1 → A2 → A3 → A4 → A5 → A6 → A7 → A8 → A9 → A10 → Option β) → Option β} {G : Prop} (PJ : A1 → A2 → A3 → A4 → A5 → A6 → A7 → A8 → A9 → A10 → Prop) (h : jn10 k b = some o) (J : ∀ (x1 : A1) (x2 : A2) (x3 : A3) (x4 : A4) (x5 : A5) (x6 : A6) (x7 : A7) (x8 : A8) (x9 : A9) (x10 : A10), k x1 x2 x3 x4 x5 x6 x7 x8 x9 x10 = some o → PJ x1 x2 x3 x4 x5 x6 x7 x8 x9 x10) (B : ∀ k1 : A1 → A2 → A3 → A4 → A5 → A6 → A7 → A8 → A9 → A10 → Option β, (∀ (x1 : A1) (x2 : A2) (x3 : A3) (x4 : A4) (x5 : A5) (x6 : A6) (x7 : A7) (x8 : A8) (x9 : A9) (x10 : A10), k1 x1 x2 x3 x4 x5 x6 x7 x8 x9 x10 = some o → PJ x1 x2 x3 x4 x5 x6 x7 x8 x9 x10) → b k1 = some o → G) : G := B k J h
def bd2 {A1 A2 β : Type} (x : Option (A1 × A2)) (k : A1 → A2 → Option β) : Option β := x.bind (fun t => k t.1 t.2)
theorem bd2_e {A1 A2 β : Type} {x : Option (A1 × A2)} {k : A1 → A2 → Option β} {o : β} (h : bd2 x k = some o) : ∃ (x1 : A1) (x2 : A2), x = some (x1, x2) ∧ k x1 x2 = some o := by
  obtain ⟨t, h1, h2⟩ := bd_e h
  exact ⟨t.1, t.2, h1, h2⟩
def bd3 {A1 A2 A3 β : Type} (x : Option (A1 × A2 × A3)) (k : A1 → A2 → A3 → Option β) : Option β := x.bind (fun t => k t.1 t.2.1 t.2.2)
theorem bd3_e {A1 A2 A3 β : Type} {x : Option (A1 × A2 × A3)} {k : A1 → A2 → A3 → Option β} {o : β} (h : bd3 x k = some o) : ∃ (x1 : A1) (x2 : A2) (x3 : A3), x = some (x1, x2, x3) ∧ k x1 x2 x3 = some o := by
  obtain ⟨t, h1, h2⟩ := bd_e h
  exact ⟨t.1, t.2.1, t.2.2, h1, h2⟩
def bd4 {A1 A2 A3 A4 β : Type} (x : Option (A1 × A2 × A3 × A4)) (k : A1 → A2 → A3 → A4 → Option β) : Option β := x.bind (fun t => k t.1 t.2.1 t.2.2.1 t.2.2.2)
theorem bd4_e {A1 A2 A3 A4 β : Type} {x : Option (A1 × A2 × A3 × A4)} {k : A1 → A2 → A3 → A4 → Option β} {o : β} (h : bd4 x k = some o) : ∃ (x1 : A1) (x2 : A2) (x3 : A3) (x4 : A4), x = some (x1, x2, x3, x4) ∧ k x1 x2 x3 x4 = some o := by
  obtain ⟨t, h1, h2⟩ := bd_e h
  exact ⟨t.1, t.2.1, t.2.2.1, t.2.2.2, h1, h2⟩
def bd5 {A1 A2 A3 A4 A5 β : Type} (x : Option (A1 × A2 × A3 × A4 × A5)) (k : A1 → A2 → A3 → A4 → A5 → Option β) : Option β := x.bind (fun t => k t.1 t.2.1 t.2.2.1 t.2.2.2.1 t.2.2.2.2)
theorem bd5_e {A1 A2 A3 A4 A5 β : Type} {x : Option (A1 × A2 × A3 × A4 × A5)} {k : A1 → A2 → A3 → A4 → A5 → Option β} {o : β} (h : bd5 x k = some o) : ∃ (x1 : A1) (x2 : A2) (x3 : A3) (x4 : A4) (x5 : A5), x = some (x1, x2, x3, x4, x5) ∧ k x1 x2 x3 x4 x5 = some o := by
  obtain ⟨t, h1, h2⟩ := bd_e h
  exact ⟨t.1, t.2.1, t.2.2.1, t.2.2.2.1, t.2.2.2.2, h1, h2⟩
def bd6 {A1 A2 A3 A4 A5 A6 β : Type} (x : Option (A1 × A2 × A3 × A4 × A5 × A6)) (k : A1 → A2 → A3 → A4 → A5 → A6 → Option β) : Option β := x.bind (fun t => k t.1 t.2.1 t.2.2.1 t.2.2.2.1 t.2.2.2.2.1 t.2.2.2.2.2)
theorem bd6_e {A1 A2 A3 A4 A5 A6 β : Type} {x : Option (A1 × A2 × A3 × A4 × A5 × A6)} {k : A1 → A2 → A3 → A4 → A5 → A6 → Option β} {o : β} (h : bd6 x k = some o) : ∃ (x1 : A1) (x2 : A2) (x3 : A3) (x4 : A4) (x5 : A5) (x6 : A6), x = some (x1, x2, x3, x4, x5, x6) ∧ k x1 x2 x3 x4 x5 x6 = some o := by
  obtain ⟨t, h1, h2⟩ := bd_e h
  exact ⟨t.1, t.2.1, t.2.2.1, t.2.2.2.1, t.2.2.2.2.1, t.2.2.2.2.2, h1, h2⟩
def bd7 {A1 A2 A3 A4 A5 A6 A7 β : Type} (x : Option (A1 × A2 × A3 × A4 × A5 × A6 × A7)) (k : A1 → A2 → A3 → A4 → A5 → A6 → A7 → Option β) : Option β := x.bind (fun t => k t.1 t.2.1 t.2.2.1 t.2.2.2.1 t.2.2.2.2.1 t.2.2.2.2.2.1 t.2.2.2.2.2.2)
theorem bd7_e {A1 A2 A3 A4 A5 A6 A7 β : Type} {x : Option (A1 × A2 × A3 × A4 × A5 × A6 × A7)} {k : A1 → A2 → A3 → A4 → A5 → A6 → A7 → Option β} {o : β} (h : bd7 x k = some o) : ∃ (x1 : A1) (x2 : A2) (x3 : A3) (x4 : A4) (x5 : A5) (x6 : A6) (x7 : A7), x = some (x1, x2, x3, x4, x5, x6, x7) ∧ k x1 x2 x3 x4 x5 x6 x7 = some o := by
  obtain ⟨t, h1, h2⟩ := bd_e h
  exact ⟨t.1, t.2.1, t.2.2.1, t.2.2.2.1, t.2.2.2.2.1, t.2.2.2.2.2.1, t.2.2.2.2.2.2, h1, h2⟩
def bd8 {A1 A2 A3 A4 A5 A6 A7 A8 β : Type} (x : Option (A1 × A2 × A3 × A4 × A5 × A6 × A7 × A8)) (k : A1 → A2 → A3 → A4 → A5 → A6 → A7 → A8 → Option β) : Option β := x.bind (fun t => k t.1 t.2.1 t.2.2.1 t.2.2.2.1 t.2.2.2.2.1 t.2.2.2.2.2.1 t.2.2.2.2.2.2.1 t.2.2.2.2.2.2.2)
theorem bd8_e {A1 A2 A3 A4 A5 A6 A7 A8 β : Type} {x : Option (A1 × A2 × A3 × A4 × A5 × A6 × A7 × A8)} {k : A1 → A2 → A3 → A4 → A5 → A6 → A7 → A8 → Option β} {o : β} (h : bd8 x k = some o) : ∃ (x1 : A1) (x2 : A2) (x3 : A3) (x4 : A4) (x5 : A5) (x6 : A6) (x7 : A7) (x8 : A8), x = some (x1, x2, x3, x4, x5, x6, x7, x8) ∧ k x1 x2 x3 x4 x5 x6 x7 x8 = some o := by
  obtain ⟨t, h1, h2⟩ := bd_e h
  exact ⟨t.1, t.2.1, t.2.2.1, t.2.2.2.1, t.2.2.2.2.1, t.2.2.2.2.2.1, t.2.2.2.2.2.2.1, t.2.2.2.2.2.2.2, h1, h2⟩
def bd9 {A1 A2 A3 A4 A5 A6 A7 A8 A9 β : Type} (x : Option (A1 × A2 × A3 × A4 × A5 × A6 × A7 × A8 × A9)) (k : A1 → A2 → A3 → A4 → A5 → A6 → A7 → A8 → A9 → Option β) : Option β := x.bind (fun t => k t.1 t.2.1 t.2.2.1 t.2.2.2.1 t.2.2.2.2.1 t.2.2.2.2.2.1 t.2.2.2.2.2.2.1 t.2.2.2.2.2.2.2.1 t.2.2.2.2.2.2.2.2)
theorem bd9_e {A1 A2 A3 A4 A5 A6 A7 A8 A9 β : Type} {x : Option (A1 × A2 × A3 × A4 × A5 × A6 × A7 × A8 × A9)} {k : A1 → A2 → A3 → A4 → A5 → A6 → A7 → A8 → A9 → Option β} {o : β} (h : bd9 x k = some o) : ∃ (x1 : A1) (x2 : A2) (x3 : A3) (x4 : A4) (x5 : A5) (x6 : A6) (x7 : A7) (x8 : A8) (x9 : A9), x = some (x1, x2, x3, x4, x5, x6, x7, x8, x9) ∧ k x1 x2 x3 x4 x5 x6 x7 x8 x9 = some o := by
  obtain ⟨t, h1, h2⟩ := bd_e h
  exact ⟨t.1, t.2.1, t.2.2.1, t.2.2.2.1, t.2.2.2.2.1, t.2.2.2.2.2.1, t.2.2.2.2.2.2.1, t.2.2.2.2.2.2.2.1, t.2.2.2.2.2.2.2.2, h1, h2⟩
def bd10 {A1 A2 A3 A4 A5 A6 A7 A8 A9 A10 β : Type} (x : Option (A1 × A2 × A3 × A4 × A5 × A6 × A7 × A8 × A9 × A10)) (k : A1 → A2 → A3 → A4 → A5 → A6 → A7 → A8 → A9 → A10 → Option β) : Option β := x.bind (fun t => k t.1 t.2.1 t.2.2.1 t.2.2.2.1 t.2.2.2.2.1 t.2.2.2.2.2.1 t.2.2.2.2.2.2.1 t.2.2.2.2.2.2.2.1 t.2.2.2.2.2.2.2.2.1 t.2.2.2.2.2.2.2.2.2)
theorem bd10_e {A1 A2 A3 A4 A5 A6 A7 A8 A9 A10 β : Type} {x : Option (A1 × A2 × A3 × A4 × A5 × A6 × A7 × A8 × A9 × A10)} {k : A1 → A2 → A3 → A4 → A5 → A6 → A7 → A8 → A9 → A10 → Option β} {o : β} (h : bd10 x k = some o) : ∃ (x1 : A1) (x2 : A2) (x3 : A3) (x4 : A4) (x5 : A5) (x6 : A6) (x7 : A7) (x8 : A8) (x9 : A9) (x10 : A10), x = some (x1, x2, x3, x4, x5, x6, x7, x8, x9, x10) ∧ k x1 x2 x3 x4 x5 x6 x7 x8 x9 x10 = some o := by
  obtain ⟨t, h1, h2⟩ := bd_e h
  exact ⟨t.1, t.2.1, t.2.2.1, t.2.2.2.1, t.2.2.2.2.1, t.2.2.2.2.2.1, t.2.2.2.2.2.2.1, t.2.2.2.2.2.2.2.1, t.2.2.2.2.2.2.2.2.1, t.2.2.2.2.2.2.2.2.2, h1, h2⟩
def bdS {α β γ : Type} (x : Option (α ⊕ β)) (k1 : α → Option γ) (k2 : β → Option γ) : Option γ := x.bind (fun t => match t with | .inl a => k1 a | .inr b => k2 b)
theorem bdS_e {α β γ : Type} {x : Option (α ⊕ β)} {k1 : α → Option γ} {k2 : β → Option γ} {o : γ} (h : bdS x k1 k2 = some o) : (∃ a, x = some (.inl a) ∧ k1 a = some o) ∨ (∃ b, x = some (.inr b) ∧ k2 b = some o) := by
  obtain ⟨t, h1, h2⟩ := bd_e h
  cases t with
  | inl a => exact Or.inl ⟨a, h1, h2⟩
  | inr b => exact Or.inr ⟨b, h1, h2⟩
