/-! reads, writes, sets and comparisons over small whole numbers -/
theorem rdI_n {n : Nat} {f : Nat → Int32} {i : Nat} (h : i < n) (hn : n < 2 ^ 31) : rdI n f (nI i) = some (f i) := by
  rw [rdI, if_neg (nI_in h hn), nI_clamp (by omega)]
theorem rdL_n {n : Nat} {f : Nat → Int64} {i : Nat} (h : i < n) (hn : n < 2 ^ 31) : rdL n f (nI i) = some (f i) := by
  rw [rdL, if_neg (nI_in h hn), nI_clamp (by omega)]
theorem wrI_n {n : Nat} {f : Nat → Int32} {i : Nat} {x : Int32} (h : i < n) (hn : n < 2 ^ 31) : wrI n f (nI i) x = some (upd f i x) := by
  rw [wrI, if_neg (nI_in h hn), nI_clamp (by omega)]
theorem wrL_n {n : Nat} {f : Nat → Int64} {i : Nat} {x : Int64} (h : i < n) (hn : n < 2 ^ 31) : wrL n f (nI i) x = some (vp_updL f i x) := by
  rw [wrL, if_neg (nI_in h hn), nI_clamp (by omega)]
theorem wrZ_n {n : Nat} {f : Nat → Int32} {i : Nat} {x : Int32} (h : i < n) (hn : n < 2 ^ 31) (hx : x = 0 ∨ x = 1) : wrZ n f (nI i) x = some (upd f i x) := by
  have e : vp_nar .boolean x = x := by
    rcases hx with rfl | rfl <;> decide
  rw [wrZ, if_neg (nI_in h hn), nI_clamp (by omega), e]
theorem ixN_n {n i : Nat} (h : i < n) (hn : n < 2 ^ 31) : ixN n (nI i) = some i := by
  rw [ixN, if_neg (nI_in h hn), nI_clamp (by omega)]
def bI (b : Bool) : Int32 := if b then 1 else 0
theorem bI_01 (b : Bool) : bI b = 0 ∨ bI b = 1 := by cases b <;> decide
theorem bI_0 (b : Bool) : bI b = 0 ↔ b = false := by cases b <;> decide
theorem sh_l : ∀ n, n < 32 → ((nI n &&& 31).toBitVec.smod 32).toNat = n := by decide +kernel
theorem shr_n {s j : Nat} (hs : s < 2 ^ 31) (hj : j < 32) : nI s >>> (nI j &&& 31) = nI (s / 2 ^ j) := pk_shrN hs _ j (sh_l j hj)
theorem shl_1 {j : Nat} (hj : j < 31) : (1 : Int32) <<< (nI j &&& 31) = nI (2 ^ j) := by
  have h := pk_shlN (n := 1) (nI j &&& 31) j (sh_l j (by omega)) (by rw [Nat.one_mul]; exact Nat.pow_lt_pow_right (by omega) (by omega))
  rw [Nat.one_mul] at h
  exact h
theorem bit_n {s j : Nat} (hs : s < 2 ^ 31) (hj : j < 31) : (nI s >>> (nI j &&& 31)) &&& 1 = bI (s.testBit j) := by
  rw [shr_n hs (by omega), show (1 : Int32) = nI 1 from rfl, fa_and, Nat.and_one_is_mod]
  have h : s.testBit j = decide (s / 2 ^ j % 2 = 1) := Nat.testBit_eq_decide_div_mod_eq
  rw [h]
  rcases Nat.mod_two_eq_zero_or_one (s / 2 ^ j) with e | e
  · rw [e]; decide
  · rw [e]; decide
theorem has_n {s j : Nat} (hs : s < 2 ^ 31) (hj : j < 31) : fX8_has (nI s) (nI j) = some (bI (s.testBit j)) := by
  rw [fX8_has, bit_n hs hj]
  cases s.testBit j <;> rfl
theorem isIn_n {s j : Nat} (hs : s < 2 ^ 31) (hj : j < 31) : fX7_isIn (nI s) (nI j) = some (bI (s.testBit j)) := by
  rw [fX7_isIn, bit_n hs hj]
  cases s.testBit j <;> rfl
theorem not_bit (a b i : Nat) : (a ^^^ (a &&& b)).testBit i = (a.testBit i && !b.testBit i) := by
  rw [Nat.testBit_xor, Nat.testBit_and]
  cases a.testBit i <;> cases b.testBit i <;> rfl
theorem not_n (a b : Nat) : nI a &&& (nI b ^^^ (-1)) = nI (a ^^^ (a &&& b)) := by
  apply Int32.toBitVec_inj.1
  show BitVec.ofNat 32 a &&& (BitVec.ofNat 32 b ^^^ (-1 : Int32).toBitVec) = BitVec.ofNat 32 (a ^^^ (a &&& b))
  have e : (-1 : Int32).toBitVec = BitVec.allOnes 32 := by decide
  rw [e]
  apply BitVec.eq_of_getLsbD_eq
  intro i hi
  simp only [BitVec.getLsbD_and, BitVec.getLsbD_xor, BitVec.getLsbD_allOnes, BitVec.getLsbD_ofNat, hi, decide_true, Bool.true_and, not_bit]
  cases a.testBit i <;> cases b.testBit i <;> rfl
theorem within_n (x a b : Int32) : fX7_within x a b = some (bI (decide (a ≤ x ∧ x ≤ b))) := by
  show (if x < a then some 0 else if b < x then some 0 else some 1) = _
  by_cases h1 : x < a
  · rw [if_pos h1, decide_eq_false]
    · rfl
    · intro h
      rw [Int32.lt_iff_toInt_lt] at h1
      rw [Int32.le_iff_toInt_le] at h
      omega
  · rw [if_neg h1]
    by_cases h2 : b < x
    · rw [if_pos h2, decide_eq_false]
      · rfl
      · intro h
        rw [Int32.lt_iff_toInt_lt] at h2
        rw [Int32.le_iff_toInt_le, Int32.le_iff_toInt_le] at h
        omega
    · rw [if_neg h2, decide_eq_true]
      · rfl
      · rw [Int32.lt_iff_toInt_lt] at h1 h2
        rw [Int32.le_iff_toInt_le, Int32.le_iff_toInt_le]
        omega
theorem in_n (x a b : Int32) : fX8_in x a b = some (bI (decide (a ≤ x ∧ x ≤ b))) := within_n x a b
/-- either a small number, or neither class nor reference takes it -/
theorem in_or (x : Int32) {n : Nat} (hn : n < 2 ^ 31) : (∃ j, j ≤ n ∧ x = nI j) ∨ decide ((0 : Int32) ≤ x ∧ x ≤ nI n) = false := by
  by_cases h : (0 : Int32) ≤ x ∧ x ≤ nI n
  · left
    rw [Int32.le_iff_toInt_le, Int32.le_iff_toInt_le, nI_toInt hn] at h
    have h0 : ¬ x < 0 := by
      rw [Int32.lt_iff_toInt_lt]
      have : (0 : Int32).toInt = 0 := by decide
      have := h.1
      omega
    obtain ⟨j, hj, e⟩ := nI_of h0
    refine ⟨j, ?_, e⟩
    have h1 := h.2
    rw [e, nI_toInt hj] at h1
    omega
  · right
    exact decide_eq_false h
theorem in_yes {j n : Nat} (h : j ≤ n) (hn : n < 2 ^ 31) : decide ((0 : Int32) ≤ nI j ∧ nI j ≤ nI n) = true := by
  apply decide_eq_true
  exact ⟨nI_pos' (by omega), nI_le h hn⟩
theorem has_node {N : Nat} (hN : N ≤ 9) (x : Int32) : fX3_has (nI N) x = some (bI (decide (0 ≤ x ∧ x < nI N))) := by
  show (if x < 0 then some 0 else if nI N ≤ x then some 0 else some 1) = _
  by_cases h1 : x < 0
  · rw [if_pos h1, decide_eq_false]
    · rfl
    · intro h
      rw [Int32.lt_iff_toInt_lt] at h1
      rw [Int32.le_iff_toInt_le] at h
      omega
  · rw [if_neg h1]
    by_cases h2 : nI N ≤ x
    · rw [if_pos h2, decide_eq_false]
      · rfl
      · intro h
        rw [Int32.le_iff_toInt_le] at h2
        rw [Int32.lt_iff_toInt_lt] at h
        omega
    · rw [if_neg h2, decide_eq_true]
      · rfl
      · rw [Int32.lt_iff_toInt_lt] at h1
        rw [Int32.le_iff_toInt_le] at h2
        rw [Int32.le_iff_toInt_le, Int32.lt_iff_toInt_lt]
        omega
theorem node_or (x : Int32) {N : Nat} (hN : N ≤ 9) : (∃ v, v < N ∧ x = nI v) ∨ decide ((0 : Int32) ≤ x ∧ x < nI N) = false := by
  by_cases h : (0 : Int32) ≤ x ∧ x < nI N
  · left
    rw [Int32.le_iff_toInt_le, Int32.lt_iff_toInt_lt, nI_toInt (by omega)] at h
    have h0 : ¬ x < 0 := by
      rw [Int32.lt_iff_toInt_lt]
      have : (0 : Int32).toInt = 0 := by decide
      have := h.1
      omega
    obtain ⟨j, hj, e⟩ := nI_of h0
    refine ⟨j, ?_, e⟩
    have h1 := h.2
    rw [e, nI_toInt hj] at h1
    omega
  · right
    exact decide_eq_false h
theorem node_yes {v N : Nat} (h : v < N) (hN : N ≤ 9) : decide ((0 : Int32) ≤ nI v ∧ nI v < nI N) = true := by
  apply decide_eq_true
  exact ⟨nI_pos' (by omega), nI_lt h (by omega)⟩
/-- the reference's isNode says the same -/
theorem isNode_n {N : Nat} (h1 : 1 ≤ N) (hN : N ≤ 9) {w : Nat → Int32} (hw : w 0 = nI N) (x : Int32) : fX8_isNode w x = some (bI (decide (0 ≤ x ∧ x < nI N))) := by
  have e : nI N - 1 = nI (N - 1) := by
    rw [show (1 : Int32) = nI 1 from rfl, pk_sub h1]
  have key : decide ((0 : Int32) ≤ x ∧ x ≤ nI (N - 1)) = decide (0 ≤ x ∧ x < nI N) := by
    apply decide_eq_decide.mpr
    rw [Int32.le_iff_toInt_le, Int32.le_iff_toInt_le, Int32.lt_iff_toInt_lt, nI_toInt (by omega), nI_toInt (by omega)]
    omega
  unfold fX8_isNode
  rw [hw, e, in_n, Option.bind_some, key]
  cases decide (0 ≤ x ∧ x < nI N) <;> rfl
