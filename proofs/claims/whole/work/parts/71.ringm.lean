theorem rv_s2 (N : Nat) (L : Nat → Nat) (r v : Nat) : rvK N L (r + 2) v = if (Fq N L (r + 1)).testBit v then r + 2 else rvK N L (r + 1) v := rfl
/-! the reference's rings, the greatest ring, the nodes above -/
theorem sprStop {w : Nat → Int32} {N r v : Nat} {ri : Nat → Int32} (hN : N ≤ 9) (hw : w 0 = nI N) (hv : v < N) (h : ¬ ri v = -1) (k n : Nat) (hk : k ≤ N) (c : Int32) : fX8_spread_L17 w (nI r) (nI v) (n + 1) c (nI k) ri = some (c, ri) := by
  rw [fX8_spread_L17, hw]
  by_cases e : N ≤ k
  · rw [if_pos (nI_le e (by omega))]
  · rw [if_neg (nI_ge (by omega) (by omega)), rdI_n (by omega) (by omega), Option.bind_some, if_neg h]
theorem sprL {w : Nat → Int32} {N r v m : Nat} {ri : Nat → Int32} (hN : N ≤ 9) (hr : r < 9) (hm : m < 2 ^ 31) (hw : w 0 = nI N) (hv : v < N) (hL : w (3 + v) = nI m) (h : ri v = -1) (c : Int32) : ∀ (t k n : Nat), k + t = N → t + 1 < n → ∃ (b : Bool), (b = true ↔ ∃ u, k ≤ u ∧ u < N ∧ m.testBit u = true ∧ ri u = nI r) ∧ fX8_spread_L17 w (nI r) (nI v) n c (nI k) ri = some (if b then nI 1 else c, if b then upd ri v (nI (r + 1)) else ri) := by
  intro t
  induction t with
  | zero =>
    intro k n hk hn
    obtain ⟨n, rfl⟩ : ∃ z, n = z + 1 := ⟨n - 1, by omega⟩
    refine ⟨false, ⟨fun h => (by cases h), fun ⟨u, h1, h2, _⟩ => by omega⟩, ?_⟩
    rw [fX8_spread_L17, hw, if_pos (nI_le (by omega) (by omega)), if_neg (by decide), if_neg (by decide)]
  | succ t ih =>
    intro k n hk hn
    obtain ⟨n, rfl⟩ : ∃ z, n = z + 1 := ⟨n - 1, by omega⟩
    rw [fX8_spread_L17, hw, if_neg (nI_ge (by omega) (by omega)), rdI_n (by omega) (by omega), Option.bind_some, if_pos h, zl3, nI_add, rdI_n (by omega) (by omega), Option.bind_some, hL, has_n hm (by omega), Option.bind_some, jn2]
    obtain ⟨b, b1, b2⟩ := ih (k + 1) n (by omega) (by omega)
    cases hb : m.testBit k
    · refine ⟨b, ?_, ?_⟩
      · rw [b1]
        constructor
        · intro ⟨u, h1, h2⟩; exact ⟨u, by omega, h2⟩
        · intro ⟨u, h1, h2⟩
          refine ⟨u, ?_, h2⟩
          apply Nat.lt_of_le_of_ne h1
          intro e
          rw [← e, hb] at h2
          cases h2.2.1
      · rw [bI_f, if_pos (by decide), nI_1]
        exact b2
    · rw [bI_t, if_neg (by decide), rdI_n (by omega) (by omega), Option.bind_some]
      by_cases hq : ri k = nI r
      · refine ⟨true, ⟨fun _ => ⟨k, by omega, by omega, hb, hq⟩, fun _ => rfl⟩, ?_⟩
        obtain ⟨n, rfl⟩ : ∃ z, n = z + 1 := ⟨n - 1, by omega⟩
        rw [if_pos hq, zl1, nI_add, wrI_n (by omega) (by omega), Option.bind_some, nI_add, if_pos rfl, if_pos rfl]
        exact sprStop hN hw hv (by rw [pk_us]; exact nI_m1 (by omega)) (k + 1) n (by omega) (nI 1)
      · refine ⟨b, ?_, ?_⟩
        · rw [b1]
          constructor
          · intro ⟨u, h1, h2⟩; exact ⟨u, by omega, h2⟩
          · intro ⟨u, h1, h2⟩
            refine ⟨u, ?_, h2⟩
            apply Nat.lt_of_le_of_ne h1
            intro e
            rw [← e] at h2
            exact hq h2.2.2
        · rw [if_neg hq, nI_1]
          exact b2
theorem spreadL {N sal md r : Nat} {L O Hd : Nat → Nat} {w : Nat → Int32} (hO : netOK N L O Hd) (rw_ : rowM N sal md L O Hd w 0) (hr : r < 9) : ∀ (t k n : Nat) (ri : Nat → Int32) (c : Bool), k + t = N → t < n → (∀ j, j < 9 → ri j = if j < k then rI (rvK N L (r + 2) j) else rI (rvK N L (r + 1) j)) → (c = true ↔ ∃ j, j < k ∧ (Fq N L (r + 1)).testBit j = true) → ∃ (ri' : Nat → Int32) (c' : Bool), fX8_spread_L4 w (nI r) n (bI c) (nI k) ri = some (bI c', ri') ∧ (∀ j, j < 9 → ri' j = rI (rvK N L (r + 2) j)) ∧ (c' = true ↔ ∃ j, j < N ∧ (Fq N L (r + 1)).testBit j = true) := by
  have hN := hO.2.1
  have hw : w 0 = nI N := rw_.1
  have rvb : ∀ q j, q ≤ 11 → rvK N L q j < 2 ^ 31 := fun q j hq => by have := rv_le N L j q; omega
  intro t
  induction t with
  | zero =>
    intro k n ri c hk hn h1 h2
    obtain ⟨n, rfl⟩ : ∃ z, n = z + 1 := ⟨n - 1, by omega⟩
    have e : k = N := by omega
    subst e
    refine ⟨ri, c, ?_, fun j hj => ?_, h2⟩
    · rw [fX8_spread_L4, hw, if_pos (nI_le (by omega) (by omega))]
    · rw [h1 j hj]
      by_cases e : j < k
      · rw [if_pos e]
      · rw [if_neg e, rv_in hO (by omega), rv_in hO (by omega)]
  | succ t ih =>
    intro k n ri c hk hn h1 h2
    obtain ⟨n, rfl⟩ : ∃ z, n = z + 1 := ⟨n - 1, by omega⟩
    have hL : w (3 + k) = nI (L k) := by
      have := (rw_.2.2.2 k (by omega)).1
      rw [Nat.zero_add] at this
      exact this
    have hrk : ri k = rI (rvK N L (r + 1) k) := by rw [h1 k (by omega), if_neg (by omega)]
    rw [fX8_spread_L4, hw, if_neg (nI_ge (by omega) (by omega))]
    -- the turn of node k
    have step : ∃ (c1 : Bool) (ri1 : Nat → Int32), fX8_spread_L17 w (nI r) (nI k) 300 (bI c) (nI 0) ri = some (bI c1, ri1) ∧ (c1 = true ↔ c = true ∨ (Fq N L (r + 1)).testBit k = true) ∧ (∀ j, j ≠ k → ri1 j = ri j) ∧ ri1 k = rI (rvK N L (r + 2) k) := by
      by_cases hz : rvK N L (r + 1) k = 0
      · have hseen := rv_z hz
        have hm1 : ri k = -1 := by rw [hrk, hz]; rfl
        obtain ⟨b, b1, b2⟩ := sprL hN hr (lt31 hN (hO.2.2.2.1 k)) hw (by omega : k < N) hL hm1 (bI c) N 0 300 (by omega) (by omega)
        have hbF : b = true ↔ (Fq N L (r + 1)).testBit k = true := by
          rw [b1, Fq_b, hseen, Bool.not_false, Bool.and_true, arK_bit]
          constructor
          · intro ⟨u, _, h4, h5, h6⟩
            refine ⟨u, h4, ?_, ?_⟩
            · rw [h1 u (by omega)] at h6
              by_cases e : u < k
              · rw [if_pos e, rI_e (rvb _ _ (by omega)) (by omega)] at h6
                exact (rv_eq (by omega)).mp h6
              · rw [if_neg e, rI_e (rvb _ _ (by omega)) (by omega)] at h6
                exact (rv_eq (by omega)).mp h6
            · rw [hO.2.2.2.2.2.1]; exact h5
          · intro ⟨u, h4, h5, h6⟩
            refine ⟨u, by omega, h4, ?_, ?_⟩
            · rw [hO.2.2.2.2.2.1]; exact h6
            · rw [h1 u (by omega)]
              by_cases e : u < k
              · rw [if_pos e, rI_e (rvb _ _ (by omega)) (by omega)]
                exact (rv_eq (by omega)).mpr h5
              · rw [if_neg e, rI_e (rvb _ _ (by omega)) (by omega)]
                exact (rv_eq (by omega)).mpr h5
        cases b
        · have hF : (Fq N L (r + 1)).testBit k = false := by
            cases hb : (Fq N L (r + 1)).testBit k
            · rfl
            · exact absurd (hbF.mpr hb) (by decide)
          refine ⟨c, ri, b2, ?_, fun _ _ => rfl, ?_⟩
          · rw [hF]
            exact ⟨fun h => Or.inl h, fun h => h.elim id (fun h => by cases h)⟩
          · rw [hrk, rv_s2, hF, if_neg (by decide)]
        · have hF := hbF.mp rfl
          refine ⟨true, upd ri k (nI (r + 1)), b2, ⟨fun _ => Or.inr hF, fun _ => rfl⟩, fun j hj => pk_un hj, ?_⟩
          rw [pk_us, rv_s2, hF, if_pos rfl, rI_s]
      · have hseen := rv_nz hz
        have hm1 : ¬ ri k = -1 := by rw [hrk, rI_z (rvb _ _ (by omega))]; exact hz
        have hF : (Fq N L (r + 1)).testBit k = false := by rw [Fq_b, hseen, Bool.not_true, Bool.and_false]
        refine ⟨c, ri, sprStop hN hw (by omega) hm1 0 299 (by omega) (bI c), ?_, fun _ _ => rfl, ?_⟩
        · rw [hF]
          exact ⟨fun h => Or.inl h, fun h => h.elim id (fun h => by cases h)⟩
        · rw [hrk, rv_s2, hF, if_neg (by decide)]
    obtain ⟨c1, ri1, s1, s2, s3, s4⟩ := step
    obtain ⟨ri2, c2, g1, g2, g3⟩ := ih (k + 1) n ri1 c1 (by omega) (by omega) (fun j hj => by
      by_cases e : j = k
      · subst e; rw [s4, if_pos (by omega)]
      · rw [s3 j e, h1 j hj]
        by_cases e2 : j < k
        · rw [if_pos e2, if_pos (by omega)]
        · rw [if_neg e2, if_neg (by omega)]) (by
      rw [s2, h2]
      constructor
      · intro h
        rcases h with ⟨j, h3, h4⟩ | h
        · exact ⟨j, by omega, h4⟩
        · exact ⟨k, by omega, h⟩
      · intro ⟨j, h3, h4⟩
        by_cases e : j = k
        · right; rw [← e]; exact h4
        · left; exact ⟨j, by omega, h4⟩)
    refine ⟨ri2, c2, ?_, g2, g3⟩
    rw [zl0, s1]
    simp only [bd2, Option.bind_some]
    rw [nI_1]
    exact g1
theorem spread_n {N sal md r : Nat} {L O Hd : Nat → Nat} {w ri : Nat → Int32} (hO : netOK N L O Hd) (rw_ : rowM N sal md L O Hd w 0) (hr : r < 9) (h1 : ∀ j, j < 9 → ri j = rI (rvK N L (r + 1) j)) : ∃ (ri' : Nat → Int32) (c' : Bool), fX8_spread w ri (nI r) = some (bI c', ri') ∧ (∀ j, j < 9 → ri' j = rI (rvK N L (r + 2) j)) ∧ (c' = true ↔ ∃ j, j < N ∧ (Fq N L (r + 1)).testBit j = true) := by
  have hN := hO.2.1
  obtain ⟨ri2, c2, g1, g2, g3⟩ := spreadL hO rw_ hr N 0 300 ri false (by omega) (by omega) (fun j hj => by rw [if_neg (by omega)]; exact h1 j hj) ⟨fun h => (by cases h), fun ⟨j, h, _⟩ => by omega⟩
  refine ⟨ri2, c2, ?_, g2, g3⟩
  have g1' : fX8_spread_L4 w (nI r) 300 0 0 ri = some (bI c2, ri2) := g1
  rw [fX8_spread, g1']
  simp only [bd2, Option.bind_some]
  cases c2 <;> rfl
theorem layML {N sal md : Nat} {L O Hd : Nat → Nat} {w : Nat → Int32} (hO : netOK N L O Hd) (rw_ : rowM N sal md L O Hd w 0) : ∀ (t r n : Nat) (ri : Nat → Int32), r + t = 9 → t < n → (∀ j, j < 9 → ri j = rI (rvK N L (r + 1) j)) → ∃ ri', fX8_layRings_L30 w n (nI r) ri = some ri' ∧ ∀ j, j < 9 → ri' j = rI (rvK N L 9 j) := by
  intro t
  induction t with
  | zero =>
    intro r n ri hk hn h1
    obtain ⟨n, rfl⟩ : ∃ z, n = z + 1 := ⟨n - 1, by omega⟩
    have e : r = 9 := by omega
    subst e
    refine ⟨ri, ?_, fun j hj => ?_⟩
    · rw [fX8_layRings_L30, if_pos (by decide)]
    · rw [h1 j hj, rv_10 hO]
  | succ t ih =>
    intro r n ri hk hn h1
    obtain ⟨n, rfl⟩ : ∃ z, n = z + 1 := ⟨n - 1, by omega⟩
    obtain ⟨ri2, c2, g1, g2, g3⟩ := spread_n hO rw_ (by omega : r < 9) h1
    rw [fX8_layRings_L30, if_neg (show ¬ (9 : Int32) ≤ nI r from nI_ge (a := r) (b := 9) (by omega) (by omega)), g1]
    simp only [bd2, Option.bind_some]
    cases c2
    · refine ⟨ri2, rfl, fun j hj => ?_⟩
      have hz : Fq N L (r + 1) = 0 := Fq_z hO (fun v hv => by
        cases hb : (Fq N L (r + 1)).testBit v
        · rfl
        · exact absurd (g3.mpr ⟨v, hv, hb⟩) (by decide))
      have hst := fun k => rv_st (v := j) (Fq_zz hz) k
      have e1 := hst 1
      have e2 := hst (8 - r)
      rw [show r + 1 + (8 - r) = 9 by omega] at e2
      rw [g2 j hj, e2, ← e1]
    · rw [bI_t, if_neg (by decide), nI_1]
      exact ih (r + 1) n ri2 (by omega) (by omega) g2
theorem layMf : ∀ (t k n : Nat) (f : Nat → Int32), k + t = 9 → t < n → ∃ f', fX8_layRings_L2 n (nI k) f = some f' ∧ (∀ j, j < k → f' j = f j) ∧ ∀ j, k ≤ j → j < 9 → f' j = -1 := by
  intro t
  induction t with
  | zero =>
    intro k n f hk hn
    obtain ⟨n, rfl⟩ : ∃ z, n = z + 1 := ⟨n - 1, by omega⟩
    refine ⟨f, ?_, fun _ _ => rfl, fun j h1 h2 => absurd h2 (by omega)⟩
    rw [fX8_layRings_L2, if_pos (show (9 : Int32) ≤ nI k from nI_le (a := 9) (b := k) (by omega) (by omega))]
  | succ t ih =>
    intro k n f hk hn
    obtain ⟨n, rfl⟩ : ∃ z, n = z + 1 := ⟨n - 1, by omega⟩
    rw [fX8_layRings_L2, if_neg (show ¬ (9 : Int32) ≤ nI k from nI_ge (a := k) (b := 9) (by omega) (by omega)), wrI_n (by omega) (by omega), Option.bind_some, nI_1]
    obtain ⟨f', e1, e2, e3⟩ := ih (k + 1) n (upd f k (-1)) (by omega) (by omega)
    refine ⟨f', e1, fun j hj => ?_, fun j h1 h2 => ?_⟩
    · rw [e2 j (by omega), pk_un (by omega)]
    · by_cases e : j = k
      · subst e; rw [e2 j (by omega), pk_us]
      · exact e3 j (by omega) h2
theorem layM {N sal md : Nat} {L O Hd : Nat → Nat} {w : Nat → Int32} (hO : netOK N L O Hd) (rw_ : rowM N sal md L O Hd w 0) (ri : Nat → Int32) : ∃ ri', fX8_layRings w ri = some ri' ∧ ∀ j, j < 9 → ri' j = rI (rvK N L 9 j) := by
  obtain ⟨f', e1, _, e3⟩ := layMf 9 0 300 ri (by omega) (by omega)
  have e1' : fX8_layRings_L2 300 0 ri = some f' := e1
  obtain ⟨ri', g1, g2⟩ := layML hO rw_ 9 0 300 (upd f' 0 0) (by omega) (by omega) (fun j hj => by
    rw [rI_step hO]
    by_cases e : j = 0
    · subst e
      rw [pk_us, if_pos ⟨by omega, (by decide : (1 : Nat).testBit 0 = true)⟩]
      rfl
    · rw [pk_un e, e3 j (by omega) hj, if_neg]
      · rfl
      · intro h
        have h1 : (1 : Nat).testBit j = true := h.2
        rw [Nat.testBit_one_eq_true_iff_self_eq_zero] at h1
        exact e h1)
  refine ⟨ri', ?_, g2⟩
  have g1' : fX8_layRings_L30 w 300 0 (upd f' 0 0) = some ri' := g1
  rw [fX8_layRings, e1', Option.bind_some, g1', Option.bind_some]
theorem gr_top {N : Nat} {L : Nat → Nat} {j : Nat} : ∀ {r : Nat}, j < r → Fq N L j ≠ 0 → j ≤ grK N L r := by
  intro r
  induction r with
  | zero => intro h; omega
  | succ r ih =>
    intro h h2
    rw [grK]
    by_cases hz : Fq N L r = 0
    · rw [if_pos hz]
      refine ih ?_ h2
      apply Nat.lt_of_le_of_ne (by omega)
      intro e
      rw [e] at h2
      exact h2 hz
    · rw [if_neg hz]; omega
theorem gr_le (N : Nat) (L : Nat → Nat) : ∀ r, grK N L (r + 1) ≤ r := by
  intro r
  induction r with
  | zero =>
    rw [grK]
    by_cases hz : Fq N L 0 = 0
    · rw [if_pos hz]; exact Nat.le_refl 0
    · rw [if_neg hz]; omega
  | succ r ih =>
    rw [grK]
    by_cases hz : Fq N L (r + 1) = 0
    · rw [if_pos hz]; omega
    · rw [if_neg hz]; omega
theorem gr_nz (N : Nat) (L : Nat → Nat) : ∀ r, Fq N L (grK N L r) ≠ 0 := by
  intro r
  induction r with
  | zero => exact fun h => absurd h (by decide : ¬ (1 : Nat) = 0)
  | succ r ih =>
    rw [grK]
    by_cases hz : Fq N L r = 0
    · rw [if_pos hz]; exact ih
    · rw [if_neg hz]; exact hz
theorem gr_wit {N : Nat} {L O Hd : Nat → Nat} (hO : netOK N L O Hd) : ∃ v, v < N ∧ rvK N L 9 v = grK N L 9 + 1 := by
  have h1 := gr_nz N L 9
  have h2 : grK N L 9 ≤ 8 := gr_le N L 8
  have hx : ∃ v, v < N ∧ (Fq N L (grK N L 9)).testBit v = true := Classical.byContradiction fun hc => h1 (Fq_z hO fun v hv => by
    cases hb : (Fq N L (grK N L 9)).testBit v
    · rfl
    · exact absurd ⟨v, hv, hb⟩ hc)
  obtain ⟨v, hv, hb⟩ := hx
  exact ⟨v, hv, (rv_eq (by omega)).mpr hb⟩
theorem gr_all {N : Nat} {L O Hd : Nat → Nat} (hO : netOK N L O Hd) (v : Nat) : rvK N L 9 v ≤ grK N L 9 + 1 := by
  have h1 := rv_le N L v 9
  rcases Nat.eq_zero_or_pos (rvK N L 9 v) with h | h
  · omega
  · have h2 : (Fq N L (rvK N L 9 v - 1)).testBit v = true := (rv_eq (r := 9) (by omega)).mp (by omega)
    have h3 : Fq N L (rvK N L 9 v - 1) ≠ 0 := fun e => by
      rw [e, Nat.zero_testBit] at h2
      cases h2
    have := gr_top (r := 9) (by omega) h3
    omega
theorem rI_lt0 {q : Nat} (h : q < 2 ^ 31) {a : Nat} (ha : a < 2 ^ 31) : rI q ≤ nI a ↔ q ≤ a + 1 := by
  unfold rI
  by_cases e : q = 0
  · rw [if_pos e, Int32.le_iff_toInt_le, nI_toInt ha]
    have : (-1 : Int32).toInt = -1 := by decide
    omega
  · rw [if_neg e, nI_leI (by omega) ha]; omega
theorem greatL {N sal md : Nat} {L O Hd : Nat → Nat} {w ri : Nat → Int32} (hO : netOK N L O Hd) (rw_ : rowM N sal md L O Hd w 0) (h1 : ∀ j, j < 9 → ri j = rI (rvK N L 9 j)) : ∀ (t k n a : Nat), k + t = N → t < n → a ≤ grK N L 9 → (∀ j, j < k → rvK N L 9 j ≤ a + 1) → fX8_greatestRing_L4 w ri n (nI a) (nI k) = some (nI (grK N L 9)) := by
  have hN := hO.2.1
  have hw : w 0 = nI N := rw_.1
  have h8 : grK N L 9 ≤ 8 := gr_le N L 8
  intro t
  induction t with
  | zero =>
    intro k n a hk hn ha hj
    obtain ⟨n, rfl⟩ : ∃ z, n = z + 1 := ⟨n - 1, by omega⟩
    rw [fX8_greatestRing_L4, hw, if_pos (nI_le (by omega) (by omega))]
    obtain ⟨v, hv, e⟩ := gr_wit hO
    have := hj v (by omega)
    have e2 : a = grK N L 9 := by omega
    rw [e2]
  | succ t ih =>
    intro k n a hk hn ha hj
    obtain ⟨n, rfl⟩ : ∃ z, n = z + 1 := ⟨n - 1, by omega⟩
    have h9 := rv_le N L k 9
    rw [fX8_greatestRing_L4, hw, if_neg (nI_ge (by omega) (by omega)), rdI_n (by omega) (by omega), Option.bind_some, jn1, h1 k (by omega)]
    by_cases hc : rvK N L 9 k ≤ a + 1
    · rw [if_pos ((rI_lt0 (by omega) (by omega)).mpr hc), nI_1]
      refine ih (k + 1) n a (by omega) (by omega) ha (fun j hj2 => ?_)
      by_cases e : j = k
      · rw [e]; exact hc
      · exact hj j (by omega)
    · obtain ⟨q, hq⟩ : ∃ q, rvK N L 9 k = q + 1 := ⟨rvK N L 9 k - 1, by omega⟩
      have h10 := gr_all hO k
      rw [if_neg (fun c => hc ((rI_lt0 (by omega) (by omega)).mp c)), Option.bind_some, nI_1, hq, rI_s]
      refine ih (k + 1) n q (by omega) (by omega) (by omega) (fun j hj2 => ?_)
      by_cases e : j = k
      · rw [e]; omega
      · have := hj j (by omega); omega
theorem great_n {N sal md : Nat} {L O Hd : Nat → Nat} {w ri : Nat → Int32} (hO : netOK N L O Hd) (rw_ : rowM N sal md L O Hd w 0) (h1 : ∀ j, j < 9 → ri j = rI (rvK N L 9 j)) : fX8_greatestRing w ri = some (nI (grK N L 9)) := by
  have hN := hO.2.1
  have g := greatL hO rw_ h1 N 0 300 0 (by omega) (by omega) (by omega) (fun j hj => absurd hj (by omega))
  have g' : fX8_greatestRing_L4 w ri 300 0 0 = some (nI (grK N L 9)) := g
  rw [fX8_greatestRing, g', Option.bind_some]
/-- the nodes above a node -/
def upS (N : Nat) (L : Nat → Nat) (v : Nat) : Nat := if rvK N L 9 v ≤ 1 then 0 else L v &&& Fq N L (rvK N L 9 v - 2)
theorem up_bit {N : Nat} {L : Nat → Nat} {v u : Nat} : (upS N L v).testBit u = true ↔ (L v).testBit u = true ∧ 1 ≤ rvK N L 9 u ∧ rvK N L 9 v = rvK N L 9 u + 1 := by
  have h9 := rv_le N L v 9
  have h9u := rv_le N L u 9
  unfold upS
  by_cases h : rvK N L 9 v ≤ 1
  · rw [if_pos h, Nat.zero_testBit]
    exact ⟨fun h => (by cases h), fun h => by omega⟩
  · rw [if_neg h, Nat.testBit_and, Bool.and_eq_true, ← rv_eq (r := 9) (by omega)]
    constructor
    · intro ⟨a, b⟩; exact ⟨a, by omega, by omega⟩
    · intro ⟨a, b, c⟩; exact ⟨a, by omega⟩
theorem up_lt {N : Nat} {L O Hd : Nat → Nat} (hO : netOK N L O Hd) (v : Nat) : upS N L v < 2 ^ N := bits_lt (fun u h => by
  have h1 := (up_bit.mp h).1
  apply Nat.lt_of_not_le
  intro hc
  rw [Nat.testBit_lt_two_pow (Nat.lt_of_lt_of_le (hO.2.2.2.1 v) (Nat.pow_le_pow_right (by omega) hc))] at h1
  cases h1)
theorem uppers_n {N : Nat} {L O Hd : Nat → Nat} {ri rs li : Nat → Int32} (hO : netOK N L O Hd) (h1 : ∀ j, j < 9 → ri j = rI (rvK N L 9 j)) (h2 : ∀ j, j < 9 → rs j = nI (Fq N L j)) (hl : ∀ v, v < 9 → li v = nI (L v)) {v : Nat} (hv : v < 9) : fX6_uppers ri rs li (nI v) = some (nI (upS N L v)) := by
  have h9 := rv_le N L v 9
  rw [fX6_uppers, rdI_n (by omega) (by omega), Option.bind_some, h1 v hv]
  unfold upS
  by_cases h : rvK N L 9 v ≤ 1
  · have hc : ¬ (1 : Int32) ≤ rI (rvK N L 9 v) := by
      unfold rI
      by_cases e : rvK N L 9 v = 0
      · rw [if_pos e]; decide
      · rw [if_neg e, show rvK N L 9 v - 1 = 0 by omega]; decide
    rw [if_neg hc, if_pos h]
    rfl
  · obtain ⟨q, hq⟩ : ∃ q, rvK N L 9 v = q + 2 := ⟨rvK N L 9 v - 2, by omega⟩
    rw [hq, rI_s, if_pos (show (1 : Int32) ≤ nI (q + 1) from nI_le (a := 1) (b := q + 1) (by omega) (by omega)), rdI_n (by omega) (by omega), Option.bind_some, Option.bind_some, nI_pred, rdI_n (by omega) (by omega), Option.bind_some, hl v hv, h2 q (by omega), fa_and, if_neg (by omega), Nat.add_sub_cancel]
theorem upperL {N sal md : Nat} {L O Hd : Nat → Nat} {w ri : Nat → Int32} (hO : netOK N L O Hd) (rw_ : rowM N sal md L O Hd w 0) (h1 : ∀ j, j < 9 → ri j = rI (rvK N L 9 j)) {v : Nat} (hv : v < N) : ∀ (t k n : Nat), k + t = N → t < n → fX8_upper_L4 w ri (nI v) n (nI (upS N L v % 2 ^ k)) (nI k) = some (nI (upS N L v)) := by
  have hN := hO.2.1
  have hw : w 0 = nI N := rw_.1
  have hL : w (3 + v) = nI (L v) := by
    have := (rw_.2.2.2 v hv).1
    rw [Nat.zero_add] at this
    exact this
  have h9 := rv_le N L v 9
  intro t
  induction t with
  | zero =>
    intro k n hk hn
    obtain ⟨n, rfl⟩ : ∃ z, n = z + 1 := ⟨n - 1, by omega⟩
    have e : k = N := by omega
    subst e
    rw [fX8_upper_L4, hw, if_pos (nI_le (by omega) (by omega)), Nat.mod_eq_of_lt (up_lt hO v)]
  | succ t ih =>
    intro k n hk hn
    obtain ⟨n, rfl⟩ : ∃ z, n = z + 1 := ⟨n - 1, by omega⟩
    have h9k := rv_le N L k 9
    have hmod : upS N L v % 2 ^ (k + 1) = upS N L v % 2 ^ k ||| (if (upS N L v).testBit k = true then 2 ^ k else 0) := by
      apply Nat.eq_of_testBit_eq
      intro i
      rw [Nat.testBit_or, Nat.testBit_mod_two_pow, Nat.testBit_mod_two_pow]
      by_cases hb : (upS N L v).testBit k = true
      · rw [if_pos hb, Nat.testBit_two_pow]
        by_cases e : i = k
        · subst e; rw [hb, decide_eq_true (p := i < i + 1) (by omega), decide_eq_true (p := i = i) rfl, Bool.or_true]; rfl
        · rw [decide_eq_false (p := k = i) (by omega), Bool.or_false]
          congr 1
          exact decide_eq_decide.mpr (by omega)
      · rw [if_neg hb, Nat.zero_testBit, Bool.or_false]
        by_cases e : i = k
        · subst e
          have : (upS N L v).testBit i = false := by
            cases hx : (upS N L v).testBit i
            · rfl
            · exact absurd hx hb
          rw [this, Bool.and_false, Bool.and_false]
        · congr 1
          exact decide_eq_decide.mpr (by omega)
    have fin0 : ¬ (upS N L v).testBit k = true → fX8_upper_L4 w ri (nI v) n (nI (upS N L v % 2 ^ k) ||| 0) (nI k + 1) = some (nI (upS N L v)) := fun hb => by
      rw [if_neg hb] at hmod
      rw [zl0, fa_or, ← hmod, nI_1]
      exact ih (k + 1) n (by omega) (by omega)
    have fin1 : (upS N L v).testBit k = true → fX8_upper_L4 w ri (nI v) n (nI (upS N L v % 2 ^ k) ||| ((1 : Int32) <<< (nI k &&& 31))) (nI k + 1) = some (nI (upS N L v)) := fun hb => by
      rw [if_pos hb] at hmod
      rw [shl_1 (by omega), fa_or, ← hmod, nI_1]
      exact ih (k + 1) n (by omega) (by omega)
    rw [fX8_upper_L4, hw, if_neg (nI_ge (by omega) (by omega)), rdI_n (by omega) (by omega), Option.bind_some, jn1, jn0, h1 v (by omega)]
    by_cases hc : rvK N L 9 v ≤ 1
    · rw [if_pos (show rI (rvK N L 9 v) ≤ 0 from (rI_lt0 (a := 0) (by omega) (by omega)).mpr (by omega))]
      exact fin0 (fun h => by have := up_bit.mp h; omega)
    · rw [if_neg (show ¬ rI (rvK N L 9 v) ≤ 0 from fun c => by have := (rI_lt0 (q := rvK N L 9 v) (a := 0) (by omega) (by omega)).mp c; omega), zl3, nI_add, rdI_n (by omega) (by omega), Option.bind_some, hL, has_n (lt31 hN (hO.2.2.2.1 v)) (by omega), Option.bind_some]
      cases hb : (L v).testBit k
      · rw [bI_f, if_pos (by decide)]
        exact fin0 (fun h => by have := (up_bit.mp h).1; rw [hb] at this; cases this)
      · obtain ⟨q, hq⟩ : ∃ q, rvK N L 9 v = q + 2 := ⟨rvK N L 9 v - 2, by omega⟩
        rw [bI_t, if_neg (by decide), rdI_n (by omega) (by omega), Option.bind_some, Option.bind_some, h1 k (by omega), hq, rI_s, nI_pred]
        by_cases hd : rvK N L 9 k = q + 1
        · rw [if_pos ((rI_e (by omega) (by omega)).mpr hd)]
          exact fin1 (up_bit.mpr ⟨hb, by omega, by omega⟩)
        · rw [if_neg (fun c => hd ((rI_e (by omega) (by omega)).mp c))]
          exact fin0 (fun h => by have := (up_bit.mp h).2; omega)
theorem upper_n {N sal md : Nat} {L O Hd : Nat → Nat} {w ri : Nat → Int32} (hO : netOK N L O Hd) (rw_ : rowM N sal md L O Hd w 0) (h1 : ∀ j, j < 9 → ri j = rI (rvK N L 9 j)) {v : Nat} (hv : v < N) : fX8_upper w ri (nI v) = some (nI (upS N L v)) := by
  have hN := hO.2.1
  have g := upperL hO rw_ h1 hv N 0 300 (by omega) (by omega)
  rw [Nat.pow_zero, Nat.mod_one] at g
  have g' : fX8_upper_L4 w ri (nI v) 300 0 0 = some (nI (upS N L v)) := g
  rw [fX8_upper, g', Option.bind_some]
