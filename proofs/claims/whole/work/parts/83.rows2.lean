/-! the guess on the whole: the class's way, and both -/
def cb (m : Nat) : Nat → Nat
  | 0 => 1
  | k + 1 => cb m k * (m - k) / (k + 1)
theorem cb_le : ∀ m, m < 9 → ∀ k, k < 10 → cb m k < 100 := by decide +kernel
def rjF (R : Nat → Nat) (m fr w k : Nat) : Nat := if k < fr then 0 else cb m k * w ^ k * R (m - k)
def rj (R : Nat → Nat) (m fr w : Nat) : Nat := fb_sm (rjF R m fr w) (m + 1)
theorem rjL {rc : Nat → Int64} {R : Nat → Nat} {m fr w : Nat} (hm : m ≤ 8) (hf : fr ≤ 1) (h : ∀ i, i ≤ m → rc i = lN (R i)) : ∀ (t k n : Nat), k + t = m + 1 → t < n → fX7_rowsJoined_L12 rc (nI m) (nI fr) (lN w) n (lN (fb_sm (rjF R m fr w) k)) (lN (cb m k)) (lN (w ^ k)) (nI k) = some (lN (rj R m fr w)) := by
  intro t
  induction t with
  | zero =>
    intro k n hk hn
    obtain ⟨n, rfl⟩ : ∃ z, n = z + 1 := ⟨n - 1, by omega⟩
    have ek : k = m + 1 := by omega
    subst ek
    rw [fX7_rowsJoined_L12, if_pos (nI_lt (by omega) (by omega))]
    rfl
  | succ t ih =>
    intro k n hk hn
    obtain ⟨n, rfl⟩ : ∃ z, n = z + 1 := ⟨n - 1, by omega⟩
    have g := ih (k + 1) n (by omega) (by omega)
    rw [fb_sm_succ, Nat.pow_succ, cb] at g
    have hc := cb_le m (by omega) k (by omega)
    have hmul : cb m k * (m - k) ≤ 100 * 8 := Nat.mul_le_mul (by omega) (by omega)
    have hz : ¬ lN (k + 1) = 0 := fun hh => by
      have := (pk_lEQ (a := k + 1) (b := 0) (by omega) (by omega)).mp hh
      omega
    have hd : dvL (lN (cb m k) * ((nI m - nI k).toInt64)) ((nI k + (1 : Int32)).toInt64) = some (lN (cb m k * (m - k) / (k + 1))) := by
      rw [pk_sub (by omega), nI_1, nI_l (by omega), nI_l (by omega), lN_mul, dvL, if_neg hz, pk_lDiv (by omega) (by omega) (by omega)]
    rw [fX7_rowsJoined_L12, if_neg (nI_nlt (by omega) (by omega)), jn1, hd]
    simp only [Option.bind_some]
    rw [lN_mul (w ^ k) w, nI_1]
    by_cases e : k < fr
    · have e0 : rjF R m fr w k = 0 := if_pos e
      rw [e0, Nat.add_zero] at g
      rw [if_pos (nI_lt e (by omega))]
      exact g
    · have e0 : rjF R m fr w k = cb m k * w ^ k * R (m - k) := if_neg e
      rw [e0] at g
      rw [if_neg (nI_nlt (by omega) (by omega)), pk_sub (by omega), rdL_n (by omega) (by omega), Option.bind_some, h (m - k) (by omega), lN_mul, lN_mul, lN_add]
      exact g
theorem rj_n {rc : Nat → Int64} {R : Nat → Nat} {m fr w : Nat} (hm : m ≤ 8) (hf : fr ≤ 1) (h : ∀ i, i ≤ m → rc i = lN (R i)) : fX7_rowsJoined rc (nI m) (nI fr) (lN w) = some (lN (rj R m fr w)) := by
  have g := rjL (w := w) hm hf h (m + 1) 0 300 (by omega) (by omega)
  rw [Nat.pow_zero] at g
  have g' : fX7_rowsJoined_L12 rc (nI m) (nI fr) (lN w) 300 0 1 1 0 = some (lN (rj R m fr w)) := g
  rw [fX7_rowsJoined, g', Option.bind_some]
def rwO (z : Nat) : Nat := if 7 ≤ z then 1 else 2 ^ (6 - z)
def rwA (z : Nat) : Nat := if 7 ≤ z then 0 else 2 ^ (6 - z)
theorem rwO_n : ∀ z, z < 9 → fX7_waysOfRank (nI z) = some (lN (rwO z)) := by decide +kernel
theorem rwA_n : ∀ z, z < 9 → fX7_waysAboveRank (nI z) = some (lN (rwA z)) := by decide +kernel
theorem rows49 {R : Nat → Nat} {z N : Nat} (hz : z < 9) (hN : N ≤ 8) : ∀ (t n : Nat) (rc : Nat → Int64), t ≤ N + 1 → t < n → (∀ i, i < t → rc i = lN (R i)) → (∀ i, t ≤ i → i ≤ N → rc i = lN (rj R i 1 (rwO z))) → ∃ rc', fX7_rows_L49 (nI z) n (rI t) rc = some rc' ∧ ∀ i, i ≤ N → rc' i = lN (rj R i 1 (rwO z)) := by
  intro t
  induction t with
  | zero =>
    intro n rc ht hn h1 h2
    obtain ⟨n, rfl⟩ : ∃ z, n = z + 1 := ⟨n - 1, by omega⟩
    refine ⟨rc, ?_, fun i hi => h2 i (by omega) hi⟩
    rw [fX7_rows_L49, if_pos (show rI 0 < (0 : Int32) by decide)]
  | succ t ih =>
    intro n rc ht hn h1 h2
    obtain ⟨n, rfl⟩ : ∃ z, n = z + 1 := ⟨n - 1, by omega⟩
    have ej : fX7_rowsJoined rc (nI t) 1 (lN (rwO z)) = some (lN (rj R t 1 (rwO z))) := rj_n (fr := 1) (by omega) (by omega) (fun i hi => h1 i (by omega))
    rw [rI_s, fX7_rows_L49, if_neg (show ¬ nI t < (0 : Int32) from nI_nlt (a := t) (b := 0) (by omega) (by omega)), rwO_n z hz, Option.bind_some, ej, Option.bind_some, wrL_n (by omega) (by omega), Option.bind_some, rI_m1]
    refine ih n _ (by omega) (by omega) (fun i hi => ?_) (fun i h3 h4 => ?_)
    · rw [pk_uLn (by omega)]
      exact h1 i (by omega)
    · by_cases e : i = t
      · subst e
        rw [pk_uLs]
      · rw [pk_uLn e]
        exact h2 i (by omega) h4
theorem RT_s : ∀ k, k < 8 → ∀ i, i < 9 → rj (RT k) i 1 (rwO k) = RT (k + 1) i := by decide +kernel
theorem rows41 {N Z : Nat} (hN : N ≤ 8) (hZ : Z ≤ 8) : ∀ (t k n : Nat) (rc : Nat → Int64), k + t = Z → t < n → (∀ i, i ≤ N → rc i = lN (RT k i)) → ∃ rc', fX7_rows_L41 (nI N) (nI Z) n (nI k) rc = some rc' ∧ ∀ i, i ≤ N → rc' i = lN (RT Z i) := by
  intro t
  induction t with
  | zero =>
    intro k n rc hk hn h
    obtain ⟨n, rfl⟩ : ∃ z, n = z + 1 := ⟨n - 1, by omega⟩
    have ek : k = Z := by omega
    subst ek
    refine ⟨rc, ?_, h⟩
    rw [fX7_rows_L41, if_pos (nI_le (by omega) (by omega))]
  | succ t ih =>
    intro k n rc hk hn h
    obtain ⟨n, rfl⟩ : ∃ z, n = z + 1 := ⟨n - 1, by omega⟩
    obtain ⟨rc1, e1, e2⟩ := rows49 (R := RT k) (z := k) (by omega) hN (N + 1) 300 rc (by omega) (by omega) (fun i hi => h i (by omega)) (fun i h3 h4 => absurd h4 (by omega))
    rw [rI_s] at e1
    rw [fX7_rows_L41, if_neg (nI_ge (by omega) (by omega)), e1, Option.bind_some, nI_1]
    refine ih (k + 1) n rc1 (by omega) (by omega) (fun i hi => ?_)
    rw [e2 i hi, RT_s k (by omega) i (by omega)]
theorem fillJ {x : Int64} : ∀ (t k n : Nat) (f : Nat → Int64), k + t = 9 → t < n → ∃ f', fJ7_fill_d0a16_L6 x (nI 9) n (nI k) f = some f' ∧ (∀ j, j < k → f' j = f j) ∧ ∀ j, k ≤ j → j < 9 → f' j = x := by
  intro t
  induction t with
  | zero =>
    intro k n f hk hn
    obtain ⟨n, rfl⟩ : ∃ z, n = z + 1 := ⟨n - 1, by omega⟩
    refine ⟨f, ?_, fun _ _ => rfl, fun j h1 h2 => absurd h2 (by omega)⟩
    rw [fJ7_fill_d0a16_L6, if_pos (nI_le (by omega) (by omega))]
  | succ t ih =>
    intro k n f hk hn
    obtain ⟨n, rfl⟩ : ∃ z, n = z + 1 := ⟨n - 1, by omega⟩
    rw [fJ7_fill_d0a16_L6, if_neg (nI_ge (by omega) (by omega)), wrL_n (by omega) (by omega), Option.bind_some, nI_1]
    obtain ⟨f', e1, e2, e3⟩ := ih (k + 1) n (vp_updL f k x) (by omega) (by omega)
    refine ⟨f', e1, fun j hj => ?_, fun j h1 h2 => ?_⟩
    · rw [e2 j (by omega), pk_uLn (by omega)]
    · by_cases e : j = k
      · subst e; rw [e2 j (by omega), pk_uLs]
      · exact e3 j (by omega) h2
theorem RT_0 : ∀ i, i < 9 → RT 0 i = if i = 0 then 1 else 0 := by decide +kernel
theorem rowsX {N z : Nat} (h1 : 1 ≤ N) (hN : N ≤ 8) (hz : z ≤ 8) (rc : Nat → Int64) : ∃ rc', fX7_rows rc (nI N) (nI z) = some (lN (rj (RT z) N 0 (rwA z)), rc') := by
  obtain ⟨f, e1, _, e3⟩ := fillJ (x := 0) 9 0 300 rc (by omega) (by omega)
  have e1' : fJ7_fill_d0a16_L6 0 9 300 0 rc = some f := e1
  obtain ⟨rc', g1, g2⟩ := rows41 hN hz z 0 300 (vp_updL f 0 1) (by omega) (by omega) (fun i hi => by
    rw [RT_0 i (by omega)]
    by_cases e : i = 0
    · subst e
      rw [pk_uLs, if_pos rfl]
      rfl
    · rw [pk_uLn e, if_neg e, e3 i (by omega) (by omega)]
      rfl)
  have g1' : fX7_rows_L41 (nI N) (nI z) 300 0 (vp_updL f 0 1) = some rc' := g1
  have k' : fX7_rowsJoined rc' (nI N) 0 (lN (rwA z)) = some (lN (rj (RT z) N 0 (rwA z))) := rj_n (fr := 0) hN (by omega) g2
  refine ⟨rc', ?_⟩
  rw [fX7_rows, within_n, Option.bind_some, jn0, zl1, zl8, ab_yes h1 hN (by omega), bI_t, if_neg (by decide), within_n, Option.bind_some, in_yes hz (by omega), bI_t, if_neg (by decide), fJ7_fill_d0a16, e1', Option.bind_some, Option.bind_some, g1', Option.bind_some, rwA_n z (by omega), Option.bind_some, k', Option.bind_some]
theorem BB_PT {n t : Nat} (hn : n ≤ 8) (ht : t < 256) : BB n t = ce (PT n) t := by
  match n, hn with
  | 0, _ => exact BB0 ht
  | 1, _ => exact BB1 ht
  | 2, _ => exact BB2 ht
  | 3, _ => exact BB3 ht
  | 4, _ => exact BB4 ht
  | 5, _ => exact BB5 ht
  | 6, _ => exact BB6 ht
  | 7, _ => exact BB7 ht
  | 8, _ => exact BB8 ht
  | n + 9, h => omega
theorem sum_PT {n : Nat} (hn : n ≤ 8) (z : Nat) : sumB (BB n) z 256 = sumB (ce (PT n)) z 256 := by
  unfold sumB
  apply fb_sm_cong
  intro t ht
  show (if lnK t 8 0 = z then BB n t else 0) = if lnK t 8 0 = z then ce (PT n) t else 0
  rw [BB_PT hn ht]
theorem rows_tab : ∀ n, n < 8 → ∀ z, z < 9 → rj (RT z) (n + 1) 0 (rwA z) = sumB (ce (PT (n + 1))) z 256 := by decide +kernel
theorem op_rows : OP_rows theInv := by
  intro rc sz sa mo li lo he pz pn gsz gsa gmo gli glo ghe ri rs gr fm tt co le wa ar hd bn bg bz sd ik is_ isz isa imo ili ilo ihe w_m kn_m kp_m sd_m ks_m bo_m bi_m bk_m ri_m fm_m tt_m le_m wa_m hd_m sx_m b1_m b2_m v1 v2 hI
  obtain ⟨hR, hP, hB, hS, hG⟩ := hI
  have fin : ∃ q A B C, fX7_rows rc v1 v2 = some (q, A) ∧ fX8_rows b1_m b2_m v1 v2 = some (q, B, C) := by
    rcases in_ab v1 (a := 1) (n := 8) (by omega) (by omega) with ⟨N, h1, h2, rfl⟩ | hn
    · rcases in_or v2 (n := 8) (by omega) with ⟨z, hz, rfl⟩ | hn
      · obtain ⟨rc', e1⟩ := rowsX h1 h2 hz rc
        obtain ⟨c1, c2, e2⟩ := rowsM h1 h2 hz b1_m b2_m
        obtain ⟨n, rfl⟩ : ∃ z, N = z + 1 := ⟨N - 1, by omega⟩
        rw [sum_PT h2, ← rows_tab n (by omega) z (by omega)] at e2
        exact ⟨_, _, _, _, e1, e2⟩
      · refine ⟨(-1000000002 : Int64), rc, b1_m, b2_m, ?_, ?_⟩
        · rw [fX7_rows, within_n, Option.bind_some, jn0, zl1, zl8, ab_yes h1 h2 (by omega), bI_t, if_neg (by decide), within_n, Option.bind_some, hn, bI_f, if_pos p00]
        · rw [fX8_rows, in_n, Option.bind_some, jn0, zl1, zl8, ab_yes h1 h2 (by omega), bI_t, if_neg (by decide), in_n, Option.bind_some, hn, bI_f, if_pos p00]
    · refine ⟨(-1000000002 : Int64), rc, b1_m, b2_m, ?_, ?_⟩
      · rw [fX7_rows, within_n, Option.bind_some, jn0, zl1, zl8, hn, bI_f, if_pos p00]
      · rw [fX8_rows, in_n, Option.bind_some, jn0, zl1, zl8, hn, bI_f, if_pos p00]
  obtain ⟨q, A, B, C, f1, f2⟩ := fin
  exact ⟨q, A, B, C, f1, f2, hR, hP, hB, hS, hG⟩
