/-! hearing by draws -/
theorem draw_eq {sd : Int32} {m : Nat} (h1 : 1 ≤ m) (hm : m < 2 ^ 31) : fX1_next sd (nI m) = fX8_draw sd (nI m) := by
  rw [fX1_next, if_pos (show (1 : Int32) ≤ nI m from nI_le (a := 1) (b := m) h1 hm), fX8_draw]
theorem draw_n {S m : Nat} (hS : S < 2 ^ 31) (h1 : 1 ≤ m) (hm : m < 2 ^ 31) : fX8_draw (nI S) (nI m) = some (nI ((S * 1103515245 + 12345) % 2147483648 / 65536 % m), nI ((S * 1103515245 + 12345) % 2147483648)) := by
  have e1 : (nI S).toInt64 * (1103515245 : Int64) + (12345 : Int64) = lN (S * 1103515245 + 12345) := by
    rw [nI_l hS, show (1103515245 : Int64) = lN 1103515245 from rfl, show (12345 : Int64) = lN 12345 from rfl, lN_mul, lN_add]
  have hb : S * 1103515245 + 12345 < 2 ^ 63 := by omega
  rw [fX8_draw, e1, show (2147483648 : Int64) = lN 2147483648 from rfl, pk_lRem hb (by omega) (by omega), lN_i, zl65536, pk_div (by omega) (by omega) (by omega), rmI, if_neg (nI_ne0 (by omega) hm), Option.bind_some, pk_rem (by omega) (by omega) hm]
theorem draw_ex {S m : Nat} (hS : S < 2 ^ 31) (h1 : 1 ≤ m) (hm : m < 2 ^ 31) : ∃ d T, d < m ∧ T < 2 ^ 31 ∧ fX8_draw (nI S) (nI m) = some (nI d, nI T) ∧ fX1_next (nI S) (nI m) = some (nI d, nI T) := by
  refine ⟨_, _, Nat.mod_lt _ h1, ?_, draw_n hS h1 hm, (draw_eq h1 hm).trans (draw_n hS h1 hm)⟩
  omega
theorem bd2_s {A1 A2 β : Type} (a : A1) (b : A2) (k : A1 → A2 → Option β) : bd2 (some (a, b)) k = k a b := rfl
theorem bd8_s {A1 A2 A3 A4 A5 A6 A7 A8 β : Type} (a1 : A1) (a2 : A2) (a3 : A3) (a4 : A4) (a5 : A5) (a6 : A6) (a7 : A7) (a8 : A8) (k : A1 → A2 → A3 → A4 → A5 → A6 → A7 → A8 → Option β) : bd8 (some (a1, a2, a3, a4, a5, a6, a7, a8)) k = k a1 a2 a3 a4 a5 a6 a7 a8 := rfl
theorem drift_step {sz sa mo : Int32} {li lo : Nat → Int32} {v1 v2 : Int32} {n : Nat} {he he1 : Nat → Int32} {pz pn pz1 pn1 : Int32} {gsz gsa gmo gsz1 gsa1 gmo1 : Nat → Int32} {gli glo ghe gli1 glo1 ghe1 : Nat → Nat → Int32} {sd s1 s2 x y : Int32} (hlt : ¬ v1 ≤ v2) (e1 : fX4_remember pz pn gsz gsa gmo gli glo ghe sz sa mo li lo he = some (pz1, pn1, gsz1, gsa1, gmo1, gli1, glo1, ghe1)) (q1 : fX1_next sd sz = some (x, s1)) (q2 : fX1_next s1 (16 : Int32) = some (y, s2)) (q3 : fX3_turnItem he x y = some he1) : fX7_drift_L15 sz sa mo li lo v1 (n + 1) v2 he pz pn gsz gsa gmo gli glo ghe sd = fX7_drift_L15 sz sa mo li lo v1 n (v2 + 1) he1 pz1 pn1 gsz1 gsa1 gmo1 gli1 glo1 ghe1 s2 := by
  rw [fX7_drift_L15, if_neg hlt, e1, bd8_s, q1, bd2_s, q2, bd2_s, q3, Option.bind_some]
theorem drift_stepM {v1 v2 : Int32} {n : Nat} {w w1 w2 : Nat → Int32} {kn kn1 sd s1 s2 x y z : Int32} (hlt : ¬ v1 ≤ v2) (e2 : fX8_remember w kn = some (w1, kn1)) (d1 : fX8_draw sd (w1 0) = some (x, s1)) (d2 : fX8_draw s1 (16 : Int32) = some (y, s2)) (g1 : rdI 570 w1 ((21 : Int32) + x) = some z) (g2 : wrI 570 w1 ((21 : Int32) + x) (z ^^^ ((1 : Int32) <<< (y &&& 31))) = some w2) : fX8_drift_L15 v1 (n + 1) v2 w kn sd = fX8_drift_L15 v1 n (v2 + 1) w2 kn1 s2 := by
  rw [fX8_drift_L15, if_neg hlt, e2, bd2_s, d1, bd2_s, d2, bd2_s, g1, Option.bind_some, g2, Option.bind_some]
theorem driftL {sz sa mo : Int32} {li lo : Nat → Int32} : ∀ (t k n : Nat) (C : Nat) (he : Nat → Int32) (pz pn : Int32) (gsz gsa gmo : Nat → Int32) (gli glo ghe : Nat → Nat → Int32) (sd : Int32) (w : Nat → Int32) (kn sdm : Int32), k + t = C → C ≤ 12 → t < n → rel sz sa mo li lo he w 0 → pastOK pz pn gsz gsa gmo gli glo ghe w kn → seedOK sd sdm → ∃ (he1 : Nat → Int32) (pz1 pn1 : Int32) (gsz1 gsa1 gmo1 : Nat → Int32) (gli1 glo1 ghe1 : Nat → Nat → Int32) (sd1 : Int32) (w1 : Nat → Int32) (kn1 sdm1 : Int32), fX7_drift_L15 sz sa mo li lo (nI C) n (nI k) he pz pn gsz gsa gmo gli glo ghe sd = some (he1, pz1, pn1, gsz1, gsa1, gmo1, gli1, glo1, ghe1, sd1) ∧ fX8_drift_L15 (nI C) n (nI k) w kn sdm = some (w1, kn1, sdm1) ∧ rel sz sa mo li lo he1 w1 0 ∧ pastOK pz1 pn1 gsz1 gsa1 gmo1 gli1 glo1 ghe1 w1 kn1 ∧ seedOK sd1 sdm1 ∧ (∀ j, 510 ≤ j → w1 j = w j) := by
  intro t
  induction t with
  | zero =>
    intro k n C he pz pn gsz gsa gmo gli glo ghe sd w kn sdm hk hC hn hR hP hS
    obtain ⟨n, rfl⟩ : ∃ z, n = z + 1 := ⟨n - 1, by omega⟩
    refine ⟨he, pz, pn, gsz, gsa, gmo, gli, glo, ghe, sd, w, kn, sdm, ?_, ?_, hR, hP, hS, fun _ _ => rfl⟩
    · rw [fX7_drift_L15, if_pos (nI_le (by omega) (by omega))]
    · rw [fX8_drift_L15, if_pos (nI_le (by omega) (by omega))]
  | succ t ih =>
    intro k n C he pz pn gsz gsa gmo gli glo ghe sd w kn sdm hk hC hn hR hP hS
    obtain ⟨n, rfl⟩ : ∃ z, n = z + 1 := ⟨n - 1, by omega⟩
    obtain ⟨pz1, pn1, gsz1, gsa1, gmo1, gli1, glo1, ghe1, w1, kn1, e1, e2, p1, a1, a2⟩ := remember_both hR hP
    obtain ⟨N, sal, md, L, O, Hd, hO, h2, h3, x, r⟩ := hR
    have hN := hO.2.1
    have hN1 := hO.1
    obtain ⟨rfl, S, hS1, rfl⟩ := hS
    have r1 := row_c hN r a1
    have hw0 : w1 0 = nI N := r1.1
    have ex := x.1
    subst ex
    obtain ⟨u, S3, hu, hS3, d1, q1⟩ := draw_ex (m := N) hS1 (by omega) (by omega)
    obtain ⟨i, S4, hi, hS4b, d2, q2⟩ := draw_ex (m := 16) hS3 (by omega) (by omega)
    have hq : Hd u ^^^ 2 ^ i < 65536 := Nat.xor_lt_two_pow (n := 16) (hO.2.2.2.2.1 u) (pw_lt hi)
    obtain ⟨he1, pz2, pn2, gsz2, gsa2, gmo2, gli2, glo2, ghe2, sd2, w2, kn2, sdm2, f1, f2, f3, f4, f5, f6⟩ := ih (k + 1) n C (upd he u (nI (Hd u ^^^ 2 ^ i))) pz1 pn1 gsz1 gsa1 gmo1 gli1 glo1 ghe1 (nI S4) (upd w1 (21 + u) (nI (Hd u ^^^ 2 ^ i))) kn1 (nI S4) (by omega) hC (by omega) ⟨N, sal, md, L, O, un Hd u (Hd u ^^^ 2 ^ i), hd_set hO hu hq, h2, h3, hd_x x, hd_r hN hu r1⟩ (past_w p1 (fun k h5 h6 => pk_un (by omega))) ⟨rfl, S4, hS4b, rfl⟩
    refine ⟨he1, pz2, pn2, gsz2, gsa2, gmo2, gli2, glo2, ghe2, sd2, w2, kn2, sdm2, ?_, ?_, f3, f4, f5, fun j hj => by rw [f6 j hj, pk_un (by omega), a2 j hj]⟩
    · have q2' : fX1_next (nI S3) (16 : Int32) = some (nI i, nI S4) := by
        rw [zl16]
        exact q2
      have q3 : fX3_turnItem he (nI u) (nI i) = some (upd he u (nI (Hd u ^^^ 2 ^ i))) := by
        rw [fX3_turnItem, rdI_n (by omega) (by omega), Option.bind_some, (x.2.2.2 u (by omega)).2.2, shl_1 (by omega), fb_xorI, wrI_n (by omega) (by omega), Option.bind_some]
      rw [drift_step (nI_ge (by omega) (by omega)) e1 q1 q2' q3, nI_1]
      exact f1
    · have e3 : w1 (21 + u) = nI (Hd u) := by
        have := (r1.2.2.2 u hu).2.2
        rw [Nat.zero_add] at this
        exact this
      have d1' : fX8_draw (nI S) (w1 0) = some (nI u, nI S3) := by
        rw [hw0]
        exact d1
      have d2' : fX8_draw (nI S3) (16 : Int32) = some (nI i, nI S4) := by
        rw [zl16]
        exact d2
      have g1 : rdI 570 w1 ((21 : Int32) + nI u) = some (nI (Hd u)) := by
        rw [zl21, nI_add, rdI_n (by omega) (by omega), e3]
      have g2 : wrI 570 w1 ((21 : Int32) + nI u) (nI (Hd u) ^^^ ((1 : Int32) <<< (nI i &&& 31))) = some (upd w1 (21 + u) (nI (Hd u ^^^ 2 ^ i))) := by
        rw [zl21, nI_add, shl_1 (by omega), fb_xorI, wrI_n (by omega) (by omega)]
      rw [drift_stepM (nI_ge (by omega) (by omega)) e2 d1' d2' g1 g2, nI_1]
      exact f2
