/-! nodes added and taken -/
theorem i32_nat (x : Int32) : ∃ m : Nat, m < 2 ^ 32 ∧ x = nI m := by
  refine ⟨x.toBitVec.toNat, x.toBitVec.isLt, ?_⟩
  apply Int32.toBitVec_inj.1
  show x.toBitVec = BitVec.ofNat 32 x.toBitVec.toNat
  rw [BitVec.ofNat_toNat, BitVec.setWidth_eq]
theorem nI_z {m : Nat} (h : m < 2 ^ 32) (e : nI m = 0) : m = 0 := by
  have h1 := pk_tn h
  rw [e] at h1
  exact h1.symm
theorem everyone_n {N : Nat} (hN : N ≤ 9) : fX3_everyone (nI N) = some (nI (2 ^ N - 1)) := by
  rw [fX3_everyone, shl_1 (by omega), zl1, pk_sub (Nat.two_pow_pos N)]
theorem set_in {N m : Nat} (h : m ≤ 2 ^ N - 1) : nI m &&& (nI (2 ^ N - 1) ^^^ (-1)) = 0 := by
  rw [not_n, Nat.and_two_pow_sub_one_eq_mod, Nat.mod_eq_of_lt (by have := Nat.two_pow_pos N; omega), Nat.xor_self]
  rfl
theorem set_out {N : Nat} {x : Int32} (hN : N ≤ 9) (h : decide ((0 : Int32) ≤ x ∧ x ≤ nI (2 ^ N - 1)) = false) : ¬ (x &&& (nI (2 ^ N - 1) ^^^ (-1)) = 0) := by
  intro hc
  obtain ⟨m, hm, rfl⟩ := i32_nat x
  rw [not_n] at hc
  have h1 := nI_z (Nat.xor_lt_two_pow hm (Nat.lt_of_le_of_lt Nat.and_le_left hm)) hc
  have h2 : m = m &&& (2 ^ N - 1) := by
    apply Nat.eq_of_testBit_eq
    intro i
    have h3 : (m ^^^ (m &&& (2 ^ N - 1))).testBit i = false := by rw [h1, Nat.zero_testBit]
    rw [Nat.testBit_xor] at h3
    revert h3
    cases m.testBit i <;> cases (m &&& (2 ^ N - 1)).testBit i <;> decide
  have h3 : m ≤ 2 ^ N - 1 := by rw [h2]; exact Nat.and_le_right
  have h4 : 2 ^ N ≤ 2 ^ 9 := Nat.pow_le_pow_right (by omega) hN
  rw [in_yes h3 (by omega)] at h
  cases h
def lad (N m : Nat) (L : Nat → Nat) : Nat → Nat := fun j => if j = N then m else if j < N ∧ m.testBit j = true then L j ||| 2 ^ N else L j
theorem lad_bit {N m : Nat} {L : Nat → Nat} {j : Nat} (h : j < N) (i : Nat) : (lad N m L j).testBit i = ((L j).testBit i || (m.testBit j && decide (i = N))) := by
  unfold lad
  rw [if_neg (by omega)]
  cases hb : m.testBit j
  · rw [if_neg (fun c => by cases c.2), Bool.false_and, Bool.or_false]
  · rw [if_pos ⟨h, rfl⟩, fb_bit_set, Bool.true_and]
theorem lad_ok {N m q : Nat} {L O Hd : Nat → Nat} (hO : netOK N L O Hd) (h8 : N < 9) (hm : m < 2 ^ N) (hq : q < 65536) : netOK (N + 1) (lad N m L) O (un Hd N q) := by
  obtain ⟨a1, a2, a3, a4, a5, a6, a7, a8, a9⟩ := hO
  have hmb : ∀ i, N ≤ i → m.testBit i = false := fun i hi => Nat.testBit_lt_two_pow (Nat.lt_of_lt_of_le hm (Nat.pow_le_pow_right (by omega) hi))
  have hLb : ∀ j i, N ≤ i → (L j).testBit i = false := fun j i hi => Nat.testBit_lt_two_pow (Nat.lt_of_lt_of_le (a4 j) (Nat.pow_le_pow_right (by omega) hi))
  have hz : ∀ j, N < j → lad N m L j = 0 := fun j hj => by
    unfold lad
    rw [if_neg (by omega), if_neg (by omega)]
    exact (a3 j (by omega)).1
  have hNn : lad N m L N = m := if_pos rfl
  have hlt : ∀ j, lad N m L j < 2 ^ (N + 1) := fun j => by
    have hp : 2 ^ N < 2 ^ (N + 1) := pw_lt (by omega)
    unfold lad
    by_cases h1 : j = N
    · rw [if_pos h1]; omega
    · rw [if_neg h1]
      by_cases h2 : j < N ∧ m.testBit j = true
      · rw [if_pos h2]; exact Nat.or_lt_two_pow (Nat.lt_trans (a4 j) hp) hp
      · rw [if_neg h2]; have := a4 j; omega
  refine ⟨by omega, by omega, fun v hv => ⟨hz v (by omega), (a3 v (by omega)).2.1, ?_⟩, hlt, fun v => ?_, fun u v => ?_, fun v => ?_, a8, fun u v h => ?_⟩
  · rw [un_n (by omega)]; exact (a3 v (by omega)).2.2
  · by_cases e : v = N
    · rw [e, un_s]; exact hq
    · rw [un_n e]; exact a5 v
  · rcases Nat.lt_trichotomy u N with h1 | h1 | h1
    · rcases Nat.lt_trichotomy v N with h2 | h2 | h2
      · rw [lad_bit h1, lad_bit h2, decide_eq_false (by omega), decide_eq_false (by omega), Bool.and_false, Bool.and_false, a6]
      · subst h2
        rw [lad_bit h1, hNn, hLb u v (by omega), decide_eq_true rfl, Bool.and_true, Bool.false_or]
      · rw [lad_bit h1, hz v h2, hLb u v (by omega), decide_eq_false (by omega), Bool.and_false, Nat.zero_testBit]; rfl
    · subst h1
      rcases Nat.lt_trichotomy v u with h2 | h2 | h2
      · rw [lad_bit h2, hNn, hLb v u (by omega), decide_eq_true rfl, Bool.and_true, Bool.false_or]
      · subst h2; rfl
      · rw [hNn, hz v h2, hmb v (by omega), Nat.zero_testBit]
    · rw [hz u h1, Nat.zero_testBit]
      rcases Nat.lt_trichotomy v N with h2 | h2 | h2
      · rw [lad_bit h2, hLb v u (by omega), decide_eq_false (by omega), Bool.and_false]; rfl
      · subst h2; rw [hNn, hmb u (by omega)]
      · rw [hz v h2, Nat.zero_testBit]
  · rcases Nat.lt_trichotomy v N with h2 | h2 | h2
    · rw [lad_bit h2, a7, decide_eq_false (by omega), Bool.and_false]; rfl
    · subst h2; rw [hNn]; exact hmb v (by omega)
    · rw [hz v h2, Nat.zero_testBit]
  · rcases Nat.lt_or_ge u N with h1 | h1
    · rw [lad_bit h1, a9 u v h]; rfl
    · rw [(a3 u h1).2.1, Nat.zero_testBit] at h
      cases h
theorem addL {N m : Nat} {L : Nat → Nat} (hN : N < 9) (hm : m < 2 ^ N) (hL : ∀ j, L j < 2 ^ N) : ∀ (t k n : Nat) (li : Nat → Int32), k + t = N → t < n → (∀ j, k ≤ j → j < N → li j = nI (L j)) → ∃ li', fX3_add_L36 (nI m) (nI N) n (nI k) li = some li' ∧ (∀ j, j < k ∨ N ≤ j → li' j = li j) ∧ (∀ j, k ≤ j → j < N → li' j = nI (lad N m L j)) := by
  have hm31 : m < 2 ^ 31 := lt31 (N := N) (by omega) hm
  intro t
  induction t with
  | zero =>
    intro k n li hk hn hl
    obtain ⟨n, rfl⟩ : ∃ z, n = z + 1 := ⟨n - 1, by omega⟩
    refine ⟨li, ?_, fun _ _ => rfl, fun j h1 h2 => absurd h2 (by omega)⟩
    rw [fX3_add_L36, if_pos (nI_le (by omega) (by omega))]
  | succ t ih =>
    intro k n li hk hn hl
    obtain ⟨n, rfl⟩ : ∃ z, n = z + 1 := ⟨n - 1, by omega⟩
    rw [fX3_add_L36, if_neg (nI_ge (by omega) (by omega)), isIn_n hm31 (by omega), Option.bind_some, jn1]
    cases hb : m.testBit k
    · rw [bI_f, if_pos (by decide), nI_1]
      obtain ⟨li', e1, e2, e3⟩ := ih (k + 1) n li (by omega) (by omega) (fun j h1 h2 => hl j (by omega) h2)
      refine ⟨li', e1, fun j hj => e2 j (by omega), fun j h1 h2 => ?_⟩
      by_cases h3 : j = k
      · subst h3
        rw [e2 j (by omega), hl j (by omega) h2]
        unfold lad
        rw [if_neg (by omega), if_neg (fun c => by rw [hb] at c; cases c.2)]
      · exact e3 j (by omega) h2
    · rw [bI_t, if_neg (by decide), rdI_n (by omega) (by omega), Option.bind_some, hl k (by omega) (by omega), shl_1 (by omega), fa_or, wrI_n (by omega) (by omega), Option.bind_some, nI_1]
      obtain ⟨li', e1, e2, e3⟩ := ih (k + 1) n (upd li k (nI (L k ||| 2 ^ N))) (by omega) (by omega) (fun j h1 h2 => by rw [pk_un (by omega)]; exact hl j (by omega) h2)
      refine ⟨li', e1, fun j hj => ?_, fun j h1 h2 => ?_⟩
      · rw [e2 j (by omega), pk_un (by omega)]
      · by_cases h3 : j = k
        · subst h3
          rw [e2 j (by omega), pk_us]
          unfold lad
          rw [if_neg (by omega), if_pos ⟨h2, hb⟩]
        · exact e3 j (by omega) h2
theorem nodeL {N m : Nat} {L : Nat → Nat} (hN : N < 9) (hm : m < 2 ^ N) (hL : ∀ j, L j < 2 ^ N) : ∀ (t k n : Nat) (w : Nat → Int32), k + t = N → t < n → (∀ j, k ≤ j → j < N → w (3 + j) = nI (L j)) → w (3 + N) = nI (m % 2 ^ k) → ∃ w', fX8_node_L101 (nI m) (nI N) n (nI k) w = some w' ∧ (∀ j, j < 3 + k ∨ 3 + N < j → w' j = w j) ∧ (∀ j, k ≤ j → j < N → w' (3 + j) = nI (lad N m L j)) ∧ w' (3 + N) = nI m := by
  have hm31 : m < 2 ^ 31 := lt31 (N := N) (by omega) hm
  intro t
  induction t with
  | zero =>
    intro k n w hk hn hl h3
    obtain ⟨n, rfl⟩ : ∃ z, n = z + 1 := ⟨n - 1, by omega⟩
    refine ⟨w, ?_, fun _ _ => rfl, fun j h1 h2 => absurd h2 (by omega), ?_⟩
    · rw [fX8_node_L101, if_pos (nI_le (by omega) (by omega))]
    · have : k = N := by omega
      rw [h3, this, Nat.mod_eq_of_lt hm]
  | succ t ih =>
    intro k n w hk hn hl h3
    obtain ⟨n, rfl⟩ : ∃ z, n = z + 1 := ⟨n - 1, by omega⟩
    rw [fX8_node_L101, if_neg (nI_ge (by omega) (by omega)), has_n hm31 (by omega), Option.bind_some, jn1]
    cases hb : m.testBit k
    · have e0 : m % 2 ^ k = m % 2 ^ (k + 1) := by
        apply Nat.eq_of_testBit_eq
        intro i
        rw [Nat.testBit_mod_two_pow, Nat.testBit_mod_two_pow]
        by_cases h : i = k
        · subst h; rw [hb, Bool.and_false, Bool.and_false]
        · congr 1
          exact decide_eq_decide.mpr (by omega)
      rw [bI_f, if_pos (by decide), nI_1]
      obtain ⟨w', e1, e2, e3, e4⟩ := ih (k + 1) n w (by omega) (by omega) (fun j h1 h2 => hl j (by omega) h2) (by rw [h3, e0])
      refine ⟨w', e1, fun j hj => e2 j (by omega), fun j h1 h2 => ?_, e4⟩
      by_cases h4 : j = k
      · subst h4
        rw [e2 _ (by omega), hl j (by omega) h2]
        unfold lad
        rw [if_neg (by omega), if_neg (fun c => by rw [hb] at c; cases c.2)]
      · exact e3 j (by omega) h2
    · have e0 : m % 2 ^ k ^^^ 2 ^ k = m % 2 ^ (k + 1) := by
        apply Nat.eq_of_testBit_eq
        intro i
        rw [fb_bit_flip, Nat.testBit_mod_two_pow, Nat.testBit_mod_two_pow]
        by_cases h : i = k
        · subst h; rw [hb, decide_eq_false (by omega), decide_eq_true rfl, decide_eq_true (by omega)]; rfl
        · rw [decide_eq_false h, Bool.xor_false]
          congr 1
          exact decide_eq_decide.mpr (by omega)
      have e5 : L k ^^^ 2 ^ N = L k ||| 2 ^ N := by
        apply Nat.eq_of_testBit_eq
        intro i
        rw [fb_bit_flip, fb_bit_set]
        by_cases h : i = N
        · subst h; rw [Nat.testBit_lt_two_pow (hL k), decide_eq_true rfl]; rfl
        · rw [decide_eq_false h, Bool.xor_false, Bool.or_false]
      have e6 : upd w (3 + k) (nI (L k ||| 2 ^ N)) (3 + N) = nI (m % 2 ^ k) := by rw [pk_un (by omega)]; exact h3
      rw [bI_t, if_neg (by decide), fX8_turn, zl3, nI_add, rdI_n (by omega) (by omega), Option.bind_some, hl k (by omega) (by omega), shl_1 (by omega), fb_xorI, e5, wrI_n (by omega) (by omega), Option.bind_some, nI_add, rdI_n (by omega) (by omega), Option.bind_some, e6, shl_1 (by omega), fb_xorI, e0, wrI_n (by omega) (by omega), Option.bind_some, Option.bind_some, nI_1]
      obtain ⟨w', e1, e2, e3, e4⟩ := ih (k + 1) n (upd (upd w (3 + k) (nI (L k ||| 2 ^ N))) (3 + N) (nI (m % 2 ^ (k + 1)))) (by omega) (by omega) (fun j h1 h2 => by rw [pk_un (by omega), pk_un (by omega)]; exact hl j (by omega) h2) pk_us
      refine ⟨w', e1, fun j hj => ?_, fun j h1 h2 => ?_, e4⟩
      · rw [e2 j (by omega), pk_un (by omega), pk_un (by omega)]
      · by_cases h4 : j = k
        · subst h4
          rw [e2 _ (by omega), pk_un (by omega), pk_us]
          unfold lad
          rw [if_neg (by omega), if_pos ⟨h2, hb⟩]
        · exact e3 j (by omega) h2
theorem op_node : OP_node theInv := by
  intro rc sz sa mo li lo he pz pn gsz gsa gmo gli glo ghe ri rs gr fm tt co le wa ar hd bn bg bz sd ik is_ isz isa imo ili ilo ihe w_m kn_m kp_m sd_m ks_m bo_m bi_m bk_m ri_m fm_m tt_m le_m wa_m hd_m sx_m b1_m b2_m v1 v2 hI
  obtain ⟨hR, hP, hB, hS, hG⟩ := hI
  have hR0 := hR
  obtain ⟨N, sal, md, L, O, Hd, hO, h2, h3, x, r⟩ := hR
  have hN := hO.2.1
  have hN1 := hO.1
  obtain ⟨pz1, pn1, gsz1, gsa1, gmo1, gli1, glo1, ghe1, w1, kn1, e1, e2, p1, a1, a2⟩ := remember_both hR0 hP
  have ex := x.1
  subst ex
  have hw0 : w_m 0 = nI N := r.1
  have h29 : 2 ^ N ≤ 2 ^ 9 := Nat.pow_le_pow_right (by omega) hN
  have hp := Nat.two_pow_pos N
  have emx : (1 : Int32) <<< (w_m 0 &&& 31) - 1 = nI (2 ^ N - 1) := by
    rw [hw0, shl_1 (by omega), zl1, pk_sub hp]
  rcases in_or v1 (n := 2 ^ N - 1) (by omega) with ⟨m, hm, rfl⟩ | hn
  · rcases in_or v2 (n := 65535) (by omega) with ⟨q, hq, rfl⟩ | hn
    · rcases Nat.lt_or_ge N 9 with h8 | h8
      · have hO2 := lad_ok hO h8 (show m < 2 ^ N by omega) (show q < 65536 by omega)
        obtain ⟨r1, r2, r3, r4⟩ := row_c hN r a1
        have hw10 : w1 0 = nI N := r1
        obtain ⟨li1, f1, f2, f3⟩ := addL h8 (show m < 2 ^ N by omega) hO.2.2.2.1 N 0 300 (upd li N (nI m)) (by omega) (by omega) (fun j hj1 hj2 => by rw [pk_un (by omega)]; exact (x.2.2.2 j (by omega)).1)
        obtain ⟨w2, t1, t2, t3, t4⟩ := nodeL h8 (show m < 2 ^ N by omega) hO.2.2.2.1 N 0 300 (upd (upd (upd (upd w1 0 (nI (N + 1))) (3 + N) (nI 0)) (12 + N) (nI 0)) (21 + N) (nI q)) (by omega) (by omega) (fun j hj1 hj2 => by
            rw [pk_un (by omega), pk_un (by omega), pk_un (by omega), pk_un (by omega)]
            have := (r4 j (by omega)).1
            rw [Nat.zero_add] at this
            exact this) (by rw [pk_un (by omega), pk_un (by omega), pk_us, Nat.pow_zero, Nat.mod_one])
        have hON : O N = 0 := (hO.2.2.1 N (by omega)).2.1
        have x2 : netX (N + 1) sal md (lad N m L) O (un Hd N q) (nI (N + 1)) sa mo li1 (upd lo N (nI 0)) (upd he N (nI q)) := by
          refine ⟨rfl, x.2.1, x.2.2.1, fun k hk => ⟨?_, ?_, ?_⟩⟩
          · rcases Nat.lt_trichotomy k N with h5 | h5 | h5
            · exact f3 k (by omega) h5
            · subst h5
              rw [f2 k (by omega), pk_us]
              unfold lad
              rw [if_pos rfl]
            · rw [f2 k (by omega), pk_un (by omega), (x.2.2.2 k hk).1]
              unfold lad
              rw [if_neg (by omega), if_neg (by omega)]
          · by_cases h5 : k = N
            · subst h5; rw [pk_us, hON]
            · rw [pk_un h5]; exact (x.2.2.2 k hk).2.1
          · by_cases h5 : k = N
            · subst h5; rw [pk_us, un_s]
            · rw [pk_un h5, un_n h5]; exact (x.2.2.2 k hk).2.2
        have rr : rowM (N + 1) sal md (lad N m L) O (un Hd N q) w2 0 := by
          refine ⟨?_, ?_, ?_, fun k hk => ⟨?_, ?_, ?_⟩⟩
          · rw [t2 _ (by omega), pk_un (by omega), pk_un (by omega), pk_un (by omega), pk_us]
          · rw [t2 _ (by omega), pk_un (by omega), pk_un (by omega), pk_un (by omega), pk_un (by omega)]; exact r2
          · rw [t2 _ (by omega), pk_un (by omega), pk_un (by omega), pk_un (by omega), pk_un (by omega)]; exact r3
          · rw [Nat.zero_add]
            by_cases h5 : k = N
            · subst h5
              rw [t4]
              unfold lad
              rw [if_pos rfl]
            · exact t3 k (by omega) (by omega)
          · rw [Nat.zero_add]
            by_cases h5 : k = N
            · subst h5
              rw [t2 _ (by omega), pk_un (by omega), pk_us, hON]
            · rw [t2 _ (by omega), pk_un (by omega), pk_un (by omega), pk_un (by omega), pk_un (by omega)]
              have := (r4 k (by omega)).2.1
              rw [Nat.zero_add] at this
              exact this
          · rw [Nat.zero_add]
            by_cases h5 : k = N
            · subst h5
              rw [t2 _ (by omega), pk_us, un_s]
            · rw [t2 _ (by omega), pk_un (by omega), pk_un (by omega), pk_un (by omega), pk_un (by omega), un_n h5]
              have := (r4 k (by omega)).2.2
              rw [Nat.zero_add] at this
              exact this
        have hout : ∀ k, 30 ≤ k → w2 k = w1 k := fun k hk => by
          rw [t2 _ (by omega), pk_un (by omega), pk_un (by omega), pk_un (by omega), pk_un (by omega)]
        refine ⟨nI N, nI (N + 1), li1, upd lo N (nI 0), upd he N (nI q), pz1, pn1, gsz1, gsa1, gmo1, gli1, glo1, ghe1, w2, kn1, ?_, ?_, ⟨N + 1, sal, md, lad N m L, O, un Hd N q, hO2, h2, h3, x2, rr⟩, past_w p1 (fun k h5 h6 => hout k h5), hB, hS, img_w hG (fun k hk => (hout k (by omega)).trans (a2 k hk))⟩
        · rw [fX7_node, everyone_n hN, Option.bind_some, if_pos (set_in hm), within_n, Option.bind_some, zl65535, in_yes hq (by omega), bI_t, if_neg (by decide), if_pos (show nI N < 9 from nI_lt (a := N) (b := 9) h8 (by omega)), e1]
          simp only [bd8, bd4, Option.bind_some]
          rw [fX3_add, if_pos (show nI N < 9 from nI_lt (a := N) (b := 9) h8 (by omega)), wrI_n h8 (by omega), Option.bind_some, wrI_n h8 (by omega), Option.bind_some, wrI_n h8 (by omega), Option.bind_some, zl0, f1, Option.bind_some, Option.bind_some, zl1, nI_add, pk_sub (by omega)]
          rfl
        · have hne : ¬ nI N = (9 : Int32) := fun h => by have := (nI_eq (a := N) (b := 9) (by omega) (by omega)).mp h; omega
          rw [fX8_node, emx, in_n, Option.bind_some, in_yes hm (by omega), bI_t, if_neg (by decide), in_n, Option.bind_some, zl65535, in_yes hq (by omega), bI_t, if_neg (by decide), hw0, if_neg hne, e2]
          simp only [bd2, Option.bind_some]
          rw [hw10, zl3, nI_add, zl1, nI_add, zl0, wrI_n (by omega) (by omega), Option.bind_some, zl12, nI_add, wrI_n (by omega) (by omega), Option.bind_some, zl21, nI_add, wrI_n (by omega) (by omega), Option.bind_some, t1, Option.bind_some]
      · have e9 : N = 9 := by omega
        subst e9
        refine ⟨(-1000000004 : Int32), nI 9, li, lo, he, pz, pn, gsz, gsa, gmo, gli, glo, ghe, w_m, kn_m, ?_, ?_, hR0, hP, hB, hS, hG⟩
        · rw [fX7_node, everyone_n hN, Option.bind_some, if_pos (set_in hm), within_n, Option.bind_some, zl65535, in_yes hq (by omega), bI_t, if_neg (by decide), if_neg (by decide)]
        · rw [fX8_node, emx, in_n, Option.bind_some, in_yes hm (by omega), bI_t, if_neg (by decide), in_n, Option.bind_some, zl65535, in_yes hq (by omega), bI_t, if_neg (by decide), hw0, if_pos (by decide)]
    · refine ⟨(-1000000002 : Int32), nI N, li, lo, he, pz, pn, gsz, gsa, gmo, gli, glo, ghe, w_m, kn_m, ?_, ?_, hR0, hP, hB, hS, hG⟩
      · rw [fX7_node, everyone_n hN, Option.bind_some, if_pos (set_in hm), within_n, Option.bind_some, zl65535, hn, bI_f, if_pos (by decide)]
      · rw [fX8_node, emx, in_n, Option.bind_some, in_yes hm (by omega), bI_t, if_neg (by decide), in_n, Option.bind_some, zl65535, hn, bI_f, if_pos (by decide)]
  · refine ⟨(-1000000001 : Int32), nI N, li, lo, he, pz, pn, gsz, gsa, gmo, gli, glo, ghe, w_m, kn_m, ?_, ?_, hR0, hP, hB, hS, hG⟩
    · rw [fX7_node, everyone_n hN, Option.bind_some, if_neg (set_out hN hn)]
    · rw [fX8_node, emx, in_n, Option.bind_some, hn, bI_f, if_pos (by decide)]
def tr (K : Nat) (f : Nat → Nat) : Nat → Nat := fun j => if j < K then f j % 2 ^ K else 0
theorem tr_bit {K : Nat} {f : Nat → Nat} (a b : Nat) : (tr K f a).testBit b = (decide (a < K) && (decide (b < K) && (f a).testBit b)) := by
  unfold tr
  by_cases h : a < K
  · rw [if_pos h, decide_eq_true h, Bool.true_and, Nat.testBit_mod_two_pow]
  · rw [if_neg h, decide_eq_false h, Bool.false_and, Nat.zero_testBit]
theorem tr_sym {K : Nat} {f : Nat → Nat} (hs : ∀ a b, (f a).testBit b = (f b).testBit a) (a b : Nat) : (tr K f a).testBit b = (tr K f b).testBit a := by
  rw [tr_bit, tr_bit, hs a b]
  cases decide (a < K) <;> cases decide (b < K) <;> rfl
theorem tr_ok {K : Nat} {L O Hd : Nat → Nat} (hO : netOK (K + 1) L O Hd) (h1 : 1 ≤ K) : netOK K (tr K L) (tr K O) (fun j => if j < K then Hd j else 0) := by
  obtain ⟨a1, a2, a3, a4, a5, a6, a7, a8, a9⟩ := hO
  refine ⟨h1, by omega, fun v hv => ⟨if_neg (by omega), if_neg (by omega), if_neg (by omega)⟩, fun v => ?_, fun v => ?_, tr_sym a6, fun v => ?_, tr_sym a8, fun u v h => ?_⟩
  · unfold tr
    by_cases h : v < K
    · rw [if_pos h]; exact Nat.mod_lt _ (Nat.two_pow_pos K)
    · rw [if_neg h]; exact Nat.two_pow_pos K
  · show (if v < K then Hd v else 0) < 65536
    by_cases h : v < K
    · rw [if_pos h]; exact a5 v
    · rw [if_neg h]; omega
  · rw [tr_bit, a7, Bool.and_false, Bool.and_false]
  · rw [tr_bit, Bool.and_eq_true, Bool.and_eq_true] at h
    rw [tr_bit, h.1, h.2.1, a9 u v h.2.2]; rfl
theorem low_eq {K x : Nat} (h : x < 2 ^ (K + 1)) : x ^^^ (x &&& 2 ^ K) = x % 2 ^ K := by
  apply Nat.eq_of_testBit_eq
  intro i
  rw [not_bit, Nat.testBit_mod_two_pow, Nat.testBit_two_pow]
  rcases Nat.lt_trichotomy i K with h1 | h1 | h1
  · rw [decide_eq_true h1, decide_eq_false (p := K = i) (by omega), Bool.true_and]; exact Bool.and_true _
  · rw [decide_eq_false (p := i < K) (by omega), decide_eq_true (p := K = i) (by omega)]; exact Bool.and_false _
  · rw [Nat.testBit_lt_two_pow (Nat.lt_of_lt_of_le h (Nat.pow_le_pow_right (by omega) h1)), Bool.and_false]; rfl
theorem dropL {K : Nat} {L O : Nat → Nat} (hK : K < 9) : ∀ (t k n : Nat) (li lo : Nat → Int32), k + t = K → t < n → (∀ j, k ≤ j → j < K → li j = nI (L j) ∧ lo j = nI (O j)) → ∃ li' lo', fX3_dropLatest_L56 (nI K) (nI (2 ^ K - 1)) n (nI k) li lo = some (li', lo') ∧ (∀ j, j < k ∨ K ≤ j → li' j = li j ∧ lo' j = lo j) ∧ (∀ j, k ≤ j → j < K → li' j = nI (tr K L j) ∧ lo' j = nI (tr K O j)) := by
  intro t
  induction t with
  | zero =>
    intro k n li lo hk hn hl
    obtain ⟨n, rfl⟩ : ∃ z, n = z + 1 := ⟨n - 1, by omega⟩
    refine ⟨li, lo, ?_, fun _ _ => ⟨rfl, rfl⟩, fun j h1 h2 => absurd h2 (by omega)⟩
    rw [fX3_dropLatest_L56, if_pos (nI_le (by omega) (by omega))]
  | succ t ih =>
    intro k n li lo hk hn hl
    obtain ⟨n, rfl⟩ : ∃ z, n = z + 1 := ⟨n - 1, by omega⟩
    rw [fX3_dropLatest_L56, if_neg (nI_ge (by omega) (by omega)), rdI_n (by omega) (by omega), Option.bind_some, (hl k (by omega) (by omega)).1, fa_and, Nat.and_two_pow_sub_one_eq_mod, wrI_n (by omega) (by omega), Option.bind_some, rdI_n (by omega) (by omega), Option.bind_some, (hl k (by omega) (by omega)).2, fa_and, Nat.and_two_pow_sub_one_eq_mod, wrI_n (by omega) (by omega), Option.bind_some, nI_1]
    obtain ⟨li', lo', e1, e2, e3⟩ := ih (k + 1) n (upd li k (nI (L k % 2 ^ K))) (upd lo k (nI (O k % 2 ^ K))) (by omega) (by omega) (fun j h1 h2 => by rw [pk_un (by omega), pk_un (by omega)]; exact hl j (by omega) h2)
    refine ⟨li', lo', e1, fun j hj => ?_, fun j h1 h2 => ?_⟩
    · rw [(e2 j (by omega)).1, (e2 j (by omega)).2, pk_un (by omega), pk_un (by omega)]; exact ⟨rfl, rfl⟩
    · by_cases h3 : j = k
      · subst h3
        rw [(e2 j (by omega)).1, (e2 j (by omega)).2, pk_us, pk_us]
        unfold tr
        rw [if_pos h2, if_pos h2]; exact ⟨rfl, rfl⟩
      · exact e3 j (by omega) h2
theorem takeL {K : Nat} {L O : Nat → Nat} (hK : K < 9) (hL : ∀ j, L j < 2 ^ (K + 1)) (hO : ∀ j, O j < 2 ^ (K + 1)) : ∀ (t k n : Nat) (w : Nat → Int32), k + t = K → t < n → (∀ j, k ≤ j → j < K → w (3 + j) = nI (L j) ∧ w (12 + j) = nI (O j)) → ∃ w', fX8_take_L36 (nI K) n (nI k) w = some w' ∧ (∀ j, j < 3 + k ∨ (3 + K ≤ j ∧ j < 12 + k) ∨ 12 + K ≤ j → w' j = w j) ∧ (∀ j, k ≤ j → j < K → w' (3 + j) = nI (tr K L j) ∧ w' (12 + j) = nI (tr K O j)) := by
  intro t
  induction t with
  | zero =>
    intro k n w hk hn hl
    obtain ⟨n, rfl⟩ : ∃ z, n = z + 1 := ⟨n - 1, by omega⟩
    refine ⟨w, ?_, fun _ _ => rfl, fun j h1 h2 => absurd h2 (by omega)⟩
    rw [fX8_take_L36, if_pos (nI_le (by omega) (by omega))]
  | succ t ih =>
    intro k n w hk hn hl
    obtain ⟨n, rfl⟩ : ∃ z, n = z + 1 := ⟨n - 1, by omega⟩
    have e6 : upd w (3 + k) (nI (L k % 2 ^ K)) (12 + k) = nI (O k) := by rw [pk_un (by omega)]; exact (hl k (by omega) (by omega)).2
    rw [fX8_take_L36, if_neg (nI_ge (by omega) (by omega)), zl3, nI_add, rdI_n (by omega) (by omega), Option.bind_some, (hl k (by omega) (by omega)).1, shl_1 (by omega), not_n, low_eq (hL k), wrI_n (by omega) (by omega), Option.bind_some, zl12, nI_add, rdI_n (by omega) (by omega), Option.bind_some, e6, not_n, low_eq (hO k), wrI_n (by omega) (by omega), Option.bind_some, nI_1]
    obtain ⟨w', e1, e2, e3⟩ := ih (k + 1) n (upd (upd w (3 + k) (nI (L k % 2 ^ K))) (12 + k) (nI (O k % 2 ^ K))) (by omega) (by omega) (fun j h1 h2 => by rw [pk_un (by omega), pk_un (by omega), pk_un (by omega), pk_un (by omega)]; exact hl j (by omega) h2)
    refine ⟨w', e1, fun j hj => ?_, fun j h1 h2 => ?_⟩
    · rw [e2 j (by omega), pk_un (by omega), pk_un (by omega)]
    · by_cases h3 : j = k
      · subst h3
        rw [e2 (3 + j) (by omega), e2 (12 + j) (by omega), pk_un (by omega), pk_us, pk_us]
        unfold tr
        rw [if_pos h2, if_pos h2]; exact ⟨rfl, rfl⟩
      · exact e3 j (by omega) h2
theorem op_take : OP_take theInv := by
  intro rc sz sa mo li lo he pz pn gsz gsa gmo gli glo ghe ri rs gr fm tt co le wa ar hd bn bg bz sd ik is_ isz isa imo ili ilo ihe w_m kn_m kp_m sd_m ks_m bo_m bi_m bk_m ri_m fm_m tt_m le_m wa_m hd_m sx_m b1_m b2_m hI
  obtain ⟨hR, hP, hB, hS, hG⟩ := hI
  have hR0 := hR
  obtain ⟨N, sal, md, L, O, Hd, hO, h2, h3, x, r⟩ := hR
  have hN := hO.2.1
  have hN1 := hO.1
  obtain ⟨pz1, pn1, gsz1, gsa1, gmo1, gli1, glo1, ghe1, w1, kn1, e1, e2, p1, a1, a2⟩ := remember_both hR0 hP
  have ex := x.1
  subst ex
  have hw0 : w_m 0 = nI N := r.1
  rcases Nat.lt_or_ge 1 N with h8 | h8
  · obtain ⟨K, rfl⟩ : ∃ K, N = K + 1 := ⟨N - 1, by omega⟩
    have hO2 := tr_ok hO (by omega)
    obtain ⟨r1, r2, r3, r4⟩ := row_c hN r a1
    have hw10 : w1 0 = nI (K + 1) := r1
    obtain ⟨li1, lo1, f1, f2, f3⟩ := dropL (K := K) (L := L) (O := O) (by omega) K 0 300 (upd li K (nI 0)) (upd lo K (nI 0)) (by omega) (by omega) (fun j hj1 hj2 => by
      rw [pk_un (by omega), pk_un (by omega)]; exact ⟨(x.2.2.2 j (by omega)).1, (x.2.2.2 j (by omega)).2.1⟩)
    obtain ⟨w2, t1, t2, t3⟩ := takeL (K := K) (L := L) (O := O) (by omega) hO.2.2.2.1 (O_lt hO) K 0 300 (upd w1 0 (nI K)) (by omega) (by omega) (fun j hj1 hj2 => by
      rw [pk_un (by omega), pk_un (by omega)]
      have := r4 j (by omega)
      rw [Nat.zero_add, Nat.zero_add] at this
      exact ⟨this.1, this.2.1⟩)
    have x2 : netX K sal md (tr K L) (tr K O) (fun j => if j < K then Hd j else 0) (nI K) sa mo li1 lo1 (upd he K (nI 0)) := by
      refine ⟨rfl, x.2.1, x.2.2.1, fun k hk => ?_⟩
      rcases Nat.lt_or_ge k K with h5 | h5
      · refine ⟨(f3 k (by omega) h5).1, (f3 k (by omega) h5).2, ?_⟩
        show _ = nI (if k < K then Hd k else 0)
        rw [if_pos h5, pk_un (by omega)]
        exact (x.2.2.2 k hk).2.2
      · have hz : tr K L k = 0 ∧ tr K O k = 0 := ⟨if_neg (by omega), if_neg (by omega)⟩
        rw [hz.1, hz.2, (f2 k (by omega)).1, (f2 k (by omega)).2]
        show _ ∧ _ ∧ _ = nI (if k < K then Hd k else 0)
        rw [if_neg (by omega)]
        by_cases h6 : k = K
        · subst h6
          rw [pk_us, pk_us, pk_us]
          exact ⟨rfl, rfl, rfl⟩
        · have h7 := hO.2.2.1 k (by omega)
          have h9 := x.2.2.2 k hk
          rw [h7.1, h7.2.1, h7.2.2] at h9
          rw [pk_un h6, pk_un h6, pk_un h6]
          exact h9
    have rr : rowM K sal md (tr K L) (tr K O) (fun j => if j < K then Hd j else 0) w2 0 := by
      refine ⟨?_, ?_, ?_, fun k hk => ⟨?_, ?_, ?_⟩⟩
      · rw [t2 _ (by omega), pk_us]
      · rw [t2 _ (by omega), pk_un (by omega)]; exact r2
      · rw [t2 _ (by omega), pk_un (by omega)]; exact r3
      · rw [Nat.zero_add]; exact (t3 k (by omega) hk).1
      · rw [Nat.zero_add]; exact (t3 k (by omega) hk).2
      · show _ = nI (if k < K then Hd k else 0)
        rw [if_pos hk, t2 _ (by omega), pk_un (by omega)]
        exact (r4 k (by omega)).2.2
    have hout : ∀ k, 30 ≤ k → w2 k = w1 k := fun k hk => by
      rw [t2 _ (by omega), pk_un (by omega)]
    have hm1 : nI (K + 1) - 1 = nI K := nI_pred K
    refine ⟨nI K, nI K, li1, lo1, upd he K (nI 0), pz1, pn1, gsz1, gsa1, gmo1, gli1, glo1, ghe1, w2, kn1, ?_, ?_, ⟨K, sal, md, tr K L, tr K O, _, hO2, h2, h3, x2, rr⟩, past_w p1 (fun k h5 h6 => hout k h5), hB, hS, img_w hG (fun k hk => (hout k (by omega)).trans (a2 k hk))⟩
    · have h1' : (1 : Int32) < nI (K + 1) := nI_lt (a := 1) (b := K + 1) h8 (by omega)
      rw [fX7_take, if_pos h1', e1]
      simp only [bd8, bd4, Option.bind_some]
      rw [fX3_dropLatest, if_pos h1', hm1, zl0, wrI_n (by omega) (by omega), Option.bind_some, wrI_n (by omega) (by omega), Option.bind_some, wrI_n (by omega) (by omega), Option.bind_some, everyone_n (by omega), Option.bind_some, bd2, f1]
      rfl
    · have hne : ¬ nI (K + 1) = (1 : Int32) := fun h => by have := (nI_eq (a := K + 1) (b := 1) (by omega) (by omega)).mp h; omega
      have hr0 : w2 0 = nI K := rr.1
      rw [fX8_take, hw0, if_neg hne, e2]
      simp only [bd2, Option.bind_some]
      rw [hw10, hm1, pk_us, zl0, t1, Option.bind_some, hr0]
  · have e9 : N = 1 := by omega
    subst e9
    refine ⟨(-1000000003 : Int32), nI 1, li, lo, he, pz, pn, gsz, gsa, gmo, gli, glo, ghe, w_m, kn_m, ?_, ?_, hR0, hP, hB, hS, hG⟩
    · rw [fX7_take, if_neg (by decide)]
    · rw [fX8_take, hw0, if_pos (by decide)]
