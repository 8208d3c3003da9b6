theorem cpy9 (f g : Nat → Int32) {v : Nat} (h : v < 9) : va_cpy f g 0 0 9 v = f v := by
  rw [pk_cpy_in (by omega) (by omega)]
  congr 1
  omega
theorem remX {K P : Nat} (hK : K ≤ 16) (hP : P < 16) (gsz gsa gmo : Nat → Int32) (gli glo ghe : Nat → Nat → Int32) (sz sa mo : Int32) (li lo he : Nat → Int32) : fX4_remember (nI K) (nI P) gsz gsa gmo gli glo ghe sz sa mo li lo he = some (nI (if K < 16 then K + 1 else 16), nI ((P + 1) % 16), upd gsz P sz, upd gsa P sa, upd gmo P mo, va_up gli P (va_cpy li (gli P) 0 0 9), va_up glo P (va_cpy lo (glo P) 0 0 9), va_up ghe P (va_cpy he (ghe P) 0 0 9)) := by
  rw [fX4_remember, ixN_n hP (by omega), Option.bind_some]
  simp only [fX3_become, bd6, Option.bind_some]
  rw [nI_1, nI_1, show (16 : Int32) = nI 16 from rfl, pk_rem (by omega) (by omega) (by omega)]
  congr 2
  by_cases h : K < 16
  · rw [if_pos h, if_neg (fun hc => by have := (nI_ltI (a := 16) (b := K + 1) (by omega) (by omega)).mp hc; omega)]
  · rw [if_neg h, if_pos ((nI_ltI (a := 16) (b := K + 1) (by omega) (by omega)).mpr (by omega))]
theorem remember_both {sz sa mo : Int32} {li lo he : Nat → Int32} {pz pn : Int32} {gsz gsa gmo : Nat → Int32} {gli glo ghe : Nat → Nat → Int32} {w : Nat → Int32} {kn : Int32} (hR : rel sz sa mo li lo he w 0) (hP : pastOK pz pn gsz gsa gmo gli glo ghe w kn) :
    ∃ (pz1 pn1 : Int32) (gsz1 gsa1 gmo1 : Nat → Int32) (gli1 glo1 ghe1 : Nat → Nat → Int32) (w1 : Nat → Int32) (kn1 : Int32), fX4_remember pz pn gsz gsa gmo gli glo ghe sz sa mo li lo he = some (pz1, pn1, gsz1, gsa1, gmo1, gli1, glo1, ghe1) ∧ fX8_remember w kn = some (w1, kn1) ∧ pastOK pz1 pn1 gsz1 gsa1 gmo1 gli1 glo1 ghe1 w1 kn1 ∧ (∀ k, k < 30 → w1 k = w k) ∧ (∀ k, 510 ≤ k → w1 k = w k) := by
  obtain ⟨K, P, hK, hP16, rfl, rfl, rfl, hj⟩ := hP
  have hnew : rel (upd gsz P sz P) (upd gsa P sa P) (upd gmo P mo P) (va_up gli P (va_cpy li (gli P) 0 0 9) P) (va_up glo P (va_cpy lo (glo P) 0 0 9) P) (va_up ghe P (va_cpy he (ghe P) 0 0 9) P) w 0 := by
    rw [pk_us, pk_us, pk_us, va_up_self, va_up_self, va_up_self]
    exact rel_x hR (fun v hv => ⟨cpy9 _ _ hv, cpy9 _ _ hv, cpy9 _ _ hv⟩)
  have hold : ∀ q, q ≠ P → ∀ w0 b, rel (gsz q) (gsa q) (gmo q) (gli q) (glo q) (ghe q) w0 b → rel (upd gsz P sz q) (upd gsa P sa q) (upd gmo P mo q) (va_up gli P (va_cpy li (gli P) 0 0 9) q) (va_up glo P (va_cpy lo (glo P) 0 0 9) q) (va_up ghe P (va_cpy he (ghe P) 0 0 9) q) w0 b := by
    intro q hq w0 b h
    rw [pk_un hq, pk_un hq, pk_un hq, va_up_ne _ _ hq, va_up_ne _ _ hq, va_up_ne _ _ hq]
    exact h
  rcases Nat.lt_or_ge K 16 with h16 | h16
  · refine ⟨_, _, _, _, _, _, _, _, _, _, remX hK hP16 gsz gsa gmo gli glo ghe sz sa mo li lo he, remM_lt h16, ⟨K + 1, (P + 1) % 16, by omega, by omega, by rw [if_pos h16], rfl, rfl, fun j hj1 => ?_⟩, fun k hk => cp_out (by omega), fun k hk => cp_out (by omega)⟩
    rcases Nat.eq_zero_or_pos j with h0 | h0
    · subst h0
      have e : ((P + 1) % 16 + 15 - 0) % 16 = P := by omega
      rw [e]
      exact rel_w hnew (fun k hk => by rw [Nat.zero_add, Nat.sub_zero, cp_in hk, Nat.zero_add])
    · have e : ((P + 1) % 16 + 15 - j) % 16 = (P + 15 - (j - 1)) % 16 := by omega
      rw [e]
      refine hold _ (by omega) _ _ ?_
      have e2 : 30 * (K + 1 - j) = 30 * (K - (j - 1)) := by omega
      rw [e2]
      exact rel_w (hj (j - 1) (by omega)) (fun k hk => cp_out (by omega))
  · have e16 : K = 16 := by omega
    subst e16
    refine ⟨_, _, _, _, _, _, _, _, _, _, remX hK hP16 gsz gsa gmo gli glo ghe sz sa mo li lo he, remM_16, ⟨16, (P + 1) % 16, by omega, by omega, rfl, rfl, rfl, fun j hj1 => ?_⟩, fun k hk => ?_, fun k hk => ?_⟩
    · rcases Nat.eq_zero_or_pos j with h0 | h0
      · subst h0
        have e : ((P + 1) % 16 + 15 - 0) % 16 = P := by omega
        rw [e]
        refine rel_w hnew (fun k hk => ?_)
        rw [Nat.zero_add, Nat.sub_zero, cp_in hk, Nat.zero_add]
        exact if_neg (by omega)
      · have e : ((P + 1) % 16 + 15 - j) % 16 = (P + 15 - (j - 1)) % 16 := by omega
        rw [e]
        refine hold _ (by omega) _ _ ?_
        refine rel_w (hj (j - 1) (by omega)) (fun k hk => ?_)
        rw [cp_out (by omega)]
        unfold shK
        rw [if_pos (by omega)]
        congr 1
        omega
    · rw [cp_out (by omega)]
      exact if_neg (by omega)
    · rw [cp_out (by omega)]
      exact if_neg (by omega)
theorem past_w {pz pn : Int32} {gsz gsa gmo : Nat → Int32} {gli glo ghe : Nat → Nat → Int32} {w w1 : Nat → Int32} {kn : Int32} (h : pastOK pz pn gsz gsa gmo gli glo ghe w kn) (hw : ∀ k, 30 ≤ k → k < 510 → w1 k = w k) : pastOK pz pn gsz gsa gmo gli glo ghe w1 kn := by
  obtain ⟨K, P, hK, hP16, e1, e2, e3, hj⟩ := h
  exact ⟨K, P, hK, hP16, e1, e2, e3, fun j hj1 => rel_w (hj j hj1) (fun k hk => hw _ (by omega) (by omega))⟩
theorem img_w {ik is_ isz isa imo : Nat → Int32} {ili ilo ihe : Nat → Nat → Int32} {w w1 : Nat → Int32} {kp : Int32} {ks : Nat → Int32} (h : imgOK ik is_ isz isa imo ili ilo ihe w kp ks) (hw : ∀ k, 510 ≤ k → w1 k = w k) : imgOK ik is_ isz isa imo ili ilo ihe w1 kp ks := by
  obtain ⟨q, h1, h2, h3⟩ := h
  exact ⟨q, h1, h2, fun i hi => ⟨(h3 i hi).1, fun hq => ⟨((h3 i hi).2 hq).1, rel_w ((h3 i hi).2 hq).2 (fun k hk => hw _ (by omega))⟩⟩⟩
