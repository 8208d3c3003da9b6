/-! links turned, lost, nodes added and taken -/
def fl (f : Nat → Nat) (u v : Nat) : Nat → Nat := un (un f u (f u ^^^ 2 ^ v)) v (f v ^^^ 2 ^ u)
theorem fl_bit {f : Nat → Nat} {u v : Nat} (h : u ≠ v) (k i : Nat) : (fl f u v k).testBit i = ((f k).testBit i ^^ (decide (k = u ∧ i = v) || decide (k = v ∧ i = u))) := by
  unfold fl
  by_cases h1 : k = v
  · subst h1
    rw [un_s, fb_bit_flip, decide_eq_false (p := k = u ∧ i = k) (fun c => h c.1.symm), Bool.false_or]
    congr 1
    exact decide_eq_decide.mpr ⟨fun e => ⟨rfl, e⟩, fun e => e.2⟩
  · rw [un_n h1]
    by_cases h2 : k = u
    · subst h2
      rw [un_s, fb_bit_flip, decide_eq_false (p := k = v ∧ i = k) (fun c => h1 c.1), Bool.or_false]
      congr 1
      exact decide_eq_decide.mpr ⟨fun e => ⟨rfl, e⟩, fun e => e.2⟩
    · rw [un_n h2, decide_eq_false (fun c => h2 c.1), decide_eq_false (fun c => h1 c.1), Bool.or_false, Bool.xor_false]
theorem fl_u {f : Nat → Nat} {u v : Nat} (h : u ≠ v) : fl f u v u = f u ^^^ 2 ^ v := by
  unfold fl; rw [un_n h, un_s]
theorem fl_v {f : Nat → Nat} {u v : Nat} : fl f u v v = f v ^^^ 2 ^ u := un_s
theorem fl_o {f : Nat → Nat} {u v k : Nat} (h1 : k ≠ u) (h2 : k ≠ v) : fl f u v k = f k := by
  unfold fl; rw [un_n h2, un_n h1]
theorem fl_sym {f : Nat → Nat} {u v : Nat} (h : u ≠ v) (hs : ∀ a b, (f a).testBit b = (f b).testBit a) (a b : Nat) : (fl f u v a).testBit b = (fl f u v b).testBit a := by
  rw [fl_bit h, fl_bit h, hs a b]
  congr 1
  rw [Bool.or_comm]
  congr 1
  · exact decide_eq_decide.mpr ⟨fun e => ⟨e.2, e.1⟩, fun e => ⟨e.2, e.1⟩⟩
  · exact decide_eq_decide.mpr ⟨fun e => ⟨e.2, e.1⟩, fun e => ⟨e.2, e.1⟩⟩
theorem pw_lt {u N : Nat} (h : u < N) : 2 ^ u < 2 ^ N := Nat.pow_lt_pow_right (by omega) h
theorem fl_lt {f : Nat → Nat} {u v N : Nat} (hu : u < N) (hv : v < N) (hf : ∀ k, f k < 2 ^ N) (k : Nat) : fl f u v k < 2 ^ N := by
  unfold fl un
  by_cases h1 : k = v
  · rw [if_pos h1]; exact Nat.xor_lt_two_pow (hf v) (pw_lt hu)
  · rw [if_neg h1]
    by_cases h2 : k = u
    · rw [if_pos h2]; exact Nat.xor_lt_two_pow (hf u) (pw_lt hv)
    · rw [if_neg h2]; exact hf k
/-- the reference's turn -/
theorem turn_n {w : Nat → Int32} {b u v N : Nat} {f : Nat → Nat} (hN : N ≤ 9) (hb : b < 500) (hu : u < N) (hv : v < N) (h : u ≠ v) (hf : ∀ k, k < N → w (b + k) = nI (f k)) : ∃ w1, fX8_turn w (nI b) (nI u) (nI v) = some w1 ∧ (∀ k, k < N → w1 (b + k) = nI (fl f u v k)) ∧ (∀ k, k ≠ b + u → k ≠ b + v → w1 k = w k) := by
  refine ⟨upd (upd w (b + u) (nI (f u ^^^ 2 ^ v))) (b + v) (nI (f v ^^^ 2 ^ u)), ?_, fun k hk => ?_, fun k h1 h2 => ?_⟩
  · have e1 : upd w (b + u) (nI (f u ^^^ 2 ^ v)) (b + v) = nI (f v) := by rw [pk_un (by omega)]; exact hf v hv
    rw [fX8_turn, nI_add, rdI_n (by omega) (by omega), Option.bind_some, hf u hu, shl_1 (by omega), fb_xorI, wrI_n (by omega) (by omega), Option.bind_some, nI_add, rdI_n (by omega) (by omega), Option.bind_some, e1, shl_1 (by omega), fb_xorI, wrI_n (by omega) (by omega), Option.bind_some]
  · by_cases h1 : k = v
    · subst h1; rw [pk_us, fl_v]
    · rw [pk_un (by omega)]
      by_cases h2 : k = u
      · subst h2; rw [pk_us, fl_u h]
      · rw [pk_un (by omega), fl_o h2 h1]; exact hf k hk
  · rw [pk_un h2, pk_un h1]
/-- the class's turn of one row of sets -/
theorem turnX {li : Nat → Int32} {u v N : Nat} {f : Nat → Nat} (hN : N ≤ 9) (hu : u < N) (hv : v < N) (h : u ≠ v) (hf : ∀ k, k < 9 → li k = nI (f k)) : ∀ k, k < 9 → upd (upd li u (nI (f u ^^^ 2 ^ v))) v (nI (f v ^^^ 2 ^ u)) k = nI (fl f u v k) := by
  intro k hk
  by_cases h1 : k = v
  · subst h1; rw [pk_us, fl_v]
  · rw [pk_un h1]
    by_cases h2 : k = u
    · subst h2; rw [pk_us, fl_u h]
    · rw [pk_un h2, fl_o h2 h1]; exact hf k hk
theorem turnLost_n {lo : Nat → Int32} {u v N : Nat} {f : Nat → Nat} (hN : N ≤ 9) (hu : u < N) (hv : v < N) (h : u ≠ v) (hf : ∀ k, k < 9 → lo k = nI (f k)) : fX3_turnLost lo (nI u) (nI v) = some (upd (upd lo u (nI (f u ^^^ 2 ^ v))) v (nI (f v ^^^ 2 ^ u))) := by
  have e1 : upd lo u (nI (f u ^^^ 2 ^ v)) v = nI (f v) := by rw [pk_un (by omega)]; exact hf v (by omega)
  rw [fX3_turnLost, rdI_n (by omega) (by omega), Option.bind_some, hf u (by omega), shl_1 (by omega), fb_xorI, wrI_n (by omega) (by omega), Option.bind_some, rdI_n (by omega) (by omega), Option.bind_some, e1, shl_1 (by omega), fb_xorI, wrI_n (by omega) (by omega), Option.bind_some]
theorem fl_ok_lost {N : Nat} {L O Hd : Nat → Nat} {u v : Nat} (hO : netOK N L O Hd) (hu : u < N) (hv : v < N) (h : u ≠ v) (hl : (L u).testBit v = true) : netOK N L (fl O u v) Hd := by
  obtain ⟨a1, a2, a3, a4, a5, a6, a7, a8, a9⟩ := hO
  refine ⟨a1, a2, fun k hk => ⟨(a3 k hk).1, ?_, (a3 k hk).2.2⟩, a4, a5, a6, a7, fl_sym h a8, fun a b hab => ?_⟩
  · rw [fl_o (by omega) (by omega)]; exact (a3 k hk).2.1
  · rw [fl_bit h] at hab
    by_cases h1 : a = u ∧ b = v
    · rw [h1.1, h1.2]; exact hl
    · by_cases h2 : a = v ∧ b = u
      · rw [h2.1, h2.2, a6]; exact hl
      · rw [decide_eq_false h1, decide_eq_false h2, Bool.or_false, Bool.xor_false] at hab
        exact a9 a b hab
theorem op_lose : OP_lose theInv := by
  intro rc sz sa mo li lo he pz pn gsz gsa gmo gli glo ghe ri rs gr fm tt co le wa ar hd bn bg bz sd ik is_ isz isa imo ili ilo ihe w_m kn_m kp_m sd_m ks_m bo_m bi_m bk_m ri_m fm_m tt_m le_m wa_m hd_m sx_m b1_m b2_m v1 v2 hI
  obtain ⟨hR, hP, hB, hS, hG⟩ := hI
  have hR0 := hR
  obtain ⟨N, sal, md, L, O, Hd, hO, h2, h3, x, r⟩ := hR
  have hN := hO.2.1
  obtain ⟨pz1, pn1, gsz1, gsa1, gmo1, gli1, glo1, ghe1, w1, kn1, e1, e2, p1, a1, a2⟩ := remember_both hR0 hP
  have bad : fX3_hasLink sz li v1 v2 = some 0 → fX8_isLinked w_m v1 v2 = some 0 → ∃ (q : Int32), fX7_lose sz sa mo li lo he pz pn gsz gsa gmo gli glo ghe v1 v2 = some (q, lo, pz, pn, gsz, gsa, gmo, gli, glo, ghe) ∧ fX8_lose w_m kn_m v1 v2 = some (q, w_m, kn_m) := fun f1 f2 => by
    refine ⟨-1000000001, ?_, ?_⟩
    · rw [fX7_lose, f1, Option.bind_some, if_pos rfl]
    · rw [fX8_lose, f2, Option.bind_some, if_pos rfl]
  have bad2 : fX3_hasLink sz li v1 v2 = some 0 → fX8_isLinked w_m v1 v2 = some 0 → ∃ (r : Int32) (lo_o : (Nat → Int32)) (pz_o : Int32) (pn_o : Int32) (gsz_o : (Nat → Int32)) (gsa_o : (Nat → Int32)) (gmo_o : (Nat → Int32)) (gli_o : (Nat → Nat → Int32)) (glo_o : (Nat → Nat → Int32)) (ghe_o : (Nat → Nat → Int32)) (w_m_o : (Nat → Int32)) (kn_m_o : Int32), fX7_lose sz sa mo li lo he pz pn gsz gsa gmo gli glo ghe v1 v2 = some (r, lo_o, pz_o, pn_o, gsz_o, gsa_o, gmo_o, gli_o, glo_o, ghe_o) ∧ fX8_lose w_m kn_m v1 v2 = some (r, w_m_o, kn_m_o) ∧ theInv sz sa mo li lo_o he pz_o pn_o gsz_o gsa_o gmo_o gli_o glo_o ghe_o bn bg bz sd ik is_ isz isa imo ili ilo ihe w_m_o kn_m_o kp_m sd_m ks_m bo_m bi_m bk_m := fun f1 f2 => by
    obtain ⟨q, g1, g2⟩ := bad f1 f2
    exact ⟨q, lo, pz, pn, gsz, gsa, gmo, gli, glo, ghe, w_m, kn_m, g1, g2, hR0, hP, hB, hS, hG⟩
  rcases node_or v1 hN with ⟨u, hu, rfl⟩ | hn
  · rcases node_or v2 hN with ⟨v, hv, rfl⟩ | hn2
    · cases hl : (L u).testBit v
      · have f1 := hasLink_n hO x hu hv
        have f2 := isLinked_n hO r hu hv
        rw [hl] at f1 f2
        exact bad2 f1 f2
      · have f1 := hasLink_n hO x hu hv
        have f2 := isLinked_n hO r hu hv
        rw [hl] at f1 f2
        have huv : u ≠ v := fun e => by
          have := hO.2.2.2.2.2.2.1 v
          rw [e, this] at hl
          cases hl
        have hO2 := fl_ok_lost hO hu hv huv hl
        obtain ⟨r1, r2, r3, r4⟩ := row_c hN r a1
        obtain ⟨w2, t1, t2, t3⟩ := turn_n (w := w1) (b := 12) (f := O) hN (by omega) hu hv huv (fun k hk => by have := (r4 k hk).2.1; rw [Nat.zero_add] at this; exact this)
        have x2 : netX N sal md L (fl O u v) Hd sz sa mo li (upd (upd lo u (nI (O u ^^^ 2 ^ v))) v (nI (O v ^^^ 2 ^ u))) he := ⟨x.1, x.2.1, x.2.2.1, fun k hk => ⟨(x.2.2.2 k hk).1, turnX hN hu hv huv (fun k hk => (x.2.2.2 k hk).2.1) k hk, (x.2.2.2 k hk).2.2⟩⟩
        have rr : rowM N sal md L (fl O u v) Hd w2 0 := by
          refine ⟨(t3 _ (by omega) (by omega)).trans r1, (t3 _ (by omega) (by omega)).trans r2, (t3 _ (by omega) (by omega)).trans r3, fun k hk => ⟨(t3 _ (by omega) (by omega)).trans (r4 k hk).1, ?_, (t3 _ (by omega) (by omega)).trans (r4 k hk).2.2⟩⟩
          rw [Nat.zero_add]
          exact t2 k hk
        refine ⟨bI ((fl O u v u).testBit v), upd (upd lo u (nI (O u ^^^ 2 ^ v))) v (nI (O v ^^^ 2 ^ u)), pz1, pn1, gsz1, gsa1, gmo1, gli1, glo1, ghe1, w2, kn1, ?_, ?_, ⟨N, sal, md, L, fl O u v, Hd, hO2, h2, h3, x2, rr⟩, past_w p1 (fun k h5 h6 => t3 k (by omega) (by omega)), hB, hS, img_w hG (fun k hk => (t3 k (by omega) (by omega)).trans (a2 k hk))⟩
        · have g1 := hasLost_n hO2 x2 hu hv
          rw [fX7_lose, f1, Option.bind_some, if_neg (by decide), e1]
          simp only [bd8, Option.bind_some]
          rw [turnLost_n hN hu hv huv (fun k hk => (x.2.2.2 k hk).2.1), Option.bind_some, g1, Option.bind_some]
          cases (fl O u v u).testBit v <;> rfl
        · rw [fX8_lose, f2, Option.bind_some, if_neg (by decide), e2]
          simp only [bd2, Option.bind_some]
          rw [zl12, t1, Option.bind_some, nI_add, rdI_n (by omega) (by omega), Option.bind_some, t2 u hu, has_n (lt31 hN (O_lt hO2 u)) (by omega), Option.bind_some]
          cases (fl O u v u).testBit v <;> rfl
    · exact bad2 (by rw [x.1]; exact hasLink_0 hN (Or.inr hn2)) (isLinked_0 hO.1 hN r.1 (Or.inr hn2))
  · exact bad2 (by rw [x.1]; exact hasLink_0 hN (Or.inl hn)) (isLinked_0 hO.1 hN r.1 (Or.inl hn))
/-- what is lost after a link's turn -/
def lk (L O : Nat → Nat) (u v : Nat) : Nat → Nat := if (O u).testBit v then fl O u v else O
theorem lk_and {N : Nat} {L O Hd : Nat → Nat} {u v : Nat} (hO : netOK N L O Hd) (h : u ≠ v) : ∀ k, lk L O u v k = if k = u ∨ k = v then O k &&& fl L u v k else O k := by
  intro k
  obtain ⟨a1, a2, a3, a4, a5, a6, a7, a8, a9⟩ := hO
  have key : (lk L O u v k) = O k &&& fl L u v k := by
    apply Nat.eq_of_testBit_eq
    intro i
    rw [Nat.testBit_and, fl_bit h]
    unfold lk
    cases ho : (O u).testBit v
    · rw [if_neg (by decide)]
      by_cases h1 : k = u ∧ i = v
      · rw [h1.1, h1.2, ho, Bool.false_and]
      · by_cases h2 : k = v ∧ i = u
        · rw [h2.1, h2.2, a8, ho, Bool.false_and]
        · rw [decide_eq_false h1, decide_eq_false h2, Bool.or_false, Bool.xor_false]
          cases hb : (O k).testBit i
          · rfl
          · rw [a9 k i hb]; rfl
    · rw [if_pos rfl, fl_bit h]
      by_cases h1 : k = u ∧ i = v
      · rw [h1.1, h1.2, ho, a9 u v ho, decide_eq_true (show u = u ∧ v = v from ⟨rfl, rfl⟩)]; rfl
      · by_cases h2 : k = v ∧ i = u
        · rw [h2.1, h2.2, a8 v u, ho, a6 v u, a9 u v ho, decide_eq_true (p := v = v ∧ u = u) ⟨rfl, rfl⟩, Bool.or_true]; rfl
        · rw [decide_eq_false h1, decide_eq_false h2, Bool.or_false, Bool.xor_false, Bool.xor_false]
          cases hb : (O k).testBit i
          · rfl
          · rw [a9 k i hb]; rfl
  by_cases hk : k = u ∨ k = v
  · rw [if_pos hk]; exact key
  · rw [if_neg hk]
    unfold lk
    cases (O u).testBit v
    · rfl
    · rw [if_pos rfl, fl_o (fun e => hk (Or.inl e)) (fun e => hk (Or.inr e))]
theorem fl_ok_link {N : Nat} {L O Hd : Nat → Nat} {u v : Nat} (hO : netOK N L O Hd) (hu : u < N) (hv : v < N) (h : u ≠ v) : netOK N (fl L u v) (lk L O u v) Hd := by
  have hl := lk_and hO h
  obtain ⟨a1, a2, a3, a4, a5, a6, a7, a8, a9⟩ := hO
  refine ⟨a1, a2, fun k hk => ⟨?_, ?_, (a3 k hk).2.2⟩, fl_lt hu hv a4, a5, fl_sym h a6, fun k => ?_, fun a b => ?_, fun a b hab => ?_⟩
  · rw [fl_o (by omega) (by omega)]; exact (a3 k hk).1
  · rw [hl, if_neg (by omega)]; exact (a3 k hk).2.1
  · rw [fl_bit h, a7, decide_eq_false (fun c => h (c.1.symm.trans c.2)), decide_eq_false (fun c => h (c.2.symm.trans c.1))]; rfl
  · unfold lk
    cases (O u).testBit v
    · exact a8 a b
    · exact fl_sym h a8 a b
  · rw [hl] at hab
    by_cases hk : a = u ∨ a = v
    · rw [if_pos hk, Nat.testBit_and, Bool.and_eq_true] at hab
      exact hab.2
    · rw [if_neg hk] at hab
      rw [fl_o (fun e => hk (Or.inl e)) (fun e => hk (Or.inr e))]
      exact a9 a b hab
theorem turnLink_n {N : Nat} {L O Hd : Nat → Nat} {li lo : Nat → Int32} {u v : Nat} (hO : netOK N L O Hd) (hu : u < N) (hv : v < N) (h : u ≠ v) (hf : ∀ k, k < 9 → li k = nI (L k)) (hg : ∀ k, k < 9 → lo k = nI (O k)) : ∃ li1 lo1, fX3_turnLink li lo (nI u) (nI v) = some (li1, lo1) ∧ (∀ k, k < 9 → li1 k = nI (fl L u v k)) ∧ (∀ k, k < 9 → lo1 k = nI (lk L O u v k)) := by
  have hN := hO.2.1
  have hx := turnX hN hu hv h hf
  have hl := lk_and hO h
  refine ⟨upd (upd li u (nI (L u ^^^ 2 ^ v))) v (nI (L v ^^^ 2 ^ u)), upd (upd lo u (nI (O u &&& fl L u v u))) v (nI (O v &&& fl L u v v)), ?_, hx, fun k hk => ?_⟩
  · have e1 : upd li u (nI (L u ^^^ 2 ^ v)) v = nI (L v) := by rw [pk_un (by omega)]; exact hf v (by omega)
    have e2 : upd lo u (nI (O u &&& fl L u v u)) v = nI (O v) := by rw [pk_un (by omega)]; exact hg v (by omega)
    rw [fX3_turnLink, rdI_n (by omega) (by omega), Option.bind_some, hf u (by omega), shl_1 (by omega), fb_xorI, wrI_n (by omega) (by omega), Option.bind_some, rdI_n (by omega) (by omega), Option.bind_some, e1, shl_1 (by omega), fb_xorI, wrI_n (by omega) (by omega), Option.bind_some, rdI_n (by omega) (by omega), Option.bind_some, hg u (by omega), rdI_n (by omega) (by omega), Option.bind_some, hx u (by omega), fa_and, wrI_n (by omega) (by omega), Option.bind_some, rdI_n (by omega) (by omega), Option.bind_some, e2, rdI_n (by omega) (by omega), Option.bind_some, hx v (by omega), fa_and, wrI_n (by omega) (by omega), Option.bind_some]
  · rw [hl]
    by_cases h1 : k = v
    · subst h1; rw [pk_us, if_pos (Or.inr rfl)]
    · rw [pk_un h1]
      by_cases h2 : k = u
      · subst h2; rw [pk_us, if_pos (Or.inl rfl)]
      · rw [pk_un h2, if_neg (fun c => c.elim h2 h1)]; exact hg k hk
theorem op_link : OP_link theInv := by
  intro rc sz sa mo li lo he pz pn gsz gsa gmo gli glo ghe ri rs gr fm tt co le wa ar hd bn bg bz sd ik is_ isz isa imo ili ilo ihe w_m kn_m kp_m sd_m ks_m bo_m bi_m bk_m ri_m fm_m tt_m le_m wa_m hd_m sx_m b1_m b2_m v1 v2 hI
  obtain ⟨hR, hP, hB, hS, hG⟩ := hI
  have hR0 := hR
  obtain ⟨N, sal, md, L, O, Hd, hO, h2, h3, x, r⟩ := hR
  have hN := hO.2.1
  obtain ⟨pz1, pn1, gsz1, gsa1, gmo1, gli1, glo1, ghe1, w1, kn1, e1, e2, p1, a1, a2⟩ := remember_both hR0 hP
  have ex := x.1
  subst ex
  rcases node_or v1 hN with ⟨u, hu, rfl⟩ | hn
  · rcases node_or v2 hN with ⟨v, hv, rfl⟩ | hn2
    · by_cases huv : u = v
      · subst huv
        refine ⟨(-1000000001 : Int32), li, lo, pz, pn, gsz, gsa, gmo, gli, glo, ghe, w_m, kn_m, ?_, ?_, hR0, hP, hB, hS, hG⟩
        · rw [fX7_link, hasX hN hu, Option.bind_some, jn0, if_neg (by decide), Option.bind_some, if_neg (by decide), if_pos rfl]
        · rw [fX8_link, nodeM hO.1 hN r.1 hu, Option.bind_some, jn0, if_neg (by decide), Option.bind_some, if_neg (by decide), if_pos rfl]
      · have hO2 := fl_ok_link hO hu hv huv
        have hne : ¬ nI u = nI v := fun e => huv ((nI_eq (by omega) (by omega)).mp e)
        obtain ⟨r1, r2, r3, r4⟩ := row_c hN r a1
        obtain ⟨li1, lo1, f1, f2, f3⟩ := turnLink_n hO hu hv huv (fun k hk => (x.2.2.2 k hk).1) (fun k hk => (x.2.2.2 k hk).2.1)
        have x2 : netX N sal md (fl L u v) (lk L O u v) Hd (nI N) sa mo li1 lo1 he := ⟨rfl, x.2.1, x.2.2.1, fun k hk => ⟨f2 k hk, f3 k hk, (x.2.2.2 k hk).2.2⟩⟩
        have hw2 : ∃ w2, (if bI ((O u).testBit v) = 0 then some w1 else fX8_turn w1 (nI 12) (nI u) (nI v)) = some w2 ∧ (∀ k, k < N → w2 (12 + k) = nI (lk L O u v k)) ∧ (∀ k, k < 12 ∨ 21 ≤ k → w2 k = w1 k) := by
          have hw : ∀ k, k < N → w1 (12 + k) = nI (O k) := fun k hk => by
            have := (r4 k hk).2.1
            rw [Nat.zero_add] at this
            exact this
          unfold lk
          cases (O u).testBit v
          · exact ⟨w1, rfl, hw, fun _ _ => rfl⟩
          · obtain ⟨w2, t1, t2, t3⟩ := turn_n (w := w1) (b := 12) (f := O) hN (by omega) hu hv huv hw
            exact ⟨w2, by rw [if_neg (by decide)]; exact t1, t2, fun k hk => t3 k (by omega) (by omega)⟩
        obtain ⟨w2, s1, s2, s3⟩ := hw2
        obtain ⟨w3, t1, t2, t3⟩ := turn_n (w := w2) (b := 3) (f := L) hN (by omega) hu hv huv (fun k hk => by
            rw [s3 _ (by omega)]
            have := (r4 k hk).1
            rw [Nat.zero_add] at this
            exact this)
        have hout : ∀ k, k < 3 ∨ 21 ≤ k → w3 k = w1 k := fun k hk => (t3 k (by omega) (by omega)).trans (s3 k (by omega))
        have rr : rowM N sal md (fl L u v) (lk L O u v) Hd w3 0 := by
          refine ⟨(hout _ (by omega)).trans r1, (hout _ (by omega)).trans r2, (hout _ (by omega)).trans r3, fun k hk => ⟨?_, ?_, (hout _ (by omega)).trans (r4 k hk).2.2⟩⟩
          · rw [Nat.zero_add]; exact t2 k hk
          · rw [Nat.zero_add, t3 _ (by omega) (by omega)]; exact s2 k hk
        refine ⟨bI ((fl L u v u).testBit v), li1, lo1, pz1, pn1, gsz1, gsa1, gmo1, gli1, glo1, ghe1, w3, kn1, ?_, ?_, ⟨N, sal, md, fl L u v, lk L O u v, Hd, hO2, h2, h3, x2, rr⟩, past_w p1 (fun k h5 h6 => hout k (by omega)), hB, hS, img_w hG (fun k hk => (hout k (by omega)).trans (a2 k hk))⟩
        · rw [fX7_link, hasX hN hu, Option.bind_some, jn0, if_neg (by decide), hasX hN hv, Option.bind_some, if_neg (by decide), if_neg hne, e1]
          simp only [bd8, bd2, Option.bind_some]
          rw [f1]
          simp only [Option.bind_some]
          rw [hasLink_n hO2 x2 hu hv, Option.bind_some]
          cases (fl L u v u).testBit v <;> rfl
        · have ho : w1 (12 + u) = nI (O u) := by
            have := (r4 u hu).2.1
            rw [Nat.zero_add] at this
            exact this
          rw [fX8_link, nodeM hO.1 hN r.1 hu, Option.bind_some, jn0, if_neg (by decide), nodeM hO.1 hN r.1 hv, Option.bind_some, if_neg (by decide), if_neg hne, e2]
          simp only [bd2, Option.bind_some, jn1]
          rw [zl12, nI_add, rdI_n (by omega) (by omega), Option.bind_some, ho, has_n (lt31 hN (O_lt hO u)) (by omega), Option.bind_some]
          have key : ∀ (g : (Nat → Int32) → Option (Int32 × (Nat → Int32) × Int32)), (if bI ((O u).testBit v) = 0 then g w1 else (fX8_turn w1 (nI 12) (nI u) (nI v)).bind g) = g w2 := by
            intro g
            have s1' := s1
            by_cases hc : bI ((O u).testBit v) = 0
            · rw [if_pos hc] at s1' ⊢
              injection s1' with s1'
              rw [s1']
            · rw [if_neg hc] at s1' ⊢
              rw [s1']; rfl
          refine (key _).trans ?_
          rw [zl3, t1, Option.bind_some, nI_add, rdI_n (by omega) (by omega), Option.bind_some, t2 u hu, has_n (lt31 hN (hO2.2.2.2.1 u)) (by omega), Option.bind_some]
          cases (fl L u v u).testBit v <;> rfl
    · refine ⟨(-1000000001 : Int32), li, lo, pz, pn, gsz, gsa, gmo, gli, glo, ghe, w_m, kn_m, ?_, ?_, hR0, hP, hB, hS, hG⟩
      · rw [fX7_link, hasX hN hu, Option.bind_some, jn0, if_neg (by decide), hasX0 hN hn2, Option.bind_some, if_pos rfl]
      · rw [fX8_link, nodeM hO.1 hN r.1 hu, Option.bind_some, jn0, if_neg (by decide), nodeM0 hO.1 hN r.1 hn2, Option.bind_some, if_pos rfl]
  · refine ⟨(-1000000001 : Int32), li, lo, pz, pn, gsz, gsa, gmo, gli, glo, ghe, w_m, kn_m, ?_, ?_, hR0, hP, hB, hS, hG⟩
    · rw [fX7_link, hasX0 hN hn, Option.bind_some, jn0, if_pos rfl]
    · rw [fX8_link, nodeM0 hO.1 hN r.1 hn, Option.bind_some, jn0, if_pos rfl]
