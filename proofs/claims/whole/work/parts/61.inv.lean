/-! what class and reference have in common between calls -/
def netOK (N : Nat) (L O Hd : Nat → Nat) : Prop := 1 ≤ N ∧ N ≤ 9 ∧ (∀ v, N ≤ v → L v = 0 ∧ O v = 0 ∧ Hd v = 0) ∧ (∀ v, L v < 2 ^ N) ∧ (∀ v, Hd v < 65536) ∧ (∀ u v, (L u).testBit v = (L v).testBit u) ∧ (∀ v, (L v).testBit v = false) ∧ (∀ u v, (O u).testBit v = (O v).testBit u) ∧ (∀ u v, (O u).testBit v = true → (L u).testBit v = true)
def netX (N sal md : Nat) (L O Hd : Nat → Nat) (sz sa mo : Int32) (li lo he : Nat → Int32) : Prop := sz = nI N ∧ sa = nI sal ∧ mo = nI md ∧ ∀ v, v < 9 → li v = nI (L v) ∧ lo v = nI (O v) ∧ he v = nI (Hd v)
def rowM (N sal md : Nat) (L O Hd : Nat → Nat) (w : Nat → Int32) (b : Nat) : Prop := w b = nI N ∧ w (b + 1) = nI sal ∧ w (b + 2) = nI md ∧ ∀ v, v < N → w (b + 3 + v) = nI (L v) ∧ w (b + 12 + v) = nI (O v) ∧ w (b + 21 + v) = nI (Hd v)
def rel (sz sa mo : Int32) (li lo he : Nat → Int32) (w : Nat → Int32) (b : Nat) : Prop := ∃ (N sal md : Nat) (L O Hd : Nat → Nat), netOK N L O Hd ∧ sal < 65536 ∧ md < 2 ∧ netX N sal md L O Hd sz sa mo li lo he ∧ rowM N sal md L O Hd w b
theorem rel_w {sz sa mo : Int32} {li lo he w w1 : Nat → Int32} {b b1 : Nat} (h : rel sz sa mo li lo he w b) (hw : ∀ k, k < 30 → w1 (b1 + k) = w (b + k)) : rel sz sa mo li lo he w1 b1 := by
  obtain ⟨N, sal, md, L, O, Hd, h1, h2, h3, h4, r1, r2, r3, r4⟩ := h
  refine ⟨N, sal, md, L, O, Hd, h1, h2, h3, h4, ?_, ?_, ?_, fun v hv => ⟨?_, ?_, ?_⟩⟩
  · rw [← r1]; exact hw 0 (by omega)
  · rw [← r2]; exact hw 1 (by omega)
  · rw [← r3]; exact hw 2 (by omega)
  · rw [← (r4 v hv).1, Nat.add_assoc, Nat.add_assoc]
    exact hw (3 + v) (by have := h1.2.1; omega)
  · rw [← (r4 v hv).2.1, Nat.add_assoc, Nat.add_assoc]
    exact hw (12 + v) (by have := h1.2.1; omega)
  · rw [← (r4 v hv).2.2, Nat.add_assoc, Nat.add_assoc]
    exact hw (21 + v) (by have := h1.2.1; omega)
theorem rel_x {sz sa mo : Int32} {li lo he li1 lo1 he1 w : Nat → Int32} {b : Nat} (h : rel sz sa mo li lo he w b) (h1 : ∀ v, v < 9 → li1 v = li v ∧ lo1 v = lo v ∧ he1 v = he v) : rel sz sa mo li1 lo1 he1 w b := by
  obtain ⟨N, sal, md, L, O, Hd, g1, g2, g3, ⟨x1, x2, x3, x4⟩, g5⟩ := h
  refine ⟨N, sal, md, L, O, Hd, g1, g2, g3, ⟨x1, x2, x3, fun v hv => ?_⟩, g5⟩
  obtain ⟨a, b, c⟩ := h1 v hv
  rw [a, b, c]
  exact x4 v hv
def pastOK (pz pn : Int32) (gsz gsa gmo : Nat → Int32) (gli glo ghe : Nat → Nat → Int32) (w : Nat → Int32) (kn : Int32) : Prop := ∃ K P : Nat, K ≤ 16 ∧ P < 16 ∧ pz = nI K ∧ kn = nI K ∧ pn = nI P ∧ ∀ j, j < K → rel (gsz ((P + 15 - j) % 16)) (gsa ((P + 15 - j) % 16)) (gmo ((P + 15 - j) % 16)) (gli ((P + 15 - j) % 16)) (glo ((P + 15 - j) % 16)) (ghe ((P + 15 - j) % 16)) w (30 * (K - j))
def bookOK (bn bg : Nat → Int32) (bz : Int32) (bo bi : Nat → Int32) (bk : Int32) : Prop := ∃ B : Nat, B ≤ 20 ∧ bz = nI B ∧ bk = nI B ∧ ∀ i, i < B → bn i = bo i ∧ bg i = bi i ∧ ∃ v, v < 9 ∧ bn i = nI v
def seedOK (sd sdm : Int32) : Prop := sd = sdm ∧ ∃ S : Nat, S < 2 ^ 31 ∧ sd = nI S
def imgOK (ik is_ isz isa imo : Nat → Int32) (ili ilo ihe : Nat → Nat → Int32) (w : Nat → Int32) (kp : Int32) (ks : Nat → Int32) : Prop := ∃ q : Nat, q < 4 ∧ kp = nI q ∧ ∀ i, i < 2 → ik i = bI (q.testBit i) ∧ (q.testBit i = true → seedOK (is_ i) (ks i) ∧ rel (isz i) (isa i) (imo i) (ili i) (ilo i) (ihe i) w (510 + 30 * i))
def theInv : InvT := fun sz sa mo li lo he pz pn gsz gsa gmo gli glo ghe bn bg bz sd ik is_ isz isa imo ili ilo ihe w kn kp sdm ks bo bi bk => rel sz sa mo li lo he w 0 ∧ pastOK pz pn gsz gsa gmo gli glo ghe w kn ∧ bookOK bn bg bz bo bi bk ∧ seedOK sd sdm ∧ imgOK ik is_ isz isa imo ili ilo ihe w kp ks
theorem theInv_init : lawInit theInv := by
  unfold lawInit theInv
  refine ⟨⟨1, 0, 0, fun _ => 0, fun _ => 0, fun _ => 0, ?_, by omega, by omega, ⟨rfl, rfl, rfl, fun v _ => ⟨rfl, rfl, rfl⟩⟩, rfl, rfl, rfl, fun v hv => ?_⟩, ⟨0, 0, by omega, by omega, rfl, rfl, rfl, fun j hj => absurd hj (by omega)⟩, ⟨0, by omega, rfl, rfl, fun j hj => absurd hj (by omega)⟩, ⟨rfl, 0, by omega, rfl⟩, ⟨0, by omega, rfl, fun i hi => ?_⟩⟩
  · refine ⟨by omega, by omega, fun _ _ => ⟨rfl, rfl, rfl⟩, fun _ => (by decide : 0 < 2 ^ 1), fun _ => (by decide : 0 < 65536), fun u v => by simp, fun v => by simp, fun u v => by simp, fun u v h => by simp at h⟩
  · have e : v = 0 := by omega
    subst e
    exact ⟨rfl, rfl, rfl⟩
  · rw [Nat.zero_testBit]
    exact ⟨rfl, fun h => by cases h⟩
/-- the reference's rows copied -/
def cpK (w : Nat → Int32) (x y k : Nat) : Nat → Int32 := fun j => if y ≤ j ∧ j < y + k then w (x + (j - y)) else w j
theorem cpL {w : Nat → Int32} {x y : Nat} (hx : x + 30 ≤ 570) (hy : y + 30 ≤ 570) (hd : x + 30 ≤ y ∨ y + 30 ≤ x) : ∀ (m k n : Nat), k + m = 30 → m < n → fX8_copyRow_L2 (nI x) (nI y) n (nI k) (cpK w x y k) = some (cpK w x y 30) := by
  intro m
  induction m with
  | zero =>
    intro k n hk hn
    obtain ⟨n, rfl⟩ : ∃ z, n = z + 1 := ⟨n - 1, by omega⟩
    have e : k = 30 := by omega
    subst e
    rw [fX8_copyRow_L2, if_pos (show (30 : Int32) ≤ nI 30 from nI_le (a := 30) (b := 30) (by omega) (by omega))]
  | succ m ih =>
    intro k n hk hn
    obtain ⟨n, rfl⟩ : ∃ z, n = z + 1 := ⟨n - 1, by omega⟩
    rw [fX8_copyRow_L2, if_neg (show ¬ (30 : Int32) ≤ nI k from nI_ge (a := k) (b := 30) (by omega) (by omega)), nI_add, rdI_n (by omega) (by omega), Option.bind_some, nI_add, wrI_n (by omega) (by omega), Option.bind_some, nI_1]
    have e : upd (cpK w x y k) (y + k) (cpK w x y k (x + k)) = cpK w x y (k + 1) := by
      funext j
      have e1 : cpK w x y k (x + k) = w (x + k) := if_neg (by omega)
      rw [e1]
      unfold upd cpK
      by_cases h1 : j = y + k
      · rw [if_pos h1, if_pos (by omega)]
        congr 1
        omega
      · rw [if_neg h1]
        by_cases h2 : y ≤ j ∧ j < y + k
        · rw [if_pos h2, if_pos (by omega)]
        · rw [if_neg h2, if_neg (by omega)]
    rw [e]
    exact ih (k + 1) n (by omega) (by omega)
theorem copyRow_n {w : Nat → Int32} {x y : Nat} (hx : x + 30 ≤ 570) (hy : y + 30 ≤ 570) (hd : x + 30 ≤ y ∨ y + 30 ≤ x) : fX8_copyRow w (nI x) (nI y) = some (cpK w x y 30) := by
  have e : cpK w x y 0 = w := by
    funext j
    exact if_neg (by omega)
  have h := cpL (w := w) hx hy hd 30 0 300 (by omega) (by omega)
  rw [e] at h
  show (fX8_copyRow_L2 (nI x) (nI y) 300 (nI 0) w).bind _ = _
  rw [h]
  rfl
theorem cp_in {w : Nat → Int32} {x y k : Nat} (h : k < 30) : cpK w x y 30 (y + k) = w (x + k) := by
  unfold cpK
  rw [if_pos (by omega)]
  congr 1
  omega
theorem cp_out {w : Nat → Int32} {x y j : Nat} (h : j < y ∨ y + 30 ≤ j) : cpK w x y 30 j = w j := if_neg (by omega)
def shK (w : Nat → Int32) (m : Nat) : Nat → Int32 := fun j => if 30 ≤ j ∧ j < 30 * m then w (j + 30) else w j
theorem shL {w : Nat → Int32} : ∀ (m v n : Nat), v + m = 16 → 1 ≤ v → m < n → fX8_remember_L11 n (nI v) (shK w v) = some (shK w 16) := by
  intro m
  induction m with
  | zero =>
    intro v n hv h1 hn
    obtain ⟨n, rfl⟩ : ∃ z, n = z + 1 := ⟨n - 1, by omega⟩
    have e : v = 16 := by omega
    subst e
    rw [fX8_remember_L11, if_pos (show (16 : Int32) ≤ nI 16 from nI_le (a := 16) (b := 16) (by omega) (by omega))]
  | succ m ih =>
    intro v n hv h1 hn
    obtain ⟨n, rfl⟩ : ∃ z, n = z + 1 := ⟨n - 1, by omega⟩
    have e30 : (30 : Int32) = nI 30 := rfl
    rw [fX8_remember_L11, if_neg (show ¬ (16 : Int32) ≤ nI v from nI_ge (a := v) (b := 16) (by omega) (by omega)), show (1 : Int32) = nI 1 from rfl, nI_add, e30, pk_mul, pk_mul, copyRow_n (by omega) (by omega) (by omega), Option.bind_some]
    have e : cpK (shK w v) (30 * (v + 1)) (30 * v) 30 = shK w (v + 1) := by
      funext j
      unfold cpK
      by_cases h2 : 30 * v ≤ j ∧ j < 30 * v + 30
      · rw [if_pos h2]
        unfold shK
        rw [if_neg (by omega), if_pos (by omega)]
        congr 1
        omega
      · rw [if_neg h2]
        unfold shK
        by_cases h3 : 30 ≤ j ∧ j < 30 * v
        · rw [if_pos h3, if_pos (by omega)]
        · rw [if_neg h3, if_neg (by omega)]
    rw [e]
    exact ih (v + 1) n (by omega) (by omega) (by omega)
theorem remM_lt {w : Nat → Int32} {K : Nat} (hK : K < 16) : fX8_remember w (nI K) = some (cpK w 0 (30 * (K + 1)) 30, nI (K + 1)) := by
  show (if nI K = (16 : Int32) then _ else _) = _
  rw [if_neg (fun h => by have := (nI_eq (a := K) (b := 16) (by omega) (by omega)).mp h; omega)]
  show (fX8_copyRow w (nI 0) (nI 30 * (nI K + nI 1))).bind _ = _
  rw [nI_add, pk_mul, copyRow_n (by omega) (by omega) (by omega), Option.bind_some, nI_1]
theorem remM_16 {w : Nat → Int32} : fX8_remember w (nI 16) = some (cpK (shK w 16) 0 480 30, nI 16) := by
  have e : shK w 1 = w := by
    funext j
    exact if_neg (by omega)
  have h := shL (w := w) 15 1 300 (by omega) (by omega) (by omega)
  rw [e] at h
  rw [fX8_remember, jn2]
  dsimp only
  rw [if_pos (show nI 16 = (16 : Int32) from rfl), show (1 : Int32) = nI 1 from rfl, h, Option.bind_some, pk_sub (by omega), nI_add, show (30 : Int32) = nI 30 from rfl, pk_mul, show (0 : Int32) = nI 0 from rfl, copyRow_n (by omega) (by omega) (by omega), Option.bind_some]
