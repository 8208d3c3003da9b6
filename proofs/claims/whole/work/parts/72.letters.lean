/-! letters: the list of them, how many there are at most, both arrays -/
def bt (X : Nat) : Nat → Nat → List Nat
  | _, 0 => []
  | u, t + 1 => if X.testBit u then u :: bt X (u + 1) t else bt X (u + 1) t
def tg (N md : Nat) (L : Nat → Nat) (v : Nat) : List Nat := if md = 1 then (bt (upS N L v) 0 N).take 1 else bt (upS N L v) 0 N
def lvl (N md : Nat) (L : Nat → Nat) (r : Nat) : Nat → Nat → List (Nat × Nat)
  | _, 0 => []
  | k, t + 1 => (if rvK N L 9 k = r + 1 then (tg N md L k).map (fun u => (k, u)) else []) ++ lvl N md L r (k + 1) t
def allL (N md : Nat) (L : Nat → Nat) : Nat → List (Nat × Nat)
  | 0 => []
  | r + 1 => lvl N md L (r + 1) 0 N ++ allL N md L r
def lts (N md : Nat) (L : Nat → Nat) : List (Nat × Nat) := allL N md L (grK N L 9)
theorem bt_mem {X u : Nat} : ∀ {t k : Nat}, u ∈ bt X k t → k ≤ u ∧ u < k + t ∧ X.testBit u = true := by
  intro t
  induction t with
  | zero => intro k h; cases h
  | succ t ih =>
    intro k h
    rw [bt] at h
    cases hb : X.testBit k
    · rw [hb, if_neg (by decide)] at h
      have := ih h
      exact ⟨by omega, by omega, this.2.2⟩
    · rw [hb, if_pos rfl, List.mem_cons] at h
      rcases h with h | h
      · subst h; exact ⟨by omega, by omega, hb⟩
      · have := ih h
        exact ⟨by omega, by omega, this.2.2⟩
theorem tg_mem {N md v u : Nat} {L : Nat → Nat} (h : u ∈ tg N md L v) : u < N ∧ (upS N L v).testBit u = true := by
  unfold tg at h
  by_cases e : md = 1
  · rw [if_pos e] at h
    have := bt_mem (List.mem_of_mem_take h)
    exact ⟨by omega, this.2.2⟩
  · rw [if_neg e] at h
    have := bt_mem h
    exact ⟨by omega, this.2.2⟩
theorem lvl_mem {N md r : Nat} {L : Nat → Nat} {p : Nat × Nat} : ∀ {t k : Nat}, p ∈ lvl N md L r k t → p.1 < k + t ∧ p.2 < N ∧ (upS N L p.1).testBit p.2 = true := by
  intro t
  induction t with
  | zero => intro k h; cases h
  | succ t ih =>
    intro k h
    rw [lvl, List.mem_append] at h
    rcases h with h | h
    · by_cases e : rvK N L 9 k = r + 1
      · rw [if_pos e, List.mem_map] at h
        obtain ⟨u, h1, h2⟩ := h
        subst h2
        have := tg_mem h1
        exact ⟨by show k < k + (t + 1); omega, this.1, this.2⟩
      · rw [if_neg e] at h; cases h
    · have := ih h
      exact ⟨by omega, this.2⟩
theorem all_mem {N md : Nat} {L : Nat → Nat} {p : Nat × Nat} : ∀ {r : Nat}, p ∈ allL N md L r → p.1 < N ∧ p.2 < N ∧ (upS N L p.1).testBit p.2 = true := by
  intro r
  induction r with
  | zero => intro h; cases h
  | succ r ih =>
    intro h
    rw [allL, List.mem_append] at h
    rcases h with h | h
    · have := lvl_mem h
      exact ⟨by omega, this.2⟩
    · exact ih h
theorem fb_sw (f : Nat → Nat → Nat) (m : Nat) : ∀ k, fb_sm (fun s => fb_sm (fun j => f s j) m) k = fb_sm (fun j => fb_sm (fun s => f s j) k) m := by
  intro k
  induction k with
  | zero =>
    have := fb_sm_const 0 m
    rw [Nat.mul_zero] at this
    exact this.symm
  | succ k ih =>
    rw [fb_sm_succ, ih, ← fb_sm_add]
    rfl
theorem ct_sm (p : Nat → Bool) : ∀ n, fb_ct p n = fb_sm (fun i => if p i then 1 else 0) n := by
  intro n
  induction n with
  | zero => rfl
  | succ n ih => rw [fb_ct_succ, fb_sm_succ, ih]
theorem bt_len (X : Nat) : ∀ (t k : Nat), (bt X k t).length = fb_ct (fun i => X.testBit (k + i)) t := by
  intro t
  induction t with
  | zero => intro k; rfl
  | succ t ih =>
    intro k
    have h := fb_ct_split (fun i => X.testBit (k + i)) 1 t
    rw [Nat.add_comm 1 t] at h
    have e : fb_ct (fun j => X.testBit (k + (1 + j))) t = fb_ct (fun i => X.testBit (k + 1 + i)) t := by
      apply fb_ct_cong
      intro j _
      show X.testBit (k + (1 + j)) = X.testBit (k + 1 + j)
      rw [Nat.add_assoc]
    rw [h, e, ← ih (k + 1), bt]
    have e2 : fb_ct (fun i => X.testBit (k + i)) 1 = if X.testBit k then 1 else 0 := by
      show 0 + (if X.testBit (k + 0) then 1 else 0) = _
      rw [Nat.add_zero, Nat.zero_add]
    rw [e2]
    cases X.testBit k
    · rw [if_neg (by decide), if_neg (by decide), Nat.zero_add]
    · rw [if_pos rfl, if_pos rfl, List.length_cons, Nat.add_comm]
theorem tg_len (N md : Nat) (L : Nat → Nat) (v : Nat) : (tg N md L v).length ≤ fb_ct (fun u => (upS N L v).testBit u) N := by
  have h := bt_len (upS N L v) N 0
  have e : fb_ct (fun i => (upS N L v).testBit (0 + i)) N = fb_ct (fun u => (upS N L v).testBit u) N := by
    apply fb_ct_cong
    intro j _
    show (upS N L v).testBit (0 + j) = (upS N L v).testBit j
    rw [Nat.zero_add]
  rw [e] at h
  unfold tg
  by_cases e : md = 1
  · rw [if_pos e, ← h]
    exact List.length_take_le' 1 _
  · rw [if_neg e, h]; exact Nat.le_refl _
theorem lvl_len (N md : Nat) (L : Nat → Nat) (r : Nat) : ∀ (t k : Nat), (lvl N md L r k t).length = fb_sm (fun i => if rvK N L 9 (k + i) = r + 1 then (tg N md L (k + i)).length else 0) t := by
  intro t
  induction t with
  | zero => intro k; rfl
  | succ t ih =>
    intro k
    have h := fb_sm_split (fun i => if rvK N L 9 (k + i) = r + 1 then (tg N md L (k + i)).length else 0) 1 t
    rw [Nat.add_comm 1 t] at h
    have e : fb_sm (fun j => if rvK N L 9 (k + (1 + j)) = r + 1 then (tg N md L (k + (1 + j))).length else 0) t = fb_sm (fun i => if rvK N L 9 (k + 1 + i) = r + 1 then (tg N md L (k + 1 + i)).length else 0) t := by
      apply fb_sm_cong
      intro j _
      show (if rvK N L 9 (k + (1 + j)) = r + 1 then (tg N md L (k + (1 + j))).length else 0) = (if rvK N L 9 (k + 1 + j) = r + 1 then (tg N md L (k + 1 + j)).length else 0)
      rw [Nat.add_assoc]
    rw [h, e, ← ih (k + 1), lvl, List.length_append]
    congr 1
    show _ = 0 + (if rvK N L 9 k = r + 1 then (tg N md L k).length else 0)
    rw [Nat.zero_add]
    by_cases e : rvK N L 9 k = r + 1
    · rw [if_pos e, if_pos e, List.length_map]
    · rw [if_neg e, if_neg e]; rfl
theorem all_len (N md : Nat) (L : Nat → Nat) : ∀ R, (allL N md L R).length = fb_sm (fun r => fb_sm (fun v => if rvK N L 9 v = r + 2 then (tg N md L v).length else 0) N) R := by
  intro R
  induction R with
  | zero => rfl
  | succ R ih =>
    rw [allL, List.length_append, ih, fb_sm_succ, Nat.add_comm, lvl_len]
    congr 1
    apply fb_sm_cong
    intro j _
    show (if rvK N L 9 (0 + j) = R + 1 + 1 then (tg N md L (0 + j)).length else 0) = (if rvK N L 9 j = R + 2 then (tg N md L j).length else 0)
    rw [Nat.zero_add]
theorem ind_le (q c : Nat) : ∀ R, fb_sm (fun r => if q = r + 2 then c else 0) R = if 2 ≤ q ∧ q < R + 2 then c else 0 := by
  intro R
  induction R with
  | zero => rw [if_neg (by omega)]; rfl
  | succ R ih =>
    rw [fb_sm_succ, ih]
    by_cases e : q = R + 2
    · rw [if_neg (by omega), if_pos e, if_pos (by omega), Nat.zero_add]
    · rw [if_neg e, Nat.add_zero]
      by_cases e2 : 2 ≤ q ∧ q < R + 2
      · rw [if_pos e2, if_pos (by omega)]
      · rw [if_neg e2, if_neg (by omega)]
theorem one_but {v N : Nat} (h : v < N) : fb_sm (fun u => if u = v then 0 else 1) N = N - 1 := by
  have h1 := fb_sm_upd (fun _ => 1) 0 h
  have h2 := fb_sm_const 1 N
  omega
theorem two_le {N : Nat} (L : Nat → Nat) (hN : N ≤ 9) : fb_sm (fun v => fb_ct (fun u => (upS N L v).testBit u) N) N ≤ 36 := by
  have e1 : fb_sm (fun v => fb_ct (fun u => (upS N L v).testBit u) N) N = fb_sm (fun v => fb_sm (fun u => if (upS N L v).testBit u then 1 else 0) N) N := by
    apply fb_sm_cong
    intro v _
    exact ct_sm _ N
  have e2 : fb_sm (fun v => fb_sm (fun u => if (upS N L v).testBit u then 1 else 0) N) N = fb_sm (fun v => fb_sm (fun u => if (upS N L u).testBit v then 1 else 0) N) N := fb_sw (fun v u => if (upS N L v).testBit u then 1 else 0) N N
  have e3 : fb_sm (fun v => fb_sm (fun u => if (upS N L v).testBit u then 1 else 0) N) N + fb_sm (fun v => fb_sm (fun u => if (upS N L u).testBit v then 1 else 0) N) N ≤ fb_sm (fun _ => N - 1) N := by
    rw [← fb_sm_add]
    apply fb_sm_le
    intro v hv
    show fb_sm (fun u => if (upS N L v).testBit u then 1 else 0) N + fb_sm (fun u => if (upS N L u).testBit v then 1 else 0) N ≤ N - 1
    rw [← fb_sm_add, ← one_but hv]
    apply fb_sm_le
    intro u _
    show (if (upS N L v).testBit u then 1 else 0) + (if (upS N L u).testBit v then 1 else 0) ≤ if u = v then 0 else 1
    cases h1 : (upS N L v).testBit u
    · rw [if_neg (by decide)]
      cases h2 : (upS N L u).testBit v
      · rw [if_neg (by decide)]; omega
      · have := (up_bit.mp h2).2
        rw [if_pos rfl, if_neg (fun e => by rw [e] at this; omega)]; omega
    · have h3 := (up_bit.mp h1).2
      rw [if_pos rfl]
      cases h2 : (upS N L u).testBit v
      · rw [if_neg (by decide), if_neg (fun e => by rw [e] at h3; omega)]; omega
      · have := (up_bit.mp h2).2
        omega
  rw [fb_sm_const, ← e2, ← e1] at e3
  have : N * (N - 1) ≤ 9 * 8 := Nat.mul_le_mul hN (by omega)
  omega
theorem lts_le {N : Nat} (md : Nat) (L : Nat → Nat) (hN : N ≤ 9) : (lts N md L).length ≤ 36 := by
  unfold lts
  rw [all_len, fb_sw (fun r v => if rvK N L 9 v = r + 2 then (tg N md L v).length else 0) N]
  refine Nat.le_trans (fb_sm_le (g := fun v => fb_ct (fun u => (upS N L v).testBit u) N) ?_) (two_le L hN)
  intro v _
  show fb_sm (fun r => if rvK N L 9 v = r + 2 then (tg N md L v).length else 0) (grK N L 9) ≤ _
  rw [ind_le]
  have := tg_len N md L v
  by_cases e : 2 ≤ rvK N L 9 v ∧ rvK N L 9 v < grK N L 9 + 2
  · rw [if_pos e]; exact this
  · rw [if_neg e]; omega
/-- letters as they lie in arrays -/
def arr (ls : List (Nat × Nat)) (fm tt : Nat → Int32) : Prop := ∀ (i a b : Nat), ls[i]? = some (a, b) → fm i = nI a ∧ tt i = nI b
def arc (O : Nat → Nat) (ls : List (Nat × Nat)) (co : Nat → Int32) : Prop := ∀ (i a b : Nat), ls[i]? = some (a, b) → co i = bI (!(O a).testBit b)
theorem snoc_at {ls : List (Nat × Nat)} {a b i x y : Nat} (h : (ls ++ [(a, b)])[i]? = some (x, y)) : (i < ls.length ∧ ls[i]? = some (x, y)) ∨ (i = ls.length ∧ x = a ∧ y = b) := by
  rcases Nat.lt_or_ge i ls.length with hi | hi
  · left
    rw [List.getElem?_append_left hi] at h
    exact ⟨hi, h⟩
  · right
    rw [List.getElem?_append_right hi] at h
    have h2 : i - ls.length = 0 := by
      apply Classical.byContradiction
      intro hc
      rw [List.getElem?_eq_none (by show 1 ≤ i - ls.length; omega)] at h
      cases h
    rw [h2] at h
    have h3 : some (a, b) = some (x, y) := h
    injection h3 with h3
    injection h3 with h4 h5
    exact ⟨by omega, h4.symm, h5.symm⟩
theorem arr_snoc {ls : List (Nat × Nat)} {fm tt : Nat → Int32} {a b : Nat} (h : arr ls fm tt) : arr (ls ++ [(a, b)]) (upd fm ls.length (nI a)) (upd tt ls.length (nI b)) := by
  intro i x y hi
  rcases snoc_at hi with ⟨h1, h2⟩ | ⟨h1, h2, h3⟩
  · rw [pk_un (by omega), pk_un (by omega)]
    exact h i x y h2
  · rw [h1, pk_us, pk_us, h2, h3]; exact ⟨rfl, rfl⟩
theorem arc_snoc {O : Nat → Nat} {ls : List (Nat × Nat)} {co : Nat → Int32} {a b : Nat} (h : arc O ls co) : arc O (ls ++ [(a, b)]) (upd co ls.length (bI (!(O a).testBit b))) := by
  intro i x y hi
  rcases snoc_at hi with ⟨h1, h2⟩ | ⟨h1, h2, h3⟩
  · rw [pk_un (by omega)]
    exact h i x y h2
  · rw [h1, pk_us, h2, h3]
/-- the class's letters of one node -/
theorem wrFrom {N : Nat} {L O Hd : Nat → Nat} {lo : Nat → Int32} (hO : netOK N L O Hd) (hlo : ∀ v, v < 9 → lo v = nI (O v)) {X v : Nat} (hX : X < 2 ^ N) (hv : v < N) : ∀ (t k n : Nat) (ls : List (Nat × Nat)) (fm tt co : Nat → Int32), k + t = N → t < n → arr ls fm tt → arc O ls co → (ls ++ (bt X k t).map (fun u => (v, u))).length ≤ 36 → ∃ fm' tt' co', fX6_writeFrom_L23 (nI N) lo (nI v) (nI X) n (nI k) fm tt co (nI ls.length) = some (fm', tt', co', nI (ls ++ (bt X k t).map (fun u => (v, u))).length) ∧ arr (ls ++ (bt X k t).map (fun u => (v, u))) fm' tt' ∧ arc O (ls ++ (bt X k t).map (fun u => (v, u))) co' := by
  have hN := hO.2.1
  intro t
  induction t with
  | zero =>
    intro k n ls fm tt co hk hn h1 h2 h3
    obtain ⟨n, rfl⟩ : ∃ z, n = z + 1 := ⟨n - 1, by omega⟩
    have e : ls ++ (bt X k 0).map (fun u => (v, u)) = ls := List.append_nil ls
    rw [e]
    refine ⟨fm, tt, co, ?_, h1, h2⟩
    rw [fX6_writeFrom_L23, if_pos (nI_le (by omega) (by omega))]
  | succ t ih =>
    intro k n ls fm tt co hk hn h1 h2 h3
    obtain ⟨n, rfl⟩ : ∃ z, n = z + 1 := ⟨n - 1, by omega⟩
    rw [fX6_writeFrom_L23, if_neg (nI_ge (by omega) (by omega))]
    rw [List.length_append, List.length_map] at h3
    rcases Nat.lt_or_ge ls.length 36 with h36 | h36
    · rw [if_neg (show ¬ (36 : Int32) ≤ nI ls.length from nI_ge (a := ls.length) (b := 36) h36 (by omega)), isIn_n (lt31 hN hX) (by omega), Option.bind_some, jn4]
      cases hb : X.testBit k
      · have e : bt X k (t + 1) = bt X (k + 1) t := by rw [bt, hb, if_neg (by decide)]
        rw [e] at h3 ⊢
        rw [bI_f, if_pos (by decide), nI_1]
        exact ih (k + 1) n ls fm tt co (by omega) (by omega) h1 h2 (by rw [List.length_append, List.length_map]; exact h3)
      · have e : bt X k (t + 1) = k :: bt X (k + 1) t := by rw [bt, hb, if_pos rfl]
        have e2 : ls ++ (bt X k (t + 1)).map (fun u => (v, u)) = (ls ++ [(v, k)]) ++ (bt X (k + 1) t).map (fun u => (v, u)) := by
          rw [e, List.map_cons, List.append_assoc]
          rfl
        rw [e, List.length_cons] at h3
        rw [e2]
        have e3 : (ls ++ [(v, k)]).length = ls.length + 1 := by rw [List.length_append]; rfl
        obtain ⟨fm', tt', co', g1, g2, g3⟩ := ih (k + 1) n (ls ++ [(v, k)]) _ _ _ (by omega) (by omega) (arr_snoc (a := v) (b := k) h1) (arc_snoc (a := v) (b := k) h2) (by rw [List.length_append, List.length_map, e3]; omega)
        refine ⟨fm', tt', co', ?_, g2, g3⟩
        rw [e3] at g1
        rw [bI_t, if_neg (by decide), wrI_n (by omega) (by omega), Option.bind_some, wrI_n (by omega) (by omega), Option.bind_some, rdI_n (by omega) (by omega), Option.bind_some, hlo v (by omega), isIn_n (lt31 hN (O_lt hO v)) (by omega), Option.bind_some, jn1]
        cases ho : (O v).testBit k
        · rw [ho] at g1
          rw [bI_f, if_pos (by decide)]
          dsimp only
          rw [wrZ_n (by omega) (by omega) (Or.inr rfl), Option.bind_some, nI_1, nI_1]
          exact g1
        · rw [ho] at g1
          rw [bI_t, if_neg (by decide)]
          dsimp only
          rw [wrZ_n (by omega) (by omega) (Or.inl rfl), Option.bind_some, nI_1, nI_1]
          exact g1
    · have hl : (bt X k (t + 1)).length = 0 := by omega
      have e : bt X k (t + 1) = [] := List.eq_nil_of_length_eq_zero hl
      rw [e]
      have e2 : ls ++ ([] : List Nat).map (fun u => (v, u)) = ls := List.append_nil ls
      rw [e2, if_pos (show (36 : Int32) ≤ nI ls.length from nI_le (a := 36) (b := ls.length) h36 (by omega))]
      exact ⟨fm, tt, co, rfl, h1, h2⟩
def lowb (U : Nat) : Nat := U &&& (512 - U)
theorem low_n : ∀ U, U < 512 → nI U &&& -nI U = nI (lowb U) := by decide +kernel
theorem low_bt : ∀ N, N < 10 → ∀ U, U < 512 → bt (lowb U) 0 N = (bt U 0 N).take 1 := by decide +kernel
