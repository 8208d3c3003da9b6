/-! frames by whole blocks of cells -/
theorem vaP_perm {D : va_G} {cl : List vw_C} {ws ws1 : va_W} {H : Heap} (h : ws1.Perm ws) (hP : va_P D cl ws H) : va_P D cl ws1 H := fun k q hk => by
  obtain ⟨i, hi⟩ := List.getElem?_of_mem (h.mem_iff.mp (List.mem_of_getElem? hk))
  exact hP i q hi
theorem vaP_mem {D : va_G} {cl : List vw_C} {ws ws1 : va_W} {H : Heap} (h : ∀ q ∈ ws1, q ∈ ws) (hP : va_P D cl ws H) : va_P D cl ws1 H := fun k q hk => by
  obtain ⟨i, hi⟩ := List.getElem?_of_mem (h q (List.mem_of_getElem? hk))
  exact hP i q hi
theorem vaD_iff {A : Nat → Prop} {ws : va_W} : va_D A ws ↔ ws.Pairwise (fun x y => x.1 ≠ y.1) ∧ ∀ q ∈ ws, A q.1 := by
  constructor
  · intro h
    refine ⟨List.pairwise_iff_getElem.mpr (fun i j hi hj hij e => ?_), fun q hq => ?_⟩
    · have h1 := h.1 i j ws[i] ws[j] (List.getElem?_eq_getElem hi) (List.getElem?_eq_getElem hj) e
      omega
    · obtain ⟨k, hk⟩ := List.getElem?_of_mem hq
      exact h.2 k q hk
  · intro h
    refine ⟨fun i j p q hi hj e => ?_, fun k q hk => h.2 q (List.mem_of_getElem? hk)⟩
    obtain ⟨li, ei⟩ := List.getElem?_eq_some_iff.mp hi
    obtain ⟨lj, ej⟩ := List.getElem?_eq_some_iff.mp hj
    rcases Nat.lt_trichotomy i j with h1 | h1 | h1
    · exact absurd (by rw [ei, ej]; exact e) (List.pairwise_iff_getElem.mp h.1 i j li lj h1)
    · exact h1
    · exact absurd (by rw [ei, ej]; exact e.symm) (List.pairwise_iff_getElem.mp h.1 j i lj li h1)
theorem vaD_perm {A : Nat → Prop} {ws ws1 : va_W} (h : ws1.Perm ws) (hD : va_D A ws) : va_D A ws1 := by
  rw [vaD_iff] at hD ⊢
  exact ⟨(List.Perm.pairwise_iff (R := fun (x y : Nat × va_E) => x.1 ≠ y.1) (fun h => Ne.symm h) h).mpr hD.1, fun q hq => hD.2 q (h.mem_iff.mp hq)⟩
theorem FrX.perm {ws Wc Wc1 ws1 R : va_W} (h0 : (Wc ++ R).Perm ws) (h1 : ws1.Perm (Wc1 ++ R)) : FrX ws Wc Wc1 ws1 := fun {D A0 H H1} hP hD hA => by
  have hP2 := vaP_perm h0 hP
  have hD2 := vaD_iff.mp (vaD_perm h0 hD)
  obtain ⟨p1, p2, p3⟩ := List.pairwise_append.mp hD2.1
  have hPc : va_P D vwCl Wc H := vaP_mem (fun q hq => List.mem_append_left _ hq) hP2
  have hPr : va_P D vwCl R H := vaP_mem (fun q hq => List.mem_append_right _ hq) hP2
  have hF : ∀ q, va_A Wc H.size q → A0 q := fun q h => by
    rcases h with ⟨k, e, h⟩ | h
    · exact hD2.2 (q, e) (List.mem_append_left _ (List.mem_of_getElem? h))
    · exact hA q h
  have hR : ∀ q ∈ R, ¬ va_A Wc H.size q.1 := fun q hq h => by
    rcases h with ⟨k, e, h⟩ | h
    · exact p3 (q.1, e) (List.mem_of_getElem? h) q hq rfl
    · obtain ⟨i, hi⟩ := List.getElem?_of_mem hq
      have := (hPr i q hi).lt
      omega
  refine ⟨hPc, vaD_iff.mpr ⟨p1, fun q hq => hD2.2 q (List.mem_append_left _ hq)⟩, hF, fun hk hP1 hD1 => ?_⟩
  have hPr1 : va_P D vwCl R H1 := hPr.kept (fun k q h => hk q.1 (hPr k q h).lt (hR q (List.mem_of_getElem? h)))
  have hD3 := vaD_iff.mp hD1
  refine ⟨vaP_perm h1 (va_P.app hP1 hPr1), vaD_perm h1 (vaD_iff.mpr ⟨List.pairwise_append.mpr ⟨hD3.1, p2, fun a ha b hb e => ?_⟩, fun q hq => ?_⟩)⟩
  · exact hR b hb (by rw [← e]; exact hD3.2 a ha)
  · rcases List.mem_append.mp hq with h | h
    · exact hF _ (hD3.2 q h)
    · exact hD2.2 q (List.mem_append_right _ h)
theorem perm_blocks {α : Type} (Bs : List (List α)) (is : List Nat) (h : is.Perm (List.range Bs.length)) : (is.map (fun i => Bs.getD i [])).flatten.Perm Bs.flatten := by
  have e : (List.range Bs.length).map (fun i => Bs.getD i []) = Bs := by
    apply List.ext_getElem
    · simp
    · intro i h1 h2
      simp [List.getD_eq_getElem?_getD]
      rw [List.getElem?_eq_getElem h2]
      rfl
  have h1 := (h.map (fun i => Bs.getD i [])).flatten
  rw [e] at h1
  exact h1
theorem FrX.blk (Bs Bs1 : List va_W) (isC isR : List Nat) (n : Nat) (hn : Bs.length = n) (hn1 : Bs1.length = n) (hp : (isC ++ isR).Perm (List.range n)) (hR : isR.map (fun i => Bs.getD i []) = isR.map (fun i => Bs1.getD i [])) {Wc Wc1 : va_W} (hC : (isC.map (fun i => Bs.getD i [])).flatten = Wc) (hC1 : (isC.map (fun i => Bs1.getD i [])).flatten = Wc1) : FrX Bs.flatten Wc Wc1 Bs1.flatten := by
  subst hC
  subst hC1
  refine FrX.perm (R := (isR.map (fun i => Bs.getD i [])).flatten) ?_ ?_
  · have h1 := perm_blocks Bs (isC ++ isR) (by rw [hn]; exact hp)
    rw [List.map_append, List.flatten_append] at h1
    exact h1
  · have h1 := perm_blocks Bs1 (isC ++ isR) (by rw [hn1]; exact hp)
    rw [List.map_append, List.flatten_append, ← hR] at h1
    exact h1.symm
theorem perm_fam {α : Type} (f : Nat → List α) {j n : Nat} (hj : j < n) : ((List.range n).flatMap f).Perm (f j ++ ((List.range n).erase j).flatMap f) := by
  have h := List.perm_cons_erase (a := j) (l := List.range n) (List.mem_range.mpr hj)
  have h1 := h.flatMap_right f
  rw [List.flatMap_cons] at h1
  exact h1
theorem fam_rest {α : Type} {f g : Nat → List α} {j n : Nat} (h : ∀ i, i ≠ j → g i = f i) : ((List.range n).erase j).flatMap g = ((List.range n).erase j).flatMap f := by
  rw [List.flatMap_def, List.flatMap_def]
  congr 1
  apply List.map_congr_left
  intro i hi
  exact h i ((List.Nodup.mem_erase_iff List.nodup_range).mp hi).1
theorem fr_S1 {P N N1 Wd Wd1 : va_W} {x : Nat × va_E} {f f1 : Nat → va_W} {j : Nat} (hj : j < 16) (h1 : f j = Wd) (h2 : f1 j = Wd1) (h3 : ∀ i, i ≠ j → f1 i = f i) : FrX (List.flatten [P, x :: (List.range 16).flatMap f, N]) (List.flatten [Wd, N]) (List.flatten [Wd1, N1]) (List.flatten [P, x :: (List.range 16).flatMap f1, N1]) := by
  subst h1
  subst h2
  have key : ∀ (g : Nat → va_W) (M : va_W), (List.flatten [P, x :: (List.range 16).flatMap g, M]).Perm (List.flatten [g j, M] ++ (P ++ x :: ((List.range 16).erase j).flatMap g)) := by
    intro g M
    have e1 := perm_blocks [g j, M, P, [x], ((List.range 16).erase j).flatMap g] [2, 3, 0, 4, 1] (by show List.Perm [2, 3, 0, 4, 1] (List.range 5); decide)
    have e2 := ((perm_fam g hj).append_right M).cons x
    have e3 := e2.append_left P
    simp only [List.map_cons, List.map_nil, List.getD_cons_zero, List.getD_cons_succ, List.flatten_cons, List.flatten_nil, List.append_nil, List.cons_append, List.nil_append, List.append_assoc] at e1 e2 e3 ⊢
    exact e3.trans e1
  have h4 := key f1 N1
  rw [fam_rest h3] at h4
  have h5 := (key f N).symm
  exact @FrX.perm _ _ _ _ _ h5 h4
theorem fr_S2 {P N N1 Wd : va_W} {x : Nat × va_E} {f : Nat → va_W} {j : Nat} (hj : j < 16) (h1 : f j = Wd) : FrX (List.flatten [P, x :: (List.range 16).flatMap f, N]) (List.flatten [N, Wd]) (List.flatten [N1, Wd]) (List.flatten [P, x :: (List.range 16).flatMap f, N1]) := by
  subst h1
  have key : ∀ (M : va_W), (List.flatten [P, x :: (List.range 16).flatMap f, M]).Perm (List.flatten [M, f j] ++ (P ++ x :: ((List.range 16).erase j).flatMap f)) := by
    intro M
    have e1 := perm_blocks [M, f j, P, [x], ((List.range 16).erase j).flatMap f] [2, 3, 1, 4, 0] (by show List.Perm [2, 3, 1, 4, 0] (List.range 5); decide)
    have e2 := ((perm_fam f hj).append_right M).cons x
    have e3 := e2.append_left P
    simp only [List.map_cons, List.map_nil, List.getD_cons_zero, List.getD_cons_succ, List.flatten_cons, List.flatten_nil, List.append_nil, List.cons_append, List.nil_append, List.append_assoc] at e1 e2 e3 ⊢
    exact e3.trans e1
  have h5 := (key N).symm
  exact @FrX.perm _ _ _ _ _ h5 (key N1)
