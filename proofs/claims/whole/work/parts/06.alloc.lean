section ALLOC
variable {p : Program} {l : Launch} {e : Env} {R : Room} {s : State} {m : MethodId} {args : Array Value} {below : List Frame} {meth : Method} {c : Code} {Q : State → Prop} {cc : ByteArray} {nL cs ss : Nat} {own : String} {Ts : List Cond} {D : va_G} {TY : List (ClassId × FieldType)} {A : Nat → Prop} {ws : va_W} {lv : List (Nat × Value)} {pc : Nat} {st : List Value}
theorem q_newa (C : Cx p s m args c cc nL own Ts D TY A) {atype : ArrayType} {ty : FieldType} {a0 : vp_A} {cA : ClassId} {n : Int32} {N1 : Nat} (t0 : Nat) (ws1 : Nat → va_W) (hdg : decode cc pc = .ok (.newarray atype, 2)) (harr : Cond.arrayClass ty ∈ Ts) (hty : newarray.typeOf atype = ty) (ht : TY[t0]? = some (cA, ty)) (hra : ∀ (U : State) (c1 : ClassId), va_RA U c1 ty → U.vm.findClass ("[" ++ ty.toString) = some c1) (ha : ∀ c1 : ClassId, vp_cell c1 a0 = arrV c1 N1 (fun _ => defaultValue ty)) (hn : ¬ n < 0) (hN : n.toNatClampNeg = N1) (hby : N1 * componentBytes ty ≤ 536870912) (hc : cs + 1 ≤ R.cells) (hs : ss + N1 ≤ R.slots) (hw : ∀ q, ws ++ [(q, .inl (cA, a0))] = ws1 q) (k : ∀ q, WW p l e R s m args below meth c Q D A nL (cs + 1) (ss + N1) (ws1 q) lv (pc + 2) (.ref q :: st)) : WW p l e R s m args below meth c Q D A nL cs ss ws lv pc (.int n :: st) := by
  intro H locs ls hP hD hS hl
  subst hty
  refine va_newa (atype := atype) C.1.1 C.1.2.1 (C.1.2.2.2.2 _ harr) rfl C.2.1 hP hD hS C.2.2.1 ha hn hN hby hc hs hdg (fun q c1 H1 hK1 hP1 hD1 hS1 => ?_)
  have h1 := (hK1.2 TY.length (c1, newarray.typeOf atype) (by rw [List.getElem?_append_right (Nat.le_refl _), Nat.sub_self]; rfl)).2
  have h2 := (C.2.1.2 t0 _ ht).2
  have e1 : c1 = cA := Option.some.inj ((hra _ _ h1).symm.trans (hra _ _ h2))
  subst e1
  exact k q H1 locs ls (hw q ▸ hP1) (hw q ▸ hD1) hS1 hl
theorem q_newq (C : Cx p s m args c cc nL own Ts D TY A) {Cn : String} {idx : Nat} {cA : ClassId} {n : Int32} {N1 : Nat} (t0 : Nat) (ws1 : Nat → va_W) (hdg : decode cc pc = .ok (.anewarray idx, 3)) (hcl : Cond.classLink own idx Cn ∈ Ts) (hover : va_AO Cn s) (ht : TY[t0]? = some (cA, .object Cn)) (hn : ¬ n < 0) (hN : n.toNatClampNeg = N1) (hby : N1 * 4 ≤ 536870912) (hc : cs + 1 ≤ R.cells) (hs : ss + N1 ≤ R.slots) (hw : ∀ q, ws ++ [(q, .inl (cA, N1, .inr (.inr (.inr (.inr (fun _ => none))))))] = ws1 q) (k : ∀ q, WW p l e R s m args below meth c Q D A nL (cs + 1) (ss + N1) (ws1 q) lv (pc + 3) (.ref q :: st)) : WW p l e R s m args below meth c Q D A nL cs ss ws lv pc (.int n :: st) := by
  intro H locs ls hP hD hS hl
  refine va_newq C.1.1 C.1.2.1 C.1.2.2.2.1 (C.1.2.2.2.2 _ hcl) hover C.2.1 hP hD hS C.2.2.1 hn hN hby hc hs hdg (fun q c1 H1 hK1 hP1 hD1 hS1 => ?_)
  have h1 := (hK1.2 TY.length (c1, .object Cn) (by rw [List.getElem?_append_right (Nat.le_refl _), Nat.sub_self]; rfl)).2
  have h2 := (C.2.1.2 t0 _ ht).2
  obtain ⟨_, _, _, _, _, h1⟩ := h1
  obtain ⟨_, _, _, _, _, h2⟩ := h2
  have e1 : c1 = cA := Option.some.inj (h1.symm.trans h2)
  subst e1
  exact k q H1 locs ls (hw q ▸ hP1) (hw q ▸ hD1) hS1 hl
theorem q_new (C : Cx p s m args c cc nL own Ts D TY A) {Cn : String} {T : u_T} {N ci idx : Nat} {fs : List Value} (ws1 : Nat → va_W) (hdg : decode cc pc = .ok (.new idx, 3)) (h1 : Cond.classLink own idx Cn ∈ Ts) (h2 : Cond.instantiable Cn N ∈ Ts) (h3 : Cond.initialized Cn ∈ Ts) (hin : ∀ w ∈ u_ws Cn T N, w ∈ Ts) (ty : Nat → FieldType) (hty : ∀ k, k < N → parseFieldDescriptor (T k).2.2.1 = some (ty k)) (hcl : vwCl[ci]? = some (Cn, T, N)) (hfs : ∀ j, j < N → defaultValue (ty j) = vp_V fs j) (hc : cs + 1 ≤ R.cells) (hs : ss + N ≤ R.slots) (hw : ∀ q, ws ++ [(q, .inr (ci, fs))] = ws1 q) (k : ∀ q, WW p l e R s m args below meth c Q D A nL (cs + 1) (ss + N) (ws1 q) lv (pc + 3) (.ref q :: st)) : WW p l e R s m args below meth c Q D A nL cs ss ws lv pc st := by
  intro H locs ls hP hD hS hl
  exact va_new C.1.1 C.1.2.1 C.1.2.2.2.2 hin ty hty C.1.2.2.2.1 (C.1.2.2.2.2 _ h1) (C.1.2.2.2.2 _ h2) (C.1.2.2.2.2 _ h3) C.2.1 hP hD hS C.2.2.1 hcl hfs hc hs hdg (fun q H1 hP1 hD1 hS1 => k q H1 locs ls (hw q ▸ hP1) (hw q ▸ hD1) hS1 hl)
theorem q_objInit (C : Cx p s m args c cc nL own Ts D TY A) {idx b : Nat} (hdg : decode cc pc = .ok (.invokespecial idx, 3)) (h1 : Cond.methodLink own idx objectInit ∈ Ts) (h2 : Cond.instanceMethod objectInit ∈ Ts) (h3 : Cond.code objectInit ⟨#[0xb1]⟩ 1 none ∈ Ts) (hfr : 1 ≤ R.frames) (hlo : (st.map fun v => v.category).sum + 12 ≤ R.locals) (k : WW p l e R s m args below meth c Q D A nL cs ss ws lv (pc + 3) st) : WW p l e R s m args below meth c Q D A nL cs ss ws lv pc (.ref b :: st) := by
  intro H locs ls hP hD hS hl
  refine W.objInit C.1.1 C.1.2.1 C.1.2.2.2.1 (C.1.2.2.2.2 _ h1) (C.1.2.2.2.2 _ h2) (C.1.2.2.2.2 _ h3) rfl (hl.1.trans C.1.2.2.1.symm) rfl hdg hfr ?_ ?_
  · show 2 * 0 + _ + 12 ≤ _
    omega
  · exact k H locs ls hP hD hS hl
theorem q_aast (C : Cx p s m args c cc nL own Ts D TY A) {b n v ci : Nat} {cA : ClassId} {r : vw_C} {vs : List Value} {f : Nat → Option Nat} {i : Int32} (q0 t0 qk : Nat) (ws1 : va_W) (hdg : decode cc pc = .ok (.aastore, 1)) (ha : ws[q0]? = some (b, .inl (cA, n, .inr (.inr (.inr (.inr f)))))) (ht : TY[t0]? = some (cA, .object r.1)) (hv : ws[qk]? = some (v, .inr (ci, vs))) (hcl : vwCl[ci]? = some r) (hin : vp_in i n) (hw : ws.set q0 (b, .inl (cA, n, .inr (.inr (.inr (.inr (va_up f i.toNatClampNeg (some v))))))) = ws1) (k : WW p l e R s m args below meth c Q D A nL cs ss ws1 lv (pc + 1) st) : WW p l e R s m args below meth c Q D A nL cs ss ws lv pc (.ref v :: .int i :: .ref b :: st) := by
  intro H locs ls hP hD hS hl
  exact va_astq C.1.1 C.1.2.1 C.2.1 hP hD hS q0 t0 qk ci ha ht hv hcl hin hdg (fun H locs hP hD hS => k H locs ls (hw ▸ hP) (hw ▸ hD) hS hl)
theorem q_refs {b n : Nat} {cA : ClassId} {f : Nat → Option Nat} (g : Nat → Option Nat) (q0 : Nat) (ws1 : va_W) (ha : ws[q0]? = some (b, .inl (cA, n, .inr (.inr (.inr (.inr f)))))) (hfg : ∀ j, j < n → f j = g j) (hw : ws.set q0 (b, .inl (cA, n, .inr (.inr (.inr (.inr g))))) = ws1) (k : WW p l e R s m args below meth c Q D A nL cs ss ws1 lv pc st) : WW p l e R s m args below meth c Q D A nL cs ss ws lv pc st := by
  intro H locs ls hP hD hS hl
  have e1 : vp_cell cA (n, .inr (.inr (.inr (.inr g)))) = vp_cell cA (n, .inr (.inr (.inr (.inr f)))) := by
    rw [vp_cell_q, vp_cell_q]
    unfold arrV
    congr 1
    apply Array.ext
    · simp
    · intro i h1 h2
      simp only [Array.getElem_ofFn]
      rw [hfg i (by simpa using h1)]
  have h9 : va_at D vwCl (b, .inl (cA, n, .inr (.inr (.inr (.inr g))))) H := by
    show H[b]? = some (vp_cell _ _)
    rw [e1]
    exact hP q0 _ ha
  exact k H locs ls (hw ▸ hP.set hD ha h9 (fun _ _ => rfl)) (hw ▸ hD.set ha) hS hl
end ALLOC
def MetN (l : Launch) (y : MethodName) (ws : List Cond) (rm : Room) (D : va_G) (TY : List (ClassId × FieldType)) (h0 : Nat) (Wa : va_W) (Wb : (Nat → Nat → Nat) → va_W) (mc ms : Nat) : Prop := ∀ sz, Met l y ws rm (va_Pc [.ref h0] (cPre D TY Wa sz)) (va_Qv (fun u : Nat → Nat → Nat => u 0 0 = h0) (fun u t => va_P D vwCl (Wb u) t.heap ∧ va_D (va_A Wa sz) (Wb u)) (va_A Wa sz)) mc ms (va_A Wa sz)
theorem MetN.mk {l : Launch} {y : MethodName} {ws ws9 : List Cond} {rm : Room} {D : va_G} {TY : List (ClassId × FieldType)} {h0 : Nat} {Wa : va_W} {Wb : (Nat → Nat → Nat) → va_W} {mc ms : Nat} {cc : ByteArray} {maxL : Nat} {own : String} (hy : plainName y.cls = true) (hw : ws = Cond.code y cc maxL none :: ws9) (ho : y.cls = own) (hnm : y.name = "<init>") (hav : 1 ≤ maxL)
    (body : ∀ p e s m args below meth c A Q, Cx p s m args c cc maxL own ws D TY A → meth.name = "<init>" → (∀ u pc lv, u 0 0 = h0 → decode cc pc = .ok (.return_, 1) → WW p l e rm s m args below meth c Q D A maxL mc ms (Wb u) lv pc []) → WW p l e rm s m args below meth c Q D A maxL 0 0 Wa [(0, .ref h0)] 0 []) : MetN l y ws rm D TY h0 Wa Wb mc ms := by
  intro sz
  refine Met.ofW (cc := cc) (maxL := maxL) (ret := none) hy hw ?_
  intro p e s m args below meth c s₁ B hml hv
  obtain ⟨rfl, hsz, hP, hK, hD0, hN⟩ := hv
  have hts := atoms_spec (ws := ws) B.pre
  have hown : s.vm.findClass own = some m.cls := by rw [← ho]; exact findClass_of_methodNamed B.named
  have hlocks := B.notSynchronized
  have hin : meth.name = "<init>" := by rw [← hnm]; exact (name_of_methodNamed B.named B.method).1
  subst hsz
  have hD := hD0.self (sz := s.heap.size)
  have hl := lv_entry [.ref h0] (n := maxL) hav
  rw [lg_entry_eq]
  generalize (lg_sl [.ref h0] ++ List.replicate (maxL - (lg_sl [.ref h0]).length) Slot.unset).toArray = ls at hl ⊢
  exact body p e s m [Value.ref h0].toArray below meth c (va_A Wa s.heap.size) _ ⟨⟨B.exec, B.bytes, hml, hown, hts⟩, hK, fun q h => Or.inr h, hN⟩ hin (fun u pc lv hu hdg H locs ls hP hD hS hl => W.vret B.exec B.bytes B.returns (fun t ht hW => ⟨⟨u, rfl, hu, by rw [ht]; exact hP, hD⟩, hS.F ht⟩) hS.2.2 hdg) s.heap [] ls hP hD va_S.rf hl
theorem q_callI {p : Program} {l : Launch} {e : Env} {R : Room} {s : State} {m : MethodId} {args : Array Value} {below : List Frame} {meth : Method} {c : Code} {Q : State → Prop} {cc : ByteArray} {nL cs ss : Nat} {own : String} {Ts : List Cond} {D : va_G} {TY : List (ClassId × FieldType)} {A : Nat → Prop} {ws : va_W} {lv : List (Nat × Value)} {pc : Nat} {st : List Value} (C : Cx p s m args c cc nL own Ts D TY A) {y : MethodName} {wsC : List Cond} {rm : Room} {b mc ms index maxL : Nat} {bytes : ByteArray} {Wc : va_W} {Wc1 : (Nat → Nat → Nat) → va_W} (ws1 : (Nat → Nat → Nat) → va_W) (hM : MetN l y wsC rm D TY b Wc Wc1 mc ms) (cw : CallB R s args own index y bytes maxL none wsC rm mc ms 0 ∧ y.name = "<init>" ∧ (Cond.instanceMethod y).before args s = true) (fr : ∀ u, FrX ws Wc (Wc1 u) (ws1 u)) (hW : (st.map fun v => v.category).sum ≤ 8) (hdg : decode cc pc = .ok (.invokespecial index, 3)) (hcs : cs + mc ≤ R.cells ∧ ss + ms ≤ R.slots) (k : ∀ u, u 0 0 = b → WW p l e R s m args below meth c Q D A nL (cs + mc) (ss + ms) (ws1 u) lv (pc + 3) st) : WW p l e R s m args below meth c Q D A nL cs ss ws lv pc (.ref b :: st) := by
  intro H locs ls hP hD hS hl
  obtain ⟨g1, g2, g3, -⟩ := fr (fun _ _ => 0) (H1 := H) hP hD (fun q hq => C.2.2.1 q (Nat.le_trans hS.1 hq))
  refine va_callv (va_runI (As := []) (rest := st) C.1 (hM H.size) cw ⟨cPre_blind _ _ _ _ _, cPre_at C g1 g2⟩ rfl rfl hl.1 rfl (lv_room hW) hdg hcs) hS (fun q _ h => g3 q h) g3 (fun u t H1 locs1 ht hvm hw hB hz1 hk1 hS1 => ?_)
  obtain ⟨hP1, hD1⟩ := hB
  rw [ht] at hP1
  obtain ⟨-, -, -, g4⟩ := fr u (H1 := H1) hP hD (fun q hq => C.2.2.1 q (Nat.le_trans hS.1 hq))
  obtain ⟨hP2, hD2⟩ := g4 hk1 hP1 hD1
  exact k u hw H1 locs1 ls hP2 hD2 hS1 hl
theorem q_callIN {p : Program} {l : Launch} {e : Env} {R : Room} {s : State} {m : MethodId} {args : Array Value} {below : List Frame} {meth : Method} {c : Code} {Q : State → Prop} {cc : ByteArray} {nL cs ss : Nat} {own : String} {Ts : List Cond} {D : va_G} {TY : List (ClassId × FieldType)} {A : Nat → Prop} {ws : va_W} {lv : List (Nat × Value)} {pc : Nat} {st : List Value} (C : Cx p s m args c cc nL own Ts D TY A) {host : String} {y : MethodName} {wsC : List Cond} {rm : Room} {b mc ms index maxL : Nat} {bytes : ByteArray} {Wc : va_W} {Wc1 : (Nat → Nat → Nat) → va_W} (ws1 : (Nat → Nat → Nat) → va_W) (hM : MetN l y wsC rm D TY b Wc Wc1 mc ms) (cw : va_CN R s args own index y host bytes maxL none wsC rm mc ms 0 ∧ y.name = "<init>" ∧ (Cond.instanceMethod y).before args s = true) (fr : ∀ u, FrX ws Wc (Wc1 u) (ws1 u)) (hW : (st.map fun v => v.category).sum ≤ 8) (hdg : decode cc pc = .ok (.invokespecial index, 3)) (hcs : cs + mc ≤ R.cells ∧ ss + ms ≤ R.slots) (k : ∀ u, u 0 0 = b → WW p l e R s m args below meth c Q D A nL (cs + mc) (ss + ms) (ws1 u) lv (pc + 3) st) : WW p l e R s m args below meth c Q D A nL cs ss ws lv pc (.ref b :: st) := by
  intro H locs ls hP hD hS hl
  obtain ⟨g1, g2, g3, -⟩ := fr (fun _ _ => 0) (H1 := H) hP hD (fun q hq => C.2.2.1 q (Nat.le_trans hS.1 hq))
  refine va_callv (va_runIN (As := []) (rest := st) C.1 (hM H.size) cw ⟨cPre_blind _ _ _ _ _, cPre_at C g1 g2⟩ rfl rfl hl.1 rfl (lv_room hW) hdg hcs) hS (fun q _ h => g3 q h) g3 (fun u t H1 locs1 ht hvm hw hB hz1 hk1 hS1 => ?_)
  obtain ⟨hP1, hD1⟩ := hB
  rw [ht] at hP1
  obtain ⟨-, -, -, g4⟩ := fr u (H1 := H1) hP hD (fun q hq => C.2.2.1 q (Nat.le_trans hS.1 hq))
  obtain ⟨hP2, hD2⟩ := g4 hk1 hP1 hD1
  exact k u hw H1 locs1 ls hP2 hD2 hS1 hl
