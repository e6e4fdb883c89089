/-! ===== methods that throw ===== -/
def sw_Qx (D : va_G) (cI cL : ClassId) (A : Nat → Prop) (P : (Nat → Nat) → Prop) (o : Option Value ⊕ String) (L : sw_L) (μ : sw_M) (ν : sw_N) : Array Value → State → Outcome → State → Prop := match o with
  | .inl v => sw_Q D cI cL A P v L μ ν
  | .inr _ => sw_QN
def sw_Xx (D : va_G) (cI cL : ClassId) (A : Nat → Prop) (P : (Nat → Nat) → Prop) (o : Option Value ⊕ String) (L : sw_L) (μ : sw_M) (ν : sw_N) : String → State → State → Prop := match o with
  | .inl _ => sw_No
  | .inr E => sw_X D cI cL A P E L μ ν
/-- a method that returns or throws: o -/
def MetX (l : Launch) (D : va_G) (cI cL : ClassId) (y : MethodName) (cc : ByteArray) (nL : Nat) (ret : Option FieldType) (d mc ms : Nat) (P : (Nat → Nat) → Prop) (ad : Nat → Nat) (av : List Value) (L : sw_L) (μ : sw_M) (ν : sw_N) (o : Option Value ⊕ String) (L' : sw_L) (μ' : sw_M) (ν' : sw_N) : Prop :=
  ∀ sz : Nat, vx_Met l y (.code y cc nL ret :: gtb) (rmO d mc ms) (sw_pre l D cI cL ad av L μ ν sz) (sw_Qx D cI cL (va_A (sw_w cI cL ad μ ν 0 L) sz) P o L' μ' ν') (sw_Xx D cI cL (va_A (sw_w cI cL ad μ ν 0 L) sz) P o L' μ' ν') mc ms (va_A (sw_w cI cL ad μ ν 0 L) sz)
set_option maxHeartbeats 4000000 in
theorem MetX.of {l : Launch} {D : va_G} {cI cL : ClassId} {y : MethodName} {cc : ByteArray} {nL : Nat} {ret : Option FieldType} {d mc ms n : Nat} {P : (Nat → Nat) → Prop} {ad : Nat → Nat} {av : List Value} {L : sw_L} {μ : sw_M} {ν : sw_N} {o : Option Value ⊕ String} {L' : sw_L} {μ' : sw_M} {ν' : sw_N}
    (hy : plainName y.cls = true) (hlen : (sw_ent av).length ≤ nL)
    (body : ∀ G : sw_G, sw_ok G cc y.cls ret d mc ms ad → sw_out G mc ms P o L' μ' ν' → G.2.2.1.2.1.maxLocals = nL → (∀ x ∈ G.2.2.1.2.1.exceptionTable.toList, False) → SW G ad L ν 0 0 0 (sw_ent av ++ List.replicate n none) [] μ) :
    MetX l D cI cL y cc nL ret d mc ms P ad av L μ ν o L' μ' ν' := by
  intro sz
  refine vx_ofW (cc := cc) (maxL := nL) (ret := ret) hy rfl ?_
  intro p e s m args below meth c s₁ B hml htab hv
  obtain ⟨rfl, hsz, hSI, hP, hK, hD0, hst⟩ := hv
  subst hsz
  have hts : ∀ w ∈ (Cond.code y cc nL ret :: gtb), w.before _ s = true := atoms_spec (ws := .code y cc nL ret :: gtb) B.pre
  have hown : s.vm.findClass y.cls = some m.cls := findClass_of_methodNamed B.named
  rw [lg_entry_eq]
  have hl := sw_ent_lv (ad := ad) (av := av) (n := n) (by rw [sw_ent_len]; exact hlen)
  have key := body ((p, l, e, rmO d mc ms), (s, m, (av.map (sw_v ad)).toArray, below), (meth, c, vx_MQ below (sw_Qx D cI cL (va_A (sw_w cI cL ad μ ν 0 L) s.heap.size) P o L' μ' ν') (sw_Xx D cI cL (va_A (sw_w cI cL ad μ ν 0 L) s.heap.size) P o L' μ' ν') (av.map (sw_v ad)).toArray s mc ms (va_A (sw_w cI cL ad μ ν 0 L) s.heap.size), va_A (sw_w cI cL ad μ ν 0 L) s.heap.size), (D, cI, cL))
    ⟨B.exec, B.bytes, B.returns, B.notSynchronized, hown, fun w hw => hts w (List.mem_cons_of_mem _ hw), hK, fun q h => Or.inr h, ⟨Nat.le_refl _, Nat.le_refl _, Nat.le_refl _, Nat.le_refl _⟩, hSI, hst⟩ (by rcases o with v | E; exact Or.inr rfl; exact rfl) hml htab
  exact key s.heap [] _ (by rw [show (meth, c, vx_MQ below (sw_Qx D cI cL (va_A (sw_w cI cL ad μ ν 0 L) s.heap.size) P o L' μ' ν') (sw_Xx D cI cL (va_A (sw_w cI cL ad μ ν 0 L) s.heap.size) P o L' μ' ν') (av.map (sw_v ad)).toArray s mc ms (va_A (sw_w cI cL ad μ ν 0 L) s.heap.size), va_A (sw_w cI cL ad μ ν 0 L) s.heap.size).2.1.maxLocals = nL from hml]; exact hl) hP hD0.self va_S.rf
/-- the words of a throw of E by the class own, over the constructor's link ic -/
def sw_tw (own E : String) (ik ic : Nat) : Prop := Cond.classLink own ik E ∈ gtb ∧ Cond.initialized E ∈ gtb ∧ Bundle.fit E = true ∧ (∀ w ∈ vx_at0 own ic E ["java/lang/RuntimeException", "java/lang/Exception"], w ∈ gtb ∨ (w ∈ tables_1 ∧ sw_ns w = true ∧ w.onTables = true)) ∧ ∀ w ∈ Cond.classLink own ik E :: Cond.initialized E :: vx_at0 own ic E ["java/lang/RuntimeException", "java/lang/Exception"], vx_ot w = true
theorem sw_tw_of {own E : String} {ic : Nat} (h : (vx_at0 own ic E ["java/lang/RuntimeException", "java/lang/Exception"]).all (fun w => (decide (w ∈ lw_tbl) && goodWord w) || (decide (w ∈ tables_1) && sw_ns w && w.onTables)) = true) : ∀ w ∈ vx_at0 own ic E ["java/lang/RuntimeException", "java/lang/Exception"], w ∈ gtb ∨ (w ∈ tables_1 ∧ sw_ns w = true ∧ w.onTables = true) := by
  intro w hw
  have h1 := List.all_eq_true.mp h w hw
  simp only [Bool.or_eq_true, Bool.and_eq_true, decide_eq_true_eq] at h1
  rcases h1 with ⟨h1, h2⟩ | ⟨⟨h1, h2⟩, h3⟩
  · exact Or.inl (List.mem_filter.mpr ⟨h1, h2⟩)
  · exact Or.inr ⟨h1, h2, h3⟩
section SWT
variable {G : sw_G} {ad : Nat → Nat} {L : sw_L} {ν : sw_N} {cs sl pc : Nat} {lv : List (Option Value)} {st st0 : List Value} {μ : sw_M} {cc : ByteArray} {own : String} {ret : Option FieldType} {d mc ms : Nat} {P : (Nat → Nat) → Prop}
theorem sw_endX {E : String} {H : Heap} {locs : List Loc} {t : State} (hp : P ad) (hP : va_P G.2.2.2.1 vwCl (sw_w G.2.2.2.2.1 G.2.2.2.2.2 ad μ ν 0 L) H) (hD : va_D G.2.2.1.2.2.2 (sw_w G.2.2.2.2.1 G.2.2.2.2.2 ad μ ν 0 L)) (hS : va_S G.2.2.1.2.2.2 G.2.1.1.heap H locs)
    (h1 : H.size ≤ t.heap.size) (h2 : ∀ q : Nat, q < H.size → t.heap[q]? = H[q]?) : sw_X G.2.2.2.1 G.2.2.2.2.1 G.2.2.2.2.2 G.2.2.1.2.2.2 P E L μ ν E G.2.1.1 t :=
  ⟨rfl, ⟨ad, hp, hP.kept (fun k q hk => h2 _ (vx_lt hP hk)), hD⟩, Nat.le_trans hS.1 h1, fun q hq hA => by rw [h2 q (Nat.lt_of_lt_of_le hq hS.1)]; exact hS.2.1 q hq hA⟩
theorem SW.throw0 {E : String} {ik ic : Nat} (g : sw_ok G cc own ret d mc ms ad) (ho : sw_out G mc ms P (.inr E) L μ ν) (hp : P ad) (htab : ∀ x ∈ G.2.2.1.2.1.exceptionTable.toList, False) (hw : sw_tw own E ik ic)
    (d0 : decode cc pc = .ok (.new ik, 3)) (d3 : decode cc (pc + 3) = .ok (.dup, 1)) (d4 : decode cc (pc + 4) = .ok (.invokespecial ic, 3)) (d7 : decode cc (pc + 7) = .ok (.athrow, 1))
    (hdd : 5 < d) (hst : (st.map fun v => v.category).sum ≤ 8) (hc : cs + 1 ≤ mc) (hs : sl + 6 ≤ ms) : SW G ad L ν cs sl pc lv st μ := by
  intro H locs ls hlv hP hD hS
  have hts := g.2.2.2.2.2.1
  rw [show G.2.2.1.2.2.1 = vx_MQ G.2.1.2.2.2 sw_QN (sw_X G.2.2.2.1 G.2.2.2.2.1 G.2.2.2.2.2 G.2.2.1.2.2.2 P E L μ ν) G.2.1.2.2.1 G.2.1.1 mc ms G.2.2.1.2.2.2 from ho]
  refine vx_throw0 (names := ["java/lang/RuntimeException", "java/lang/Exception"]) g.1 g.2.1 g.2.2.2.2.2.2.2.2.2.2 g.2.2.2.2.1 hw.2.2.1 (by decide +kernel) (hts _ hw.1) (hts _ hw.2.1) ?_ hw.2.2.2.2 g.2.2.2.2.2.2.2.2.2.1.1 g.2.2.2.2.2.2.2.2.2.1.2.1 hS hlv.1 d0 d3 d4 d7 (fun x hx => (htab x hx).elim) ?_ ?_ ?_ ?_ g.2.2.2.1 (fun t _ h1 h2 => sw_endX hp hP hD hS h1 h2) hS.2.2 hc hs
  · intro w hwm
    rcases hw.2.2.2.1 w hwm with h | ⟨h1, h2, h3⟩
    · exact hts w h
    · exact va_Nw.use h3 (g.2.2.2.2.2.2.2.2.2.1.2.2.2.2.2.1 w h1 h2)
  · have hR := g.2.2.2.2.2.2.2.2.1
    simp only [List.length_cons, List.length_nil]; omega
  · have hR := g.2.2.2.2.2.2.2.2.1
    rw [sw_catsum]; simp only [List.length_cons, List.length_nil]; omega
  · have hR := g.2.2.2.2.2.2.2.2.1
    omega
  · have hR := g.2.2.2.2.2.2.2.2.1
    omega
variable {y : MethodName} {bytes : ByteArray} {maxL np d' mc' ms' idx o : Nat} {ret' : Option FieldType} {av : List Value} {μ' : sw_M} {ν' : sw_N}
theorem sw_runX {oo : Option Value ⊕ String} {P' : (Nat → Nat) → Prop} {H : Heap} {locs : List Loc} {ls : Array Slot} {ci N : Nat} {T : u_T} {sls : List (Option (Option Nat))} (g : sw_ok G cc own ret d mc ms ad) (hd : decode cc pc = .ok (.invokevirtual idx, 3))
    (hM : MetX G.1.2.1 G.2.2.2.1 G.2.2.2.2.1 G.2.2.2.2.2 y bytes maxL ret' d' mc' ms' P' ad (.ref o :: av) L μ ν oo L μ' ν') (hy : sw_me y bytes maxL ret' np) (hv : sw_mV y) (hl : Cond.methodLink own idx y ∈ gtb)
    (hL : L[o]? = some (.inr (ci, sls))) (hcl : vwCl[ci]? = some (y.cls, T, N)) (hn : av.length = np) (hw : (st.map fun v => v.category).sum ≤ 8) (hdd : d' < d) (hc : cs + mc' ≤ mc) (hs : sl + ms' ≤ ms)
    (hlv : sw_lv G.2.2.1.2.1.maxLocals ad lv ls) (hP : va_P G.2.2.2.1 vwCl (sw_w G.2.2.2.2.1 G.2.2.2.2.2 ad μ ν 0 L) H) (hD : va_D G.2.2.1.2.2.2 (sw_w G.2.2.2.2.1 G.2.2.2.2.2 ad μ ν 0 L)) (hS : va_S G.2.2.1.2.2.2 G.2.1.1.heap H locs) :
    vx_Run G.1.1 G.1.2.1 G.1.2.2.1 G.1.2.2.2 G.2.1.1 G.2.1.2.1 G.2.1.2.2.1 G.2.1.2.2.2 G.2.2.1.1 G.2.2.1.2.1 H locs cs sl mc' ms' (F0 G.2.1.2.1 pc ls ((av.map (sw_v ad)).reverse ++ .ref (ad o) :: st.map (sw_v ad))) (st.map (sw_v ad)) (sw_Qx G.2.2.2.1 G.2.2.2.2.1 G.2.2.2.2.2 (va_A (sw_w G.2.2.2.2.1 G.2.2.2.2.2 ad μ ν 0 L) H.size) P' oo L μ' ν' (Value.ref (ad o) :: av.map (sw_v ad)).toArray) (sw_Xx G.2.2.2.1 G.2.2.2.2.1 G.2.2.2.2.2 (va_A (sw_w G.2.2.2.2.1 G.2.2.2.2.2 ad μ ν 0 L) H.size) P' oo L μ' ν') (va_A (sw_w G.2.2.2.2.1 G.2.2.2.2.2 ad μ ν 0 L) H.size) := by
  have hts := g.2.2.2.2.2.1
  exact vx_runV (C := y.cls) (b := ad o) (As := av.map (sw_v ad)) (rest := st.map (sw_v ad)) (n := np) ⟨g.1, g.2.1, rfl, g.2.2.2.2.1, hts⟩ (hM H.size)
    ⟨⟨rfl, rfl, (sw_room (mc' := mc') (ms' := ms') g hdd hy.2.2.2.2).1, (sw_room (mc' := mc') (ms' := ms') g hdd hy.2.2.2.2).2, sw_pay g hy, List.mem_cons_self, hts _ hy.1, hts _ hy.2.1, hy.2.2.1, sw_np hy.2.2.2.1, hts _ hl⟩, hts _ hv.1, hts _ hv.2⟩
    ⟨sw_pre_blind, va_recv g.2.2.2.2.2.2.1 hP hcl (sw_w_at hL), sw_PreS (av := .ref o :: av) g hP hD hS⟩ rfl (by rw [List.length_map]; exact hn) hlv.1 rfl (lv_room (by rw [sw_catsum]; exact hw)) hd (sw_cells g hc hs)
theorem sw_keepX {A1 A0 free : Nat → Prop} {H0 H : Heap} {locs L1 : List Loc} {st₀ t T' : State} (h0 : st₀.heap = H) (e1 : T'.heap = t.heap) (hS : va_S A0 H0 H locs) (hA : ∀ q, A1 q → A0 q) (hf : ∀ q, free q → A0 q) (hL : ∀ q ∈ L1, free q.base) (hF : va_F A1 st₀ t) : va_S A0 H0 T'.heap (locs ++ L1) :=
  (vx_keep h0 e1 hS (fun q _ h => hA q h) hf hL hF).2.2
/-- a call that returns -/
theorem SW.callXr {r : Option Value} {ci N : Nat} {T : u_T} {sls : List (Option (Option Nat))} (g : sw_ok G cc own ret d mc ms ad) (hd : decode cc pc = .ok (.invokevirtual idx, 3))
    (hM : MetX G.1.2.1 G.2.2.2.1 G.2.2.2.2.1 G.2.2.2.2.2 y bytes maxL ret' d' mc' ms' (fun a => a = ad) ad (.ref o :: av) L μ ν (.inl r) L μ' ν') (hy : sw_me y bytes maxL ret' np) (hv : sw_mV y) (hl : Cond.methodLink own idx y ∈ gtb)
    (hL : L[o]? = some (.inr (ci, sls))) (hcl : vwCl[ci]? = some (y.cls, T, N)) (hn : av.length = np) (hw : (st.map fun v => v.category).sum ≤ 8) (hdd : d' < d) (hc : cs + mc' ≤ mc) (hs : sl + ms' ≤ ms)
    (hst : st0 = av.reverse ++ .ref o :: st) (hr : r.toList.map (sw_v ad) = r.toList) (k : SW G ad L ν' (cs + mc') (sl + ms') (pc + 3) lv (r.toList ++ st) μ') : SW G ad L ν cs sl pc lv st0 μ := by
  subst hst
  intro H locs ls hlv hP hD hS
  have hrun := sw_runX (st := st) g hd hM hy hv hl hL hcl hn hw hdd hc hs hlv hP hD hS
  rw [List.map_append, List.map_reverse]
  intro T0 hT X
  rcases hrun T0 hT X with ⟨v, st₀, t, T', L1, h0, X', hL1, e1, e2, ⟨hv1, ⟨ad', hp, hP1, hD1⟩, hF⟩, stp⟩ | ⟨q, st₀, t, T', L1, E, ce, h0, X', hL1, e1, e2, hx, -⟩
  · cases hv1
    subst hp
    have hk := k T'.heap (locs ++ L1) ls hlv (by rw [e1]; exact hP1) (hD1.weaken (fun _ _ _ h => sw_sub g hD hS _ h)) (sw_keepX h0 e1 hS (sw_sub g hD hS) (sw_sub g hD hS) hL1 hF) T' rfl X'
    rw [List.map_append, hr] at hk
    obtain ⟨t2, a1, b1⟩ := hk
    exact ⟨t2, stp t2 a1, b1⟩
  · exact hx.elim
/-- a call that throws on -/
theorem SW.callXt {E : String} {ci N : Nat} {T : u_T} {sls : List (Option (Option Nat))} (g : sw_ok G cc own ret d mc ms ad) (hd : decode cc pc = .ok (.invokevirtual idx, 3)) (ho : sw_out G mc ms P (.inr E) L μ' ν') (hp : P ad) (htab : ∀ x ∈ G.2.2.1.2.1.exceptionTable.toList, False)
    (hM : MetX G.1.2.1 G.2.2.2.1 G.2.2.2.2.1 G.2.2.2.2.2 y bytes maxL ret' d' mc' ms' (fun a => a = ad) ad (.ref o :: av) L μ ν (.inr E) L μ' ν') (hy : sw_me y bytes maxL ret' np) (hv : sw_mV y) (hl : Cond.methodLink own idx y ∈ gtb)
    (hL : L[o]? = some (.inr (ci, sls))) (hcl : vwCl[ci]? = some (y.cls, T, N)) (hn : av.length = np) (hw : (st.map fun v => v.category).sum ≤ 8) (hdd : d' < d) (hc : cs + mc' ≤ mc) (hs : sl + ms' ≤ ms)
    (hst : st0 = av.reverse ++ .ref o :: st) : SW G ad L ν cs sl pc lv st0 μ := by
  subst hst
  intro H locs ls hlv hP hD hS
  have hrun := sw_runX (st := st) g hd hM hy hv hl hL hcl hn hw hdd hc hs hlv hP hD hS
  rw [List.map_append, List.map_reverse]
  rw [show G.2.2.1.2.2.1 = vx_MQ G.2.1.2.2.2 sw_QN (sw_X G.2.2.2.1 G.2.2.2.2.1 G.2.2.2.2.2 G.2.2.1.2.2.2 P E L μ' ν') G.2.1.2.2.1 G.2.1.1 mc ms G.2.2.1.2.2.2 from ho]
  intro T0 hT X
  rcases hrun T0 hT X with ⟨v, st₀, t, T', L1, h0, X', hL1, e1, e2, hx, -⟩ | ⟨q, st₀, t, T', L1, E', ce, h0, X', hL1, e1, e2, ⟨rfl, ⟨ad', hp', hP1, hD1⟩, hF⟩, hce, hcv, hcl9, stp⟩
  · exact hx.elim
  · subst hp'
    have hS1 := sw_keepX h0 e1 hS (sw_sub g hD hS) (sw_sub g hD hS) hL1 hF
    have hD2 := hD1.weaken (fun _ _ _ h => sw_sub g hD hS _ h)
    have hP2 : va_P G.2.2.2.1 vwCl (sw_w G.2.2.2.2.1 G.2.2.2.2.2 ad' μ' ν' 0 L) T'.heap := by rw [e1]; exact hP1
    obtain ⟨t2, a1, b1⟩ := vx_out (Qc := sw_QN) (XC := sw_X G.2.2.2.1 G.2.2.2.2.1 G.2.2.2.2.2 G.2.2.1.2.2.2 P E' L μ' ν') (pc := pc) (E := E') (ls := ls) (rest := st.map (sw_v ad')) (fun x hx => (htab x hx).elim) g.2.2.2.1 (by rw [e1]; exact hce) hcv hcl9 (fun t ht hal => sw_endX hp hP2 hD2 hS1 (by rw [ht]; exact Nat.le_refl _) (fun q _ => by rw [ht])) hS1.2.2 hc hs T' rfl X'
    exact ⟨t2, stp.trans a1, b1⟩
end SWT
/-- a call that may throw, bound -/
def tb {α β : Type} (c : Option (α ⊕ (String × sw_M))) (f : α → Option (β ⊕ (String × sw_M))) : Option (β ⊕ (String × sw_M)) := match c with
  | none => none
  | some (.inl a) => f a
  | some (.inr e) => some (.inr e)
theorem tbI {α β : Type} {c : Option (α ⊕ (String × sw_M))} {f : α → Option (β ⊕ (String × sw_M))} {o : β ⊕ (String × sw_M)} (h : tb c f = some o) : (∃ a, c = some (.inl a) ∧ f a = some o) ∨ ∃ e, c = some (.inr e) ∧ o = .inr e := by
  rcases c with _ | a | e
  · cases h
  · exact Or.inl ⟨a, rfl, h⟩
  · cases h; exact Or.inr ⟨e, rfl, rfl⟩
/-- a throwing method's end, in the words of sw_out: an int, a long, nothing -/
def xo_i (r : (Int32 × sw_M) ⊕ (String × sw_M)) : (Option Value ⊕ String) × sw_M := match r with
  | .inl a => (.inl (some (.int a.1)), a.2)
  | .inr e => (.inr e.1, e.2)
def xo_l (r : (Int64 × sw_M) ⊕ (String × sw_M)) : (Option Value ⊕ String) × sw_M := match r with
  | .inl a => (.inl (some (.long a.1)), a.2)
  | .inr e => (.inr e.1, e.2)
def xo_v (r : sw_M ⊕ (String × sw_M)) : (Option Value ⊕ String) × sw_M := match r with
  | .inl a => (.inl none, a)
  | .inr e => (.inr e.1, e.2)
theorem leafXi {G : sw_G} {L : sw_L} {ν : sw_N} {μ : sw_M} {mc ms : Nat} {P : (Nat → Nat) → Prop} {e : Int32} {r : (Int32 × sw_M) ⊕ (String × sw_M)} (h : some (.inl (e, μ)) = some r) (ho : sw_out G mc ms P (xo_i r).1 L (xo_i r).2 ν) : sw_out G mc ms P (.inl (some (.int e))) L μ ν := by cases h; exact ho
theorem leafXl {G : sw_G} {L : sw_L} {ν : sw_N} {μ : sw_M} {mc ms : Nat} {P : (Nat → Nat) → Prop} {e : Int64} {r : (Int64 × sw_M) ⊕ (String × sw_M)} (h : some (.inl (e, μ)) = some r) (ho : sw_out G mc ms P (xo_l r).1 L (xo_l r).2 ν) : sw_out G mc ms P (.inl (some (.long e))) L μ ν := by cases h; exact ho
theorem leafXv {G : sw_G} {L : sw_L} {ν : sw_N} {μ : sw_M} {mc ms : Nat} {P : (Nat → Nat) → Prop} {r : sw_M ⊕ (String × sw_M)} (h : some (.inl μ) = some r) (ho : sw_out G mc ms P (xo_v r).1 L (xo_v r).2 ν) : sw_out G mc ms P (.inl none) L μ ν := by cases h; exact ho
theorem leafTv {G : sw_G} {L : sw_L} {ν : sw_N} {μ : sw_M} {mc ms : Nat} {P : (Nat → Nat) → Prop} {E : String} {r : sw_M ⊕ (String × sw_M)} (h : some (.inr (E, μ)) = some r) (ho : sw_out G mc ms P (xo_v r).1 L (xo_v r).2 ν) : sw_out G mc ms P (.inr E) L μ ν := by cases h; exact ho
theorem tw_iae : sw_tw "DeadWires" "java/lang/IllegalArgumentException" 425 427 := ⟨(gtb_of (tbm_3 (List.mem_of_getElem? (i := 143) rfl)) rfl), (gtb_of (tbm_1 (List.mem_of_getElem? (i := 18) rfl)) rfl), by decide +kernel, sw_tw_of (by decide +kernel), by decide +kernel⟩
theorem tw_nse : sw_tw "DeadWires" "java/util/NoSuchElementException" 422 424 := ⟨(gtb_of (tbm_5 (List.mem_of_getElem? (i := 91) rfl)) rfl), (gtb_of (tbm_1 (List.mem_of_getElem? (i := 24) rfl)) rfl), by decide +kernel, sw_tw_of (by decide +kernel), by decide +kernel⟩
