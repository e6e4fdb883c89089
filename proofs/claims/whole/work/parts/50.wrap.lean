/-! ===== the law's own methods that catch ===== -/
def sw_ag (ad ad' : Nat → Nat) : Prop := ∀ k, k < 4000 → ad' k = ad k
def sw_v4 : Value → Bool
  | .ref k => decide (k < 4000)
  | _ => true
theorem sw_v_ag {ad ad' : Nat → Nat} (h : sw_ag ad ad') : ∀ {v : Value}, sw_v4 v = true → sw_v ad' v = sw_v ad v := by
  intro v hv
  cases v <;> first | rfl | skip
  rename_i k
  simp only [sw_v4, decide_eq_true_eq] at hv
  simp only [sw_v, h k hv]
def sw_l4 : List (Option Value) → Bool
  | [] => true
  | none :: r => sw_l4 r
  | some v :: r => sw_v4 v && sw_l4 r
def sw_s4 : List Value → Bool
  | [] => true
  | v :: r => sw_v4 v && sw_s4 r
theorem sw_l4_get : ∀ {lv : List (Option Value)} {i : Nat} {v : Value}, sw_l4 lv = true → lv[i]? = some (some v) → sw_v4 v = true
  | [], i, v, _, h => by simp at h
  | none :: r, 0, v, _, h => by simp at h
  | none :: r, i + 1, v, hr, h => sw_l4_get (lv := r) hr (by simpa using h)
  | some w :: r, 0, v, hr, h => by
    simp at h; subst h
    simp only [sw_l4, Bool.and_eq_true] at hr
    exact hr.1
  | some w :: r, i + 1, v, hr, h => by
    simp only [sw_l4, Bool.and_eq_true] at hr
    exact sw_l4_get (lv := r) hr.2 (by simpa using h)
theorem sw_lv_ag {nL : Nat} {ad ad' : Nat → Nat} {lv : List (Option Value)} {ls : Array Slot} (h : sw_ag ad ad') (hr : sw_l4 lv = true) (hl : sw_lv nL ad lv ls) : sw_lv nL ad' lv ls :=
  ⟨hl.1, hl.2.1, fun i v hi => by rw [sw_v_ag h (sw_l4_get hr hi)]; exact hl.2.2 i v hi⟩
theorem sw_st_ag {ad ad' : Nat → Nat} (h : sw_ag ad ad') : ∀ {st : List Value}, sw_s4 st = true → st.map (sw_v ad') = st.map (sw_v ad)
  | [], _ => rfl
  | v :: r, hr => by
    simp only [sw_s4, Bool.and_eq_true] at hr
    rw [List.map_cons, List.map_cons, sw_v_ag h hr.1, sw_st_ag h hr.2]
theorem sw_f_ag {ad ad' : Nat → Nat} {f : Nat → Int32} (h : sw_ag ad ad') : ∀ {s : List (Option (Option Nat))} {j : Nat}, sw_wfs 4000 s = true → sw_f ad' f j s = sw_f ad f j s
  | [], _, _ => rfl
  | none :: r, j, hw => by simp only [sw_f]; rw [sw_f_ag h (s := r) (by simpa [sw_wfs] using hw)]
  | some none :: r, j, hw => by simp only [sw_f]; rw [sw_f_ag h (s := r) (by simpa [sw_wfs] using hw)]
  | some (some k) :: r, j, hw => by
    simp only [sw_wfs, Bool.and_eq_true, decide_eq_true_eq] at hw
    simp only [sw_f]; rw [sw_f_ag h (s := r) hw.2, h k hw.1]
theorem sw_w_ag {cI cL : ClassId} {ad ad' : Nat → Nat} {μ : sw_M} {ν : sw_N} (h : sw_ag ad ad') : ∀ {L : sw_L} {k : Nat}, k + L.length ≤ 4000 → sw_wf 4000 L = true → sw_w cI cL ad' μ ν k L = sw_w cI cL ad μ ν k L
  | [], _, _, _ => rfl
  | x :: r, k, hk, hw => by
    simp only [List.length_cons] at hk
    simp only [sw_w]
    have hw2 : sw_wf 4000 r = true := by
      rcases x with x | ⟨ci, s⟩
      · exact hw
      · simp only [sw_wf, Bool.and_eq_true] at hw; exact hw.2
    rw [sw_w_ag h (L := r) (k := k + 1) (by omega) hw2, h k (by omega)]
    congr 2
    rcases x with ⟨b, m⟩ | ⟨ci, s⟩
    · cases b <;> rfl
    · simp only [sw_wf, Bool.and_eq_true] at hw
      simp only [sw_e, sw_f_ag h hw.1]
theorem sw_SI_ag {ad ad' : Nat → Nat} {A : Nat → Prop} {U : State} {H : Heap} (h : sw_ag ad ad') (hs : sw_SI ad A U H) : sw_SI ad' A U H := by
  obtain ⟨h1, h2, h3, h4, h5, h6, h7, h8⟩ := hs
  have hlen : strT.length = 19 := rfl
  refine ⟨h1, h2, by rw [h 3000 (by omega)]; exact h3, ⟨fun i hi => ?_, fun i j hi hj e => h4.2 i j hi hj ?_⟩, h5, h6, fun own k tx j hw hj => ?_, h8⟩
  · have q := h4.1 i hi
    simp only [h (1000 + i) (by omega), h (2000 + i) (by omega)]
    exact q
  · simp only [h (1000 + i) (by omega), h (1000 + j) (by omega)] at e
    exact e
  · have hj2 : j < strT.length := (List.getElem?_eq_some_iff.mp hj).1
    rw [h (1000 + j) (by omega)]
    exact h7 own k tx j hw hj
section SWB
variable {G : sw_G} {ad ad' : Nat → Nat} {L : sw_L} {ν : sw_N} {cs sl pc : Nat} {lv : List (Option Value)} {st st0 : List Value} {μ : sw_M} {cc : ByteArray} {own : String} {ret : Option FieldType} {d mc ms : Nat}
theorem sw_ok_ag (g : sw_ok G cc own ret d mc ms ad) (h : sw_ag ad ad') : sw_ok G cc own ret d mc ms ad' := by
  obtain ⟨h1, h2, h3, h4, h5, h6, h7, h8, h9, h10, h11⟩ := g
  exact ⟨h1, h2, h3, h4, h5, h6, h7, h8, h9, sw_SI_ag h h10, h11⟩
/-- back to the old places -/
theorem SW.back (h : sw_ag ad ad') (hl4 : sw_l4 lv = true) (hs4 : sw_s4 st = true) (hw4 : sw_wf 4000 L = true) (hn : L.length ≤ 4000) (k : SW G ad L ν cs sl pc lv st μ) : SW G ad' L ν cs sl pc lv st μ := by
  intro H locs ls hlv hP hD hS
  have h' : sw_ag ad' ad := fun k hk => (h k hk).symm
  rw [sw_w_ag h (by omega) hw4] at hP hD
  have := k H locs ls (sw_lv_ag h' hl4 hlv) hP hD hS
  rw [sw_st_ag h hs4]
  exact this
/-- which row of the table catches E at pc -/
def sw_cat9 (own : String) (hh : List (Nat × Nat × Nat × Nat)) (pc hpc : Nat) (E : String) : Prop :=
  ∃ (pre : List ExceptionTableEntry) (x : ExceptionTableEntry) (suf : List ExceptionTableEntry) (name : String), tableOf hh = pre ++ x :: suf ∧ (∀ z ∈ pre, covers z pc = false ∨ (z.catchType ≠ 0 ∧ E = "java/lang/IllegalArgumentException" ∧ Cond.classLink own z.catchType "java/util/NoSuchElementException" ∈ gtb)) ∧ covers x pc = true ∧ x.catchType ≠ 0 ∧ x.handlerPc = hpc ∧
    Cond.classLink own x.catchType name ∈ gtb ∧ Cond.castable E name ∈ tables_1
variable {y : MethodName} {bytes : ByteArray} {maxL np d' mc' ms' idx o : Nat} {ret' : Option FieldType} {av : List Value} {μ' : sw_M} {ν' : sw_N}
theorem SW.callXc {E : String} {hpc : Nat} {hh : List (Nat × Nat × Nat × Nat)} {ci N : Nat} {T : u_T} {sls : List (Option (Option Nat))} (g : sw_ok G cc own ret d mc ms ad) (hd : decode cc pc = .ok (.invokevirtual idx, 3)) (htab : G.2.2.1.2.1.exceptionTable.toList = tableOf hh) (hcat : sw_cat9 own hh pc hpc E)
    (hM : MetX G.1.2.1 G.2.2.2.1 G.2.2.2.2.1 G.2.2.2.2.2 y bytes maxL ret' d' mc' ms' (fun a => a = ad) ad (.ref o :: av) L μ ν (.inr E) L μ' ν') (hy : sw_me y bytes maxL ret' np) (hv : sw_mV y) (hl : Cond.methodLink own idx y ∈ gtb)
    (hL : L[o]? = some (.inr (ci, sls))) (hcl : vwCl[ci]? = some (y.cls, T, N)) (hn : av.length = np) (hw : (st.map fun v => v.category).sum ≤ 8) (hdd : d' < d) (hc : cs + mc' ≤ mc) (hs : sl + ms' ≤ ms)
    (hst : st0 = av.reverse ++ .ref o :: st) (hl4 : sw_l4 lv = true) (hw4 : sw_wf 4000 L = true) (hn4 : L.length ≤ 4000)
    (k : ∀ ad' : Nat → Nat, sw_ag ad ad' → SW G ad' L ν' (cs + mc') (sl + ms') hpc lv [.ref 4000] μ') : SW G ad L ν cs sl pc lv st0 μ := by
  subst hst
  intro H locs ls hlv hP hD hS
  have hts := g.2.2.2.2.2.1
  have hSI := g.2.2.2.2.2.2.2.2.2.1
  have hrun := sw_runX (st := st) g hd hM hy hv hl hL hcl hn hw hdd hc hs hlv hP hD hS
  rw [List.map_append, List.map_reverse]
  intro T0 hT X
  rcases hrun T0 hT X with ⟨v, st₀, t, T', L1, h0, X', hL1, e1, e2, hx, -⟩ | ⟨q, st₀, t, T', L1, E', ce, h0, X', hL1, e1, e2, ⟨rfl, ⟨ad', hp', hP1, hD1⟩, hF⟩, hce, hcv, hcl9, stp⟩
  · exact hx.elim
  · subst hp'
    have hS1 := sw_keepX h0 e1 hS (sw_sub g hD hS) (sw_sub g hD hS) hL1 hF
    have hD2 := hD1.weaken (fun _ _ _ h => sw_sub g hD hS _ h)
    have hP2 : va_P G.2.2.2.1 vwCl (sw_w G.2.2.2.2.1 G.2.2.2.2.2 ad' μ' ν' 0 L) T'.heap := by rw [e1]; exact hP1
    obtain ⟨pre, x, suf, name, ht, hpre, hcov, hct, hpc9, hlink, hcast⟩ := hcat
    have hag : sw_ag ad' (fun k => if k = 4000 then q else ad' k) := fun k hk => if_neg (by omega)
    have kk := k _ hag T'.heap (locs ++ L1) ls (sw_lv_ag hag hl4 hlv) (by rw [sw_w_ag hag (by omega) hw4]; exact hP2) (by rw [sw_w_ag hag (by omega) hw4]; exact hD2) hS1
    obtain ⟨t2, a1, b1⟩ := vx_catch (pc := pc) (name := name) (E := E') (ls := ls) (rest := st.map (sw_v ad')) g.2.2.2.2.1 pre x suf (htab.trans ht) (fun z hz => by
      rcases hpre z hz with h | ⟨h1, h2, h3⟩
      · exact Or.inl h
      · exact Or.inr ⟨h1, "java/util/NoSuchElementException", hts _ h3, by rw [h2]; exact hSI.2.2.2.2.2.2.2⟩) hcov hct (hts _ hlink) (va_Nw.use rfl (hSI.2.2.2.2.2.1 _ hcast rfl)) (by rw [e1]; exact hce) hcv hcl9 (by
        rw [hpc9]
        simp only [List.map_cons, List.map_nil, sw_v, if_pos] at kk
        exact kk) T' rfl X'
    exact ⟨t2, stp.trans a1, b1⟩
end SWB
/-- a static method with a table, that returns -/
def MetW (l : Launch) (D : va_G) (cI cL : ClassId) (y : MethodName) (cc : ByteArray) (nL : Nat) (ret : Option FieldType) (hh : List (Nat × Nat × Nat × Nat)) (d mc ms : Nat) (ad : Nat → Nat) (av : List Value) (L : sw_L) (μ : sw_M) (ν : sw_N) (o : Option Value) (L' : sw_L) (μ' : sw_M) (ν' : sw_N) : Prop :=
  ∀ sz : Nat, vx_Met l y (.codeWith y cc nL ret hh :: gtb) (rmO d mc ms) (sw_pre l D cI cL ad av L μ ν sz) (sw_Q D cI cL (va_A (sw_w cI cL ad μ ν 0 L) sz) (fun a => a = ad) o L' μ' ν') sw_No mc ms (va_A (sw_w cI cL ad μ ν 0 L) sz)
set_option maxHeartbeats 4000000 in
theorem MetW.of {l : Launch} {D : va_G} {cI cL : ClassId} {y : MethodName} {cc : ByteArray} {nL : Nat} {ret : Option FieldType} {hh : List (Nat × Nat × Nat × Nat)} {d mc ms n : Nat} {ad : Nat → Nat} {av : List Value} {L : sw_L} {μ : sw_M} {ν : sw_N} {o : Option Value} {L' : sw_L} {μ' : sw_M} {ν' : sw_N}
    (hy : plainName y.cls = true) (hlen : (sw_ent av).length ≤ nL)
    (body : ∀ G : sw_G, sw_ok G cc y.cls ret d mc ms ad → sw_out G mc ms (fun a => a = ad) (.inl o) L' μ' ν' → G.2.2.1.2.1.maxLocals = nL → G.2.2.1.2.1.exceptionTable.toList = tableOf hh → SW G ad L ν 0 0 0 (sw_ent av ++ List.replicate n none) [] μ) :
    MetW l D cI cL y cc nL ret hh d mc ms ad av L μ ν o L' μ' ν' := by
  intro sz
  refine vx_ofWH (cc := cc) (maxL := nL) (ret := ret) (hh := hh) hy rfl ?_
  intro p e s m args below meth c s₁ B hml hv
  obtain ⟨rfl, hsz, hSI, hP, hK, hD0, hst⟩ := hv
  subst hsz
  have hts : ∀ w ∈ (Cond.codeWith y cc nL ret hh :: gtb), w.before _ s = true := atoms_spec (ws := .codeWith y cc nL ret hh :: gtb) B.pre
  have hown : s.vm.findClass y.cls = some m.cls := findClass_of_methodNamed B.named
  have htab : c.exceptionTable.toList = tableOf hh := vx_table (x := y) B (hts _ List.mem_cons_self)
  rw [lg_entry_eq]
  have hl := sw_ent_lv (ad := ad) (av := av) (n := n) (by rw [sw_ent_len]; exact hlen)
  have key := body ((p, l, e, rmO d mc ms), (s, m, (av.map (sw_v ad)).toArray, below), (meth, c, vx_MQ below (sw_Q D cI cL (va_A (sw_w cI cL ad μ ν 0 L) s.heap.size) (fun a => a = ad) o L' μ' ν') sw_No (av.map (sw_v ad)).toArray s mc ms (va_A (sw_w cI cL ad μ ν 0 L) s.heap.size), va_A (sw_w cI cL ad μ ν 0 L) s.heap.size), (D, cI, cL))
    ⟨B.exec, B.bytes, B.returns, B.notSynchronized, hown, fun w hw => hts w (List.mem_cons_of_mem _ hw), hK, fun q h => Or.inr h, ⟨Nat.le_refl _, Nat.le_refl _, Nat.le_refl _, Nat.le_refl _⟩, hSI, hst⟩ (Or.inr rfl) hml htab
  exact key s.heap [] _ (by rw [show (meth, c, vx_MQ below (sw_Q D cI cL (va_A (sw_w cI cL ad μ ν 0 L) s.heap.size) (fun a => a = ad) o L' μ' ν') sw_No (av.map (sw_v ad)).toArray s mc ms (va_A (sw_w cI cL ad μ ν 0 L) s.heap.size), va_A (sw_w cI cL ad μ ν 0 L) s.heap.size).2.1.maxLocals = nL from hml]; exact hl) hP hD0.self va_S.rf
section SWL
variable {G : sw_G} {ad ad' : Nat → Nat} {L : sw_L} {ν : sw_N} {cs sl pc : Nat} {lv : List (Option Value)} {st st0 : List Value} {μ : sw_M} {cc : ByteArray} {own : String} {ret : Option FieldType} {d mc ms : Nat}
variable {y : MethodName} {bytes : ByteArray} {maxL np d' mc' ms' idx : Nat} {ret' : Option FieldType} {av : List Value} {L' : sw_L} {μ' : sw_M} {ν' : sw_N}
theorem SW.callW {v : Int32} {hh : List (Nat × Nat × Nat × Nat)} (g : sw_ok G cc own ret d mc ms ad) (hd : decode cc pc = .ok (.invokestatic idx, 3))
    (hM : MetW G.1.2.1 G.2.2.2.1 G.2.2.2.2.1 G.2.2.2.2.2 y bytes maxL ret' hh d' mc' ms' ad av L μ ν (some (.int v)) L μ' ν') (hcw : Cond.codeWith y bytes maxL ret' hh ∈ gtb) (hini : Cond.initialized y.cls ∈ gtb) (hne : y.cls ≠ "java/lang/invoke/MethodHandle" ∧ y.cls ≠ "java/lang/invoke/VarHandle") (hnp : (parseMethodDescriptor y.desc).map (fun d => d.parameters.length) = some np) (hm45 : maxL ≤ 45) (hv : Cond.static y ∈ gtb) (hl : Cond.methodLink own idx y ∈ gtb)
    (hn : av.length = np) (hw : (st.map fun v => v.category).sum ≤ 8) (hdd : d' < d) (hc : cs + mc' ≤ mc) (hs : sl + ms' ≤ ms)
    (hst : st0 = av.reverse ++ st) (k : SW G ad L ν' (cs + mc') (sl + ms') (pc + 3) lv (.int v :: st) μ') : SW G ad L ν cs sl pc lv st0 μ := by
  subst hst
  intro H locs ls hlv hP hD hS
  have hts := g.2.2.2.2.2.1
  have hpay : ∀ w ∈ (Cond.codeWith y bytes maxL ret' hh :: gtb), ∀ (a' : Array Value) (U : State), G.2.1.1.WarmedH U.vm → w.before a' U = true := by
    refine pay_in hts (fun w hw => ?_)
    have h : w ∈ gtb := by
      rcases List.mem_cons.mp hw with rfl | h
      · exact hcw
      · exact h
    exact ⟨h, good_of_word (gtb_good w h)⟩
  rw [List.map_append, List.map_reverse]
  have hrun := vx_runSX (hh := hh) (As := av.map (sw_v ad)) (rest := st.map (sw_v ad)) (n := np) (H := H) (locs := locs) (g := F0 G.2.1.2.1 pc ls ((av.map (sw_v ad)).reverse ++ st.map (sw_v ad))) (p := G.1.1) (e := G.1.2.2.1) (below := G.2.1.2.2.2) (meth := G.2.2.1.1) ⟨g.1, g.2.1, rfl, g.2.2.2.2.1, hts⟩ (hM H.size)
    ⟨⟨rfl, rfl, (sw_room (mc' := mc') (ms' := ms') g hdd hm45).1, (sw_room (mc' := mc') (ms' := ms') g hdd hm45).2, hpay, List.mem_cons_self⟩, hts _ hcw, hts _ hini, hne, sw_np hnp, hts _ hl, hts _ hv⟩
    ⟨sw_pre_blind, sw_PreS (av := av) g hP hD hS⟩ rfl (by rw [List.length_map]; exact hn) hlv.1 rfl (lv_room (by rw [sw_catsum]; exact hw)) hd (sw_cells g hc hs)
  intro T0 hT X
  rcases hrun T0 hT X with ⟨v1, st₀, t, T', L1, h0, X', hL1, e1, e2, ⟨hv1, ⟨ad', hp, hP1, hD1⟩, hF⟩, stp⟩ | ⟨q, st₀, t, T', L1, E, ce, h0, X', hL1, e1, e2, hx, -⟩
  · cases hv1
    subst hp
    have hk := k T'.heap (locs ++ L1) ls hlv (by rw [e1]; exact hP1) (hD1.weaken (fun _ _ _ h => sw_sub g hD hS _ h)) (sw_keepX h0 e1 hS (sw_sub g hD hS) (sw_sub g hD hS) hL1 hF) T' rfl X'
    obtain ⟨t2, a1, b1⟩ := hk
    exact ⟨t2, stp t2 a1, b1⟩
  · exact hx.elim
/-- the law's script -/
theorem SW.sld {b n : Nat} {xs : Nat → Int32} {i : Int32} (g : sw_ok G cc own ret d mc ms ad) (hd : decode cc pc = .ok (.iaload, 1)) (hX : va_X b n xs G.2.1.1 G.2.1.1.heap) (hbl : b < G.2.1.1.heap.size) (hbA : ¬ G.2.2.1.2.2.2 b) (hb : ad 5000 = b) (hi : ¬ (i < 0 ∨ n ≤ i.toNatClampNeg)) (k : SW G ad L ν cs sl (pc + 1) lv (.int (xs i.toNatClampNeg) :: st) μ) : SW G ad L ν cs sl pc lv (.int i :: .ref 5000 :: st) μ := by
  subst hb
  exact fun H locs ls hlv hP hD hS => va_sld g.1 g.2.1 hX hbl hbA hS hi hd (k H locs ls hlv hP hD hS)
theorem SW.slen {b n : Nat} {xs : Nat → Int32} (g : sw_ok G cc own ret d mc ms ad) (hd : decode cc pc = .ok (.arraylength, 1)) (hX : va_X b n xs G.2.1.1 G.2.1.1.heap) (hbl : b < G.2.1.1.heap.size) (hbA : ¬ G.2.2.1.2.2.2 b) (hb : ad 5000 = b) (k : SW G ad L ν cs sl (pc + 1) lv (.int (Int32.ofNat n) :: st) μ) : SW G ad L ν cs sl pc lv (.ref 5000 :: st) μ := by
  subst hb
  exact fun H locs ls hlv hP hD hS => va_slen g.1 g.2.1 hX hbl hbA hS hd (k H locs ls hlv hP hD hS)
end SWL
