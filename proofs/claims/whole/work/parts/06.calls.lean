/-! ===== calls of methods that return ===== -/
/-- a method: its code, its class, its parameters -/
def sw_me (y : MethodName) (cc : ByteArray) (nL : Nat) (ret : Option FieldType) (np : Nat) : Prop := Cond.code y cc nL ret ∈ gtb ∧ Cond.initialized y.cls ∈ gtb ∧ (y.cls ≠ "java/lang/invoke/MethodHandle" ∧ y.cls ≠ "java/lang/invoke/VarHandle") ∧ (parseMethodDescriptor y.desc).map (fun d => d.parameters.length) = some np ∧ nL ≤ 45
def sw_mV (y : MethodName) : Prop := Cond.instanceMethod y ∈ gtb ∧ Cond.selects y.cls y y ∈ gtb
theorem sw_np {y : MethodName} {np : Nat} (h : (parseMethodDescriptor y.desc).map (fun d => d.parameters.length) = some np) : ∀ sig, parseMethodDescriptor y.desc = some sig → np = sig.parameters.length := by
  intro sig h2
  rw [h2] at h
  exact (Option.some.inj h).symm
section SWC
variable {p : Program} {l : Launch} {e : Env} {R : Room} {s : State} {m : MethodId} {args : Array Value} {below : List Frame} {meth : Method} {c : Code} {H : Heap} {locs : List Loc} {cells slots mc ms : Nat} {Q : State → Prop} {A0 A1 : Nat → Prop} {H0 : Heap} {a : Array Value} {pc : Nat} {ls : Array Slot} {st0 rest : List Value} {free : Addr → Prop} {D : va_G} {cI cL : ClassId} {P : (Nat → Nat) → Prop} {o : Option Value} {L' : sw_L} {μ' : sw_M} {ν' : sw_N}
theorem sw_back (hr : va_Run p l e R s m args below meth c H locs cells slots mc ms (F0 m pc ls st0) rest (sw_Q D cI cL A1 P o L' μ' ν' a) free) (hS : va_S A0 H0 H locs) (hA : ∀ q, A1 q → A0 q) (hf : ∀ q, free q → A0 q)
    (kk : ∀ (H1 : Heap) (locs1 : List Loc) (ad' : Nat → Nat), P ad' → va_P D vwCl (sw_w cI cL ad' μ' ν' 0 L') H1 → va_D A0 (sw_w cI cL ad' μ' ν' 0 L') → va_S A0 H0 H1 locs1 → W p l e R s m args below meth c H1 locs1 (cells + mc) (slots + ms) Q (F0 m (pc + 3) ls (o.toList ++ rest))) : W p l e R s m args below meth c H locs cells slots Q (F0 m pc ls st0) := by
  intro T hT X
  obtain ⟨v, st₀, t, T', L, h0, X', hL, e1, e2, ⟨hv, ⟨ad', hp, hP1, hD1⟩, hz, hk⟩, st⟩ := hr T hT X
  cases hv
  rw [h0] at hz hk
  obtain ⟨t2, a1, b1⟩ := kk T'.heap (locs ++ L) ad' hp (by rw [e1]; exact hP1) (hD1.weaken (fun _ _ _ h => hA _ h))
    ⟨Nat.le_trans hS.1 (by rw [e1]; exact hz), fun q h1 h2 => by rw [e1, hk q (Nat.lt_of_lt_of_le h1 hS.1) (fun z => h2 (hA q z))]; exact hS.2.1 q h1 h2, fun q hq => by
      rcases List.mem_append.mp hq with h | h
      · exact hS.2.2 q h
      · exact hf _ (hL q h)⟩ T' rfl X'
  exact ⟨t2, st t2 a1, b1⟩
end SWC
section SWD
variable {G : sw_G} {ad : Nat → Nat} {L : sw_L} {ν : sw_N} {cs sl pc : Nat} {lv : List (Option Value)} {st st0 : List Value} {μ : sw_M} {cc : ByteArray} {own : String} {ret : Option FieldType} {d mc ms : Nat}
theorem sw_sub {H : Heap} {locs : List Loc} (g : sw_ok G cc own ret d mc ms ad) (hD : va_D G.2.2.1.2.2.2 (sw_w G.2.2.2.2.1 G.2.2.2.2.2 ad μ ν 0 L)) (hS : va_S G.2.2.1.2.2.2 G.2.1.1.heap H locs) : ∀ q, va_A (sw_w G.2.2.2.2.1 G.2.2.2.2.2 ad μ ν 0 L) H.size q → G.2.2.1.2.2.2 q := by
  rintro q (⟨k, x, h⟩ | h)
  · exact hD.2 k _ h
  · exact g.2.2.2.2.2.2.2.1 q (Nat.le_trans hS.1 h)
theorem sw_PreS {H : Heap} {locs : List Loc} {av : List Value} (g : sw_ok G cc own ret d mc ms ad) (hP : va_P G.2.2.2.1 vwCl (sw_w G.2.2.2.2.1 G.2.2.2.2.2 ad μ ν 0 L) H) (hD : va_D G.2.2.1.2.2.2 (sw_w G.2.2.2.2.1 G.2.2.2.2.2 ad μ ν 0 L)) (hS : va_S G.2.2.1.2.2.2 G.2.1.1.heap H locs) :
    ∀ U : State, U.heap = H → G.2.1.1.WarmedH U.vm → sw_pre G.1.2.1 G.2.2.2.1 G.2.2.2.2.1 G.2.2.2.2.2 ad av L μ ν H.size (av.map (sw_v ad)).toArray U := by
  intro U hU hW
  refine ⟨rfl, by rw [hU], ?_, by rw [hU]; exact hP, va_K.moved hW.alike g.2.2.2.2.2.2.1, hD.weaken (fun _ _ _ _ => trivial), g.2.2.2.2.2.2.2.2.2.2⟩
  rw [hU]
  exact sw_SI.to g.2.2.2.2.2.2.2.2.2.1 hS hW (sw_sub g hD hS)
theorem sw_pay {y : MethodName} {bytes : ByteArray} {maxL : Nat} {ret' : Option FieldType} {np : Nat} (g : sw_ok G cc own ret d mc ms ad) (hy : sw_me y bytes maxL ret' np) : ∀ w ∈ (Cond.code y bytes maxL ret' :: gtb), ∀ (a' : Array Value) (U : State), G.2.1.1.WarmedH U.vm → w.before a' U = true := by
  refine pay_in g.2.2.2.2.2.1 (fun w hw => ?_)
  have h : w ∈ gtb := by
    rcases List.mem_cons.mp hw with rfl | h
    · exact hy.1
    · exact h
  exact ⟨h, good_of_word (gtb_good w h)⟩
theorem sw_room {d' mc' ms' maxL : Nat} (g : sw_ok G cc own ret d mc ms ad) (hdd : d' < d) (hm : maxL ≤ 45) : (rmO d' mc' ms').frames + 1 ≤ G.1.2.2.2.frames ∧ 8 + (maxL + 11) + (rmO d' mc' ms').locals ≤ G.1.2.2.2.locals := by
  have hR := g.2.2.2.2.2.2.2.2.1
  exact ⟨by simp only [rmO]; omega, by simp only [rmO]; omega⟩
theorem sw_cells {mc' ms' : Nat} (g : sw_ok G cc own ret d mc ms ad) (hc : cs + mc' ≤ mc) (hs : sl + ms' ≤ ms) : cs + mc' ≤ G.1.2.2.2.cells ∧ sl + ms' ≤ G.1.2.2.2.slots := by
  have hR := g.2.2.2.2.2.2.2.2.1
  exact ⟨by omega, by omega⟩
theorem sw_catsum {ad : Nat → Nat} : ∀ st : List Value, ((st.map (sw_v ad)).map fun v => v.category).sum = (st.map fun v => v.category).sum
  | [] => rfl
  | x :: r => by simp only [List.map_cons, List.sum_cons, sw_cat, sw_catsum r]
variable {y : MethodName} {bytes : ByteArray} {maxL np d' mc' ms' idx o : Nat} {ret' : Option FieldType} {av : List Value} {r : Option Value} {L' : sw_L} {μ' : sw_M} {ν' : sw_N} {P : (Nat → Nat) → Prop}
theorem SW.callV0 {ci N : Nat} {T : u_T} {sls : List (Option (Option Nat))} (g : sw_ok G cc own ret d mc ms ad) (hd : decode cc pc = .ok (.invokevirtual idx, 3))
    (hM : MetR G.1.2.1 G.2.2.2.1 G.2.2.2.2.1 G.2.2.2.2.2 y bytes maxL ret' d' mc' ms' P ad (.ref o :: av) L μ ν r L' μ' ν') (hy : sw_me y bytes maxL ret' np) (hv : sw_mV y) (hl : Cond.methodLink own idx y ∈ gtb)
    (hL : L[o]? = some (.inr (ci, sls))) (hcl : vwCl[ci]? = some (y.cls, T, N)) (hn : av.length = np) (hw : (st.map fun v => v.category).sum ≤ 8) (hdd : d' < d) (hc : cs + mc' ≤ mc) (hs : sl + ms' ≤ ms)
    (kk : ∀ (H1 : Heap) (locs1 : List Loc) (ls : Array Slot) (ad' : Nat → Nat), sw_lv G.2.2.1.2.1.maxLocals ad lv ls → P ad' → va_P G.2.2.2.1 vwCl (sw_w G.2.2.2.2.1 G.2.2.2.2.2 ad' μ' ν' 0 L') H1 → va_D G.2.2.1.2.2.2 (sw_w G.2.2.2.2.1 G.2.2.2.2.2 ad' μ' ν' 0 L') → va_S G.2.2.1.2.2.2 G.2.1.1.heap H1 locs1 →
      W G.1.1 G.1.2.1 G.1.2.2.1 G.1.2.2.2 G.2.1.1 G.2.1.2.1 G.2.1.2.2.1 G.2.1.2.2.2 G.2.2.1.1 G.2.2.1.2.1 H1 locs1 (cs + mc') (sl + ms') G.2.2.1.2.2.1 (F0 G.2.1.2.1 (pc + 3) ls (r.toList ++ st.map (sw_v ad)))) :
    SW G ad L ν cs sl pc lv (av.reverse ++ .ref o :: st) μ := by
  intro H locs ls hlv hP hD hS
  have hts := g.2.2.2.2.2.1
  rw [List.map_append, List.map_reverse]
  refine sw_back (va_runV (C := y.cls) (b := ad o) (As := av.map (sw_v ad)) (rest := st.map (sw_v ad)) (n := np) ⟨g.1, g.2.1, rfl, g.2.2.2.2.1, hts⟩ (hM H.size)
    ⟨⟨rfl, rfl, (sw_room (mc' := mc') (ms' := ms') g hdd hy.2.2.2.2).1, (sw_room (mc' := mc') (ms' := ms') g hdd hy.2.2.2.2).2, sw_pay g hy, List.mem_cons_self, hts _ hy.1, hts _ hy.2.1, hy.2.2.1, sw_np hy.2.2.2.1, hts _ hl⟩, hts _ hv.1, hts _ hv.2⟩
    ⟨sw_pre_blind, va_recv g.2.2.2.2.2.2.1 hP hcl (sw_w_at hL), sw_PreS (av := .ref o :: av) g hP hD hS⟩ rfl (by rw [List.length_map]; exact hn) hlv.1 rfl (lv_room (by rw [sw_catsum]; exact hw)) hd (sw_cells g hc hs)) hS (sw_sub g hD hS) (sw_sub g hD hS) (fun H1 locs1 ad' hp hP1 hD1 hS1 => kk H1 locs1 ls ad' hlv hp hP1 hD1 hS1)
theorem SW.callS0 (g : sw_ok G cc own ret d mc ms ad) (hd : decode cc pc = .ok (.invokestatic idx, 3))
    (hM : MetR G.1.2.1 G.2.2.2.1 G.2.2.2.2.1 G.2.2.2.2.2 y bytes maxL ret' d' mc' ms' P ad av L μ ν r L' μ' ν') (hy : sw_me y bytes maxL ret' np) (hv : Cond.static y ∈ gtb) (hl : Cond.methodLink own idx y ∈ gtb)
    (hn : av.length = np) (hw : (st.map fun v => v.category).sum ≤ 8) (hdd : d' < d) (hc : cs + mc' ≤ mc) (hs : sl + ms' ≤ ms)
    (kk : ∀ (H1 : Heap) (locs1 : List Loc) (ls : Array Slot) (ad' : Nat → Nat), sw_lv G.2.2.1.2.1.maxLocals ad lv ls → P ad' → va_P G.2.2.2.1 vwCl (sw_w G.2.2.2.2.1 G.2.2.2.2.2 ad' μ' ν' 0 L') H1 → va_D G.2.2.1.2.2.2 (sw_w G.2.2.2.2.1 G.2.2.2.2.2 ad' μ' ν' 0 L') → va_S G.2.2.1.2.2.2 G.2.1.1.heap H1 locs1 →
      W G.1.1 G.1.2.1 G.1.2.2.1 G.1.2.2.2 G.2.1.1 G.2.1.2.1 G.2.1.2.2.1 G.2.1.2.2.2 G.2.2.1.1 G.2.2.1.2.1 H1 locs1 (cs + mc') (sl + ms') G.2.2.1.2.2.1 (F0 G.2.1.2.1 (pc + 3) ls (r.toList ++ st.map (sw_v ad)))) :
    SW G ad L ν cs sl pc lv (av.reverse ++ st) μ := by
  intro H locs ls hlv hP hD hS
  have hts := g.2.2.2.2.2.1
  rw [List.map_append, List.map_reverse]
  refine sw_back (va_runS (As := av.map (sw_v ad)) (rest := st.map (sw_v ad)) (n := np) ⟨g.1, g.2.1, rfl, g.2.2.2.2.1, hts⟩ (hM H.size)
    ⟨⟨rfl, rfl, (sw_room (mc' := mc') (ms' := ms') g hdd hy.2.2.2.2).1, (sw_room (mc' := mc') (ms' := ms') g hdd hy.2.2.2.2).2, sw_pay g hy, List.mem_cons_self, hts _ hy.1, hts _ hy.2.1, hy.2.2.1, sw_np hy.2.2.2.1, hts _ hl⟩, hts _ hv⟩
    ⟨sw_pre_blind, sw_PreS (av := av) g hP hD hS⟩ rfl (by rw [List.length_map]; exact hn) hlv.1 rfl (lv_room (by rw [sw_catsum]; exact hw)) hd (sw_cells g hc hs)) hS (sw_sub g hD hS) (sw_sub g hD hS) (fun H1 locs1 ad' hp hP1 hD1 hS1 => kk H1 locs1 ls ad' hlv hp hP1 hD1 hS1)
theorem SW.callSN0 {host : String} (g : sw_ok G cc own ret d mc ms ad) (hd : decode cc pc = .ok (.invokestatic idx, 3))
    (hM : MetR G.1.2.1 G.2.2.2.1 G.2.2.2.2.1 G.2.2.2.2.2 y bytes maxL ret' d' mc' ms' P ad av L μ ν r L' μ' ν') (hy : sw_me y bytes maxL ret' np) (hv : Cond.static y ∈ gtb) (hl : Cond.methodLinkNest own idx y host ∈ tables_1)
    (hn : av.length = np) (hw : (st.map fun v => v.category).sum ≤ 8) (hdd : d' < d) (hc : cs + mc' ≤ mc) (hs : sl + ms' ≤ ms)
    (kk : ∀ (H1 : Heap) (locs1 : List Loc) (ls : Array Slot) (ad' : Nat → Nat), sw_lv G.2.2.1.2.1.maxLocals ad lv ls → P ad' → va_P G.2.2.2.1 vwCl (sw_w G.2.2.2.2.1 G.2.2.2.2.2 ad' μ' ν' 0 L') H1 → va_D G.2.2.1.2.2.2 (sw_w G.2.2.2.2.1 G.2.2.2.2.2 ad' μ' ν' 0 L') → va_S G.2.2.1.2.2.2 G.2.1.1.heap H1 locs1 →
      W G.1.1 G.1.2.1 G.1.2.2.1 G.1.2.2.2 G.2.1.1 G.2.1.2.1 G.2.1.2.2.1 G.2.1.2.2.2 G.2.2.1.1 G.2.2.1.2.1 H1 locs1 (cs + mc') (sl + ms') G.2.2.1.2.2.1 (F0 G.2.1.2.1 (pc + 3) ls (r.toList ++ st.map (sw_v ad)))) :
    SW G ad L ν cs sl pc lv (av.reverse ++ st) μ := by
  intro H locs ls hlv hP hD hS
  have hts := g.2.2.2.2.2.1
  have hnw : va_Nw (Cond.methodLinkNest own idx y host) G.2.1.1 := g.2.2.2.2.2.2.2.2.2.1.2.2.2.2.2.1 _ hl rfl
  rw [List.map_append, List.map_reverse]
  refine sw_back (va_runSN (host := host) (As := av.map (sw_v ad)) (rest := st.map (sw_v ad)) (n := np) ⟨g.1, g.2.1, rfl, g.2.2.2.2.1, hts⟩ (hM H.size)
    ⟨⟨⟨rfl, rfl, (sw_room (mc' := mc') (ms' := ms') g hdd hy.2.2.2.2).1, (sw_room (mc' := mc') (ms' := ms') g hdd hy.2.2.2.2).2, sw_pay g hy, List.mem_cons_self⟩, hts _ hy.1, hts _ hy.2.1, hy.2.2.1, sw_np hy.2.2.2.1, va_Nw.use rfl hnw⟩, hts _ hv, trivial⟩
    ⟨sw_pre_blind, sw_PreS (av := av) g hP hD hS⟩ rfl (by rw [List.length_map]; exact hn) hlv.1 rfl (lv_room (by rw [sw_catsum]; exact hw)) hd (sw_cells g hc hs)) hS (sw_sub g hD hS) (sw_sub g hD hS) (fun H1 locs1 ad' hp hP1 hD1 hS1 => kk H1 locs1 ls ad' hlv hp hP1 hD1 hS1)
theorem sw_cont (k : SW G ad L' ν' (cs + mc') (sl + ms') (pc + 3) lv (r.toList ++ st) μ') (hr : r.toList.map (sw_v ad) = r.toList) : ∀ (H1 : Heap) (locs1 : List Loc) (ls : Array Slot) (ad' : Nat → Nat), sw_lv G.2.2.1.2.1.maxLocals ad lv ls → ad' = ad → va_P G.2.2.2.1 vwCl (sw_w G.2.2.2.2.1 G.2.2.2.2.2 ad' μ' ν' 0 L') H1 → va_D G.2.2.1.2.2.2 (sw_w G.2.2.2.2.1 G.2.2.2.2.2 ad' μ' ν' 0 L') → va_S G.2.2.1.2.2.2 G.2.1.1.heap H1 locs1 →
      W G.1.1 G.1.2.1 G.1.2.2.1 G.1.2.2.2 G.2.1.1 G.2.1.2.1 G.2.1.2.2.1 G.2.1.2.2.2 G.2.2.1.1 G.2.2.1.2.1 H1 locs1 (cs + mc') (sl + ms') G.2.2.1.2.2.1 (F0 G.2.1.2.1 (pc + 3) ls (r.toList ++ st.map (sw_v ad))) := by
  intro H1 locs1 ls ad' hlv e hP1 hD1 hS1
  subst e
  have h := k H1 locs1 ls hlv hP1 hD1 hS1
  rw [List.map_append, hr] at h
  exact h
/-- a call, the answer an int, no place new -/
theorem SW.callVi {v : Int32} {ci N : Nat} {T : u_T} {sls : List (Option (Option Nat))} (g : sw_ok G cc own ret d mc ms ad) (hd : decode cc pc = .ok (.invokevirtual idx, 3))
    (hM : MetR G.1.2.1 G.2.2.2.1 G.2.2.2.2.1 G.2.2.2.2.2 y bytes maxL ret' d' mc' ms' (fun a => a = ad) ad (.ref o :: av) L μ ν (some (.int v)) L μ' ν') (hy : sw_me y bytes maxL ret' np) (hv : sw_mV y) (hl : Cond.methodLink own idx y ∈ gtb)
    (hL : L[o]? = some (.inr (ci, sls))) (hcl : vwCl[ci]? = some (y.cls, T, N)) (hn : av.length = np) (hw : (st.map fun v => v.category).sum ≤ 8) (hdd : d' < d) (hc : cs + mc' ≤ mc) (hs : sl + ms' ≤ ms)
    (hst : st0 = av.reverse ++ .ref o :: st) (k : SW G ad L ν' (cs + mc') (sl + ms') (pc + 3) lv (.int v :: st) μ') : SW G ad L ν cs sl pc lv st0 μ := by
  subst hst
  exact SW.callV0 g hd hM hy hv hl hL hcl hn hw hdd hc hs (sw_cont (r := some (.int v)) k rfl)
theorem SW.callVv {ci N : Nat} {T : u_T} {sls : List (Option (Option Nat))} (g : sw_ok G cc own ret d mc ms ad) (hd : decode cc pc = .ok (.invokevirtual idx, 3))
    (hM : MetR G.1.2.1 G.2.2.2.1 G.2.2.2.2.1 G.2.2.2.2.2 y bytes maxL ret' d' mc' ms' (fun a => a = ad) ad (.ref o :: av) L μ ν none L μ' ν') (hy : sw_me y bytes maxL ret' np) (hv : sw_mV y) (hl : Cond.methodLink own idx y ∈ gtb)
    (hL : L[o]? = some (.inr (ci, sls))) (hcl : vwCl[ci]? = some (y.cls, T, N)) (hn : av.length = np) (hw : (st.map fun v => v.category).sum ≤ 8) (hdd : d' < d) (hc : cs + mc' ≤ mc) (hs : sl + ms' ≤ ms)
    (hst : st0 = av.reverse ++ .ref o :: st) (k : SW G ad L ν' (cs + mc') (sl + ms') (pc + 3) lv st μ') : SW G ad L ν cs sl pc lv st0 μ := by
  subst hst
  exact SW.callV0 g hd hM hy hv hl hL hcl hn hw hdd hc hs (sw_cont (r := none) k rfl)
theorem SW.callVl {v : Int64} {ci N : Nat} {T : u_T} {sls : List (Option (Option Nat))} (g : sw_ok G cc own ret d mc ms ad) (hd : decode cc pc = .ok (.invokevirtual idx, 3))
    (hM : MetR G.1.2.1 G.2.2.2.1 G.2.2.2.2.1 G.2.2.2.2.2 y bytes maxL ret' d' mc' ms' (fun a => a = ad) ad (.ref o :: av) L μ ν (some (.long v)) L μ' ν') (hy : sw_me y bytes maxL ret' np) (hv : sw_mV y) (hl : Cond.methodLink own idx y ∈ gtb)
    (hL : L[o]? = some (.inr (ci, sls))) (hcl : vwCl[ci]? = some (y.cls, T, N)) (hn : av.length = np) (hw : (st.map fun v => v.category).sum ≤ 8) (hdd : d' < d) (hc : cs + mc' ≤ mc) (hs : sl + ms' ≤ ms)
    (hst : st0 = av.reverse ++ .ref o :: st) (k : SW G ad L ν' (cs + mc') (sl + ms') (pc + 3) lv (.long v :: st) μ') : SW G ad L ν cs sl pc lv st0 μ := by
  subst hst
  exact SW.callV0 g hd hM hy hv hl hL hcl hn hw hdd hc hs (sw_cont (r := some (.long v)) k rfl)
theorem SW.callSi {v : Int32} (g : sw_ok G cc own ret d mc ms ad) (hd : decode cc pc = .ok (.invokestatic idx, 3))
    (hM : MetR G.1.2.1 G.2.2.2.1 G.2.2.2.2.1 G.2.2.2.2.2 y bytes maxL ret' d' mc' ms' (fun a => a = ad) ad av L μ ν (some (.int v)) L μ' ν') (hy : sw_me y bytes maxL ret' np) (hv : Cond.static y ∈ gtb) (hl : Cond.methodLink own idx y ∈ gtb)
    (hn : av.length = np) (hw : (st.map fun v => v.category).sum ≤ 8) (hdd : d' < d) (hc : cs + mc' ≤ mc) (hs : sl + ms' ≤ ms)
    (hst : st0 = av.reverse ++ st) (k : SW G ad L ν' (cs + mc') (sl + ms') (pc + 3) lv (.int v :: st) μ') : SW G ad L ν cs sl pc lv st0 μ := by
  subst hst
  exact SW.callS0 g hd hM hy hv hl hn hw hdd hc hs (sw_cont (r := some (.int v)) k rfl)
theorem SW.callSl {v : Int64} (g : sw_ok G cc own ret d mc ms ad) (hd : decode cc pc = .ok (.invokestatic idx, 3))
    (hM : MetR G.1.2.1 G.2.2.2.1 G.2.2.2.2.1 G.2.2.2.2.2 y bytes maxL ret' d' mc' ms' (fun a => a = ad) ad av L μ ν (some (.long v)) L μ' ν') (hy : sw_me y bytes maxL ret' np) (hv : Cond.static y ∈ gtb) (hl : Cond.methodLink own idx y ∈ gtb)
    (hn : av.length = np) (hw : (st.map fun v => v.category).sum ≤ 8) (hdd : d' < d) (hc : cs + mc' ≤ mc) (hs : sl + ms' ≤ ms)
    (hst : st0 = av.reverse ++ st) (k : SW G ad L ν' (cs + mc') (sl + ms') (pc + 3) lv (.long v :: st) μ') : SW G ad L ν cs sl pc lv st0 μ := by
  subst hst
  exact SW.callS0 g hd hM hy hv hl hn hw hdd hc hs (sw_cont (r := some (.long v)) k rfl)
theorem SW.callSNi {v : Int32} {host : String} (g : sw_ok G cc own ret d mc ms ad) (hd : decode cc pc = .ok (.invokestatic idx, 3))
    (hM : MetR G.1.2.1 G.2.2.2.1 G.2.2.2.2.1 G.2.2.2.2.2 y bytes maxL ret' d' mc' ms' (fun a => a = ad) ad av L μ ν (some (.int v)) L μ' ν') (hy : sw_me y bytes maxL ret' np) (hv : Cond.static y ∈ gtb) (hl : Cond.methodLinkNest own idx y host ∈ tables_1)
    (hn : av.length = np) (hw : (st.map fun v => v.category).sum ≤ 8) (hdd : d' < d) (hc : cs + mc' ≤ mc) (hs : sl + ms' ≤ ms)
    (hst : st0 = av.reverse ++ st) (k : SW G ad L ν' (cs + mc') (sl + ms') (pc + 3) lv (.int v :: st) μ') : SW G ad L ν cs sl pc lv st0 μ := by
  subst hst
  exact SW.callSN0 g hd hM hy hv hl hn hw hdd hc hs (sw_cont (r := some (.int v)) k rfl)
theorem SW.callSNv {host : String} (g : sw_ok G cc own ret d mc ms ad) (hd : decode cc pc = .ok (.invokestatic idx, 3))
    (hM : MetR G.1.2.1 G.2.2.2.1 G.2.2.2.2.1 G.2.2.2.2.2 y bytes maxL ret' d' mc' ms' (fun a => a = ad) ad av L μ ν none L μ' ν') (hy : sw_me y bytes maxL ret' np) (hv : Cond.static y ∈ gtb) (hl : Cond.methodLinkNest own idx y host ∈ tables_1)
    (hn : av.length = np) (hw : (st.map fun v => v.category).sum ≤ 8) (hdd : d' < d) (hc : cs + mc' ≤ mc) (hs : sl + ms' ≤ ms)
    (hst : st0 = av.reverse ++ st) (k : SW G ad L ν' (cs + mc') (sl + ms') (pc + 3) lv st μ') : SW G ad L ν cs sl pc lv st0 μ := by
  subst hst
  exact SW.callSN0 g hd hM hy hv hl hn hw hdd hc hs (sw_cont (r := none) k rfl)
/-- arraycopy, between int arrays of the world -/
theorem SW.acopy {i0 i1 n0 n1 : Nat} {sp dp n : Int32} (g : sw_ok G cc own ret d mc ms ad) (hd : decode cc pc = .ok (.invokestatic idx, 3)) (hl : Cond.methodLink own idx arraycopyName ∈ gtb) (hn : Cond.native arraycopyName ∈ gtb) (hs : Cond.static arraycopyName ∈ gtb) (hi : Cond.initialized "java/lang/System" ∈ gtb)
    (h0 : L[i0]? = some (.inl (false, n0))) (h1 : L[i1]? = some (.inl (false, n1))) (hsp : ¬ sp < 0) (hdp : ¬ dp < 0) (hnn : ¬ n < 0) (hb0 : sp.toNatClampNeg + n.toNatClampNeg ≤ n0) (hb1 : dp.toNatClampNeg + n.toNatClampNeg ≤ n1)
    (hw : (st.map fun v => v.category).sum ≤ 8) (hdd : 0 < d)
    (k : SW G ad L ν cs sl (pc + 3) lv st (wrR μ i1 (va_cpy (μ i0) (μ i1) sp.toNatClampNeg dp.toNatClampNeg n.toNatClampNeg))) : SW G ad L ν cs sl pc lv (.int n :: .int dp :: .ref i1 :: .int sp :: .ref i0 :: st) μ := by
  intro H locs ls hlv hP hD hS
  have hts := g.2.2.2.2.2.1
  refine va_copyi g.1 g.2.1 hlv.1.symm g.2.2.2.2.1 (hts _ hl) (hts _ hn) (hts _ hs) (hts _ hi) g.2.2.2.2.2.2.1 hP hD hS i0 i1 0 0 (sw_w_at h0) (sw_w_at h1) rfl rfl rfl hsp hdp hnn hb0 hb1 (fun _ _ => rfl) ?_ ?_ hd (fun H1 locs1 hP1 hD1 hS1 => ?_)
  · have hR := g.2.2.2.2.2.2.2.2.1
    omega
  · have hR := g.2.2.2.2.2.2.2.2.1
    rw [sw_catsum]
    have e : nativeFrameWords "java/lang/System" "arraycopy" 5 ≤ 40 := by decide
    omega
  · have e : (sw_w G.2.2.2.2.1 G.2.2.2.2.2 ad μ ν 0 L).set i1 (ad i1, .inl (G.2.2.2.2.1, n1, .inl (va_cpy (μ i0) (μ i1) sp.toNatClampNeg dp.toNatClampNeg n.toNatClampNeg))) = sw_w G.2.2.2.2.1 G.2.2.2.2.2 ad (wrR μ i1 (va_cpy (μ i0) (μ i1) sp.toNatClampNeg dp.toNatClampNeg n.toNatClampNeg)) ν 0 L := by
      have e1 := wrR_row μ i1 (va_cpy (μ i0) (μ i1) sp.toNatClampNeg dp.toNatClampNeg n.toNatClampNeg)
      have e2 := sw_w_set (cI := G.2.2.2.2.1) (cL := G.2.2.2.2.2) (ad := ad) (μ := μ) (μ' := wrR μ i1 (va_cpy (μ i0) (μ i1) sp.toNatClampNeg dp.toNatClampNeg n.toNatClampNeg)) (ν := ν) (ν' := ν) (x := .inl (false, n1)) h1 (fun a h => wrR_ne h) (fun a _ => rfl)
      rw [← e2]
      simp only [sw_e, e1]
    rw [e] at hP1 hD1
    exact k H1 locs1 ls hlv hP1 hD1 hS1
theorem SW.mmax {x z : Int32} (g : sw_ok G cc own ret d mc ms ad) (hd : decode cc pc = .ok (.invokestatic idx, 3)) (hl : Cond.methodLink own idx Lib.Math.max.name ∈ gtb) (hs : Cond.static Lib.Math.max.name ∈ gtb) (hi : Cond.initialized "java/lang/Math" ∈ gtb) (hc : Cond.code Lib.Math.max.name Lib.Math.max.code 2 (some .int) ∈ gtb)
    (hw : (st.map fun v => v.category).sum ≤ 8) (hdd : 0 < d) (hcs : cs ≤ mc) (hsl : sl ≤ ms) (k : SW G ad L ν cs sl (pc + 3) lv (.int (if x < z then z else x) :: st) μ) : SW G ad L ν cs sl pc lv (.int z :: .int x :: st) μ := by
  intro H locs ls hlv hP hD hS
  have hts := g.2.2.2.2.2.1
  refine va_mmax g.1 g.2.1 hlv.1.symm g.2.2.2.2.1 (hts _ hl) (hts _ hs) (hts _ hi) (hts _ hc) ?_ ?_ ?_ ?_ hd (k H locs ls hlv hP hD hS) <;> have hR := g.2.2.2.2.2.2.2.2.1
  · omega
  · rw [sw_catsum]; omega
  · omega
  · omega
theorem SW.mmin {x z : Int32} (g : sw_ok G cc own ret d mc ms ad) (hd : decode cc pc = .ok (.invokestatic idx, 3)) (hl : Cond.methodLink own idx Lib.Math.min.name ∈ gtb) (hs : Cond.static Lib.Math.min.name ∈ gtb) (hi : Cond.initialized "java/lang/Math" ∈ gtb) (hc : Cond.code Lib.Math.min.name Lib.Math.min.code 2 (some .int) ∈ gtb)
    (hw : (st.map fun v => v.category).sum ≤ 8) (hdd : 0 < d) (hcs : cs ≤ mc) (hsl : sl ≤ ms) (k : SW G ad L ν cs sl (pc + 3) lv (.int (if z < x then z else x) :: st) μ) : SW G ad L ν cs sl pc lv (.int z :: .int x :: st) μ := by
  intro H locs ls hlv hP hD hS
  have hts := g.2.2.2.2.2.1
  refine va_mmin g.1 g.2.1 hlv.1.symm g.2.2.2.2.1 (hts _ hl) (hts _ hs) (hts _ hi) (hts _ hc) ?_ ?_ ?_ ?_ hd (k H locs ls hlv hP hD hS) <;> have hR := g.2.2.2.2.2.2.2.2.1
  · omega
  · rw [sw_catsum]; omega
  · omega
  · omega
end SWD
