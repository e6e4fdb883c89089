/-! ===== fields, arrays, ends, calls ===== -/
/-- a class of the worlds: its number, its fields, their types -/
def sw_C (ci : Nat) (C : String) (T : u_T) (N : Nat) (ty : Nat → FieldType) : Prop := vwCl[ci]? = some (C, T, N) ∧ (∀ w ∈ u_ws C T N, w ∈ gtb) ∧ (∀ k, k < N → parseFieldDescriptor (T k).2.2.1 = some (ty k)) ∧ (∀ a, a < N → ∀ b, b < N → a ≠ b → (T a).2.1 ≠ (T b).2.1) ∧ ∀ k, k < N → (T k).1 = C
/-- a constant pool's field: the k-th of the class ci -/
def sw_F (own : String) (idx ci k : Nat) (fin isI : Bool) : Prop := ∃ (C : String) (T : u_T) (N : Nat) (ty : Nat → FieldType), sw_C ci C T N ty ∧ k < N ∧ Cond.fieldLink own idx C (T k).2.1 (T k).2.2.1 ∈ gtb ∧ (T k).2.2.2 = fin ∧ (isI = true → ty k = .int)
theorem sw_f_set {ad : Nat → Nat} {f : Nat → Int32} {sls : List (Option (Option Nat))} {k : Nat} {v : Int32} (hs : sls[k]? = some none) : (sw_f ad f 0 sls).set k (.int v) = sw_f ad (upd f k v) 0 sls := by
  apply List.ext_getElem?
  intro i
  have hk : k < sls.length := (List.getElem?_eq_some_iff.mp hs).1
  by_cases hi : k = i
  · subst hi
    rw [List.getElem?_set_self (by rw [sw_f_len]; exact hk), sw_f_get, hs]
    simp [upd]
  · rw [List.getElem?_set_ne hi, sw_f_get, sw_f_get]
    cases sls[i]? with
    | none => rfl
    | some y =>
      rcases y with _ | _ | r
      · simp [upd, show i ≠ k from fun e => hi e.symm]
      · rfl
      · rfl
section SWH
variable {G : sw_G} {ad : Nat → Nat} {L : sw_L} {ν : sw_N} {cs sl pc : Nat} {lv : List (Option Value)} {st : List Value} {μ : sw_M} {cc : ByteArray} {own : String} {ret : Option FieldType} {d mc ms : Nat} {ad0 : Nat → Nat}
theorem SW.getI {idx ci k o : Nat} {fin isI : Bool} {sls : List (Option (Option Nat))} (g : sw_ok G cc own ret d mc ms ad0) (hd : decode cc pc = .ok (.getfield idx, 3)) (hf : sw_F own idx ci k fin isI) (hL : L[o]? = some (.inr (ci, sls))) (hs : sls[k]? = some none)
    (kk : SW G ad L ν cs sl (pc + 3) lv (.int (μ o k) :: st) μ) : SW G ad L ν cs sl pc lv (.ref o :: st) μ := by
  obtain ⟨C, T, N, ty, hC, hk, hl, -, -⟩ := hf
  intro H locs ls hlv hP hD hS
  exact va_get g.1 g.2.1 g.2.2.2.2.2.1 hC.2.1 g.2.2.2.2.1 g.2.2.2.2.2.2.1 hP o (sw_w_at hL) hC.1 k hk (ref := C) (g.2.2.2.2.2.1 _ hl) (fun x h => by rw [hC.2.2.2.2 k hk] at h; exact h) (v := .int (μ o k)) (by rw [sw_f_get, hs]; simp) hd (kk H locs ls hlv hP hD hS)
theorem SW.getR {idx ci k o r : Nat} {fin isI : Bool} {sls : List (Option (Option Nat))} (g : sw_ok G cc own ret d mc ms ad0) (hd : decode cc pc = .ok (.getfield idx, 3)) (hf : sw_F own idx ci k fin isI) (hL : L[o]? = some (.inr (ci, sls))) (hs : sls[k]? = some (some (some r)))
    (kk : SW G ad L ν cs sl (pc + 3) lv (.ref r :: st) μ) : SW G ad L ν cs sl pc lv (.ref o :: st) μ := by
  obtain ⟨C, T, N, ty, hC, hk, hl, -, -⟩ := hf
  intro H locs ls hlv hP hD hS
  exact va_get g.1 g.2.1 g.2.2.2.2.2.1 hC.2.1 g.2.2.2.2.1 g.2.2.2.2.2.2.1 hP o (sw_w_at hL) hC.1 k hk (ref := C) (g.2.2.2.2.2.1 _ hl) (fun x h => by rw [hC.2.2.2.2 k hk] at h; exact h) (v := .ref (ad r)) (by rw [sw_f_get, hs]; simp) hd (kk H locs ls hlv hP hD hS)
theorem SW.putI {idx ci k o : Nat} {v : Int32} {sls : List (Option (Option Nat))} (g : sw_ok G cc own ret d mc ms ad0) (hd : decode cc pc = .ok (.putfield idx, 3)) (hf : sw_F own idx ci k false true) (hL : L[o]? = some (.inr (ci, sls))) (hs : sls[k]? = some none)
    (kk : SW G ad L ν cs sl (pc + 3) lv st (wr μ o k v)) : SW G ad L ν cs sl pc lv (.int v :: .ref o :: st) μ := by
  obtain ⟨C, T, N, ty, hC, hk, hl, hfin, hty⟩ := hf
  intro H locs ls hlv hP hD hS
  have hsl : k < sls.length := (List.getElem?_eq_some_iff.mp hs).1
  refine va_put g.1 g.2.1 g.2.2.2.2.2.1 hC.2.1 ty hC.2.2.1 hC.2.2.2.1 g.2.2.2.2.1 g.2.2.2.2.2.2.1 hP hD hS o (sw_w_at hL) hC.1 k hk (ref := C) (g.2.2.2.2.2.1 _ hl) (fun x h => by rw [hC.2.2.2.2 k hk] at h; exact h) hfin (ty := .int) (v := .int v) (by rw [hC.2.2.1 k hk, hty rfl]) (vp_nar_int v) rfl (by rw [sw_f_len]; exact hsl) hd (fun H1 locs1 hP1 hD1 hS1 => ?_)
  have e : (sw_w G.2.2.2.2.1 G.2.2.2.2.2 ad μ ν 0 L).set o (ad o, .inr (ci, (sw_f ad (μ o) 0 sls).set k (.int v))) = sw_w G.2.2.2.2.1 G.2.2.2.2.2 ad (wr μ o k v) ν 0 L := by
    rw [sw_f_set hs, ← wr_row μ o k v]
    exact sw_w_set (x := .inr (ci, sls)) hL (fun a h => wr_ne h) (fun a _ => rfl)
  rw [e] at hP1 hD1
  exact kk H1 locs1 ls hlv hP1 hD1 hS1
theorem SW.iaload {o n : Nat} {i : Int32} (g : sw_ok G cc own ret d mc ms ad0) (hd : decode cc pc = .ok (.iaload, 1)) (hL : L[o]? = some (.inl (false, n))) (hi : ¬ (i < 0 ∨ n ≤ i.toNatClampNeg))
    (kk : SW G ad L ν cs sl (pc + 1) lv (.int (μ o i.toNatClampNeg) :: st) μ) : SW G ad L ν cs sl pc lv (.int i :: .ref o :: st) μ :=
  fun H locs ls hlv hP hD hS => va_iald g.1 g.2.1 g.2.2.2.2.2.2.1 hP o 0 (sw_w_at hL) rfl hi hd (kk H locs ls hlv hP hD hS)
theorem SW.iastore {o n : Nat} {i v : Int32} (g : sw_ok G cc own ret d mc ms ad0) (hd : decode cc pc = .ok (.iastore, 1)) (hL : L[o]? = some (.inl (false, n))) (hi : ¬ (i < 0 ∨ n ≤ i.toNatClampNeg))
    (kk : SW G ad L ν cs sl (pc + 1) lv st (wr μ o i.toNatClampNeg v)) : SW G ad L ν cs sl pc lv (.int v :: .int i :: .ref o :: st) μ := by
  intro H locs ls hlv hP hD hS
  refine va_iast g.1 g.2.1 g.2.2.2.2.2.2.1 hP hD hS o 0 (sw_w_at hL) rfl hi hd (fun H1 locs1 hP1 hD1 hS1 => ?_)
  have e : (sw_w G.2.2.2.2.1 G.2.2.2.2.2 ad μ ν 0 L).set o (ad o, .inl (G.2.2.2.2.1, n, .inl (upd (μ o) i.toNatClampNeg v))) = sw_w G.2.2.2.2.1 G.2.2.2.2.2 ad (wr μ o i.toNatClampNeg v) ν 0 L := by
    rw [← wr_row μ o i.toNatClampNeg v]
    exact sw_w_set (x := .inl (false, n)) hL (fun a h => wr_ne h) (fun a _ => rfl)
  rw [e] at hP1 hD1
  exact kk H1 locs1 ls hlv hP1 hD1 hS1
theorem SW.alen {o n : Nat} {b : Bool} (g : sw_ok G cc own ret d mc ms ad0) (hd : decode cc pc = .ok (.arraylength, 1)) (hL : L[o]? = some (.inl (b, n)))
    (kk : SW G ad L ν cs sl (pc + 1) lv (.int (Int32.ofNat n) :: st) μ) : SW G ad L ν cs sl pc lv (.ref o :: st) μ := by
  intro H locs ls hlv hP hD hS
  cases b
  · exact va_alen g.1 g.2.1 g.2.2.2.2.2.2.1 hP o 0 (sw_w_at hL) (ty := .int) rfl rfl hd (kk H locs ls hlv hP hD hS)
  · exact va_alen g.1 g.2.1 g.2.2.2.2.2.2.1 hP o 1 (sw_w_at hL) (ty := .long) rfl rfl hd (kk H locs ls hlv hP hD hS)
theorem SW.laload {o n : Nat} {i : Int32} (g : sw_ok G cc own ret d mc ms ad0) (hd : decode cc pc = .ok (.laload, 1)) (hL : L[o]? = some (.inl (true, n))) (hi : ¬ (i < 0 ∨ n ≤ i.toNatClampNeg))
    (kk : SW G ad L ν cs sl (pc + 1) lv (.long (ν o i.toNatClampNeg) :: st) μ) : SW G ad L ν cs sl pc lv (.int i :: .ref o :: st) μ :=
  fun H locs ls hlv hP hD hS => va_lald g.1 g.2.1 g.2.2.2.2.2.2.1 hP o 1 (sw_w_at hL) rfl hi hd (kk H locs ls hlv hP hD hS)
theorem SW.lastore {o n : Nat} {i : Int32} {v : Int64} (g : sw_ok G cc own ret d mc ms ad0) (hd : decode cc pc = .ok (.lastore, 1)) (hL : L[o]? = some (.inl (true, n))) (hi : ¬ (i < 0 ∨ n ≤ i.toNatClampNeg))
    (kk : SW G ad L (wrL ν o i.toNatClampNeg v) cs sl (pc + 1) lv st μ) : SW G ad L ν cs sl pc lv (.long v :: .int i :: .ref o :: st) μ := by
  intro H locs ls hlv hP hD hS
  refine va_last g.1 g.2.1 g.2.2.2.2.2.2.1 hP hD hS o 1 (sw_w_at hL) rfl hi hd (fun H1 locs1 hP1 hD1 hS1 => ?_)
  have e : (sw_w G.2.2.2.2.1 G.2.2.2.2.2 ad μ ν 0 L).set o (ad o, .inl (G.2.2.2.2.2, n, .inr (.inl (vp_updL (ν o) i.toNatClampNeg v)))) = sw_w G.2.2.2.2.1 G.2.2.2.2.2 ad μ (wrL ν o i.toNatClampNeg v) 0 L := by
    rw [← wrL_row ν o i.toNatClampNeg v]
    exact sw_w_set (x := .inl (true, n)) hL (fun a _ => rfl) (fun a h => wrL_ne h)
  rw [e] at hP1 hD1
  exact kk H1 locs1 ls hlv hP1 hD1 hS1
/-! ends -/
theorem sw_end {o : Option Value} {P : (Nat → Nat) → Prop} {H : Heap} {locs : List Loc} (hp : P ad) (hP : va_P G.2.2.2.1 vwCl (sw_w G.2.2.2.2.1 G.2.2.2.2.2 ad μ ν 0 L) H) (hD : va_D G.2.2.1.2.2.2 (sw_w G.2.2.2.2.1 G.2.2.2.2.2 ad μ ν 0 L)) (hS : va_S G.2.2.1.2.2.2 G.2.1.1.heap H locs) :
    ∀ t : State, t.heap = H → G.2.1.1.WarmedH t.vm → sw_Q G.2.2.2.1 G.2.2.2.2.1 G.2.2.2.2.2 G.2.2.1.2.2.2 P o L μ ν G.2.1.2.2.1 G.2.1.1 (.returned o) t := by
  intro t ht hW
  exact ⟨rfl, ⟨ad, hp, by rw [ht]; exact hP, hD⟩, hS.F ht⟩
theorem SW.ireturn {v : Int32} {P : (Nat → Nat) → Prop} (g : sw_ok G cc own (some .int) d mc ms ad0) (ho : sw_out G mc ms P (.inl (some (.int v))) L μ ν) (hp : P ad) (hc : cs ≤ mc) (hs : sl ≤ ms) (hd : decode cc pc = .ok (.ireturn, 1)) : SW G ad L ν cs sl pc lv [.int v] μ := by
  intro H locs ls hlv hP hD hS
  refine W.widen hc hs ?_
  rcases ho with h | h <;> rw [h]
  · exact W.iret g.1 g.2.1 g.2.2.1 (sw_end hp hP hD hS) hS.2.2 hd g.2.2.2.1
  · exact vx_ret (W.iret g.1 g.2.1 g.2.2.1 (sw_end hp hP hD hS) hS.2.2 hd g.2.2.2.1)
theorem SW.zreturn {v : Int32} {P : (Nat → Nat) → Prop} (g : sw_ok G cc own (some .boolean) d mc ms ad0) (ho : sw_out G mc ms P (.inl (some (.int v))) L μ ν) (hp : P ad) (hc : cs ≤ mc) (hs : sl ≤ ms) (hv : narrow .boolean (.int v) = .int v) (hd : decode cc pc = .ok (.ireturn, 1)) : SW G ad L ν cs sl pc lv [.int v] μ := by
  intro H locs ls hlv hP hD hS
  refine W.widen hc hs ?_
  rcases ho with h | h <;> rw [h]
  · exact W.zret g.1 g.2.1 g.2.2.1 hv (sw_end hp hP hD hS) hS.2.2 hd g.2.2.2.1
  · exact vx_ret (W.zret g.1 g.2.1 g.2.2.1 hv (sw_end hp hP hD hS) hS.2.2 hd g.2.2.2.1)
theorem SW.lreturn {v : Int64} {P : (Nat → Nat) → Prop} (g : sw_ok G cc own (some .long) d mc ms ad0) (ho : sw_out G mc ms P (.inl (some (.long v))) L μ ν) (hp : P ad) (hc : cs ≤ mc) (hs : sl ≤ ms) (hd : decode cc pc = .ok (.lreturn, 1)) : SW G ad L ν cs sl pc lv [.long v] μ := by
  intro H locs ls hlv hP hD hS
  refine W.widen hc hs ?_
  rcases ho with h | h <;> rw [h]
  · exact W.lret g.1 g.2.1 g.2.2.1 (sw_end hp hP hD hS) hS.2.2 hd g.2.2.2.1
  · exact vx_ret (W.lret g.1 g.2.1 g.2.2.1 (sw_end hp hP hD hS) hS.2.2 hd g.2.2.2.1)
theorem SW.vreturn {P : (Nat → Nat) → Prop} (g : sw_ok G cc own none d mc ms ad0) (ho : sw_out G mc ms P (.inl none) L μ ν) (hp : P ad) (hc : cs ≤ mc) (hs : sl ≤ ms) (hd : decode cc pc = .ok (.return_, 1)) : SW G ad L ν cs sl pc lv [] μ := by
  intro H locs ls hlv hP hD hS
  refine W.widen hc hs ?_
  rcases ho with h | h <;> rw [h]
  · exact W.vret g.1 g.2.1 g.2.2.1 (sw_end hp hP hD hS) hS.2.2 hd g.2.2.2.1
  · exact vx_ret (W.vret g.1 g.2.1 g.2.2.1 (sw_end hp hP hD hS) hS.2.2 hd g.2.2.2.1)
end SWH
/-! contracts -/
def sw_pre (l : Launch) (D : va_G) (cI cL : ClassId) (ad : Nat → Nat) (av : List Value) (L : sw_L) (μ : sw_M) (ν : sw_N) (sz : Nat) : Array Value → State → Prop := va_Pc (av.map (sw_v ad)) (fun U => U.heap.size = sz ∧ sw_SI ad (va_A (sw_w cI cL ad μ ν 0 L) sz) U U.heap ∧ va_P D vwCl (sw_w cI cL ad μ ν 0 L) U.heap ∧ va_K D vwCl (sw_tys cI cL) U ∧ va_D (fun _ => True) (sw_w cI cL ad μ ν 0 L) ∧ l.stackTraces = false)
theorem sw_pre_blind {l : Launch} {D : va_G} {cI cL : ClassId} {ad : Nat → Nat} {av : List Value} {L : sw_L} {μ : sw_M} {ν : sw_N} {sz : Nat} : FrameBlind (sw_pre l D cI cL ad av L μ ν sz) := by
  intro a U g mk q
  obtain ⟨q0, q1, q2, qP, qK, qD, q3⟩ := q
  exact ⟨q0, q1, sw_SI.to (s := U) (U := U.calling g mk a) q2 va_S.rf (State.WarmedH.refl U) (fun _ h => h), qP, va_K.moved (u := U) (U := U.calling g mk a) (Vm.Alike.refl U.vm) qK, qD, q3⟩
/-- a method that returns o -/
def MetR (l : Launch) (D : va_G) (cI cL : ClassId) (y : MethodName) (cc : ByteArray) (nL : Nat) (ret : Option FieldType) (d mc ms : Nat) (P : (Nat → Nat) → Prop) (ad : Nat → Nat) (av : List Value) (L : sw_L) (μ : sw_M) (ν : sw_N) (o : Option Value) (L' : sw_L) (μ' : sw_M) (ν' : sw_N) : Prop :=
  ∀ sz : Nat, Met l y (.code y cc nL ret :: gtb) (rmO d mc ms) (sw_pre l D cI cL ad av L μ ν sz) (sw_Q D cI cL (va_A (sw_w cI cL ad μ ν 0 L) sz) P o L' μ' ν') mc ms (va_A (sw_w cI cL ad μ ν 0 L) sz)
def sw_ent : List Value → List (Option Value)
  | [] => []
  | v :: r => if v.category = 2 then some v :: none :: sw_ent r else some v :: sw_ent r
theorem sw_ent_args {ad : Nat → Nat} {n : Nat} : ∀ (av : List Value) (i j : Nat) (v : Value), (sw_ent av ++ List.replicate n none)[j]? = some (some v) → (i + j, sw_v ad v) ∈ lv_args i (av.map (sw_v ad))
  | [], i, j, v, h => by
    simp only [sw_ent, List.nil_append] at h
    rw [List.getElem?_replicate] at h
    split at h <;> cases h
  | x :: r, i, j, v, h => by
    simp only [sw_ent, List.map_cons, lv_args, sw_cat] at h ⊢
    by_cases hc : x.category = 2
    · rw [if_pos hc] at h ⊢
      cases j with
      | zero => simp at h; subst h; exact List.mem_cons_self
      | succ j =>
        cases j with
        | zero => simp at h
        | succ j =>
          refine List.mem_cons_of_mem _ ?_
          have := sw_ent_args (ad := ad) r (i + 2) j v (by simpa using h)
          rw [show i + (j + 1 + 1) = i + 2 + j by omega]
          exact this
    · rw [if_neg hc] at h ⊢
      cases j with
      | zero => simp at h; subst h; exact List.mem_cons_self
      | succ j =>
        refine List.mem_cons_of_mem _ ?_
        have := sw_ent_args (ad := ad) r (i + 1) j v (by simpa using h)
        rw [show i + (j + 1) = i + 1 + j by omega]
        exact this
theorem sw_ent_lv {ad : Nat → Nat} {av : List Value} {nL n : Nat} (h : (lg_sl (av.map (sw_v ad))).length ≤ nL) : sw_lv nL ad (sw_ent av ++ List.replicate n none) ((lg_sl (av.map (sw_v ad)) ++ List.replicate (nL - (lg_sl (av.map (sw_v ad))).length) Slot.unset).toArray) := by
  obtain ⟨h1, h2, h3⟩ := lv_entry (av.map (sw_v ad)) (n := nL) h
  refine ⟨h1, h2, fun i v hi => ?_⟩
  have := h3 _ (sw_ent_args (ad := ad) av 0 i v hi)
  simpa using this
theorem sw_ent_len {ad : Nat → Nat} : ∀ (av : List Value), (lg_sl (av.map (sw_v ad))).length = (sw_ent av).length
  | [] => rfl
  | x :: r => by
    have ih := sw_ent_len (ad := ad) r
    simp only [lg_sl, List.map_cons, List.flatMap_cons, List.length_append, sw_ent, sw_cat] at ih ⊢
    by_cases hc : x.category = 2
    · rw [if_pos hc, if_pos hc]; simp [ih]; omega
    · rw [if_neg hc, if_neg hc]; simp [ih]; omega
set_option maxHeartbeats 4000000 in
theorem MetR.of {l : Launch} {D : va_G} {cI cL : ClassId} {y : MethodName} {cc : ByteArray} {nL : Nat} {ret : Option FieldType} {d mc ms n : Nat} {P : (Nat → Nat) → Prop} {ad : Nat → Nat} {av : List Value} {L : sw_L} {μ : sw_M} {ν : sw_N} {o : Option Value} {L' : sw_L} {μ' : sw_M} {ν' : sw_N}
    (hy : plainName y.cls = true) (hlen : (sw_ent av).length ≤ nL)
    (body : ∀ G : sw_G, sw_ok G cc y.cls ret d mc ms ad → sw_out G mc ms P (.inl o) L' μ' ν' → G.2.2.1.2.1.maxLocals = nL → G.1.2.1 = l → G.2.2.2 = (D, cI, cL) → SW G ad L ν 0 0 0 (sw_ent av ++ List.replicate n none) [] μ) :
    MetR l D cI cL y cc nL ret d mc ms P ad av L μ ν o L' μ' ν' := by
  intro sz
  refine Met.ofW (cc := cc) (maxL := nL) (ret := ret) hy rfl ?_
  intro p e s m args below meth c s₁ B hml hv
  obtain ⟨rfl, hsz, hSI, hP, hK, hD0, hst⟩ := hv
  subst hsz
  have hts : ∀ w ∈ (Cond.code y cc nL ret :: gtb), w.before _ s = true := atoms_spec (ws := .code y cc nL ret :: gtb) B.pre
  have hown : s.vm.findClass y.cls = some m.cls := findClass_of_methodNamed B.named
  rw [lg_entry_eq]
  have hl := sw_ent_lv (ad := ad) (av := av) (n := n) (by rw [sw_ent_len]; exact hlen)
  have key := body ((p, l, e, rmO d mc ms), (s, m, (av.map (sw_v ad)).toArray, below), (meth, c, MQ below (sw_Q D cI cL (va_A (sw_w cI cL ad μ ν 0 L) s.heap.size) P o L' μ' ν') (av.map (sw_v ad)).toArray s mc ms (va_A (sw_w cI cL ad μ ν 0 L) s.heap.size), va_A (sw_w cI cL ad μ ν 0 L) s.heap.size), (D, cI, cL))
    ⟨B.exec, B.bytes, B.returns, B.notSynchronized, hown, fun w hw => hts w (List.mem_cons_of_mem _ hw), hK, fun q h => Or.inr h, ⟨Nat.le_refl _, Nat.le_refl _, Nat.le_refl _, Nat.le_refl _⟩, hSI, hst⟩ (Or.inl rfl) hml rfl rfl
  exact key s.heap [] _ (by rw [show (meth, c, MQ below (sw_Q D cI cL (va_A (sw_w cI cL ad μ ν 0 L) s.heap.size) P o L' μ' ν') (av.map (sw_v ad)).toArray s mc ms (va_A (sw_w cI cL ad μ ν 0 L) s.heap.size), va_A (sw_w cI cL ad μ ν 0 L) s.heap.size).2.1.maxLocals = nL from hml]; exact hl) hP hD0.self va_S.rf
