/-! THE CLAIM OUT OF ONE WALK OF THE LAW'S BODY. Your part is whole_start (and what it stands on); all else here is the same for every law, but numbers. -/
def R_law : String := "DeadWiresLaw"
def lw_P (b : Addr) (xs : List Int32) (args : Array Value) (s : State) : Prop := args = #[.ref b] ∧ s.IntsAt b xs ∧ xs.length ≤ 4096 ∧ (Jvm.Cond.and given_1 narrow_1).before args s = true
def lw_Q (_ : Array Value) (s : State) (o : Outcome) (t : State) : Prop := o = .returned (some (.int 1)) ∧ Framed s o t [] 601024 7293033
def lw_Z (below : List Frame) (a : Array Value) (s : State) : State → Prop := fun t => ∃ o, t.status = .running ∧ Ended t below o ∧ lw_Q a s o t
/-- the law's own end, with 1 on the stack, nothing written that was there before, its room as the claim has it -/
theorem lw_ret {p : Program} {l : Launch} {e : Env} {s : State} {m : MethodId} {below : List Frame} {meth : Method} {c : Code} {b : Nat} (hx : p.tables.exec = Jvm.exec) (hb : c.code = code) (hr : meth.sig.returnType = ret) (hlocks : meth.locks = false) {pc : Nat} {H : Heap} {ls : Array Slot} (hdg : decode code pc = .ok (.ireturn, 1)) : W p l e room_1 s m #[Value.ref b] below meth c H [] 601024 7293033 (lw_Z below #[Value.ref b] s) (F0 m pc ls [.int 1]) := by
  intro T hT X
  obtain ⟨fs, hret, hrun, hended, hW, hframe⟩ := X.leave (v := some (.int 1)) (hlocks := hlocks) (fun h => by rw [hr] at h; cases h)
  have hmeth' : T.vm.method? m = some meth := X.method'
  refine ⟨T.setFrames fs, ?_, .returned (some (.int 1)), hrun, hended, rfl, ⟨_, rfl⟩, hW, hframe⟩
  jvm_step X.here [X.here.top, hx, hb, hdg, hmeth', hr, ret, narrow_b1]
  (try refine ⟨rfl, ?_⟩); (try refine ⟨rfl, ?_⟩)
  first | (intro acts; rw [hret _ acts rfl rfl rfl]) | rw [hret _ _ rfl rfl rfl]
  exact Steps.refl _
/-- what holds at the law's entry: the machine, the code, the tables' words (any of lw_tbl by 'hts w (by decide +kernel)'), the script of L ints xs at the cell b, what the Statement gives of the start (any of its parts by flat_of_before) -/
def lw_At (p : Program) (s : State) (m : MethodId) (meth : Method) (c : Code) (b L : Nat) (xs : Nat → Int32) : Prop :=
  p.tables.exec = Jvm.exec ∧ c.code = code ∧ meth.sig.returnType = ret ∧ c.maxLocals = 8 ∧ s.vm.findClass R_law = some m.cls ∧ (∀ w ∈ lw_tbl, w.before #[Value.ref b] s = true) ∧ va_X b L xs s s.heap ∧ b < s.heap.size ∧ meth.locks = false ∧ (Jvm.Cond.and given_1 narrow_1).before #[Value.ref b] s = true
/-! ===== the world at the law's entry ===== -/
def prm : List (String × Nat) := [("DeadWires$Work", 97), ("DeadWires$Work", 75), ("DeadWires$Work", 82), ("DeadWires$Land", 85), ("DeadWires$Law", 106), ("DeadWires$Law", 83), ("DeadWires$Law", 104), ("DeadWires$Work", 55), ("DeadWires$Law", 98), ("DeadWires$Law", 92), ("DeadWires$Work", 80), ("DeadWires$Land", 108), ("DeadWires$Land", 113), ("DeadWires$Work", 73), ("DeadWires$Law", 100), ("DeadWires$Land", 103), ("DeadWires$Law", 102), ("DeadWires$Land", 98), ("DeadWires$Law", 108)]
def tmS (i : Nat) : Term := match prm[i]? with
  | some q => .string q.1 q.2
  | none => .string "" 0
def flS : List Cond := flatC (Jvm.Cond.and given_1 narrow_1)
theorem fs_ex : ∀ i, i < 19 → Cond.exactly (tmS i) "java/lang/String" ∈ flS := fun i hi => co_dec (N := 19) (P := fun i => Cond.exactly (tmS i) "java/lang/String" ∈ flS) (by decide +kernel) hi
theorem fs_co : ∀ i, i < 19 → Cond.eq (.field (tmS i) "java/lang/String" "coder" "B") (.int 0) ∈ flS := fun i hi => co_dec (N := 19) (P := fun i => Cond.eq (.field (tmS i) "java/lang/String" "coder" "B") (.int 0) ∈ flS) (by decide +kernel) hi
theorem fs_ar : ∀ i, i < 19 → Cond.arrayOf (.field (tmS i) "java/lang/String" "value" "[B") .byte ∈ flS := fun i hi => co_dec (N := 19) (P := fun i => Cond.arrayOf (.field (tmS i) "java/lang/String" "value" "[B") .byte ∈ flS) (by decide +kernel) hi
theorem fs_le : ∀ i, i < 19 → Cond.eq (.length (.field (tmS i) "java/lang/String" "value" "[B")) (.int (Int32.ofNat ((strB.map List.length).getD i 0))) ∈ flS := fun i hi => co_dec (N := 19) (P := fun i => Cond.eq (.length (.field (tmS i) "java/lang/String" "value" "[B")) (.int (Int32.ofNat ((strB.map List.length).getD i 0))) ∈ flS) (by decide +kernel) hi
theorem fs_el : ∀ i, i < 19 → ∀ j, j < (strB.map List.length).getD i 0 → Cond.eq (.elem (.field (tmS i) "java/lang/String" "value" "[B") (.int (Int32.ofNat j))) (.int ((strB.getD i []).getD j 0)) ∈ flS := fun i hi => co_dec (N := 19) (P := fun i => ∀ j, j < (strB.map List.length).getD i 0 → Cond.eq (.elem (.field (tmS i) "java/lang/String" "value" "[B") (.int (Int32.ofNat j))) (.int ((strB.getD i []).getD j 0)) ∈ flS) (by decide +kernel) hi
theorem fs_ln : ∀ i, i < 19 → (strB.map List.length).getD i 0 < 7 := by decide +kernel
theorem fs_inj : ∀ i, i < 19 → ∀ j, j < 19 → (strB.map List.length).getD i 0 = (strB.map List.length).getD j 0 → (∀ x, x < (strB.map List.length).getD i 0 → (strB.getD i []).getD x 0 = (strB.getD j []).getD x 0) → i = j := by decide +kernel
def refsS : List (String × Nat × Nat) := [("DeadWires$Land", 85, 3), ("DeadWires$Land", 98, 17), ("DeadWires$Land", 103, 15), ("DeadWires$Land", 108, 11), ("DeadWires$Land", 113, 12), ("DeadWires$Law", 83, 5), ("DeadWires$Law", 92, 9), ("DeadWires$Law", 98, 8), ("DeadWires$Law", 100, 14), ("DeadWires$Law", 102, 16), ("DeadWires$Law", 104, 6), ("DeadWires$Law", 106, 4), ("DeadWires$Law", 108, 18), ("DeadWires$Law", 110, 11), ("DeadWires$Work", 55, 7), ("DeadWires$Work", 73, 13), ("DeadWires$Work", 75, 1), ("DeadWires$Work", 80, 10), ("DeadWires$Work", 82, 2), ("DeadWires$Work", 95, 4), ("DeadWires$Work", 97, 0), ("DeadWiresModel", 191, 3), ("DeadWiresModel", 196, 17), ("DeadWiresModel", 197, 15), ("DeadWiresModel", 198, 11), ("DeadWiresModel", 199, 12), ("DeadWiresModel", 266, 5), ("DeadWiresModel", 271, 9), ("DeadWiresModel", 255, 8), ("DeadWiresModel", 257, 14), ("DeadWiresModel", 259, 16), ("DeadWiresModel", 261, 6), ("DeadWiresModel", 263, 4), ("DeadWiresModel", 265, 18), ("DeadWiresModel", 290, 7), ("DeadWiresModel", 292, 13), ("DeadWiresModel", 294, 1), ("DeadWiresModel", 296, 10), ("DeadWiresModel", 298, 2), ("DeadWiresModel", 300, 0)]
theorem rs_all : tables_1.all (fun w => match w with | .stringRef a b c => refsS.any (fun r => r.1 == a && r.2.1 == b && strT[r.2.2]? == some c) | _ => true) = true := by decide +kernel
theorem rs_eq : refsS.all (fun r => decide (r.2.2 < 19) && (decide (tmS r.2.2 = .string r.1 r.2.1) || decide (Cond.eq (tmS r.2.2) (.string r.1 r.2.1) ∈ flS))) = true := by decide +kernel
theorem rs_nd : ∀ i, i < 19 → ∀ j, j < 19 → strT[i]? = strT[j]? → i = j := by decide +kernel
theorem sw_strs {args : Array Value} {s : State} {A : Nat → Prop} (hfl : ∀ w ∈ flS, w.before args s = true) (hA : ∀ a : Nat, a < s.heap.size → ¬ A a) :
    ∃ adK adV : Nat → Nat, vk_S 19 (strB.map List.length) strB adK adV A s s.heap ∧ ∀ i : Nat, i < 19 → (tmS i).eval args s none [] s = some (.ref (adK i)) := by
  have h0 : ∀ i : Nat, ∃ q : Nat × Nat, i < 19 → (tmS i).eval args s none [] s = some (.ref q.1) ∧ va_O "java/lang/String" q.1 A s s.heap ∧ va_OF "java/lang/String" "coder" "B" (.int 0) q.1 A s s.heap ∧ va_OF "java/lang/String" "value" "[B" (.ref q.2) q.1 A s s.heap ∧ va_T .byte q.2 ((strB.map List.length).getD i 0) (fun j => .int ((strB.getD i []).getD j 0)) A s s.heap := by
    intro i
    by_cases hi : i < 19
    · obtain ⟨a, c, cA, kA, q1, q2, q3, q4, q5, q6, -⟩ := Cond.exactly_spec (args := args) (first := s) (o := none) (s := s) (idx := []) (t := tmS i) (cls := "java/lang/String") (hfl _ (fs_ex i hi))
      have hl7 := fs_ln i hi
      obtain ⟨t, ht, hT⟩ := va_Tof (N := (strB.map List.length).getD i 0) (f := fun j => .int ((strB.getD i []).getD j 0)) (A := A) (by omega) (hfl _ (fs_ar i hi)) (va_eqt (hfl _ (fs_le i hi))) (fun j hj => va_eqt (hfl _ (fs_el i hi j hj))) hA
      exact ⟨(a, t), fun _ => ⟨q1, ⟨cA, q3, q5, by rw [q6]; exact q2, hA a (Array.getElem?_eq_some_iff.mp q3).1⟩, vk_OFof q1 (va_eqt (hfl _ (fs_co i hi))) hA, vk_OFof q1 ht hA, hT⟩⟩
    · exact ⟨(0, 0), fun h => absurd h hi⟩
  obtain ⟨ad, had⟩ := Classical.axiomOfChoice h0
  refine ⟨fun i => (ad i).1, fun i => (ad i).2, ⟨fun i hi => (had i hi).2, fun i j hi hj e => ?_⟩, fun i hi => (had i hi).1⟩
  obtain ⟨-, -, -, hv, ht⟩ := had i hi
  obtain ⟨-, -, -, hv2, ht2⟩ := had j hj
  obtain ⟨cf, k, fi, f, cell, h1, h2, h3, h4, h5, h6⟩ := hv
  obtain ⟨cf', k', fi', f', cell', h1', h2', h3', h4', h5', h6'⟩ := hv2
  have e' : (ad i).1 = (ad j).1 := e
  cases Option.some.inj (h1.symm.trans h1')
  rw [e'] at h3
  cases Option.some.inj (h3.symm.trans h3')
  have ev : (ad i).2 = (ad j).2 := by
    have := Option.some.inj (h5.symm.trans h5')
    injection this
  obtain ⟨c1, g1, -, -, g4, g5, g6, -⟩ := ht
  obtain ⟨c2, k1, -, -, k4, k5, k6, -⟩ := ht2
  rw [ev] at g1
  cases Option.some.inj (g1.symm.trans k1)
  have l1 := fs_ln i hi
  have l2 := fs_ln j hj
  have el : (strB.map List.length).getD i 0 = (strB.map List.length).getD j 0 := (nI_eq (by omega) (by omega)).mp (g5.symm.trans k5)
  refine fs_inj i hi j hj el (fun x hx => ?_)
  have := Option.some.inj ((g6 x hx).symm.trans (k6 x (by omega)))
  injection this
theorem sw_ns_on {w : Cond} (h : sw_ns w = true) : w.onTables = true := by
  cases w <;> first | rfl | (simp [sw_ns] at h; done)
theorem lw_in {w : Cond} (h : w ∈ tables_1) : w ∈ lw_tbl := List.mem_append_right _ h
set_option maxHeartbeats 4000000 in
theorem sw_startSI {s : State} {b : Nat} (hts : ∀ w ∈ lw_tbl, w.before #[Value.ref b] s = true) (hfl : ∀ w ∈ flS, w.before #[Value.ref b] s = true) : ∃ ad : Nat → Nat, ad 5000 = b ∧ sw_SI ad (fun q => s.heap.size ≤ q) s s.heap := by
  have hA : ∀ a : Nat, a < s.heap.size → ¬ (fun q : Nat => s.heap.size ≤ q) a := fun a h => Nat.not_le.mpr h
  obtain ⟨adK, adV, hS, hE⟩ := sw_strs (A := fun q => s.heap.size ≤ q) hfl hA
  have hZ := va_Zqof (A := fun q => s.heap.size ≤ q) (hts _ (lw_in (tbm_4 (List.mem_of_getElem? (i := 18) rfl)))) (hts _ (lw_in (tbm_1 (List.mem_of_getElem? (i := 21) rfl)))) (hfl (.isRef (.static "jdk/internal/util/Preconditions" "SIOOBE_FORMATTER" "Ljava/util/function/BiFunction;")) (by decide +kernel)) hA
  obtain ⟨t3, h3⟩ : ∃ t3 : Nat, va_Z "jdk/internal/util/Preconditions" "SIOOBE_FORMATTER" "Ljava/util/function/BiFunction;" .null (fun q => s.heap.size ≤ q) s s.heap ∨ va_Z "jdk/internal/util/Preconditions" "SIOOBE_FORMATTER" "Ljava/util/function/BiFunction;" (.ref t3) (fun q => s.heap.size ≤ q) s s.heap := by
    rcases hZ with h | ⟨t, h⟩
    · exact ⟨0, Or.inl h⟩
    · exact ⟨t, Or.inr h⟩
  refine ⟨fun k => if k = 5000 then b else if k = 3000 then t3 else if 2000 ≤ k then adV (k - 2000) else adK (k - 1000), rfl, ?_, ?_, ?_, ?_, ?_, ?_, ?_, ?_⟩
  · exact vx_Zqof (hts _ (lw_in (tbm_3 (List.mem_of_getElem? (i := 170) rfl)))) (hts _ (lw_in (tbm_1 (List.mem_of_getElem? (i := 15) rfl)))) (hfl (.isRef (.static Bundle.tN "UNASSIGNED_STACK" Bundle.steD)) (by decide +kernel)) hA
  · exact vx_Zqof (hts _ (lw_in (tbm_3 (List.mem_of_getElem? (i := 172) rfl)))) (hts _ (lw_in (tbm_1 (List.mem_of_getElem? (i := 15) rfl)))) (hfl (.isRef (.static Bundle.tN "SUPPRESSED_SENTINEL" Bundle.listD)) (by decide +kernel)) hA
  · exact h3
  · refine ⟨fun i hi => ?_, fun i j hi hj e => ?_⟩
    · have hi' : i < 19 := hi
      have q := hS.1 i hi'
      simp only [show ¬ (1000 + i = 5000) by omega, show ¬ (1000 + i = 3000) by omega, show ¬ (2000 ≤ 1000 + i) by omega, show ¬ (2000 + i = 5000) by omega, show ¬ (2000 + i = 3000) by omega, show 2000 ≤ 2000 + i by omega, if_true, if_false, Nat.add_sub_cancel_left]
      exact q
    · have hi' : i < 19 := hi
      have hj' : j < 19 := hj
      simp only [show ¬ (1000 + i = 5000) by omega, show ¬ (1000 + i = 3000) by omega, show ¬ (2000 ≤ 1000 + i) by omega, show ¬ (1000 + j = 5000) by omega, show ¬ (1000 + j = 3000) by omega, show ¬ (2000 ≤ 1000 + j) by omega, if_false, Nat.add_sub_cancel_left] at e
      exact hS.2 i j hi' hj' e
  · exact va_Zof (hts _ (lw_in (tbm_4 (List.mem_of_getElem? (i := 1) rfl)))) (hts _ (lw_in (tbm_1 (List.mem_of_getElem? (i := 19) rfl)))) (va_eqi (hfl (.eq (.static "java/lang/String" "COMPACT_STRINGS" "Z") (.int 1)) (by decide +kernel))) hA
  · exact fun w hw hn => va_Nw.of (sw_ns_on hn) (hts w (lw_in hw))
  · intro own k tx j hw hj
    have h1 := List.all_eq_true.mp rs_all _ hw
    obtain ⟨r, hr, h2⟩ := List.any_eq_true.mp h1
    simp only [Bool.and_eq_true, beq_iff_eq] at h2
    obtain ⟨⟨e1, e2⟩, e3⟩ := h2
    have h4 := List.all_eq_true.mp rs_eq r hr
    simp only [Bool.and_eq_true, Bool.or_eq_true, decide_eq_true_eq] at h4
    have hj19 : j < 19 := (List.getElem?_eq_some_iff.mp hj).1
    have ej : r.2.2 = j := rs_nd _ h4.1 _ hj19 (e3.trans hj.symm)
    rw [ej, e1, e2] at h4
    have ev : (Term.string own k).eval #[Value.ref b] s none [] s = some (.ref (adK j)) := by
      rcases h4.2 with h | h
      · rw [← h]; exact hE j hj19
      · exact va_eqR (hfl _ h) (hE j hj19)
    simp only [show ¬ (1000 + j = 5000) by omega, show ¬ (1000 + j = 3000) by omega, show ¬ (2000 ≤ 1000 + j) by omega, if_false, Nat.add_sub_cancel_left]
    exact vk_R.of (hts _ (lw_in hw)) ev
  · exact va_Nc.of (hfl (.not (.castable "java/lang/IllegalArgumentException" "java/util/NoSuchElementException")) (by decide +kernel))
theorem gtb_tbl : ∀ w ∈ gtb, w ∈ lw_tbl := fun _ h => (List.mem_filter.mp h).1
theorem sw_known {s : State} {b : Nat} (hts : ∀ w ∈ lw_tbl, w.before #[Value.ref b] s = true) {ci n : Nat} {C : String} {T : u_T} {N : Nat} {ty : Nat → FieldType} (h : sw_C ci C T N ty) (hi : Cond.instantiable C n ∈ gtb) : ∃ (cC : ClassId) (iS : Nat → Nat), u_Kn s C T N cC iS :=
  u_known (C := C) (T := T) (N := N) (n := n) hts (fun w hw => gtb_tbl w (h.2.1 w hw)) (hts _ (gtb_tbl _ hi))
set_option maxHeartbeats 4000000 in
set_option maxRecDepth 100000 in
theorem sw_worlds {s : State} {b : Nat} (hts : ∀ w ∈ lw_tbl, w.before #[Value.ref b] s = true) : ∃ (D : va_G) (cI cL : ClassId), va_K D vwCl (sw_tys cI cL) s := by
  obtain ⟨c0, i0, hk0⟩ := sw_known hts cl_0 (n := 4) (gtb_of (tbm_2 (List.mem_of_getElem? (i := 148) rfl)) rfl)
  obtain ⟨c1, i1, hk1⟩ := sw_known hts cl_1 (n := 3) (gtb_of (tbm_1 (List.mem_of_getElem? (i := 189) rfl)) rfl)
  obtain ⟨c2, i2, hk2⟩ := sw_known hts cl_2 (n := 11) (gtb_of (tbm_1 (List.mem_of_getElem? (i := 209) rfl)) rfl)
  obtain ⟨c3, i3, hk3⟩ := sw_known hts cl_3 (n := 8) (gtb_of (tbm_2 (List.mem_of_getElem? (i := 114) rfl)) rfl)
  obtain ⟨c4, i4, hk4⟩ := sw_known hts cl_4 (n := 12) (gtb_of (tbm_1 (List.mem_of_getElem? (i := 78) rfl)) rfl)
  obtain ⟨c5, i5, hk5⟩ := sw_known hts cl_5 (n := 6) (gtb_of (tbm_1 (List.mem_of_getElem? (i := 150) rfl)) rfl)
  obtain ⟨c6, i6, hk6⟩ := sw_known hts cl_6 (n := 6) (gtb_of (tbm_2 (List.mem_of_getElem? (i := 71) rfl)) rfl)
  obtain ⟨c7, i7, hk7⟩ := sw_known hts cl_7 (n := 9) (gtb_of (tbm_1 (List.mem_of_getElem? (i := 34) rfl)) rfl)
  obtain ⟨c8, i8, hk8⟩ := sw_known hts cl_8 (n := 3) (gtb_of (tbm_2 (List.mem_of_getElem? (i := 98) rfl)) rfl)
  obtain ⟨c9, i9, hk9⟩ := sw_known hts cl_9 (n := 9) (gtb_of (tbm_2 (List.mem_of_getElem? (i := 35) rfl)) rfl)
  obtain ⟨c10, i10, hk10⟩ := sw_known hts cl_10 (n := 15) (gtb_of (tbm_1 (List.mem_of_getElem? (i := 26) rfl)) rfl)
  obtain ⟨c11, i11, hk11⟩ := sw_known hts cl_11 (n := 51) (gtb_of (tbm_6 (List.mem_of_getElem? (i := 225) rfl)) rfl)
  obtain ⟨cI, kI, compI, a1, a2, a3⟩ := Cond.arrayClass_spec (hts _ (lw_in (tbm_1 (List.mem_of_getElem? (i := 76) rfl))))
  obtain ⟨cL, kL, compL, b1, b2, b3⟩ := Cond.arrayClass_spec (hts _ (lw_in (tbm_9 (List.mem_of_getElem? (i := 137) rfl))))
  refine ⟨(fun k => match k with | 0 => c0 | 1 => c1 | 2 => c2 | 3 => c3 | 4 => c4 | 5 => c5 | 6 => c6 | 7 => c7 | 8 => c8 | 9 => c9 | 10 => c10 | _ => c11, fun k => match k with | 0 => i0 | 1 => i1 | 2 => i2 | 3 => i3 | 4 => i4 | 5 => i5 | 6 => i6 | 7 => i7 | 8 => i8 | 9 => i9 | 10 => i10 | _ => i11), cI, cL, ?_, ?_⟩
  · intro k q hq
    match k, hq with
    | 0, hq => cases hq; exact hk0
    | 1, hq => cases hq; exact hk1
    | 2, hq => cases hq; exact hk2
    | 3, hq => cases hq; exact hk3
    | 4, hq => cases hq; exact hk4
    | 5, hq => cases hq; exact hk5
    | 6, hq => cases hq; exact hk6
    | 7, hq => cases hq; exact hk7
    | 8, hq => cases hq; exact hk8
    | 9, hq => cases hq; exact hk9
    | 10, hq => cases hq; exact hk10
    | 11, hq => cases hq; exact hk11
    | k + 12, hq => simp [vwCl] at hq
  · intro k q hq
    match k, hq with
    | 0, hq => cases hq; exact ⟨fun n z => ⟨fun k h => (by cases h), kI, a2, compI, a3⟩, a1⟩
    | 1, hq => cases hq; exact ⟨fun n z => ⟨fun k h => (by cases h), kL, b2, compL, b3⟩, b1⟩
    | k + 2, hq => simp [sw_tys] at hq
set_option maxHeartbeats 8000000 in
set_option maxRecDepth 100000 in
/-- the claim's walk out of what is left: LawTrue -/
theorem start_of (hLT : LawTrue) {p : Program} {e : Env} {s : State} {m : MethodId} {below : List Frame} {meth : Method} {c : Code} (l : Launch) (hflags : l.flags = flags0) {b L : Nat} {xs : Nat → Int32} (hL : L ≤ 4096) (C0 : lw_At p s m meth c b L xs) : W p l e room_1 s m #[Value.ref b] below meth c s.heap [] 0 0 (lw_Z below #[Value.ref b] s) (entryFrame m ([Value.ref b] : List Value).toArray 8) := by
  obtain ⟨N, Inv, ⟨r1, r2, hr1, hr2, hinv⟩, hI⟩ := hLT
  obtain ⟨hx, hb, hr, hml, hown, hts, hX, hbl, hlocks, hgv⟩ := id C0
  have hfl : ∀ w ∈ flS, w.before #[Value.ref b] s = true := flat_of_before _ hgv
  obtain ⟨D, cI, cL, hK⟩ := sw_worlds hts
  obtain ⟨ad, h5, hSI⟩ := sw_startSI hts hfl
  have hst : l.stackTraces = false := by
    rw [Launch.stackTraces, hflags]
    decide
  obtain ⟨G, hG⟩ : ∃ G : sw_G, G = ((p, l, e, room_1), (s, m, #[Value.ref b], below), (meth, c, lw_Z below #[Value.ref b] s, fun q => s.heap.size ≤ q), (D, cI, cL)) := ⟨_, rfl⟩
  have g : sw_ok G cL_law_ "DeadWiresLaw" (some .boolean) 1300 601024 7293033 ad := by
    subst hG
    exact ⟨hx, hb, hr, hlocks, hown, fun w hw => hts w (gtb_tbl w hw), hK, fun q h => h, ⟨Nat.le_of_ble_eq_true rfl, Nat.le_of_ble_eq_true rfl, Nat.le_of_ble_eq_true rfl, Nat.le_of_ble_eq_true rfl⟩, hSI, hst⟩
  have hm : G.2.2.1.2.1.maxLocals = 8 := by subst hG; exact hml
  have hX' : va_X b L xs G.2.1.1 G.2.1.1.heap := by subst hG; exact hX
  have hbl' : b < G.2.1.1.heap.size := by subst hG; exact hbl
  have hbA : ¬ G.2.2.1.2.2.2 b := by subst hG; exact Nat.not_le.mpr hbl
  have hfin : ∀ (ad2 : Nat → Nat) (μ : sw_M) (ν : sw_N) (cs sl : Nat) (lv : List (Option Value)), sw_ok G cL_law_ "DeadWiresLaw" (some .boolean) 1300 601024 7293033 ad2 → cs ≤ 601024 → sl ≤ 7293033 → SW G ad2 lay0 ν cs sl 2579 lv [] μ := by
    intro ad2 μ ν cs sl lv g2 h1 h2
    refine SW.iconst (pc := 2579) (v := 1) g2 (dt dtl_39 27 rfl) ki_1 ?_
    intro H locs ls hlv hP hD hS
    subst hG
    refine va_forget (fun q hq => hS.2.2 q hq) ?_
    refine W.widen h1 h2 ?_
    exact lw_ret hx hb hr hlocks (dt dtl_39 28 rfl)
  have key : SW G ad [] (fun _ _ => 0) 0 0 0 [some (.ref 5000), none, none, none, none, none, none, none] [] (fun _ _ => 0) := by
    refine SW.new (pc := 0) (n := 0) (sls := [some none, some none, some none, some none, some none, some none, some none, some none, some none, some none, some none, some none, some none, none, none]) g (dt dtl_0 0 rfl) cl_10 (gtb_of (tbm_1 (List.mem_of_getElem? (i := 25) rfl)) rfl) (gtb_of (tbm_1 (List.mem_of_getElem? (i := 26) rfl)) rfl) (gtb_of (tbm_1 (List.mem_of_getElem? (i := 1) rfl)) rfl) df_10 rfl rfl (Nat.le_of_ble_eq_true rfl) rfl rfl rfl (Nat.le_of_ble_eq_true rfl) (Nat.le_of_ble_eq_true rfl) (fun ad1 hx1 => ?_)
    have h51 : ad1 5000 = b := (hx1 5000 (Or.inr (Nat.le_of_ble_eq_true rfl))).trans h5
    have g := sw_ok_ext g hx1
    refine SW.dup (pc := 3) g (dt dtl_0 1 rfl) rfl ?_
    refine SW.callI (pc := 4) (n := 1) g (dt dtl_0 2 rfl) (mtc_f_x_init _ _ _ _ _ _ N _ r1 hr1) me_X10_init mi_X10_init rfl (Or.inl (gtb_of (tbm_1 (List.mem_of_getElem? (i := 27) rfl)) rfl)) rfl (Nat.le_of_ble_eq_true rfl) (Nat.le_of_ble_eq_true rfl) (Nat.le_of_ble_eq_true rfl) (Nat.le_of_ble_eq_true rfl) rfl rfl rfl (fun ad2 hx2 => ?_)
    have h52 : ad2 5000 = b := (hx2 5000 (Or.inr (Nat.le_of_ble_eq_true rfl))).trans h51
    have g := sw_ok_ext g hx2
    refine SW.astore_n (pc := 7) g (dt dtl_0 3 rfl) (sw_ltm hm (Nat.le_of_ble_eq_true rfl)) rfl ?_
    refine SW.new (pc := 8) (n := 63) (sls := [none, some none, none, none, none, none, none, none, none, some none, some none, some none, some none, some none, some none, some none, none, none, none, none, none, none, none, none, none, some none, some none, some none, some none, some none, none, none, some none, some none, some none, none, none, none, none, none, none, some none, some none, some none, some none, some none, none, some none, none, some none, none]) g (dt dtl_0 4 rfl) cl_11 (gtb_of (tbm_6 (List.mem_of_getElem? (i := 224) rfl)) rfl) (gtb_of (tbm_6 (List.mem_of_getElem? (i := 225) rfl)) rfl) (gtb_of (tbm_1 (List.mem_of_getElem? (i := 14) rfl)) rfl) df_11 rfl rfl (Nat.le_of_ble_eq_true rfl) rfl rfl rfl (Nat.le_of_ble_eq_true rfl) (Nat.le_of_ble_eq_true rfl) (fun ad3 hx3 => ?_)
    have h53 : ad3 5000 = b := (hx3 5000 (Or.inr (Nat.le_of_ble_eq_true rfl))).trans h52
    have g := sw_ok_ext g hx3
    refine SW.dup (pc := 11) g (dt dtl_0 5 rfl) rfl ?_
    refine SW.callI (pc := 12) (n := 64) g (dt dtl_0 6 rfl) (mtc_f_m_init _ _ _ _ _ _ N _ r2 hr2) me_X11_init mi_X11_init rfl (Or.inl (gtb_of (tbm_6 (List.mem_of_getElem? (i := 226) rfl)) rfl)) rfl (Nat.le_of_ble_eq_true rfl) (Nat.le_of_ble_eq_true rfl) (Nat.le_of_ble_eq_true rfl) (Nat.le_of_ble_eq_true rfl) rfl rfl rfl (fun ad4 hx4 => ?_)
    have h54 : ad4 5000 = b := (hx4 5000 (Or.inr (Nat.le_of_ble_eq_true rfl))).trans h53
    have g := sw_ok_ext g hx4
    refine SW.astore_n (pc := 15) g (dt dtl_0 7 rfl) (sw_ltm hm (Nat.le_of_ble_eq_true rfl)) rfl ?_
    refine SW.iconst (pc := 16) (v := 1) g (dt dtl_0 8 rfl) ki_1 ?_
    refine SW.newL (pc := 17) (n := 87) (N := 1) g (dt dtl_0 9 rfl) (gtb_of (tbm_9 (List.mem_of_getElem? (i := 137) rfl)) rfl) (by decide) (by decide) (Nat.le_of_ble_eq_true rfl) rfl (Nat.le_of_ble_eq_true rfl) rfl rfl rfl (Nat.le_of_ble_eq_true rfl) (Nat.le_of_ble_eq_true rfl) (fun ad5 hx5 => ?_)
    have h55 : ad5 5000 = b := (hx5 5000 (Or.inr (Nat.le_of_ble_eq_true rfl))).trans h54
    have g := sw_ok_ext g hx5
    refine SW.astore_n (pc := 19) g (dt dtl_0 10 rfl) (sw_ltm hm (Nat.le_of_ble_eq_true rfl)) rfl ?_
    refine SW.iconst (pc := 20) (v := 0) g (dt dtl_0 11 rfl) ki_0 ?_
    refine SW.istore (pc := 21) g (dt dtl_0 12 rfl) (sw_ltm hm (Nat.le_of_ble_eq_true rfl)) rfl ?_
    exact law_loop g hm hX' hbl' hbA h55 hL hI (fun μ ν cs sl lv q1 q2 => hfin ad5 μ ν cs sl lv g q1 q2) (L + 1) 0 r2 _ _ _ (by omega) (by omega) (Nat.le_of_ble_eq_true rfl) (Nat.le_of_ble_eq_true rfl) hinv
  have hl := sw_ent_lv (ad := ad) (av := [.ref 5000]) (nL := 8) (n := 7) (Nat.le_of_ble_eq_true rfl)
  rw [lg_entry_eq]
  subst hG
  have h9 := key s.heap [] _ (show sw_lv c.maxLocals ad _ _ by rw [hml]; exact hl) (fun k q h => by simp [sw_w] at h) ⟨fun i j p q h => by simp [sw_w] at h, fun k q h => by simp [sw_w] at h⟩ va_S.rf
  simp only [List.map_cons, List.map_nil, sw_v, h5] at h9
  exact h9
