/-! ===== the judgement SW: a frame of the small machine comes to what its method owes ===== -/
def sw_ns : Cond → Bool
  | .methodLinkNest .. => true
  | .fieldLinkNest .. => true
  | .castable .. => true
  | .declares .. => true
  | _ => false
def gtb : List Cond := lw_tbl.filter goodWord
theorem gtb_good : ∀ w ∈ gtb, goodWord w = true := fun _ h => (List.mem_filter.mp h).2
theorem gtb_of {w : Cond} (h : w ∈ tables_1) (hg : goodWord w = true) : w ∈ gtb := List.mem_filter.mpr ⟨List.mem_append_right _ h, hg⟩
theorem gtb_sel {w : Cond} (h : w ∈ k2_sels lw_privs) (hg : goodWord w = true) : w ∈ gtb := List.mem_filter.mpr ⟨List.mem_append_left _ h, hg⟩
def sw_tys (cI cL : ClassId) : List (ClassId × FieldType) := [(cI, .int), (cL, .long)]
/-- the texts of the claim's String constants; the j-th lies at the place 1000 + j, its bytes at 2000 + j -/
def strT : List String := ["again", "cross", "cut", "fields", "hour", "least", "left", "lift", "load", "most", "move", "person", "pliers", "set", "strong", "thing", "tired", "wire", "wires"]
def strB : List (List Int32) := strT.map (fun t => t.toList.map (fun ch => Int32.ofNat ch.toNat))
/-- what holds all the while outside the world: statics, String constants, nest links -/
def sw_SI (ad : Nat → Nat) (A : Nat → Prop) (U : State) (H : Heap) : Prop :=
  vx_Zq Bundle.tN "UNASSIGNED_STACK" Bundle.steD A U H ∧ vx_Zq Bundle.tN "SUPPRESSED_SENTINEL" Bundle.listD A U H ∧
  (va_Z "jdk/internal/util/Preconditions" "SIOOBE_FORMATTER" "Ljava/util/function/BiFunction;" .null A U H ∨ va_Z "jdk/internal/util/Preconditions" "SIOOBE_FORMATTER" "Ljava/util/function/BiFunction;" (.ref (ad 3000)) A U H) ∧
  vk_S strT.length (strB.map List.length) strB (fun j => ad (1000 + j)) (fun j => ad (2000 + j)) A U H ∧ va_Z "java/lang/String" "COMPACT_STRINGS" "Z" (.int 1) A U H ∧
  (∀ w ∈ tables_1, sw_ns w = true → va_Nw w U) ∧ (∀ (own : String) (k : Nat) (tx : String) (j : Nat), Cond.stringRef own k tx ∈ tables_1 → strT[j]? = some tx → vk_R own k tx (ad (1000 + j)) U) ∧
  va_Nc "java/lang/IllegalArgumentException" "java/util/NoSuchElementException" U
theorem sw_ns_warm {w : Cond} {s U : State} (hW : s.WarmedH U.vm) (hw : sw_ns w = true) (h : va_Nw w s) : va_Nw w U := by
  cases w <;> first | (simp [sw_ns] at hw; done) | exact va_Nw.warmM hW h | exact va_Nw.warmF hW h | exact va_Nw.warmC hW h | exact va_Nw.warmD hW h
theorem sw_SI.to {ad : Nat → Nat} {A B : Nat → Prop} {s U : State} {H : Heap} {locs : List Loc} (h : sw_SI ad A s s.heap) (hS : va_S A s.heap H locs) (hW : s.WarmedH U.vm) (hAB : ∀ q, B q → A q) : sw_SI ad B U H := by
  obtain ⟨h1, h2, h3, h4, h5, h6, h7, h8⟩ := h
  exact ⟨((h1.kept hS.2.1).narrow hAB).moved hW.alike, ((h2.kept hS.2.1).narrow hAB).moved hW.alike, h3.imp (fun h => ((h.kept hS.2.1).narrow hAB).moved hW.alike) (fun h => ((h.kept hS.2.1).narrow hAB).moved hW.alike), ((h4.kept hS.2.1).narrow hAB).moved hW.alike, ((h5.kept hS.2.1).narrow hAB).moved hW.alike,
    fun w hw hn => sw_ns_warm hW hn (h6 w hw hn), fun own k tx j hw hj => vk_R.warm hW (h7 own k tx j hw hj), h8.moved hW.alike⟩
abbrev sw_G : Type := (Program × Launch × Env × Room) × (State × MethodId × Array Value × List Frame) × (Method × Code × (State → Prop) × (Nat → Prop)) × (va_G × ClassId × ClassId)
def SW (G : sw_G) (ad : Nat → Nat) (L : sw_L) (ν : sw_N) (cs sl pc : Nat) (lv : List (Option Value)) (st : List Value) (μ : sw_M) : Prop :=
  ∀ (H : Heap) (locs : List Loc) (ls : Array Slot), sw_lv G.2.2.1.2.1.maxLocals ad lv ls → va_P G.2.2.2.1 vwCl (sw_w G.2.2.2.2.1 G.2.2.2.2.2 ad μ ν 0 L) H → va_D G.2.2.1.2.2.2 (sw_w G.2.2.2.2.1 G.2.2.2.2.2 ad μ ν 0 L) → va_S G.2.2.1.2.2.2 G.2.1.1.heap H locs →
    W G.1.1 G.1.2.1 G.1.2.2.1 G.1.2.2.2 G.2.1.1 G.2.1.2.1 G.2.1.2.2.1 G.2.1.2.2.2 G.2.2.1.1 G.2.2.1.2.1 H locs cs sl G.2.2.1.2.2.1 (F0 G.2.1.2.1 pc ls (st.map (sw_v ad)))
def rmO (d mc ms : Nat) : Room := { frames := d, cells := mc, slots := ms, locals := 64 * d }
/-- what a frame stands in -/
def sw_ok (G : sw_G) (cc : ByteArray) (own : String) (ret : Option FieldType) (d mc ms : Nat) (ad : Nat → Nat) : Prop :=
  G.1.1.tables.exec = Jvm.exec ∧ G.2.2.1.2.1.code = cc ∧ G.2.2.1.1.sig.returnType = ret ∧ G.2.2.1.1.locks = false ∧ G.2.1.1.vm.findClass own = some G.2.1.2.1.cls ∧ (∀ w ∈ gtb, w.before G.2.1.2.2.1 G.2.1.1 = true) ∧
  va_K G.2.2.2.1 vwCl (sw_tys G.2.2.2.2.1 G.2.2.2.2.2) G.2.1.1 ∧ (∀ q, G.2.1.1.heap.size ≤ q → G.2.2.1.2.2.2 q) ∧ (d ≤ G.1.2.2.2.frames ∧ 64 * d ≤ G.1.2.2.2.locals ∧ mc ≤ G.1.2.2.2.cells ∧ ms ≤ G.1.2.2.2.slots) ∧ sw_SI ad G.2.2.1.2.2.2 G.2.1.1 G.2.1.1.heap ∧ G.1.2.1.stackTraces = false
/-- what a method owes at its end: the answer, the world -/
def sw_Q (D : va_G) (cI cL : ClassId) (A : Nat → Prop) (P : (Nat → Nat) → Prop) (o : Option Value) (L : sw_L) (μ : sw_M) (ν : sw_N) : Array Value → State → Outcome → State → Prop := fun _ st oc t =>
  oc = .returned o ∧ (∃ ad : Nat → Nat, P ad ∧ va_P D vwCl (sw_w cI cL ad μ ν 0 L) t.heap ∧ va_D A (sw_w cI cL ad μ ν 0 L)) ∧ va_F A st t
/-- what it owes where it throws E -/
def sw_X (D : va_G) (cI cL : ClassId) (A : Nat → Prop) (P : (Nat → Nat) → Prop) (E0 : String) (L : sw_L) (μ : sw_M) (ν : sw_N) : String → State → State → Prop := fun E st t =>
  E = E0 ∧ (∃ ad : Nat → Nat, P ad ∧ va_P D vwCl (sw_w cI cL ad μ ν 0 L) t.heap ∧ va_D A (sw_w cI cL ad μ ν 0 L)) ∧ va_F A st t
def sw_No : String → State → State → Prop := fun _ _ _ => False
def sw_QN : Array Value → State → Outcome → State → Prop := fun _ _ _ _ => False
/-- the frame's own post: it returns o with this world (a method that never throws, or one that may), or it throws E with this world -/
def sw_out (G : sw_G) (mc ms : Nat) (P : (Nat → Nat) → Prop) (o : Option Value ⊕ String) (L : sw_L) (μ : sw_M) (ν : sw_N) : Prop :=
  match o with
  | .inl v => G.2.2.1.2.2.1 = MQ G.2.1.2.2.2 (sw_Q G.2.2.2.1 G.2.2.2.2.1 G.2.2.2.2.2 G.2.2.1.2.2.2 P v L μ ν) G.2.1.2.2.1 G.2.1.1 mc ms G.2.2.1.2.2.2 ∨
      G.2.2.1.2.2.1 = vx_MQ G.2.1.2.2.2 (sw_Q G.2.2.2.1 G.2.2.2.2.1 G.2.2.2.2.2 G.2.2.1.2.2.2 P v L μ ν) sw_No G.2.1.2.2.1 G.2.1.1 mc ms G.2.2.1.2.2.2
  | .inr E => G.2.2.1.2.2.1 = vx_MQ G.2.1.2.2.2 sw_QN (sw_X G.2.2.2.1 G.2.2.2.2.1 G.2.2.2.2.2 G.2.2.1.2.2.2 P E L μ ν) G.2.1.2.2.1 G.2.1.1 mc ms G.2.2.1.2.2.2
section SWR
variable {G : sw_G} {ad : Nat → Nat} {L : sw_L} {ν : sw_N} {cs sl pc : Nat} {lv : List (Option Value)} {st : List Value} {μ : sw_M} {cc : ByteArray} {own : String} {ret : Option FieldType} {d mc ms : Nat} {ad0 : Nat → Nat}
theorem SW.iconst {n : Int} {v : Int32} (g : sw_ok G cc own ret d mc ms ad0) (hd : decode cc pc = .ok (.iconst n, 1)) (hv : Int32.ofInt n = v) (k : SW G ad L ν cs sl (pc + 1) lv (.int v :: st) μ) : SW G ad L ν cs sl pc lv st μ :=
  fun H locs ls hl hP hD hS => lv_iconst g.1 g.2.1 hd hv (k H locs ls hl hP hD hS)
theorem SW.bipush {n : Int} {v : Int32} (g : sw_ok G cc own ret d mc ms ad0) (hd : decode cc pc = .ok (.bipush n, 2)) (hv : (Int8.ofInt n).toInt32 = v) (k : SW G ad L ν cs sl (pc + 2) lv (.int v :: st) μ) : SW G ad L ν cs sl pc lv st μ :=
  fun H locs ls hl hP hD hS => lv_bipush g.1 g.2.1 hd hv (k H locs ls hl hP hD hS)
theorem SW.sipush {n : Int} {v : Int32} (g : sw_ok G cc own ret d mc ms ad0) (hd : decode cc pc = .ok (.sipush n, 3)) (hv : (Int16.ofInt n).toInt32 = v) (k : SW G ad L ν cs sl (pc + 3) lv (.int v :: st) μ) : SW G ad L ν cs sl pc lv st μ :=
  fun H locs ls hl hP hD hS => lv_sipush g.1 g.2.1 hd hv (k H locs ls hl hP hD hS)
theorem SW.lconst {n : Fin 2} {v : Int64} (g : sw_ok G cc own ret d mc ms ad0) (hd : decode cc pc = .ok (.lconst n, 1)) (hv : Int64.ofNat (n : Nat) = v) (k : SW G ad L ν cs sl (pc + 1) lv (.long v :: st) μ) : SW G ad L ν cs sl pc lv st μ :=
  fun H locs ls hl hP hD hS => lv_lconst g.1 g.2.1 hd hv (k H locs ls hl hP hD hS)
theorem SW.ldc {n : Nat} {v : Int32} (g : sw_ok G cc own ret d mc ms ad0) (hd : decode cc pc = .ok (.ldc n, 2)) (hv : Cond.constant own n v ∈ gtb) (k : SW G ad L ν cs sl (pc + 2) lv (.int v :: st) μ) : SW G ad L ν cs sl pc lv st μ :=
  fun H locs ls hl hP hD hS => lv_ldc g.1 g.2.1 g.2.2.2.2.1 (g.2.2.2.2.2.1 _ hv) hd (k H locs ls hl hP hD hS)
theorem SW.ldcw {n : Nat} {v : Int32} (g : sw_ok G cc own ret d mc ms ad0) (hd : decode cc pc = .ok (.ldc_w n, 3)) (hv : Cond.constant own n v ∈ gtb) (k : SW G ad L ν cs sl (pc + 3) lv (.int v :: st) μ) : SW G ad L ν cs sl pc lv st μ :=
  fun H locs ls hl hP hD hS => lv_ldcw g.1 g.2.1 g.2.2.2.2.1 (g.2.2.2.2.2.1 _ hv) hd (k H locs ls hl hP hD hS)
theorem SW.ldc2 {n : Nat} {v : Int64} (g : sw_ok G cc own ret d mc ms ad0) (hd : decode cc pc = .ok (.ldc2_w n, 3)) (hv : Cond.constantLong own n v ∈ gtb) (k : SW G ad L ν cs sl (pc + 3) lv (.long v :: st) μ) : SW G ad L ν cs sl pc lv st μ :=
  fun H locs ls hl hP hD hS => lv_ldc2 g.1 g.2.1 g.2.2.2.2.1 (g.2.2.2.2.2.1 _ hv) hd (k H locs ls hl hP hD hS)
theorem SW.iload_n {n : Fin 4} {v : Int32} (g : sw_ok G cc own ret d mc ms ad0) (hd : decode cc pc = .ok (.iload_n n, 1)) (hv : lv[(n : Nat)]? = some (some (.int v))) (k : SW G ad L ν cs sl (pc + 1) lv (.int v :: st) μ) : SW G ad L ν cs sl pc lv st μ :=
  fun H locs ls hl hP hD hS => lv_iload_n g.1 g.2.1 hd rfl (hl.2.2 _ _ hv) (k H locs ls hl hP hD hS)
theorem SW.iload {n : Nat} {v : Int32} (g : sw_ok G cc own ret d mc ms ad0) (hd : decode cc pc = .ok (.iload n, 2)) (hv : lv[n]? = some (some (.int v))) (k : SW G ad L ν cs sl (pc + 2) lv (.int v :: st) μ) : SW G ad L ν cs sl pc lv st μ :=
  fun H locs ls hl hP hD hS => lv_iload g.1 g.2.1 hd (hl.2.2 _ _ hv) (k H locs ls hl hP hD hS)
theorem SW.lload_n {n : Fin 4} {v : Int64} (g : sw_ok G cc own ret d mc ms ad0) (hd : decode cc pc = .ok (.lload_n n, 1)) (hv : lv[(n : Nat)]? = some (some (.long v))) (k : SW G ad L ν cs sl (pc + 1) lv (.long v :: st) μ) : SW G ad L ν cs sl pc lv st μ :=
  fun H locs ls hl hP hD hS => lv_lload_n g.1 g.2.1 hd rfl (hl.2.2 _ _ hv) (k H locs ls hl hP hD hS)
theorem SW.lload {n : Nat} {v : Int64} (g : sw_ok G cc own ret d mc ms ad0) (hd : decode cc pc = .ok (.lload n, 2)) (hv : lv[n]? = some (some (.long v))) (k : SW G ad L ν cs sl (pc + 2) lv (.long v :: st) μ) : SW G ad L ν cs sl pc lv st μ :=
  fun H locs ls hl hP hD hS => lv_lload g.1 g.2.1 hd (hl.2.2 _ _ hv) (k H locs ls hl hP hD hS)
theorem SW.aload_n {n : Fin 4} {o : Nat} (g : sw_ok G cc own ret d mc ms ad0) (hd : decode cc pc = .ok (.aload_n n, 1)) (hv : lv[(n : Nat)]? = some (some (.ref o))) (k : SW G ad L ν cs sl (pc + 1) lv (.ref o :: st) μ) : SW G ad L ν cs sl pc lv st μ :=
  fun H locs ls hl hP hD hS => lv_aload_n g.1 g.2.1 hd rfl (hl.2.2 _ _ hv) (k H locs ls hl hP hD hS)
theorem SW.aload {n : Nat} {o : Nat} (g : sw_ok G cc own ret d mc ms ad0) (hd : decode cc pc = .ok (.aload n, 2)) (hv : lv[n]? = some (some (.ref o))) (k : SW G ad L ν cs sl (pc + 2) lv (.ref o :: st) μ) : SW G ad L ν cs sl pc lv st μ :=
  fun H locs ls hl hP hD hS => lv_aload g.1 g.2.1 hd (hl.2.2 _ _ hv) (k H locs ls hl hP hD hS)
theorem sw_ls_len {nL i : Nat} {lv : List (Option Value)} {ls : Array Slot} (hl : sw_lv nL ad lv ls) (hn : lv.length = nL) (hi : i < lv.length) : i < nL := by omega
theorem SW.istore_n {n : Fin 4} {v : Int32} (g : sw_ok G cc own ret d mc ms ad0) (hd : decode cc pc = .ok (.istore_n n, 1)) (hn : (n : Nat) < G.2.2.1.2.1.maxLocals) (hk : sw_ok1 n lv = true) (k : SW G ad L ν cs sl (pc + 1) (sv (some (.int v)) n lv) st μ) : SW G ad L ν cs sl pc lv (.int v :: st) μ :=
  fun H locs ls hl hP hD hS => lv_istore_n g.1 g.2.1 hd rfl (sw_lv_has hl) hn rfl (fun ls' h => k H locs ls' (sw_lv_store1 (v := .int v) hk h) hP hD hS)
theorem SW.istore {n : Nat} {v : Int32} (g : sw_ok G cc own ret d mc ms ad0) (hd : decode cc pc = .ok (.istore n, 2)) (hn : n < G.2.2.1.2.1.maxLocals) (hk : sw_ok1 n lv = true) (k : SW G ad L ν cs sl (pc + 2) (sv (some (.int v)) n lv) st μ) : SW G ad L ν cs sl pc lv (.int v :: st) μ :=
  fun H locs ls hl hP hD hS => lv_istore g.1 g.2.1 hd (sw_lv_has hl) hn rfl (fun ls' h => k H locs ls' (sw_lv_store1 (v := .int v) hk h) hP hD hS)
theorem SW.astore_n {n : Fin 4} {o : Nat} (g : sw_ok G cc own ret d mc ms ad0) (hd : decode cc pc = .ok (.astore_n n, 1)) (hn : (n : Nat) < G.2.2.1.2.1.maxLocals) (hk : sw_ok1 n lv = true) (k : SW G ad L ν cs sl (pc + 1) (sv (some (.ref o)) n lv) st μ) : SW G ad L ν cs sl pc lv (.ref o :: st) μ :=
  fun H locs ls hl hP hD hS => lv_astore_n g.1 g.2.1 hd rfl (sw_lv_has hl) hn rfl (fun ls' h => k H locs ls' (sw_lv_store1 (v := .ref o) hk h) hP hD hS)
theorem SW.astore {n : Nat} {o : Nat} (g : sw_ok G cc own ret d mc ms ad0) (hd : decode cc pc = .ok (.astore n, 2)) (hn : n < G.2.2.1.2.1.maxLocals) (hk : sw_ok1 n lv = true) (k : SW G ad L ν cs sl (pc + 2) (sv (some (.ref o)) n lv) st μ) : SW G ad L ν cs sl pc lv (.ref o :: st) μ :=
  fun H locs ls hl hP hD hS => lv_astore g.1 g.2.1 hd (sw_lv_has hl) hn rfl (fun ls' h => k H locs ls' (sw_lv_store1 (v := .ref o) hk h) hP hD hS)
theorem SW.lstore_n {n : Fin 4} {v : Int64} (g : sw_ok G cc own ret d mc ms ad0) (hd : decode cc pc = .ok (.lstore_n n, 1)) (hn : (n : Nat) + 1 < G.2.2.1.2.1.maxLocals) (hk : sw_ok1 n lv = true) (k : SW G ad L ν cs sl (pc + 1) (sv none (n + 1) (sv (some (.long v)) n lv)) st μ) : SW G ad L ν cs sl pc lv (.long v :: st) μ :=
  fun H locs ls hl hP hD hS => lv_lstore_n g.1 g.2.1 hd rfl (sw_lv_has hl) hn rfl (fun ls' h => k H locs ls' (sw_lv_store2 (v := .long v) hk h) hP hD hS)
theorem SW.lstore {n : Nat} {v : Int64} (g : sw_ok G cc own ret d mc ms ad0) (hd : decode cc pc = .ok (.lstore n, 2)) (hn : n + 1 < G.2.2.1.2.1.maxLocals) (hk : sw_ok1 n lv = true) (k : SW G ad L ν cs sl (pc + 2) (sv none (n + 1) (sv (some (.long v)) n lv)) st μ) : SW G ad L ν cs sl pc lv (.long v :: st) μ :=
  fun H locs ls hl hP hD hS => lv_lstore g.1 g.2.1 hd (sw_lv_has hl) hn rfl (fun ls' h => k H locs ls' (sw_lv_store2 (v := .long v) hk h) hP hD hS)
theorem SW.iinc {n : Nat} {z : Int} {x v : Int32} (g : sw_ok G cc own ret d mc ms ad0) (hd : decode cc pc = .ok (.iinc n z, 3)) (hx : lv[n]? = some (some (.int x))) (hv : x + Int32.ofInt z = v) (hn : n < G.2.2.1.2.1.maxLocals) (hk : sw_ok1 n lv = true) (k : SW G ad L ν cs sl (pc + 3) (sv (some (.int v)) n lv) st μ) : SW G ad L ν cs sl pc lv st μ := by
  intro H locs ls hl hP hD hS
  have hm : (n, Value.int x) ∈ sw_pr ad 0 lv := (sw_pr_mem lv 0 n _).mpr ⟨n, .int x, by omega, hx, rfl⟩
  obtain ⟨j, hj⟩ := List.getElem?_of_mem hm
  exact lv_iinc g.1 g.2.1 hd (sw_lv_has hl) hj hv hn rfl (fun ls' h => k H locs ls' (sw_lv_store1 (v := .int v) hk h) hP hD hS)
theorem SW.iadd {x y : Int32} (g : sw_ok G cc own ret d mc ms ad0) (hd : decode cc pc = .ok (.iadd, 1)) (k : SW G ad L ν cs sl (pc + 1) lv (.int (x + y) :: st) μ) : SW G ad L ν cs sl pc lv (.int y :: .int x :: st) μ :=
  fun H locs ls hl hP hD hS => lv_iadd g.1 g.2.1 hd (k H locs ls hl hP hD hS)
theorem SW.isub {x y : Int32} (g : sw_ok G cc own ret d mc ms ad0) (hd : decode cc pc = .ok (.isub, 1)) (k : SW G ad L ν cs sl (pc + 1) lv (.int (x - y) :: st) μ) : SW G ad L ν cs sl pc lv (.int y :: .int x :: st) μ :=
  fun H locs ls hl hP hD hS => lv_isub g.1 g.2.1 hd (k H locs ls hl hP hD hS)
theorem SW.imul {x y : Int32} (g : sw_ok G cc own ret d mc ms ad0) (hd : decode cc pc = .ok (.imul, 1)) (k : SW G ad L ν cs sl (pc + 1) lv (.int (x * y) :: st) μ) : SW G ad L ν cs sl pc lv (.int y :: .int x :: st) μ :=
  fun H locs ls hl hP hD hS => lv_imul g.1 g.2.1 hd (k H locs ls hl hP hD hS)
theorem SW.iand {x y : Int32} (g : sw_ok G cc own ret d mc ms ad0) (hd : decode cc pc = .ok (.iand, 1)) (k : SW G ad L ν cs sl (pc + 1) lv (.int (x &&& y) :: st) μ) : SW G ad L ν cs sl pc lv (.int y :: .int x :: st) μ :=
  fun H locs ls hl hP hD hS => lv_iand g.1 g.2.1 hd (k H locs ls hl hP hD hS)
theorem SW.ior {x y : Int32} (g : sw_ok G cc own ret d mc ms ad0) (hd : decode cc pc = .ok (.ior, 1)) (k : SW G ad L ν cs sl (pc + 1) lv (.int (x ||| y) :: st) μ) : SW G ad L ν cs sl pc lv (.int y :: .int x :: st) μ :=
  fun H locs ls hl hP hD hS => lv_ior g.1 g.2.1 hd (k H locs ls hl hP hD hS)
theorem SW.ixor {x y : Int32} (g : sw_ok G cc own ret d mc ms ad0) (hd : decode cc pc = .ok (.ixor, 1)) (k : SW G ad L ν cs sl (pc + 1) lv (.int (x ^^^ y) :: st) μ) : SW G ad L ν cs sl pc lv (.int y :: .int x :: st) μ :=
  fun H locs ls hl hP hD hS => lv_ixor g.1 g.2.1 hd (k H locs ls hl hP hD hS)
theorem SW.ishl {x y : Int32} (g : sw_ok G cc own ret d mc ms ad0) (hd : decode cc pc = .ok (.ishl, 1)) (k : SW G ad L ν cs sl (pc + 1) lv (.int (x <<< (y &&& 31)) :: st) μ) : SW G ad L ν cs sl pc lv (.int y :: .int x :: st) μ :=
  fun H locs ls hl hP hD hS => lv_ishl g.1 g.2.1 hd (k H locs ls hl hP hD hS)
theorem SW.ishr {x y : Int32} (g : sw_ok G cc own ret d mc ms ad0) (hd : decode cc pc = .ok (.ishr, 1)) (k : SW G ad L ν cs sl (pc + 1) lv (.int (x >>> (y &&& 31)) :: st) μ) : SW G ad L ν cs sl pc lv (.int y :: .int x :: st) μ :=
  fun H locs ls hl hP hD hS => lv_ishr g.1 g.2.1 hd (k H locs ls hl hP hD hS)
theorem SW.iushr {x y : Int32} (g : sw_ok G cc own ret d mc ms ad0) (hd : decode cc pc = .ok (.iushr, 1)) (k : SW G ad L ν cs sl (pc + 1) lv (.int ((x.toUInt32 >>> (y.toUInt32 &&& Int32.toUInt32 31)).toInt32) :: st) μ) : SW G ad L ν cs sl pc lv (.int y :: .int x :: st) μ :=
  fun H locs ls hl hP hD hS => lv_iushr g.1 g.2.1 hd rfl (k H locs ls hl hP hD hS)
theorem SW.idiv {x y : Int32} (g : sw_ok G cc own ret d mc ms ad0) (hd : decode cc pc = .ok (.idiv, 1)) (hz : ¬ y = 0) (k : SW G ad L ν cs sl (pc + 1) lv (.int (x / y) :: st) μ) : SW G ad L ν cs sl pc lv (.int y :: .int x :: st) μ :=
  fun H locs ls hl hP hD hS => lv_idiv g.1 g.2.1 hd hz (k H locs ls hl hP hD hS)
theorem SW.irem {x y : Int32} (g : sw_ok G cc own ret d mc ms ad0) (hd : decode cc pc = .ok (.irem, 1)) (hz : ¬ y = 0) (k : SW G ad L ν cs sl (pc + 1) lv (.int (x - x / y * y) :: st) μ) : SW G ad L ν cs sl pc lv (.int y :: .int x :: st) μ :=
  fun H locs ls hl hP hD hS => lv_irem g.1 g.2.1 hd hz (k H locs ls hl hP hD hS)
theorem SW.ineg {x : Int32} (g : sw_ok G cc own ret d mc ms ad0) (hd : decode cc pc = .ok (.ineg, 1)) (k : SW G ad L ν cs sl (pc + 1) lv (.int (-x) :: st) μ) : SW G ad L ν cs sl pc lv (.int x :: st) μ :=
  fun H locs ls hl hP hD hS => lv_ineg g.1 g.2.1 hd (k H locs ls hl hP hD hS)
theorem SW.i2l {x : Int32} (g : sw_ok G cc own ret d mc ms ad0) (hd : decode cc pc = .ok (.i2l, 1)) (k : SW G ad L ν cs sl (pc + 1) lv (.long x.toInt64 :: st) μ) : SW G ad L ν cs sl pc lv (.int x :: st) μ :=
  fun H locs ls hl hP hD hS => lv_i2l g.1 g.2.1 hd rfl (k H locs ls hl hP hD hS)
theorem SW.lmul {x y : Int64} (g : sw_ok G cc own ret d mc ms ad0) (hd : decode cc pc = .ok (.lmul, 1)) (k : SW G ad L ν cs sl (pc + 1) lv (.long (x * y) :: st) μ) : SW G ad L ν cs sl pc lv (.long y :: .long x :: st) μ :=
  fun H locs ls hl hP hD hS => lv_lmul g.1 g.2.1 hd (k H locs ls hl hP hD hS)
theorem SW.ldiv {x y : Int64} (g : sw_ok G cc own ret d mc ms ad0) (hd : decode cc pc = .ok (.ldiv, 1)) (hz : ¬ y = 0) (k : SW G ad L ν cs sl (pc + 1) lv (.long (x / y) :: st) μ) : SW G ad L ν cs sl pc lv (.long y :: .long x :: st) μ :=
  fun H locs ls hl hP hD hS => lv_ldiv g.1 g.2.1 hd hz (k H locs ls hl hP hD hS)
theorem SW.lrem {x y : Int64} (g : sw_ok G cc own ret d mc ms ad0) (hd : decode cc pc = .ok (.lrem, 1)) (hz : ¬ y = 0) (k : SW G ad L ν cs sl (pc + 1) lv (.long (x - x / y * y) :: st) μ) : SW G ad L ν cs sl pc lv (.long y :: .long x :: st) μ :=
  fun H locs ls hl hP hD hS => lv_lrem g.1 g.2.1 hd hz (k H locs ls hl hP hD hS)
theorem SW.lcmp {x y : Int64} (g : sw_ok G cc own ret d mc ms ad0) (hd : decode cc pc = .ok (.lcmp, 1)) (k : SW G ad L ν cs sl (pc + 1) lv (.int (lg_cmp x y) :: st) μ) : SW G ad L ν cs sl pc lv (.long y :: .long x :: st) μ :=
  fun H locs ls hl hP hD hS => W.lcmp g.1 g.2.1 hd (k H locs ls hl hP hD hS)
theorem SW.dup {x : Value} (g : sw_ok G cc own ret d mc ms ad0) (hd : decode cc pc = .ok (.dup, 1)) (hx : x.category = 1) (k : SW G ad L ν cs sl (pc + 1) lv (x :: x :: st) μ) : SW G ad L ν cs sl pc lv (x :: st) μ :=
  fun H locs ls hl hP hD hS => lv_dup g.1 g.2.1 hd (by rw [sw_cat]; exact hx) (k H locs ls hl hP hD hS)
theorem SW.dup2 {x y : Value} (g : sw_ok G cc own ret d mc ms ad0) (hd : decode cc pc = .ok (.dup2, 1)) (hx : x.category = 1) (hy : y.category = 1) (k : SW G ad L ν cs sl (pc + 1) lv (x :: y :: x :: y :: st) μ) : SW G ad L ν cs sl pc lv (x :: y :: st) μ :=
  fun H locs ls hl hP hD hS => lv_dup2_11 g.1 g.2.1 hd (by rw [sw_cat]; exact hx) (by rw [sw_cat]; exact hy) (k H locs ls hl hP hD hS)
theorem SW.pop {x : Value} (g : sw_ok G cc own ret d mc ms ad0) (hd : decode cc pc = .ok (.pop, 1)) (hx : x.category = 1) (k : SW G ad L ν cs sl (pc + 1) lv st μ) : SW G ad L ν cs sl pc lv (x :: st) μ :=
  fun H locs ls hl hP hD hS => lv_pop g.1 g.2.1 hd (by rw [sw_cat]; exact hx) (k H locs ls hl hP hD hS)
theorem SW.goto {o : Int} {t : Nat} (g : sw_ok G cc own ret d mc ms ad0) (hd : decode cc pc = .ok (.goto o, 3)) (ht : (pc : Int) + o = (t : Int)) (k : SW G ad L ν cs sl t lv st μ) : SW G ad L ν cs sl pc lv st μ :=
  fun H locs ls hl hP hD hS => lv_goto g.1 g.2.1 hd ht (k H locs ls hl hP hD hS)
theorem SW.if_eq {x : Int32} {o : Int} {t : Nat} (g : sw_ok G cc own ret d mc ms ad0) (hd : decode cc pc = .ok (.ifCond .eq o, 3)) (ht : (pc : Int) + o = (t : Int)) (kt : x = 0 → SW G ad L ν cs sl t lv st μ) (kf : ¬ x = 0 → SW G ad L ν cs sl (pc + 3) lv st μ) : SW G ad L ν cs sl pc lv (.int x :: st) μ :=
  fun H locs ls hl hP hD hS => lv_if_eq g.1 g.2.1 hd ht (fun h => kt h H locs ls hl hP hD hS) (fun h => kf h H locs ls hl hP hD hS)
theorem SW.icmp_eq {x y : Int32} {o : Int} {t : Nat} (g : sw_ok G cc own ret d mc ms ad0) (hd : decode cc pc = .ok (.if_icmp .eq o, 3)) (ht : (pc : Int) + o = (t : Int)) (kt : x = y → SW G ad L ν cs sl t lv st μ) (kf : ¬ x = y → SW G ad L ν cs sl (pc + 3) lv st μ) : SW G ad L ν cs sl pc lv (.int y :: .int x :: st) μ :=
  fun H locs ls hl hP hD hS => lv_icmp_eq g.1 g.2.1 hd ht (fun h => kt h H locs ls hl hP hD hS) (fun h => kf h H locs ls hl hP hD hS)
theorem SW.if_ne {x : Int32} {o : Int} {t : Nat} (g : sw_ok G cc own ret d mc ms ad0) (hd : decode cc pc = .ok (.ifCond .ne o, 3)) (ht : (pc : Int) + o = (t : Int)) (kt : ¬ x = 0 → SW G ad L ν cs sl t lv st μ) (kf : x = 0 → SW G ad L ν cs sl (pc + 3) lv st μ) : SW G ad L ν cs sl pc lv (.int x :: st) μ :=
  fun H locs ls hl hP hD hS => lv_if_ne g.1 g.2.1 hd ht (fun h => kt h H locs ls hl hP hD hS) (fun h => kf h H locs ls hl hP hD hS)
theorem SW.icmp_ne {x y : Int32} {o : Int} {t : Nat} (g : sw_ok G cc own ret d mc ms ad0) (hd : decode cc pc = .ok (.if_icmp .ne o, 3)) (ht : (pc : Int) + o = (t : Int)) (kt : ¬ x = y → SW G ad L ν cs sl t lv st μ) (kf : x = y → SW G ad L ν cs sl (pc + 3) lv st μ) : SW G ad L ν cs sl pc lv (.int y :: .int x :: st) μ :=
  fun H locs ls hl hP hD hS => lv_icmp_ne g.1 g.2.1 hd ht (fun h => kt h H locs ls hl hP hD hS) (fun h => kf h H locs ls hl hP hD hS)
theorem SW.if_lt {x : Int32} {o : Int} {t : Nat} (g : sw_ok G cc own ret d mc ms ad0) (hd : decode cc pc = .ok (.ifCond .lt o, 3)) (ht : (pc : Int) + o = (t : Int)) (kt : x < 0 → SW G ad L ν cs sl t lv st μ) (kf : ¬ x < 0 → SW G ad L ν cs sl (pc + 3) lv st μ) : SW G ad L ν cs sl pc lv (.int x :: st) μ :=
  fun H locs ls hl hP hD hS => lv_if_lt g.1 g.2.1 hd ht (fun h => kt h H locs ls hl hP hD hS) (fun h => kf h H locs ls hl hP hD hS)
theorem SW.icmp_lt {x y : Int32} {o : Int} {t : Nat} (g : sw_ok G cc own ret d mc ms ad0) (hd : decode cc pc = .ok (.if_icmp .lt o, 3)) (ht : (pc : Int) + o = (t : Int)) (kt : x < y → SW G ad L ν cs sl t lv st μ) (kf : ¬ x < y → SW G ad L ν cs sl (pc + 3) lv st μ) : SW G ad L ν cs sl pc lv (.int y :: .int x :: st) μ :=
  fun H locs ls hl hP hD hS => lv_icmp_lt g.1 g.2.1 hd ht (fun h => kt h H locs ls hl hP hD hS) (fun h => kf h H locs ls hl hP hD hS)
theorem SW.if_ge {x : Int32} {o : Int} {t : Nat} (g : sw_ok G cc own ret d mc ms ad0) (hd : decode cc pc = .ok (.ifCond .ge o, 3)) (ht : (pc : Int) + o = (t : Int)) (kt : 0 ≤ x → SW G ad L ν cs sl t lv st μ) (kf : ¬ 0 ≤ x → SW G ad L ν cs sl (pc + 3) lv st μ) : SW G ad L ν cs sl pc lv (.int x :: st) μ :=
  fun H locs ls hl hP hD hS => lv_if_ge g.1 g.2.1 hd ht (fun h => kt h H locs ls hl hP hD hS) (fun h => kf h H locs ls hl hP hD hS)
theorem SW.icmp_ge {x y : Int32} {o : Int} {t : Nat} (g : sw_ok G cc own ret d mc ms ad0) (hd : decode cc pc = .ok (.if_icmp .ge o, 3)) (ht : (pc : Int) + o = (t : Int)) (kt : y ≤ x → SW G ad L ν cs sl t lv st μ) (kf : ¬ y ≤ x → SW G ad L ν cs sl (pc + 3) lv st μ) : SW G ad L ν cs sl pc lv (.int y :: .int x :: st) μ :=
  fun H locs ls hl hP hD hS => lv_icmp_ge g.1 g.2.1 hd ht (fun h => kt h H locs ls hl hP hD hS) (fun h => kf h H locs ls hl hP hD hS)
theorem SW.if_gt {x : Int32} {o : Int} {t : Nat} (g : sw_ok G cc own ret d mc ms ad0) (hd : decode cc pc = .ok (.ifCond .gt o, 3)) (ht : (pc : Int) + o = (t : Int)) (kt : 0 < x → SW G ad L ν cs sl t lv st μ) (kf : ¬ 0 < x → SW G ad L ν cs sl (pc + 3) lv st μ) : SW G ad L ν cs sl pc lv (.int x :: st) μ :=
  fun H locs ls hl hP hD hS => lv_if_gt g.1 g.2.1 hd ht (fun h => kt h H locs ls hl hP hD hS) (fun h => kf h H locs ls hl hP hD hS)
theorem SW.icmp_gt {x y : Int32} {o : Int} {t : Nat} (g : sw_ok G cc own ret d mc ms ad0) (hd : decode cc pc = .ok (.if_icmp .gt o, 3)) (ht : (pc : Int) + o = (t : Int)) (kt : y < x → SW G ad L ν cs sl t lv st μ) (kf : ¬ y < x → SW G ad L ν cs sl (pc + 3) lv st μ) : SW G ad L ν cs sl pc lv (.int y :: .int x :: st) μ :=
  fun H locs ls hl hP hD hS => lv_icmp_gt g.1 g.2.1 hd ht (fun h => kt h H locs ls hl hP hD hS) (fun h => kf h H locs ls hl hP hD hS)
theorem SW.if_le {x : Int32} {o : Int} {t : Nat} (g : sw_ok G cc own ret d mc ms ad0) (hd : decode cc pc = .ok (.ifCond .le o, 3)) (ht : (pc : Int) + o = (t : Int)) (kt : x ≤ 0 → SW G ad L ν cs sl t lv st μ) (kf : ¬ x ≤ 0 → SW G ad L ν cs sl (pc + 3) lv st μ) : SW G ad L ν cs sl pc lv (.int x :: st) μ :=
  fun H locs ls hl hP hD hS => lv_if_le g.1 g.2.1 hd ht (fun h => kt h H locs ls hl hP hD hS) (fun h => kf h H locs ls hl hP hD hS)
theorem SW.icmp_le {x y : Int32} {o : Int} {t : Nat} (g : sw_ok G cc own ret d mc ms ad0) (hd : decode cc pc = .ok (.if_icmp .le o, 3)) (ht : (pc : Int) + o = (t : Int)) (kt : x ≤ y → SW G ad L ν cs sl t lv st μ) (kf : ¬ x ≤ y → SW G ad L ν cs sl (pc + 3) lv st μ) : SW G ad L ν cs sl pc lv (.int y :: .int x :: st) μ :=
  fun H locs ls hl hP hD hS => lv_icmp_le g.1 g.2.1 hd ht (fun h => kt h H locs ls hl hP hD hS) (fun h => kf h H locs ls hl hP hD hS)
end SWR
