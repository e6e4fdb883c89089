/-! ===== the shapes of what a program prints of the methods: bindings, tests, leaves ===== -/
/-- a memory named -/
def wb {α : Type} (m : sw_M) (f : sw_M → Option α) : Option α := f m
/-- a number named -/
def ib {α : Type} (x : Int32) (f : Int32 → Option α) : Option α := f x
def ibL {α : Type} (x : Int64) (f : Int64 → Option α) : Option α := f x
/-- an index in its row -/
def inb {α : Type} (i : Int32) (n : Nat) (k : Option α) : Option α := if i < 0 ∨ n ≤ i.toNatClampNeg then none else k
/-- a divisor -/
def nz {α : Type} (y : Int32) (k : Option α) : Option α := if y = 0 then none else k
def nzL {α : Type} (y : Int64) (k : Option α) : Option α := if y = 0 then none else k
/-- a truth value -/
def bl {α : Type} (y : Int32) (k : Option α) : Option α := if y = 0 ∨ y = 1 then k else none
/-- what arraycopy asks -/
def cpc {α : Type} (sp dp n : Int32) (n0 n1 : Nat) (k : Option α) : Option α := if sp < 0 ∨ dp < 0 ∨ n < 0 ∨ n0 < sp.toNatClampNeg + n.toNatClampNeg ∨ n1 < dp.toNatClampNeg + n.toNatClampNeg then none else k
theorem bindI {α β : Type} {c : Option α} {f : α → Option β} {o : β} (h : c.bind f = some o) : ∃ r, c = some r ∧ f r = some o := Option.bind_eq_some_iff.mp h
theorem inbI {α : Type} {i : Int32} {n : Nat} {k : Option α} {o : α} (h : inb i n k = some o) : ¬ (i < 0 ∨ n ≤ i.toNatClampNeg) ∧ k = some o := by
  unfold inb at h; split at h
  · cases h
  · exact ⟨‹_›, h⟩
theorem nzI {α : Type} {y : Int32} {k : Option α} {o : α} (h : nz y k = some o) : ¬ y = 0 ∧ k = some o := by
  unfold nz at h; split at h
  · cases h
  · exact ⟨‹_›, h⟩
theorem nzLI {α : Type} {y : Int64} {k : Option α} {o : α} (h : nzL y k = some o) : ¬ y = 0 ∧ k = some o := by
  unfold nzL at h; split at h
  · cases h
  · exact ⟨‹_›, h⟩
theorem blI {α : Type} {y : Int32} {k : Option α} {o : α} (h : bl y k = some o) : narrow .boolean (.int y) = .int y ∧ k = some o := by
  unfold bl at h; split at h
  · rename_i q
    rcases q with rfl | rfl
    · exact ⟨by decide, h⟩
    · exact ⟨by decide, h⟩
  · cases h
theorem cpcI {α : Type} {sp dp n : Int32} {n0 n1 : Nat} {k : Option α} {o : α} (h : cpc sp dp n n0 n1 k = some o) : (¬ sp < 0 ∧ ¬ dp < 0 ∧ ¬ n < 0 ∧ sp.toNatClampNeg + n.toNatClampNeg ≤ n0 ∧ dp.toNatClampNeg + n.toNatClampNeg ≤ n1) ∧ k = some o := by
  unfold cpc at h; split at h
  · cases h
  · rename_i q
    simp only [not_or, Nat.not_lt] at q
    exact ⟨q, h⟩
theorem iteT {α : Type} {c : Prop} [Decidable c] {a b o : α} (hc : c) (h : (if c then a else b) = o) : a = o := by rw [if_pos hc] at h; exact h
theorem iteF {α : Type} {c : Prop} [Decidable c] {a b o : α} (hc : ¬ c) (h : (if c then a else b) = o) : b = o := by rw [if_neg hc] at h; exact h
def dtab (cc : ByteArray) (tb : List (Nat × Instr × Nat)) : Bool := tb.all (fun q => decide (decode cc q.1 = .ok q.2))
theorem dt {cc : ByteArray} {tb : List (Nat × Instr × Nat)} (h : dtab cc tb = true) (k : Nat) {pc n : Nat} {i : Instr} (hk : tb[k]? = some (pc, i, n)) : decode cc pc = .ok (i, n) := by
  have h1 := List.all_eq_true.mp h (pc, i, n) (List.mem_of_getElem? hk)
  exact of_decide_eq_true h1
def sw_msk : List Bool → List (Option Value) → List (Option Value)
  | _, [] => []
  | [], _ :: r => none :: sw_msk [] r
  | true :: b, x :: r => x :: sw_msk b r
  | false :: b, _ :: r => none :: sw_msk b r
theorem sw_msk_get : ∀ (bs : List Bool) (lv : List (Option Value)) (i : Nat) (v : Value), (sw_msk bs lv)[i]? = some (some v) → lv[i]? = some (some v)
  | bs, [], i, v, h => by cases bs <;> simp [sw_msk] at h
  | [], x :: r, 0, v, h => by simp [sw_msk] at h
  | [], x :: r, i + 1, v, h => by simpa using sw_msk_get [] r i v (by simpa [sw_msk] using h)
  | true :: b, x :: r, 0, v, h => by simpa [sw_msk] using h
  | true :: b, x :: r, i + 1, v, h => by simpa using sw_msk_get b r i v (by simpa [sw_msk] using h)
  | false :: b, x :: r, 0, v, h => by simp [sw_msk] at h
  | false :: b, x :: r, i + 1, v, h => by simpa using sw_msk_get b r i v (by simpa [sw_msk] using h)
section SHP
variable {G : sw_G} {ad : Nat → Nat} {L : sw_L} {ν : sw_N} {cs sl pc : Nat} {lv : List (Option Value)} {st : List Value} {μ : sw_M} {mc ms : Nat} {P : (Nat → Nat) → Prop}
theorem SW.msk (bs : List Bool) (k : SW G ad L ν cs sl pc (sw_msk bs lv) st μ) : SW G ad L ν cs sl pc lv st μ :=
  fun H locs ls hl hP hD hS => k H locs ls ⟨hl.1, hl.2.1, fun i v h => hl.2.2 i v (sw_msk_get bs lv i v h)⟩ hP hD hS
theorem SW.genM {α : Type} {f : sw_M → Option α} {o : α} (h : wb μ f = some o) (k : ∀ m1, f m1 = some o → SW G ad L ν cs sl pc lv st m1) : SW G ad L ν cs sl pc lv st μ := k μ h
theorem SW.genL {α : Type} {f : Int32 → Option α} {o : α} {n : Nat} {x : Int32} (h : ib x f = some o) (k : ∀ y, f y = some o → SW G ad L ν cs sl pc (sv (some (.int y)) n lv) st μ) : SW G ad L ν cs sl pc (sv (some (.int x)) n lv) st μ := k x h
theorem SW.genJ {α : Type} {f : Int64 → Option α} {o : α} {n q : Nat} {x : Int64} (h : ibL x f = some o) (k : ∀ y, f y = some o → SW G ad L ν cs sl pc (sv none q (sv (some (.long y)) n lv)) st μ) : SW G ad L ν cs sl pc (sv none q (sv (some (.long x)) n lv)) st μ := k x h
theorem leafI {e r : Int32} (h : some e = some r) (ho : sw_out G mc ms P (.inl (some (.int r))) L μ ν) : sw_out G mc ms P (.inl (some (.int e))) L μ ν := by cases h; exact ho
theorem leafJ {e r : Int64} (h : some e = some r) (ho : sw_out G mc ms P (.inl (some (.long r))) L μ ν) : sw_out G mc ms P (.inl (some (.long e))) L μ ν := by cases h; exact ho
theorem leafW {e : Int32} {r : Int32 × sw_M} (h : some (e, μ) = some r) (ho : sw_out G mc ms P (.inl (some (.int r.1))) L r.2 ν) : sw_out G mc ms P (.inl (some (.int e))) L μ ν := by cases h; exact ho
theorem leafV {r : sw_M} (h : some μ = some r) (ho : sw_out G mc ms P (.inl none) L r ν) : sw_out G mc ms P (.inl none) L μ ν := by cases h; exact ho
theorem sw_ltm {M nL n : Nat} (hm : M = nL) (h : n < nL) : n < M := hm ▸ h
end SHP
