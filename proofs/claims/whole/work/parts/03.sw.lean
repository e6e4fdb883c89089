/-! ===== a small machine over the kit's rows: references by their places in a layout, ints in one memory ===== -/
abbrev vwCl : List vw_C := [(RX0, TX0, 4), (RX1, TX1, 3), (RX2, TX2, 11), (RX3, TX3, 8), (RX4, TX4, 12), (RX5, TX5, 6), (RX6, TX6, 6), (RX7, TX7, 9), (RX8, TX8, 3), (RX9, TX9, 9), (RX10, TX10, 15), (RX11, TX11, 51)]
/-- a layout: an array (long or int, its length), or an object (its class's number; a place holds an int: none; null: some none; a reference: some (some k)) -/
abbrev sw_E : Type := (Bool × Nat) ⊕ (Nat × List (Option (Option Nat)))
abbrev sw_L : Type := List sw_E
abbrev sw_M : Type := Nat → Nat → Int32
abbrev sw_N : Type := Nat → Nat → Int64
def sw_v (ad : Nat → Nat) : Value → Value
  | .ref k => .ref (ad k)
  | v => v
def sw_f (ad : Nat → Nat) (f : Nat → Int32) : Nat → List (Option (Option Nat)) → List Value
  | _, [] => []
  | j, none :: r => .int (f j) :: sw_f ad f (j + 1) r
  | j, some none :: r => .null :: sw_f ad f (j + 1) r
  | j, some (some k) :: r => .ref (ad k) :: sw_f ad f (j + 1) r
def sw_e (cI cL : ClassId) (ad : Nat → Nat) (μ : sw_M) (ν : sw_N) (k : Nat) : sw_E → va_E
  | .inl (false, n) => .inl (cI, n, .inl (μ k))
  | .inl (true, n) => .inl (cL, n, .inr (.inl (ν k)))
  | .inr (ci, sl) => .inr (ci, sw_f ad (μ k) 0 sl)
def sw_w (cI cL : ClassId) (ad : Nat → Nat) (μ : sw_M) (ν : sw_N) : Nat → sw_L → va_W
  | _, [] => []
  | k, x :: r => (ad k, sw_e cI cL ad μ ν k x) :: sw_w cI cL ad μ ν (k + 1) r
theorem sw_w_get {cI cL : ClassId} {ad : Nat → Nat} {μ : sw_M} {ν : sw_N} : ∀ (L : sw_L) (k i : Nat), (sw_w cI cL ad μ ν k L)[i]? = (L[i]?).map (fun x => (ad (k + i), sw_e cI cL ad μ ν (k + i) x))
  | [], k, i => by simp [sw_w]
  | x :: r, k, 0 => by simp [sw_w]
  | x :: r, k, i + 1 => by
    have h := sw_w_get (cI := cI) (cL := cL) (ad := ad) (μ := μ) (ν := ν) r (k + 1) i
    simp only [sw_w, List.getElem?_cons_succ, h]
    rw [show k + 1 + i = k + (i + 1) by omega]
theorem sw_w_at {cI cL : ClassId} {ad : Nat → Nat} {μ : sw_M} {ν : sw_N} {L : sw_L} {k : Nat} {x : sw_E} (h : L[k]? = some x) : (sw_w cI cL ad μ ν 0 L)[k]? = some (ad k, sw_e cI cL ad μ ν k x) := by
  rw [sw_w_get, h]; simp
theorem sw_w_len {cI cL : ClassId} {ad : Nat → Nat} {μ : sw_M} {ν : sw_N} : ∀ (L : sw_L) (k : Nat), (sw_w cI cL ad μ ν k L).length = L.length
  | [], _ => rfl
  | _ :: r, k => by simp [sw_w, sw_w_len r (k + 1)]
theorem sw_f_get {ad : Nat → Nat} {f : Nat → Int32} : ∀ (sl : List (Option (Option Nat))) (j i : Nat), (sw_f ad f j sl)[i]? = (sl[i]?).map (fun x => match x with | none => Value.int (f (j + i)) | some none => .null | some (some k) => .ref (ad k))
  | [], _, _ => by simp [sw_f]
  | none :: r, j, 0 => by simp [sw_f]
  | some none :: r, j, 0 => by simp [sw_f]
  | some (some k) :: r, j, 0 => by simp [sw_f]
  | none :: r, j, i + 1 => by
    simp only [sw_f, List.getElem?_cons_succ, sw_f_get r (j + 1) i]
    rw [show j + 1 + i = j + (i + 1) by omega]
  | some none :: r, j, i + 1 => by
    simp only [sw_f, List.getElem?_cons_succ, sw_f_get r (j + 1) i]
    rw [show j + 1 + i = j + (i + 1) by omega]
  | some (some k) :: r, j, i + 1 => by
    simp only [sw_f, List.getElem?_cons_succ, sw_f_get r (j + 1) i]
    rw [show j + 1 + i = j + (i + 1) by omega]
theorem sw_f_len {ad : Nat → Nat} {f : Nat → Int32} : ∀ (sl : List (Option (Option Nat))) (j : Nat), (sw_f ad f j sl).length = sl.length
  | [], _ => rfl
  | none :: r, j => by simp [sw_f, sw_f_len r (j + 1)]
  | some none :: r, j => by simp [sw_f, sw_f_len r (j + 1)]
  | some (some k) :: r, j => by simp [sw_f, sw_f_len r (j + 1)]
/-- one int written -/
def wr (μ : sw_M) (k j : Nat) (v : Int32) : sw_M := fun a b => if a = k then (if b = j then v else μ a b) else μ a b
def wrL (ν : sw_N) (k j : Nat) (v : Int64) : sw_N := fun a b => if a = k then (if b = j then v else ν a b) else ν a b
/-- a whole row written -/
def wrR (μ : sw_M) (k : Nat) (f : Nat → Int32) : sw_M := fun a b => if a = k then f b else μ a b
theorem wr_row (μ : sw_M) (k j : Nat) (v : Int32) : wr μ k j v k = upd (μ k) j v := by
  funext b; simp [wr, upd]
theorem wr_ne {μ : sw_M} {k j a : Nat} {v : Int32} (h : a ≠ k) : wr μ k j v a = μ a := by
  funext b; simp [wr, h]
theorem wrR_row (μ : sw_M) (k : Nat) (f : Nat → Int32) : wrR μ k f k = f := by
  funext b; simp [wrR]
theorem wrR_ne {μ : sw_M} {k a : Nat} {f : Nat → Int32} (h : a ≠ k) : wrR μ k f a = μ a := by
  funext b; simp [wrR, h]
theorem wrL_row (ν : sw_N) (k j : Nat) (v : Int64) : wrL ν k j v k = vp_updL (ν k) j v := by
  funext b; simp [wrL, vp_updL]
theorem wrL_ne {ν : sw_N} {k j a : Nat} {v : Int64} (h : a ≠ k) : wrL ν k j v a = ν a := by
  funext b; simp [wrL, h]
theorem sw_e_ne {cI cL : ClassId} {ad : Nat → Nat} {μ μ' : sw_M} {ν ν' : sw_N} {k : Nat} (h : μ' k = μ k) (h2 : ν' k = ν k) (x : sw_E) : sw_e cI cL ad μ' ν' k x = sw_e cI cL ad μ ν k x := by
  rcases x with ⟨b, n⟩ | ⟨ci, sl⟩
  · cases b <;> simp [sw_e, h, h2]
  · simp [sw_e, h]
theorem sw_w_set {cI cL : ClassId} {ad : Nat → Nat} {μ μ' : sw_M} {ν ν' : sw_N} {L : sw_L} {k : Nat} {x : sw_E} (h : L[k]? = some x) (hμ : ∀ a, a ≠ k → μ' a = μ a) (hν : ∀ a, a ≠ k → ν' a = ν a) :
    (sw_w cI cL ad μ ν 0 L).set k (ad k, sw_e cI cL ad μ' ν' k x) = sw_w cI cL ad μ' ν' 0 L := by
  apply List.ext_getElem?
  intro i
  have hk : k < L.length := (List.getElem?_eq_some_iff.mp h).1
  by_cases hi : k = i
  · subst hi
    rw [List.getElem?_set_self (by rw [sw_w_len]; exact hk), sw_w_at h]
  · rw [List.getElem?_set_ne hi, sw_w_get, sw_w_get]
    simp only [Nat.zero_add]
    cases L[i]? with
    | none => rfl
    | some y => simp only [Option.map_some]; rw [sw_e_ne (hμ i (fun e => hi e.symm)) (hν i (fun e => hi e.symm)) y]
/-! locals -/
def sw_lv (nL : Nat) (ad : Nat → Nat) (lv : List (Option Value)) (ls : Array Slot) : Prop := ls.size = nL ∧ lv_wf ls ∧ ∀ (i : Nat) (v : Value), lv[i]? = some (some v) → ls[i]? = some (.val (sw_v ad v))
def sw_pr (ad : Nat → Nat) : Nat → List (Option Value) → List (Nat × Value)
  | _, [] => []
  | i, none :: r => sw_pr ad (i + 1) r
  | i, some v :: r => (i, sw_v ad v) :: sw_pr ad (i + 1) r
theorem sw_pr_mem {ad : Nat → Nat} : ∀ (lv : List (Option Value)) (k i : Nat) (w : Value), (i, w) ∈ sw_pr ad k lv ↔ ∃ j v, i = k + j ∧ lv[j]? = some (some v) ∧ w = sw_v ad v
  | [], k, i, w => by simp [sw_pr]
  | none :: r, k, i, w => by
    rw [sw_pr, sw_pr_mem r (k + 1) i w]
    constructor
    · rintro ⟨j, v, rfl, h, rfl⟩
      exact ⟨j + 1, v, by omega, by simpa using h, rfl⟩
    · rintro ⟨j, v, rfl, h, rfl⟩
      cases j with
      | zero => simp at h
      | succ j => exact ⟨j, v, by omega, by simpa using h, rfl⟩
  | some x :: r, k, i, w => by
    rw [sw_pr, List.mem_cons, sw_pr_mem r (k + 1) i w]
    constructor
    · rintro (h | ⟨j, v, rfl, h, rfl⟩)
      · cases h; exact ⟨0, x, rfl, rfl, rfl⟩
      · exact ⟨j + 1, v, by omega, by simpa using h, rfl⟩
    · rintro ⟨j, v, rfl, h, rfl⟩
      cases j with
      | zero => simp at h; subst h; exact Or.inl rfl
      | succ j => exact Or.inr ⟨j, v, by omega, by simpa using h, rfl⟩
theorem sw_lv_has {nL : Nat} {ad : Nat → Nat} {lv : List (Option Value)} {ls : Array Slot} (h : sw_lv nL ad lv ls) : lv_has ls nL (sw_pr ad 0 lv) := by
  refine ⟨h.1, h.2.1, fun q hq => ?_⟩
  obtain ⟨i, w⟩ := q
  obtain ⟨j, v, e, hj, rfl⟩ := (sw_pr_mem lv 0 i w).mp hq
  have e : i = j := by omega
  subst e
  exact h.2.2 i v hj
theorem sw_cat (ad : Nat → Nat) (v : Value) : (sw_v ad v).category = v.category := by cases v <;> rfl
/-- a place set -/
def sv (v : Option Value) : Nat → List (Option Value) → List (Option Value)
  | _, [] => []
  | 0, _ :: r => v :: r
  | i + 1, x :: r => x :: sv v i r
theorem sv_get {v : Option Value} : ∀ (lv : List (Option Value)) (i j : Nat), (sv v i lv)[j]? = if j = i then (lv[j]?).map (fun _ => v) else lv[j]?
  | [], i, j => by simp [sv]
  | x :: r, 0, 0 => by simp [sv]
  | x :: r, 0, j + 1 => by simp [sv]
  | x :: r, i + 1, 0 => by simp [sv]
  | x :: r, i + 1, j + 1 => by simp only [sv, List.getElem?_cons_succ, sv_get r i j, Nat.add_right_cancel_iff]
/-- what stands just below isn't a value of two words -/
def sw_ok1 : Nat → List (Option Value) → Bool
  | 0, _ => true
  | i + 1, lv => match lv[i]? with
    | some (some v) => v.category == 1
    | _ => true
theorem sw_ok1_of {i j : Nat} {lv : List (Option Value)} {v : Value} (h : sw_ok1 i lv = true) (hj : j + 1 = i) (hv : lv[j]? = some (some v)) : ¬ v.category = 2 := by
  subst hj
  simp only [sw_ok1, hv] at h
  have := beq_iff_eq.mp h
  omega
theorem sw_lv_store1 {nL : Nat} {ad : Nat → Nat} {lv : List (Option Value)} {ls' : Array Slot} {i : Nat} {v : Value} (hk : sw_ok1 i lv = true)
    (h : lv_has ls' nL ((i, sw_v ad v) :: (sw_pr ad 0 lv).filter (fun q => !(q.1 == i) && !(q.1 + 1 == i && q.2.category == 2)))) : sw_lv nL ad (sv (some v) i lv) ls' := by
  refine ⟨h.1, h.2.1, fun j w hj => ?_⟩
  rw [sv_get] at hj
  by_cases e : j = i
  · subst e
    rw [if_pos rfl] at hj
    cases hl : lv[j]? with
    | none => rw [hl] at hj; cases hj
    | some x =>
      rw [hl] at hj; simp at hj; subst hj
      exact h.2.2 (j, sw_v ad v) List.mem_cons_self
  · rw [if_neg e] at hj
    refine h.2.2 (j, sw_v ad w) (List.mem_cons_of_mem _ (List.mem_filter.mpr ⟨(sw_pr_mem lv 0 j _).mpr ⟨j, w, by omega, hj, rfl⟩, ?_⟩))
    have h1 : (j == i) = false := by simp [e]
    simp only [h1, Bool.not_false, Bool.true_and, Bool.not_eq_true', Bool.and_eq_false_iff, sw_cat]
    by_cases e2 : j + 1 = i
    · exact Or.inr (by simp [sw_ok1_of hk e2 hj])
    · exact Or.inl (by simp [e2])
theorem sw_lv_store2 {nL : Nat} {ad : Nat → Nat} {lv : List (Option Value)} {ls' : Array Slot} {i : Nat} {v : Value} (hk : sw_ok1 i lv = true)
    (h : lv_has ls' nL ((i, sw_v ad v) :: (sw_pr ad 0 lv).filter (fun q => !(q.1 == i) && (!(q.1 == i + 1) && !(q.1 + 1 == i && q.2.category == 2))))) : sw_lv nL ad (sv none (i + 1) (sv (some v) i lv)) ls' := by
  refine ⟨h.1, h.2.1, fun j w hj => ?_⟩
  rw [sv_get] at hj
  by_cases e0 : j = i + 1
  · subst e0
    rw [if_pos rfl] at hj
    cases hl : (sv (some v) i lv)[i + 1]? with
    | none => rw [hl] at hj; cases hj
    | some x => rw [hl] at hj; cases hj
  rw [if_neg e0, sv_get] at hj
  by_cases e : j = i
  · subst e
    rw [if_pos rfl] at hj
    cases hl : lv[j]? with
    | none => rw [hl] at hj; cases hj
    | some x =>
      rw [hl] at hj; simp at hj; subst hj
      exact h.2.2 (j, sw_v ad v) List.mem_cons_self
  · rw [if_neg e] at hj
    refine h.2.2 (j, sw_v ad w) (List.mem_cons_of_mem _ (List.mem_filter.mpr ⟨(sw_pr_mem lv 0 j _).mpr ⟨j, w, by omega, hj, rfl⟩, ?_⟩))
    have h1 : (j == i) = false := by simp [e]
    have h2 : (j == i + 1) = false := by simp [e0]
    simp only [h1, h2, Bool.not_false, Bool.true_and, Bool.not_eq_true', Bool.and_eq_false_iff, sw_cat]
    by_cases e2 : j + 1 = i
    · exact Or.inr (by simp [sw_ok1_of hk e2 hj])
    · exact Or.inl (by simp [e2])
