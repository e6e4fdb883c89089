/-! ===== the run: what holds between steps ===== -/
def XU (μ μ' : sw_M) : Prop := (∀ a, a ≠ 19 → a ≠ 22 → a ≠ 23 → (a < 35 ∨ 41 < a) → μ' a = μ a) ∧ (∀ j, j ≠ 5 → μ' 19 j = μ 19 j) ∧ ∀ j, (j < 6 ∨ 8 < j) → μ' 41 j = μ 41 j
def MU (ν ν' : sw_M) : Prop := (∀ a, a ≠ 63 → a ≠ 76 → a ≠ 77 → a ≠ 81 → ν' a = ν a) ∧ ∀ j, (j < 38 ∨ 40 < j) → ν' 63 j = ν 63 j
theorem XU.rf (μ : sw_M) : XU μ μ := ⟨fun _ _ _ _ _ => rfl, fun _ _ => rfl, fun _ _ => rfl⟩
theorem MU.rf (μ : sw_M) : MU μ μ := ⟨fun _ _ _ _ _ => rfl, fun _ _ => rfl⟩
theorem XU.tr {a b c : sw_M} (h : XU a b) (h2 : XU b c) : XU a c := ⟨fun x q1 q2 q3 q4 => (h2.1 x q1 q2 q3 q4).trans (h.1 x q1 q2 q3 q4), fun j q => (h2.2.1 j q).trans (h.2.1 j q), fun j q => (h2.2.2 j q).trans (h.2.2 j q)⟩
theorem MU.tr {a b c : sw_M} (h : MU a b) (h2 : MU b c) : MU a c := ⟨fun x q1 q2 q3 q4 => (h2.1 x q1 q2 q3 q4).trans (h.1 x q1 q2 q3 q4), fun j q => (h2.2 j q).trans (h.2 j q)⟩
theorem XU.w {a b : sw_M} (h : XU a b) (j : Nat) (v : Int32) (hj : 6 ≤ j ∧ j ≤ 8) : XU a (wr b 41 j v) := ⟨fun x q1 q2 q3 q4 => by rw [wr_nr (by omega)]; exact h.1 x q1 q2 q3 q4, fun i q => by rw [wr_nr (by decide)]; exact h.2.1 i q, fun i q => by rw [wr_ap, if_pos rfl, if_neg (by omega)]; exact h.2.2 i q⟩
theorem MU.w {a b : sw_M} (h : MU a b) (j : Nat) (v : Int32) (hj : 38 ≤ j ∧ j ≤ 40) : MU a (wr b 63 j v) := ⟨fun x q1 q2 q3 q4 => by rw [wr_nr q1]; exact h.1 x q1 q2 q3 q4, fun i q => by rw [wr_ap, if_pos rfl, if_neg (by omega)]; exact h.2 i q⟩
theorem FrD.xu {a b : sw_M} (h : FrD 35 a b) : XU a b := ⟨fun x q1 q2 q3 q4 => h.1 x q1 q2 q3 (by omega), h.2, fun j _ => by rw [h.1 41 (by decide) (by decide) (by decide) (by decide)]⟩
theorem FrS.mu {a b : sw_M} (h : FrS a b) : MU a b := ⟨fun x _ q2 q3 q4 => h x q2 q3 q4, fun j _ => by rw [h 63 (by decide) (by decide) (by decide)]⟩
/-- what the run never touches -/
def RS (c μ ν : sw_M) (F W T P : Nat) (K O : Nat → Int32) (nl n : Nat) : Prop := XR μ c ∧ MR ν c F W T P ∧ XL μ K O nl ∧ ML ν K O nl ∧ WQ μ ν W T P n ∧ ∀ i, i < 3 * n → ν 79 i = ν 78 i
theorem RS.fr {c μ ν μ' ν' : sw_M} {F W T P : Nat} {K O : Nat → Int32} {nl n : Nat} (h : RS c μ ν F W T P K O nl n) (x : XU μ μ') (m : MU ν ν') : RS c μ' ν' F W T P K O nl n := by
  have q : ∀ a, (a < 19 ∨ (20 ≤ a ∧ a ≤ 21) ∨ (24 ≤ a ∧ a < 35) ∨ 41 < a) → μ' a = μ a := fun a _ => x.1 a (by omega) (by omega) (by omega) (by omega)
  have p : ∀ a, (63 < a ∧ a < 76 ∨ 78 ≤ a ∧ a ≤ 79) → ν' a = ν a := fun a _ => m.1 a (by omega) (by omega) (by omega) (by omega)
  obtain ⟨h1, h2, h3, h4, h5, h6⟩ := h
  refine ⟨?_, ?_, h3.fr (x.2.1 4 (by decide)) (q 20 (by omega)) (q 21 (by omega)), h4.fr (m.2 31 (by decide)) (p 74 (by omega)) (p 75 (by omega)), h5.fr (x.2.2 5 (by decide)) (q 42 (by omega)) (q 43 (by omega)) (q 44 (by omega)) (m.2 35 (by decide)) (p 78 (by omega)), by rw [p 79 (by omega), p 78 (by omega)]; exact h6⟩
  · unfold XR at h1 ⊢
    rw [q 3 (by omega), q 4 (by omega), q 5 (by omega), q 6 (by omega), q 7 (by omega), q 8 (by omega), q 9 (by omega), q 10 (by omega)]; exact h1
  · unfold MR at h2 ⊢
    rw [m.2 21 (by decide), m.2 22 (by decide), m.2 23 (by decide), m.2 24 (by decide), p 69 (by omega), p 70 (by omega), p 71 (by omega)]; exact h2
/-- the day and the counts -/
def RC (μ ν : sw_M) (F W T P g : Nat) : Prop := OKS F W T P (ν 81) ∧ DR μ 35 W T P (ν 81) ∧ μ 41 6 = ic g ∧ ν 63 38 = ic g ∧ g ≤ 200 ∧ μ 41 7 = ν 63 39 ∧ μ 41 8 = ν 63 40
