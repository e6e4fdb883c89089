/-! ===== printed by wip/whole/gen70.py: the invariant ===== -/
def BK (μ : sw_M) (n : Nat) : Prop := n ≤ 8 ∧ μ 29 0 = ic n ∧ μ 63 46 = ic n ∧ (∀ i, i < n → ∃ k v : Nat, k ≤ 40 ∧ v ≤ 12 ∧ μ 30 i = ic k ∧ μ 31 i = ic v ∧ μ 84 k = ic v) ∧ (∀ k, k ≤ 40 → μ 84 k = -1 ∨ ∃ i, i < n ∧ μ 30 i = ic k)
def OKS (F W T P : Nat) (S : Nat → Int32) : Prop := WS F W T P S ∧ ∃ h : Nat, h ≤ 400 ∧ S 48 = ic h
def RW (W T P : Nat) (r S : Nat → Int32) : Prop := (r 0 = S 48 ∧ r 1 = S 46 ∧ r 3 = S 47 ∧ r 2 = cutS W S) ∧ (∀ w, w < W → r (4 + w) = S w) ∧ (∀ t, t < T → r (22 + t) = S (30 + t)) ∧ (∀ t, t < T → S (30 + t) = -1 → r (16 + t) = S (24 + t)) ∧ (∀ p, p < P → r (28 + p) = S (36 + p)) ∧ (∀ p, p < P → r (33 + p) = S (41 + p))
def OR (F W T P : Nat) (r S : Nat → Int32) : Prop := OKS F W T P S ∧ RW W T P r S
def SHF (μ : sw_M) (F W T P n : Nat) : Prop := n ≤ 16 ∧ μ 45 4 = ic n ∧ μ 63 36 = ic n ∧ ∀ i, i < n → OR F W T P (fun j => μ 46 (38 * i + j)) (fun j => μ 82 (49 * i + j))
def IM1 (μ : sw_M) (F W T P i : Nat) : Prop := OR F W T P (fun j => μ 47 (646 * i + j)) (fun j => μ 86 (834 * i + j)) ∧ ∃ k : Nat, k ≤ 16 ∧ μ 48 i = ic k ∧ μ 86 (834 * i + 833) = ic k ∧ ∀ q, q < k → OR F W T P (fun j => μ 47 (646 * i + 38 + 38 * q + j)) (fun j => μ 86 (834 * i + 49 + 49 * q + j))
def IMG (μ : sw_M) (F W T P m : Nat) : Prop := m ≤ 3 ∧ μ 45 5 = ic m ∧ μ 63 50 = ic m ∧ ∀ i, i < m → IM1 μ F W T P i
def TP (μ : sw_M) : Prop := ∃ h : Nat, h ≤ 600 ∧ μ 1 3 = ic h ∧ μ 63 2 = ic h ∧ (∀ i, i < h → μ 2 i = μ 65 i ∧ ∃ v : Nat, v < 256 ∧ μ 65 i = ic v) ∧ μ 1 8 = μ 63 8
def QI (μ : sw_M) (F W T P : Nat) (K O : Nat → Int32) (nl nb : Nat) : Prop := CW μ F W T P ∧ MR μ μ F W T P ∧ OKS F W T P (μ 80) ∧ DR μ 35 W T P (μ 80) ∧ XL μ K O nl ∧ ML μ K O nl ∧ BK μ nb
def Inv (μ : sw_M) : Prop := ∃ (F W T P : Nat) (K O : Nat → Int32) (nl nb n m : Nat), QI μ F W T P K O nl nb ∧ TP μ ∧ SHF μ F W T P n ∧ IMG μ F W T P m ∧ μ 41 8 = μ 63 37 ∧ μ 0 13 = μ 64 0 ∧ μ 0 14 = μ 64 1
theorem Inv.cg {μ μ' : sw_M} (h : Inv μ) (r2 : μ' 2 = μ 2) (r3 : μ' 3 = μ 3) (r4 : μ' 4 = μ 4) (r5 : μ' 5 = μ 5) (r6 : μ' 6 = μ 6) (r7 : μ' 7 = μ 7) (r8 : μ' 8 = μ 8) (r9 : μ' 9 = μ 9) (r10 : μ' 10 = μ 10) (r20 : μ' 20 = μ 20) (r21 : μ' 21 = μ 21) (r29 : μ' 29 = μ 29) (r30 : μ' 30 = μ 30) (r31 : μ' 31 = μ 31) (r35 : μ' 35 = μ 35) (r36 : μ' 36 = μ 36) (r37 : μ' 37 = μ 37) (r38 : μ' 38 = μ 38) (r39 : μ' 39 = μ 39) (r40 : μ' 40 = μ 40) (r46 : μ' 46 = μ 46) (r47 : μ' 47 = μ 47) (r48 : μ' 48 = μ 48) (r64 : μ' 64 = μ 64) (r65 : μ' 65 = μ 65) (r69 : μ' 69 = μ 69) (r70 : μ' 70 = μ 70) (r71 : μ' 71 = μ 71) (r74 : μ' 74 = μ 74) (r75 : μ' 75 = μ 75) (r80 : μ' 80 = μ 80) (r82 : μ' 82 = μ 82) (r84 : μ' 84 = μ 84) (r86 : μ' 86 = μ 86) (q0_13 : μ' 0 13 = μ 0 13) (q0_14 : μ' 0 14 = μ 0 14) (q1_3 : μ' 1 3 = μ 1 3) (q1_8 : μ' 1 8 = μ 1 8) (q19_4 : μ' 19 4 = μ 19 4) (q41_8 : μ' 41 8 = μ 41 8) (q45_4 : μ' 45 4 = μ 45 4) (q45_5 : μ' 45 5 = μ 45 5) (q63_2 : μ' 63 2 = μ 63 2) (q63_8 : μ' 63 8 = μ 63 8) (q63_21 : μ' 63 21 = μ 63 21) (q63_22 : μ' 63 22 = μ 63 22) (q63_23 : μ' 63 23 = μ 63 23) (q63_24 : μ' 63 24 = μ 63 24) (q63_31 : μ' 63 31 = μ 63 31) (q63_36 : μ' 63 36 = μ 63 36) (q63_37 : μ' 63 37 = μ 63 37) (q63_46 : μ' 63 46 = μ 63 46) (q63_50 : μ' 63 50 = μ 63 50) : Inv μ' := by
  obtain ⟨F, W, T, P, K, O, nl, nb, n, m, h⟩ := h
  refine ⟨F, W, T, P, K, O, nl, nb, n, m, ?_⟩
  unfold QI TP SHF IMG IM1 BK CW MR DR XL ML at h ⊢
  simp only [r2, r3, r4, r5, r6, r7, r8, r9, r10, r20, r21, r29, r30, r31, r35, r36, r37, r38, r39, r40, r46, r47, r48, r64, r65, r69, r70, r71, r74, r75, r80, r82, r84, r86, q0_13, q0_14, q1_3, q1_8, q19_4, q41_8, q45_4, q45_5, q63_2, q63_8, q63_21, q63_22, q63_23, q63_24, q63_31, q63_36, q63_37, q63_46, q63_50]
  exact h
def SX (μ μ' : sw_M) : Prop := (∀ a, a ≠ 19 → a ≠ 22 → a ≠ 23 → (a < 50 ∨ 62 < a) → μ' a = μ a) ∧ ∀ j, j ≠ 5 → μ' 19 j = μ 19 j
def SM (μ μ' : sw_M) : Prop := (∀ a, a ≠ 63 → a ≠ 76 → a ≠ 77 → a ≠ 81 → a ≠ 85 → μ' a = μ a) ∧ ∀ j, j ≠ 0 → j ≠ 48 → μ' 63 j = μ 63 j
theorem SX.rf (μ : sw_M) : SX μ μ := ⟨fun _ _ _ _ _ => rfl, fun _ _ => rfl⟩
theorem SM.rf (μ : sw_M) : SM μ μ := ⟨fun _ _ _ _ _ _ => rfl, fun _ _ _ => rfl⟩
theorem SX.tr {a b c : sw_M} (h : SX a b) (h2 : SX b c) : SX a c := ⟨fun x h3 h4 h5 h6 => (h2.1 x h3 h4 h5 h6).trans (h.1 x h3 h4 h5 h6), fun j hj => (h2.2 j hj).trans (h.2 j hj)⟩
theorem SM.tr {a b c : sw_M} (h : SM a b) (h2 : SM b c) : SM a c := ⟨fun x h3 h4 h5 h6 h7 => (h2.1 x h3 h4 h5 h6 h7).trans (h.1 x h3 h4 h5 h6 h7), fun j hj hk => (h2.2 j hj hk).trans (h.2 j hj hk)⟩
theorem FrL.sx {a b : sw_M} (h : FrL a b) : SX a b := ⟨fun x h3 h4 h5 _ => h.1 x h3 h4 h5, h.2⟩
theorem FrD.sx {a b : sw_M} (h : FrD 57 a b) : SX a b := ⟨fun x h3 h4 h5 h6 => h.1 x h3 h4 h5 (by omega), h.2⟩
theorem SX.wr {a b : sw_M} (h : SX a b) {k : Nat} (j : Nat) (v : Int32) (h1 : 50 ≤ k) (h2 : k ≤ 62) : SX a (wr b k j v) := ⟨fun x q3 q4 q5 q6 => by rw [wr_nr (by omega)]; exact h.1 x q3 q4 q5 q6, fun j hj => by rw [wr_nr (by omega)]; exact h.2 j hj⟩
theorem SX.wrR {a b : sw_M} (h : SX a b) {k : Nat} (f : Nat → Int32) (h1 : 50 ≤ k) (h2 : k ≤ 62) : SX a (wrR b k f) := ⟨fun x q3 q4 q5 q6 => by rw [wrR_nr (by omega)]; exact h.1 x q3 q4 q5 q6, fun j hj => by rw [wrR_nr (by omega)]; exact h.2 j hj⟩
theorem FrS.sm {a b : sw_M} (h : FrS a b) : SM a b := ⟨fun x _ h4 h5 h6 _ => h x h4 h5 h6, fun j _ _ => by rw [h 63 (by decide) (by decide) (by decide)]⟩
theorem FrT.sm {a b : sw_M} (h : FrT a b) : SM a b := h.fs.sm
theorem SM.wr81 {a b : sw_M} (h : SM a b) (j : Nat) (v : Int32) : SM a (wr b 81 j v) := ⟨fun x q1 q2 q3 q4 q5 => by rw [wr_nr q4]; exact h.1 x q1 q2 q3 q4 q5, fun j h1 h2 => by rw [wr_nr (by omega)]; exact h.2 j h1 h2⟩
theorem SM.wrR81 {a b : sw_M} (h : SM a b) (f : Nat → Int32) : SM a (wrR b 81 f) := ⟨fun x q1 q2 q3 q4 q5 => by rw [wrR_nr q4]; exact h.1 x q1 q2 q3 q4 q5, fun j h1 h2 => by rw [wrR_nr (by omega)]; exact h.2 j h1 h2⟩
theorem SM.wrR85 {a b : sw_M} (h : SM a b) (f : Nat → Int32) : SM a (wrR b 85 f) := ⟨fun x q1 q2 q3 q4 q5 => by rw [wrR_nr q5]; exact h.1 x q1 q2 q3 q4 q5, fun j h1 h2 => by rw [wrR_nr (by omega)]; exact h.2 j h1 h2⟩
theorem SM.wr63 {a b : sw_M} (h : SM a b) (j : Nat) (v : Int32) (hj : j = 0 ∨ j = 48) : SM a (wr b 63 j v) := ⟨fun x q1 q2 q3 q4 q5 => by rw [wr_nr q1]; exact h.1 x q1 q2 q3 q4 q5, fun i h1 h2 => by rw [wr_ap, if_pos rfl, if_neg (by omega)]; exact h.2 i h1 h2⟩
theorem Inv.sx {μ μ' : sw_M} (h : Inv μ) (f : SX μ μ') : Inv μ' := h.cg (f.1 2 (by decide) (by decide) (by decide) (by decide)) (f.1 3 (by decide) (by decide) (by decide) (by decide)) (f.1 4 (by decide) (by decide) (by decide) (by decide)) (f.1 5 (by decide) (by decide) (by decide) (by decide)) (f.1 6 (by decide) (by decide) (by decide) (by decide)) (f.1 7 (by decide) (by decide) (by decide) (by decide)) (f.1 8 (by decide) (by decide) (by decide) (by decide)) (f.1 9 (by decide) (by decide) (by decide) (by decide)) (f.1 10 (by decide) (by decide) (by decide) (by decide)) (f.1 20 (by decide) (by decide) (by decide) (by decide)) (f.1 21 (by decide) (by decide) (by decide) (by decide)) (f.1 29 (by decide) (by decide) (by decide) (by decide)) (f.1 30 (by decide) (by decide) (by decide) (by decide)) (f.1 31 (by decide) (by decide) (by decide) (by decide)) (f.1 35 (by decide) (by decide) (by decide) (by decide)) (f.1 36 (by decide) (by decide) (by decide) (by decide)) (f.1 37 (by decide) (by decide) (by decide) (by decide)) (f.1 38 (by decide) (by decide) (by decide) (by decide)) (f.1 39 (by decide) (by decide) (by decide) (by decide)) (f.1 40 (by decide) (by decide) (by decide) (by decide)) (f.1 46 (by decide) (by decide) (by decide) (by decide)) (f.1 47 (by decide) (by decide) (by decide) (by decide)) (f.1 48 (by decide) (by decide) (by decide) (by decide)) (f.1 64 (by decide) (by decide) (by decide) (by decide)) (f.1 65 (by decide) (by decide) (by decide) (by decide)) (f.1 69 (by decide) (by decide) (by decide) (by decide)) (f.1 70 (by decide) (by decide) (by decide) (by decide)) (f.1 71 (by decide) (by decide) (by decide) (by decide)) (f.1 74 (by decide) (by decide) (by decide) (by decide)) (f.1 75 (by decide) (by decide) (by decide) (by decide)) (f.1 80 (by decide) (by decide) (by decide) (by decide)) (f.1 82 (by decide) (by decide) (by decide) (by decide)) (f.1 84 (by decide) (by decide) (by decide) (by decide)) (f.1 86 (by decide) (by decide) (by decide) (by decide)) (congrFun (f.1 0 (by decide) (by decide) (by decide) (by decide)) 13) (congrFun (f.1 0 (by decide) (by decide) (by decide) (by decide)) 14) (congrFun (f.1 1 (by decide) (by decide) (by decide) (by decide)) 3) (congrFun (f.1 1 (by decide) (by decide) (by decide) (by decide)) 8) (f.2 4 (by decide)) (congrFun (f.1 41 (by decide) (by decide) (by decide) (by decide)) 8) (congrFun (f.1 45 (by decide) (by decide) (by decide) (by decide)) 4) (congrFun (f.1 45 (by decide) (by decide) (by decide) (by decide)) 5) (congrFun (f.1 63 (by decide) (by decide) (by decide) (by decide)) 2) (congrFun (f.1 63 (by decide) (by decide) (by decide) (by decide)) 8) (congrFun (f.1 63 (by decide) (by decide) (by decide) (by decide)) 21) (congrFun (f.1 63 (by decide) (by decide) (by decide) (by decide)) 22) (congrFun (f.1 63 (by decide) (by decide) (by decide) (by decide)) 23) (congrFun (f.1 63 (by decide) (by decide) (by decide) (by decide)) 24) (congrFun (f.1 63 (by decide) (by decide) (by decide) (by decide)) 31) (congrFun (f.1 63 (by decide) (by decide) (by decide) (by decide)) 36) (congrFun (f.1 63 (by decide) (by decide) (by decide) (by decide)) 37) (congrFun (f.1 63 (by decide) (by decide) (by decide) (by decide)) 46) (congrFun (f.1 63 (by decide) (by decide) (by decide) (by decide)) 50)
theorem Inv.sm {μ μ' : sw_M} (h : Inv μ) (f : SM μ μ') : Inv μ' := h.cg (f.1 2 (by decide) (by decide) (by decide) (by decide) (by decide)) (f.1 3 (by decide) (by decide) (by decide) (by decide) (by decide)) (f.1 4 (by decide) (by decide) (by decide) (by decide) (by decide)) (f.1 5 (by decide) (by decide) (by decide) (by decide) (by decide)) (f.1 6 (by decide) (by decide) (by decide) (by decide) (by decide)) (f.1 7 (by decide) (by decide) (by decide) (by decide) (by decide)) (f.1 8 (by decide) (by decide) (by decide) (by decide) (by decide)) (f.1 9 (by decide) (by decide) (by decide) (by decide) (by decide)) (f.1 10 (by decide) (by decide) (by decide) (by decide) (by decide)) (f.1 20 (by decide) (by decide) (by decide) (by decide) (by decide)) (f.1 21 (by decide) (by decide) (by decide) (by decide) (by decide)) (f.1 29 (by decide) (by decide) (by decide) (by decide) (by decide)) (f.1 30 (by decide) (by decide) (by decide) (by decide) (by decide)) (f.1 31 (by decide) (by decide) (by decide) (by decide) (by decide)) (f.1 35 (by decide) (by decide) (by decide) (by decide) (by decide)) (f.1 36 (by decide) (by decide) (by decide) (by decide) (by decide)) (f.1 37 (by decide) (by decide) (by decide) (by decide) (by decide)) (f.1 38 (by decide) (by decide) (by decide) (by decide) (by decide)) (f.1 39 (by decide) (by decide) (by decide) (by decide) (by decide)) (f.1 40 (by decide) (by decide) (by decide) (by decide) (by decide)) (f.1 46 (by decide) (by decide) (by decide) (by decide) (by decide)) (f.1 47 (by decide) (by decide) (by decide) (by decide) (by decide)) (f.1 48 (by decide) (by decide) (by decide) (by decide) (by decide)) (f.1 64 (by decide) (by decide) (by decide) (by decide) (by decide)) (f.1 65 (by decide) (by decide) (by decide) (by decide) (by decide)) (f.1 69 (by decide) (by decide) (by decide) (by decide) (by decide)) (f.1 70 (by decide) (by decide) (by decide) (by decide) (by decide)) (f.1 71 (by decide) (by decide) (by decide) (by decide) (by decide)) (f.1 74 (by decide) (by decide) (by decide) (by decide) (by decide)) (f.1 75 (by decide) (by decide) (by decide) (by decide) (by decide)) (f.1 80 (by decide) (by decide) (by decide) (by decide) (by decide)) (f.1 82 (by decide) (by decide) (by decide) (by decide) (by decide)) (f.1 84 (by decide) (by decide) (by decide) (by decide) (by decide)) (f.1 86 (by decide) (by decide) (by decide) (by decide) (by decide)) (congrFun (f.1 0 (by decide) (by decide) (by decide) (by decide) (by decide)) 13) (congrFun (f.1 0 (by decide) (by decide) (by decide) (by decide) (by decide)) 14) (congrFun (f.1 1 (by decide) (by decide) (by decide) (by decide) (by decide)) 3) (congrFun (f.1 1 (by decide) (by decide) (by decide) (by decide) (by decide)) 8) (congrFun (f.1 19 (by decide) (by decide) (by decide) (by decide) (by decide)) 4) (congrFun (f.1 41 (by decide) (by decide) (by decide) (by decide) (by decide)) 8) (congrFun (f.1 45 (by decide) (by decide) (by decide) (by decide) (by decide)) 4) (congrFun (f.1 45 (by decide) (by decide) (by decide) (by decide) (by decide)) 5) (f.2 2 (by decide) (by decide)) (f.2 8 (by decide) (by decide)) (f.2 21 (by decide) (by decide)) (f.2 22 (by decide) (by decide)) (f.2 23 (by decide) (by decide)) (f.2 24 (by decide) (by decide)) (f.2 31 (by decide) (by decide)) (f.2 36 (by decide) (by decide)) (f.2 37 (by decide) (by decide)) (f.2 46 (by decide) (by decide)) (f.2 50 (by decide) (by decide))
/-- a refusal, counted by both -/
theorem Inv.rf {μ μ' : sw_M} (h : Inv μ) {i : Nat} (hi : i < 2) {x : Int32} (hm : μ' = wr (wr (wr (wr μ 0 (13 + i) (μ 0 (13 + i) + 1)) 63 0 0) 63 0 x) 64 i (μ 64 i + 1)) : Inv μ' := by
  obtain ⟨F, W, T, P, K, O, nl, nb, n, m, h1, h2, h3, h4, h5, h6, h7⟩ := h
  subst hm
  refine ⟨F, W, T, P, K, O, nl, nb, n, m, h1, h2, h3, h4, h5, ?_, ?_⟩
  · have : i = 0 ∨ i = 1 := by omega
    rcases this with rfl | rfl
    · show μ 0 13 + 1 = μ 64 0 + 1; rw [h6]
    · exact h6
  · have : i = 0 ∨ i = 1 := by omega
    rcases this with rfl | rfl
    · exact h7
    · show μ 0 14 + 1 = μ 64 1 + 1; rw [h7]
/-! guards -/
theorem wn_dec (a : Int32) {n : Nat} (hn : n ≤ 1000) : (∃ f, f < n ∧ a = ic f ∧ (0 ≤ a ∧ a ≤ ic n - 1)) ∨ ¬ (0 ≤ a ∧ a ≤ ic n - 1) := by
  by_cases h : 0 ≤ a ∧ a ≤ ic n - 1
  · left
    obtain ⟨k, hk, rfl⟩ := ic_of h.1
    have h2 := Int32.le_iff_toInt_le.mp h.2
    rw [show ic n - 1 = ic n - ic 1 from rfl, ic_sub_toInt (by omega) (by omega), ic_toInt hk] at h2
    exact ⟨k, by omega, rfl, h⟩
  · exact Or.inr h
theorem wn_dec2 (a : Int32) {n : Nat} (hn : n ≤ 1000) : (∃ f, f ≤ n ∧ a = ic f ∧ (0 ≤ a ∧ a ≤ ic n)) ∨ ¬ (0 ≤ a ∧ a ≤ ic n) := by
  by_cases h : 0 ≤ a ∧ a ≤ ic n
  · left
    obtain ⟨k, hk, rfl⟩ := ic_bd h.1 h.2 (by omega)
    exact ⟨k, hk, rfl, h⟩
  · exact Or.inr h
section
variable {N : Nat} {μ : sw_M}
theorem nt_1 {r : Int32} (h : ¬ r = 0) : f_x_needThere N μ r = some (.inl μ) := by unfold f_x_needThere; rw [if_neg h]
theorem nt_0 : f_x_needThere N μ 0 = some (.inr ("java/util/NoSuchElementException", wr μ 0 13 (μ 0 13 + 1))) := rfl
theorem nd_1 {r : Int32} (h : ¬ r = 0) : f_x_need N μ r = some (.inl μ) := by unfold f_x_need; rw [if_neg h]
theorem nd_0 : f_x_need N μ 0 = some (.inr ("java/lang/IllegalArgumentException", wr μ 0 14 (μ 0 14 + 1))) := rfl
theorem b2_p {p : Prop} [Decidable p] (h : p) : b2 p = 1 := if_pos h
theorem b2_n {p : Prop} [Decidable p] (h : ¬ p) : b2 p = 0 := if_neg h
theorem tb_l {α β : Type} (a : α) (f : α → Option (β ⊕ (String × sw_M))) : tb (some (.inl a)) f = f a := rfl
theorem tb_r {α β : Type} (e : String × sw_M) (f : α → Option (β ⊕ (String × sw_M))) : tb (some (.inr e)) f = some (.inr e) := rfl
theorem g_needField_1 {a : Int32} {n : Nat} (hn : μ 3 0 = ic n) (h : 0 ≤ a ∧ a ≤ ic n - 1) : f_x_needField N μ a = some (.inl μ) := by
  unfold f_x_needField; rw [within_e, ob_e, hn, b2_p h, nt_1 (by decide), tb_l]
theorem g_needField_0 {a : Int32} {n : Nat} (hn : μ 3 0 = ic n) (h : ¬ (0 ≤ a ∧ a ≤ ic n - 1)) : f_x_needField N μ a = some (.inr ("java/util/NoSuchElementException", wr μ 0 13 (μ 0 13 + 1))) := by
  unfold f_x_needField; rw [within_e, ob_e, hn, b2_n h, nt_0, tb_r]
theorem g_needWire_1 {a : Int32} {n : Nat} (hn : μ 3 1 = ic n) (h : 0 ≤ a ∧ a ≤ ic n - 1) : f_x_needWire N μ a = some (.inl μ) := by
  unfold f_x_needWire; rw [within_e, ob_e, hn, b2_p h, nt_1 (by decide), tb_l]
theorem g_needWire_0 {a : Int32} {n : Nat} (hn : μ 3 1 = ic n) (h : ¬ (0 ≤ a ∧ a ≤ ic n - 1)) : f_x_needWire N μ a = some (.inr ("java/util/NoSuchElementException", wr μ 0 13 (μ 0 13 + 1))) := by
  unfold f_x_needWire; rw [within_e, ob_e, hn, b2_n h, nt_0, tb_r]
theorem g_needPerson_1 {a : Int32} {n : Nat} (hn : μ 3 3 = ic n) (h : 0 ≤ a ∧ a ≤ ic n - 1) : f_x_needPerson N μ a = some (.inl μ) := by
  unfold f_x_needPerson; rw [within_e, ob_e, hn, b2_p h, nt_1 (by decide), tb_l]
theorem g_needPerson_0 {a : Int32} {n : Nat} (hn : μ 3 3 = ic n) (h : ¬ (0 ≤ a ∧ a ≤ ic n - 1)) : f_x_needPerson N μ a = some (.inr ("java/util/NoSuchElementException", wr μ 0 13 (μ 0 13 + 1))) := by
  unfold f_x_needPerson; rw [within_e, ob_e, hn, b2_n h, nt_0, tb_r]
theorem g_needWhat_1 {a n : Int32} (h : 0 ≤ a ∧ a ≤ n) : f_x_needWhat N μ a n = some (.inl μ) := by
  unfold f_x_needWhat; rw [within_e, ob_e, b2_p h, nd_1 (by decide), tb_l]
theorem g_needWhat_0 {a n : Int32} (h : ¬ (0 ≤ a ∧ a ≤ n)) : f_x_needWhat N μ a n = some (.inr ("java/lang/IllegalArgumentException", wr μ 0 14 (μ 0 14 + 1))) := by
  unfold f_x_needWhat; rw [within_e, ob_e, b2_n h, nd_0, tb_r]
theorem may_1 {r x k : Int32} (h : ¬ r = 0) (h0 : μ 63 0 = 0) : f_m_may N μ r x k = some (1, μ) := by
  unfold f_m_may f_m_may_26; rw [if_neg h, if_pos h0]
theorem may_0 {x : Int32} {k : Nat} (hk : k < 2) (hx : ¬ x = 0) (h0 : μ 63 0 = 0) : f_m_may N μ 0 x (ic k) = some (0, wr (wr μ 63 0 x) 64 k (μ 64 k + 1)) := by
  unfold f_m_may
  rw [if_pos rfl, if_pos h0, wb_e, inb_e (by omega) (by decide), inb_e (by omega) (by decide), ic_n (by omega), wb_e, wr_nr (show 64 ≠ 63 by decide)]
  unfold f_m_may_26
  rw [if_neg]
  rw [wr_nr (by decide), wr_ap, if_pos rfl, if_pos rfl]; exact hx
theorem may_n {x : Int32} (hx : ¬ x = 0) (h0 : μ 63 0 = 0) : f_m_may N μ 0 x 0 = some (0, wr (wr μ 63 0 x) 64 0 (μ 64 0 + 1)) := may_0 (k := 0) (by decide) hx h0
theorem may_i {x : Int32} (hx : ¬ x = 0) (h0 : μ 63 0 = 0) : f_m_may N μ 0 x 1 = some (0, wr (wr μ 63 0 x) 64 1 (μ 64 1 + 1)) := may_0 (k := 1) (by decide) hx h0
theorem h_isField_1 {a : Int32} {n : Nat} (hn : μ 63 21 = ic n) (h0 : μ 63 0 = 0) (h : 0 ≤ a ∧ a ≤ ic n - 1) : f_m_isField N μ a 1 = some (1, μ) := by
  unfold f_m_isField; rw [withinm_e, ob_e, hn, b2_p h, may_1 (by decide) h0, ob_e]; rfl
theorem h_isField_0 {a : Int32} {n : Nat} (hn : μ 63 21 = ic n) (h0 : μ 63 0 = 0) (h : ¬ (0 ≤ a ∧ a ≤ ic n - 1)) : f_m_isField N μ a 1 = some (0, wr (wr μ 63 0 1) 64 0 (μ 64 0 + 1)) := by
  unfold f_m_isField; rw [withinm_e, ob_e, hn, b2_n h, may_n (by decide) h0, ob_e]; rfl
theorem h_isWire_1 {a : Int32} {n : Nat} (hn : μ 63 22 = ic n) (h0 : μ 63 0 = 0) (h : 0 ≤ a ∧ a ≤ ic n - 1) : f_m_isWire N μ a 1 = some (1, μ) := by
  unfold f_m_isWire; rw [withinm_e, ob_e, hn, b2_p h, may_1 (by decide) h0, ob_e]; rfl
theorem h_isWire_0 {a : Int32} {n : Nat} (hn : μ 63 22 = ic n) (h0 : μ 63 0 = 0) (h : ¬ (0 ≤ a ∧ a ≤ ic n - 1)) : f_m_isWire N μ a 1 = some (0, wr (wr μ 63 0 1) 64 0 (μ 64 0 + 1)) := by
  unfold f_m_isWire; rw [withinm_e, ob_e, hn, b2_n h, may_n (by decide) h0, ob_e]; rfl
theorem h_isPerson_1 {a : Int32} {n : Nat} (hn : μ 63 24 = ic n) (h0 : μ 63 0 = 0) (h : 0 ≤ a ∧ a ≤ ic n - 1) : f_m_isPerson N μ a 1 = some (1, μ) := by
  unfold f_m_isPerson; rw [withinm_e, ob_e, hn, b2_p h, may_1 (by decide) h0, ob_e]; rfl
theorem h_isPerson_0 {a : Int32} {n : Nat} (hn : μ 63 24 = ic n) (h0 : μ 63 0 = 0) (h : ¬ (0 ≤ a ∧ a ≤ ic n - 1)) : f_m_isPerson N μ a 1 = some (0, wr (wr μ 63 0 1) 64 0 (μ 64 0 + 1)) := by
  unfold f_m_isPerson; rw [withinm_e, ob_e, hn, b2_n h, may_n (by decide) h0, ob_e]; rfl
end
theorem lp_m_copies {N k0 n0 k1 n1 m : Nat} (hk : k0 ≠ k1) (h0 : m ≤ n0) (h1 : m ≤ n1) (hn0 : n0 < 100000) (hn1 : n1 < 100000) : ∀ (j k : Nat) (μ : sw_M) (n : Nat), k + j = m → j < n → f_m_copies_3 N k0 n0 k1 n1 n μ (ic m) (ic k) = some (wrR μ k1 (fun i => if k ≤ i ∧ i < m then μ k0 i else μ k1 i))
  | 0, k, μ, n, h, hn => by
    obtain ⟨n, rfl⟩ := fu_s hn
    simp (disch := omega) only [f_m_copies_3, wb_e, ib_e, ibL_e, ob_e, nz4, inb_e, inb_lit, ic_n, n_lit, ic_1, lit_add, add_lit, lit_mul, mul_lit, ic_add, ic_mul, ic_le, ic_lt, ic_eq, lit_le, le_lit, lit_lt, lt_lit, lit_eq, eq_lit, ic_m1, m1_ic, ic_lt0, ic_0le, b2_0, b2_1, b2_bl, sh_e, Nat.not_lt_zero, Nat.zero_le, Nat.reduceEqDiff, Nat.reduceAdd, Nat.reduceMul, Nat.reduceSub, Nat.reduceLT, Nat.reduceLeDiff, reduceIte, ne_eq, not_false_eq_true, not_true_eq_false, if_true, if_false, Nat.zero_add]
    rw [if_pos (by omega), show (fun i => if k ≤ i ∧ i < m then μ k0 i else μ k1 i) = μ k1 by funext i; rw [if_neg (by omega)], wrR_self]
  | j + 1, k, μ, n, h, hn => by
    obtain ⟨n, rfl⟩ := fu_s (show 0 < n by omega)
    have ih := lp_m_copies (N := N) hk h0 h1 hn0 hn1 j (k + 1) (wr μ k1 k (μ k0 k)) n (by omega) (by omega)
    simp (disch := omega) only [f_m_copies_3, ih, wb_e, ib_e, ibL_e, ob_e, nz4, inb_e, inb_lit, ic_n, n_lit, ic_1, lit_add, add_lit, lit_mul, mul_lit, ic_add, ic_mul, ic_le, ic_lt, ic_eq, lit_le, le_lit, lit_lt, lt_lit, lit_eq, eq_lit, ic_m1, m1_ic, ic_lt0, ic_0le, b2_0, b2_1, b2_bl, sh_e, Nat.not_lt_zero, Nat.zero_le, Nat.reduceEqDiff, Nat.reduceAdd, Nat.reduceMul, Nat.reduceSub, Nat.reduceLT, Nat.reduceLeDiff, reduceIte, ne_eq, not_false_eq_true, not_true_eq_false, if_true, if_false, Nat.zero_add]
    rw [if_neg (by omega), wr_up, wrR_wrR, wrR_r, wrR_nr hk]
    congr 2
    funext i
    by_cases e : i = k
    · subst e; rw [if_neg (by omega), up_s, if_pos (by omega)]
    · rw [up_n e]
      by_cases e3 : k ≤ i ∧ i < m
      · rw [if_pos e3, if_pos (by omega)]
      · rw [if_neg e3, if_neg (by omega)]
theorem e_m_copies {N k0 n0 k1 n1 m : Nat} (hN : 5000 ≤ N) (hk : k0 ≠ k1) (h0 : m ≤ n0) (h1 : m ≤ n1) (hn0 : n0 < 100000) (hn1 : n1 < 100000) (hm : m ≤ 1000) (μ : sw_M) : f_m_copies N k0 n0 k1 n1 μ (ic m) = some (wrR μ k1 (fun i => if i < m then μ k0 i else μ k1 i)) := by
  have := lp_m_copies (N := N) hk h0 h1 hn0 hn1 m 0 μ N (by omega) (by omega)
  simp only [Nat.zero_le, true_and] at this
  exact this
def tkS (μ : sw_M) : Nat → Int32 := fun i => if i < 49 then μ 80 i else μ 81 i
theorem e_m_take {N : Nat} (hN : 5000 ≤ N) (μ : sw_M) : f_m_take N μ = some (wrR μ 81 (tkS μ)) := by
  unfold f_m_take
  have := e_m_copies (N := N) (k0 := 80) (n0 := 49) (k1 := 81) (n1 := 49) (m := 49) hN (by decide) (by decide) (by decide) (by decide) (by decide) (by decide) μ
  rw [show (49 : Int32) = ic 49 from rfl, this, ob_e]; rfl
theorem WS.cg {F W T P : Nat} {S S' : Nat → Int32} (hW : W ≤ 12) (hT : T ≤ 6) (hP : P ≤ 5) (h : WS F W T P S) (e : ∀ i, i < 49 → S' i = S i) : WS F W T P S' := by
  refine ⟨?_, ?_, ?_, ?_, ?_⟩
  · rw [e 48 (by decide)]; exact h.1
  · rw [e 46 (by decide)]; exact h.2.1
  · intro v hv; rw [e _ (by omega), e _ (by omega)]; exact h.2.2.1 v hv
  · intro t ht; rw [e _ (by omega), e _ (by omega)]
    refine ⟨(h.2.2.2.1 t ht).1, (h.2.2.2.1 t ht).2.imp id (fun ⟨q, hq, e1, e2⟩ => ⟨q, hq, e1, ?_⟩)⟩
    rw [e _ (by omega)]; exact e2
  · intro q hq; rw [e _ (by omega), e _ (by omega)]; exact h.2.2.2.2 q hq
theorem DR.cg {μ : sw_M} {d W T P : Nat} {S S' : Nat → Int32} (hW : W ≤ 12) (hT : T ≤ 6) (hP : P ≤ 5) (h : DR μ d W T P S) (e : ∀ i, i < 49 → S' i = S i) : DR μ d W T P S' := by
  refine ⟨⟨?_, ?_, ?_, ?_⟩, ?_, ?_, ?_, ?_, ?_⟩
  · rw [e 48 (by decide)]; exact h.1.1
  · rw [e 46 (by decide)]; exact h.1.2.1
  · rw [e 47 (by decide)]; exact h.1.2.2.1
  · rw [cutS_cg (S := S) (fun v hv => e _ (by omega))]; exact h.1.2.2.2
  · intro v hv; rw [e _ (by omega)]; exact h.2.1 v hv
  · intro v hv; rw [e _ (by omega)]; exact h.2.2.1 v hv
  · intro v hv; rw [e _ (by omega), e _ (by omega)]; exact h.2.2.2.1 v hv
  · intro v hv; rw [e _ (by omega)]; exact h.2.2.2.2.1 v hv
  · intro v hv; rw [e _ (by omega)]; exact h.2.2.2.2.2 v hv
theorem RW.cg {W T P : Nat} {r r' S S' : Nat → Int32} (hW : W ≤ 12) (hT : T ≤ 6) (hP : P ≤ 5) (h : RW W T P r S) (e : ∀ i, i < 49 → S' i = S i) (f : ∀ i, i < 38 → r' i = r i) : RW W T P r' S' := by
  refine ⟨⟨?_, ?_, ?_, ?_⟩, ?_, ?_, ?_, ?_, ?_⟩
  · rw [e 48 (by decide), f _ (by decide)]; exact h.1.1
  · rw [e 46 (by decide), f _ (by decide)]; exact h.1.2.1
  · rw [e 47 (by decide), f _ (by decide)]; exact h.1.2.2.1
  · rw [cutS_cg (S := S) (fun v hv => e _ (by omega)), f _ (by decide)]; exact h.1.2.2.2
  · intro v hv; rw [e _ (by omega), f _ (by omega)]; exact h.2.1 v hv
  · intro v hv; rw [e _ (by omega), f _ (by omega)]; exact h.2.2.1 v hv
  · intro v hv; rw [e _ (by omega), e _ (by omega), f _ (by omega)]; exact h.2.2.2.1 v hv
  · intro v hv; rw [e _ (by omega), f _ (by omega)]; exact h.2.2.2.2.1 v hv
  · intro v hv; rw [e _ (by omega), f _ (by omega)]; exact h.2.2.2.2.2 v hv
theorem OR.cg {F W T P : Nat} {r r' S S' : Nat → Int32} (hW : W ≤ 12) (hT : T ≤ 6) (hP : P ≤ 5) (h : OR F W T P r S) (e : ∀ i, i < 49 → S' i = S i) (f : ∀ i, i < 38 → r' i = r i) : OR F W T P r' S' := ⟨⟨h.1.1.cg hW hT hP e, by rw [e 48 (by decide)]; exact h.1.2⟩, h.2.cg hW hT hP e f⟩
/-! what a call owes -/
def OpB (X : Option ((Int32 × sw_M) ⊕ (String × sw_M))) (M : sw_M → Option (Int32 × sw_M)) : Prop :=
  (∃ v μ1 μ2, X = some (.inl (v, μ1)) ∧ M μ1 = some (v, μ2) ∧ μ2 63 0 = 0 ∧ Inv μ2) ∨
  (∃ μ1 b μ2, X = some (.inr ("java/util/NoSuchElementException", μ1)) ∧ M μ1 = some (b, μ2) ∧ μ2 63 0 = 1 ∧ Inv μ2) ∨
  (∃ μ1 b μ2, X = some (.inr ("java/lang/IllegalArgumentException", μ1)) ∧ M μ1 = some (b, μ2) ∧ μ2 63 0 = 2 ∧ Inv μ2)
def OpN (X : Option ((Int32 × sw_M) ⊕ (String × sw_M))) (M : sw_M → Option (Int32 × sw_M)) : Prop :=
  (∃ v μ1 μ2, X = some (.inl (v, μ1)) ∧ M μ1 = some (v, μ2) ∧ μ2 63 0 = 0 ∧ Inv μ2) ∨
  (∃ μ1 b μ2, X = some (.inr ("java/util/NoSuchElementException", μ1)) ∧ M μ1 = some (b, μ2) ∧ μ2 63 0 = 1 ∧ Inv μ2)
def OpI (X : Option ((Int32 × sw_M) ⊕ (String × sw_M))) (M : sw_M → Option (Int32 × sw_M)) : Prop :=
  (∃ v μ1 μ2, X = some (.inl (v, μ1)) ∧ M μ1 = some (v, μ2) ∧ μ2 63 0 = 0 ∧ Inv μ2) ∨
  (∃ μ1 b μ2, X = some (.inr ("java/lang/IllegalArgumentException", μ1)) ∧ M μ1 = some (b, μ2) ∧ μ2 63 0 = 1 ∧ Inv μ2)
theorem t63 (μ : sw_M) (v : Int32) : (wr μ 63 0 v) 63 0 = v := rfl
/-- the memory a question is asked in -/
def qm (μ : sw_M) : sw_M := wrR (wr μ 63 0 0) 81 (tkS (wr μ 63 0 0))
theorem qm_sm (μ : sw_M) : SM μ (qm μ) := ((SM.rf μ).wr63 0 0 (Or.inl rfl)).wrR81 _
theorem qm_0 (μ : sw_M) : (qm μ) 63 0 = 0 := rfl
theorem qm_S (μ : sw_M) : (qm μ) 81 = tkS (wr μ 63 0 0) := wrR_r _ _ _
theorem qm_i (μ : sw_M) {i : Nat} (h : i < 49) : (qm μ) 81 i = μ 80 i := by rw [qm_S]; unfold tkS; rw [if_pos h]; rfl
theorem qm_ctx {μ : sw_M} {F W T P : Nat} {K O : Nat → Int32} {nl nb : Nat} (h : QI μ F W T P K O nl nb) : CW μ F W T P ∧ XR μ μ ∧ WS F W T P ((qm μ) 81) ∧ DR μ 35 W T P ((qm μ) 81) ∧ MR (qm μ) μ F W T P ∧ ML (qm μ) K O nl ∧ XL μ K O nl := by
  obtain ⟨hC, hM, hS, hD, hX, hL, hB⟩ := h
  refine ⟨hC, ⟨rfl, rfl, rfl, rfl, rfl, rfl, rfl, rfl⟩, hS.1.cg hC.w12 hC.t6 hC.p5 (fun i hi => qm_i μ hi), hD.cg hC.w12 hC.t6 hC.p5 (fun i hi => qm_i μ hi), ?_, ?_, hX⟩
  · exact hM.fr (fun j h1 h2 => (qm_sm μ).2 j (by omega) (by omega)) rfl rfl rfl
  · unfold ML; rw [(qm_sm μ).2 31 (by decide) (by decide), (qm_sm μ).1 74 (by decide) (by decide) (by decide) (by decide) (by decide), (qm_sm μ).1 75 (by decide) (by decide) (by decide) (by decide) (by decide)]; exact hL
theorem e_q_take {N : Nat} (hN : 5000 ≤ N) (μ : sw_M) : f_m_take N (wr μ 63 0 0) = some (qm μ) := e_m_take hN _
