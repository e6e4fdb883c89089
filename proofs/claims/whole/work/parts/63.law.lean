/-! ===== the law's reckoning: codes in the reference's numbers ===== -/
theorem loadW {T : Nat} (hT : T ≤ 6) (c : sw_M) (S : Nat → Int32) (p : Int32) : wtB T c (heldB T S p) = loadS T c S p := by
  unfold wtB loadS
  refine fo_cg T 0 0 (fun i _ h2 b => ?_)
  have e := b_fo0 (fun t => S (30 + t) = p) (W := T) (by omega) i
  unfold heldB
  simp only [e]
  have h3 : i < T := by omega
  simp [h3]
def opI (q a b : Int32) : Int32 := if q = 2 then a + b else if q = 3 then a - b else if q = 4 then a * b else if q = 5 then (if b = 0 then 0 else a / b) else if q = 8 then (if b = 0 then 0 else a - a / b * b) else if q = 6 then (if a < b then a else b) else (if a < b then b else a)
def cx (v : Int32) : Int32 := if v = 0 then 1 else if v = 1 then 2 else if v = 2 then 43 else if v = 3 then 45 else if v = 4 then 42 else if v = 5 then 47 else if v = 6 then 3 else if v = 7 then 4 else 37
theorem q_cases {q : Nat} (h : 2 ≤ q) (h2 : q ≤ 8) : q = 2 ∨ q = 3 ∨ q = 4 ∨ q = 5 ∨ q = 6 ∨ q = 7 ∨ q = 8 := by omega
theorem both_e {N : Nat} {μ : sw_M} {q : Nat} (h : 2 ≤ q) (h2 : q ≤ 8) (a b : Int32) : f_sm_both N μ (ic q) a b = some (opI (ic q) a b) := by
  have hab : b ≤ a ↔ ¬ a < b := by grind
  rcases q_cases h h2 with rfl | rfl | rfl | rfl | rfl | rfl | rfl <;> simp (disch := omega) only [f_sm_both, f_sm_both_38, f_sm_both_71, f_sm_both_82, opI, nz, hab, wb_e, ib_e, ibL_e, ob_e, nz4, inb_e, inb_lit, ic_n, n_lit, ic_1, lit_add, add_lit, lit_mul, mul_lit, ic_add, ic_mul, ic_le, ic_lt, ic_eq, lit_le, le_lit, lit_lt, lt_lit, lit_eq, eq_lit, ic_m1, m1_ic, ic_lt0, ic_0le, b2_0, b2_1, b2_bl, sh_e, Nat.not_lt_zero, Nat.zero_le, Nat.reduceEqDiff, Nat.reduceAdd, Nat.reduceMul, Nat.reduceSub, Nat.reduceLT, Nat.reduceLeDiff, reduceIte, ne_eq, not_false_eq_true, not_true_eq_false, if_true, if_false, Nat.zero_add] <;> (repeat' split) <;> simp_all
theorem join_e {N : Nat} {μ : sw_M} {q : Nat} (h : 2 ≤ q) (h2 : q ≤ 8) (a b : Int32) : f_sl_join N μ (cx (ic q)) a b = some (opI (ic q) a b) := by
  rcases q_cases h h2 with rfl | rfl | rfl | rfl | rfl | rfl | rfl
  · rfl
  · rfl
  · rfl
  · show (if b = 0 then some 0 else nz b (some (a / b))) = some (if b = 0 then 0 else a / b)
    unfold nz; split <;> rfl
  · show (if b < a then some b else some a) = some (if a < b then a else b)
    grind
  · show (if a < b then some b else some a) = some (if a < b then b else a)
    split <;> rfl
  · show (if b = 0 then some 0 else nz b (some (a - a / b * b))) = some (if b = 0 then 0 else a - a / b * b)
    unfold nz; split <;> rfl
def es (K O V : Nat → Int32) (k : Nat) (s : (Nat → Int32) × Nat) : (Nat → Int32) × Nat :=
  if K k = 0 then (up s.1 s.2 (O k), s.2 + 1) else if K k = 1 then (up s.1 s.2 (V (O k).toNatClampNeg), s.2 + 1)
  else (up s.1 (s.2 - 2) (opI (K k) (s.1 (s.2 - 2)) (s.1 (s.2 - 1))), s.2 - 1)
def dep (K : Nat → Int32) : Nat → Nat
  | 0 => 0
  | k + 1 => if K k = 0 ∨ K k = 1 then dep K k + 1 else dep K k - 1
theorem dep_le (K : Nat → Int32) : ∀ k, dep K k ≤ k
  | 0 => Nat.le_refl 0
  | k + 1 => by have := dep_le K k; unfold dep; split <;> omega
def WL (K O : Nat → Int32) (n : Nat) : Prop := n ≤ 150 ∧ dep K n = 1 ∧ ∀ k, k < n → K k = 0 ∨ (K k = 1 ∧ ∃ i : Nat, i < 7 ∧ O k = ic i) ∨ ∃ q : Nat, 2 ≤ q ∧ q ≤ 8 ∧ K k = ic q ∧ 2 ≤ dep K k
def valS (K O V : Nat → Int32) (n : Nat) : Int32 := (fo (es K O V) 0 n (fun _ => 0, 0)).1 0
def SV (μ μ' : sw_M) : Prop := ∀ a, a ≠ 76 → a ≠ 77 → μ' a = μ a
theorem es_dep {K O V : Nat → Int32} {n : Nat} : ∀ (j k : Nat) (s : (Nat → Int32) × Nat), s.2 = dep K k → (fo (es K O V) k j s).2 = dep K (k + j)
  | 0, _, _, h => h
  | j + 1, k, s, h => by
    rw [fo_s, es_dep (n := n) j (k + 1) _ ?_]
    · congr 1; omega
    · unfold es dep; by_cases h0 : K k = 0
      · simp [h0, h]
      · by_cases h1 : K k = 1 <;> simp [h0, h1, h]
theorem vq_1 {len k : Nat} (h0 : len ≤ 150) (h : k + 0 = len) : ic len ≤ ic k := by rw [ic_le (by omega) (by omega)]; omega
theorem vq_2 {α : Type} (k : Option α) : inb 0 150 k = k := inb_lit (by decide) (by decide) k
theorem vq_3 : (0 : Int32).toNatClampNeg = 0 := n_lit (by decide)
theorem vq_4 (μ : sw_M) (N n len : Nat) (k : Nat) (s : Nat) (hl : μ 63 31 = ic len) (h : ic len ≤ ic k) : f_m_valueNow_4 N (n + 1) μ (ic s) (ic k) = inb 0 150 (some (μ 76 (0 : Int32).toNatClampNeg, μ)) := by
  rw [f_m_valueNow_4, hl, if_pos h]
theorem vq_5 (K O V : Nat → Int32) (μ : sw_M) (k : Nat) (s : (Nat → Int32) × Nat) (hs : ∀ i, i < s.2 → μ 76 i = s.1 i) : ∀ i, i < (fo (es K O V) k 0 s).2 → μ 76 i = (fo (es K O V) k 0 s).1 i := by rw [fo_0]; exact hs
theorem vq_6 (μ : sw_M) (N n len : Nat) (k : Nat) (s : (Nat → Int32) × Nat) (hl : μ 63 31 = ic len) (h0 : len ≤ 150) (h : k + 0 = len) : f_m_valueNow_4 N (n + 1) μ (ic s.2) (ic k) = some (μ 76 0, wrR μ 76 (μ 76)) := by
    rw [vq_4 μ N n len k s.2 hl (vq_1 h0 h), vq_2, wrR_self, vq_3]
theorem vq_7 (K O V : Nat → Int32) (μ : sw_M) (N n len : Nat) (k : Nat) (s : (Nat → Int32) × Nat) (hl : μ 63 31 = ic len) (h0 : len ≤ 150) (h : k + 0 = len) (hs : ∀ i, i < s.2 → μ 76 i = s.1 i) : ∃ g : Nat → Int32, f_m_valueNow_4 N (n + 1) μ (ic s.2) (ic k) = some (g 0, wrR μ 76 g) ∧ ∀ i, i < (fo (es K O V) k 0 s).2 → g i = (fo (es K O V) k 0 s).1 i := by
    refine ⟨μ 76, ?_, vq_5 K O V μ k s hs⟩
    rw [vq_6 μ N n len k s hl h0 h]
