/-! ===== a country c (its cells 3 to 10), a row S of numbers in the reference's order, and how both memories hold them ===== -/
theorem at_e {N k n j : Nat} {μ : sw_M} (h : j < n) (hn : n < 2147483648) : f_sx_at N k n μ (ic j) = some (μ k j) := by
  have e : (Int32.ofNat n : Int32) = ic n := rfl
  simp (disch := omega) only [f_sx_at, e, wb_e, ib_e, ibL_e, ob_e, nz4, inb_e, inb_lit, ic_n, n_lit, ic_1, lit_add, add_lit, lit_mul, mul_lit, ic_add, ic_mul, ic_le, ic_lt, ic_eq, lit_le, le_lit, lit_lt, lt_lit, lit_eq, eq_lit, ic_m1, m1_ic, ic_lt0, ic_0le, b2_0, b2_1, b2_bl, sh_e, Nat.not_lt_zero, Nat.zero_le, Nat.reduceEqDiff, Nat.reduceAdd, Nat.reduceMul, Nat.reduceSub, Nat.reduceLT, Nat.reduceLeDiff, reduceIte, ne_eq, not_false_eq_true, not_true_eq_false, if_true, if_false, Nat.zero_add]
  rw [if_neg (by omega)]
theorem put_e {N k n j : Nat} {μ : sw_M} (h : j < n) (hn : n < 2147483648) (v : Int32) : f_sx_put N k n μ (ic j) v = some (wr μ k j v) := by
  have e : (Int32.ofNat n : Int32) = ic n := rfl
  simp (disch := omega) only [f_sx_put, e, wb_e, ib_e, ibL_e, ob_e, nz4, inb_e, inb_lit, ic_n, n_lit, ic_1, lit_add, add_lit, lit_mul, mul_lit, ic_add, ic_mul, ic_le, ic_lt, ic_eq, lit_le, le_lit, lit_lt, lt_lit, lit_eq, eq_lit, ic_m1, m1_ic, ic_lt0, ic_0le, b2_0, b2_1, b2_bl, sh_e, Nat.not_lt_zero, Nat.zero_le, Nat.reduceEqDiff, Nat.reduceAdd, Nat.reduceMul, Nat.reduceSub, Nat.reduceLT, Nat.reduceLeDiff, reduceIte, ne_eq, not_false_eq_true, not_true_eq_false, if_true, if_false, Nat.zero_add]
  rw [if_neg (by omega)]
theorem has_e {N : Nat} {μ : sw_M} (x : Int32) {k : Nat} (h : k < 32) : f_sx_has N μ x (ic k) = some (b2 (bt x k = true)) := by
  simp only [f_sx_has, bit_0 x h, b2]
  cases bt x k <;> simp
theorem within_e {N : Nat} {μ : sw_M} (a l h : Int32) : f_sx_within N μ a l h = some (b2 (l ≤ a ∧ a ≤ h)) := by
  unfold f_sx_within b2
  have e1 : a < l ↔ ¬ l ≤ a := by grind
  have e2 : h < a ↔ ¬ a ≤ h := by grind
  simp only [e1, e2]
  grind
theorem withinm_e {N : Nat} {μ : sw_M} (a l h : Int32) : f_sm_within N μ a l h = some (b2 (l ≤ a ∧ a ≤ h)) := by
  unfold f_sm_within b2
  have e1 : a < l ↔ ¬ l ≤ a := by grind
  have e2 : h < a ↔ ¬ a ≤ h := by grind
  simp only [e1, e2]
  grind
def clampI (v l h : Int32) : Int32 := if l ≤ v then (if v ≤ h then v else h) else l
theorem clamp_e {N : Nat} {μ : sw_M} (v l h : Int32) : f_sx_clamp N μ v l h = some (clampI v l h) := by
  unfold f_sx_clamp clampI; split <;> (try split) <;> rfl
def CW (c : sw_M) (F W T P : Nat) : Prop := (c 3 0 = ic F ∧ c 3 1 = ic W ∧ c 3 2 = ic T ∧ c 3 3 = ic P) ∧ (F ≤ 8 ∧ W ≤ 12 ∧ T ≤ 6 ∧ P ≤ 5) ∧
  (∀ w, w < W → ∃ a b h : Nat, a < F ∧ b < F ∧ a ≠ b ∧ h ≤ 99 ∧ c 4 w = ic a ∧ c 5 w = ic b ∧ c 6 w = ic h) ∧
  (∀ t, t < T → ∃ a h : Nat, a < F ∧ 1 ≤ h ∧ h ≤ 30 ∧ c 7 t = ic a ∧ c 8 t = ic h) ∧
  (∀ p, p < P → ∃ a h : Nat, a < F ∧ 1 ≤ h ∧ h ≤ 40 ∧ c 9 p = ic a ∧ c 10 p = ic h)
def XR (μ c : sw_M) : Prop := μ 3 = c 3 ∧ μ 4 = c 4 ∧ μ 5 = c 5 ∧ μ 6 = c 6 ∧ μ 7 = c 7 ∧ μ 8 = c 8 ∧ μ 9 = c 9 ∧ μ 10 = c 10
def MR (μ c : sw_M) (F W T P : Nat) : Prop := (μ 63 21 = ic F ∧ μ 63 22 = ic W ∧ μ 63 23 = ic T ∧ μ 63 24 = ic P) ∧
  (∀ w, w < W → μ 69 (3 * w) = c 4 w ∧ μ 69 (3 * w + 1) = c 5 w ∧ μ 69 (3 * w + 2) = c 6 w) ∧
  (∀ t, t < T → μ 70 (2 * t) = c 7 t ∧ μ 70 (2 * t + 1) = c 8 t) ∧
  (∀ p, p < P → μ 71 (2 * p) = c 9 p ∧ μ 71 (2 * p + 1) = c 10 p)
def WS (F W T P : Nat) (S : Nat → Int32) : Prop := (∃ h : Nat, h ≤ 1000 ∧ S 48 = ic h) ∧ (∃ h : Nat, h ≤ 9 ∧ S 46 = ic h) ∧
  (∀ w, w < W → (∃ h : Nat, h ≤ 199 ∧ S w = ic h) ∧ (S (12 + w) = 0 ∨ S (12 + w) = 1)) ∧
  (∀ t, t < T → (∃ f : Nat, f < F ∧ S (24 + t) = ic f) ∧ (S (30 + t) = -1 ∨ ∃ p : Nat, p < P ∧ S (30 + t) = ic p ∧ S (24 + t) = S (36 + p))) ∧
  (∀ p, p < P → (∃ f : Nat, f < F ∧ S (36 + p) = ic f) ∧ (∃ h : Nat, h ≤ 60 ∧ S (41 + p) = ic h))
def cutS (W : Nat) (S : Nat → Int32) : Int32 := fo (fun w a => if S (12 + w) = 1 then a ||| sh w else a) 0 W 0
def DR (μ : sw_M) (d W T P : Nat) (S : Nat → Int32) : Prop := (μ d 2 = S 48 ∧ μ d 3 = S 46 ∧ μ d 5 = S 47 ∧ μ d 4 = cutS W S) ∧
  (∀ w, w < W → μ (d + 1) w = S w) ∧ (∀ t, t < T → μ (d + 3) t = S (30 + t)) ∧ (∀ t, t < T → S (30 + t) = -1 → μ (d + 2) t = S (24 + t)) ∧
  (∀ p, p < P → μ (d + 4) p = S (36 + p)) ∧ (∀ p, p < P → μ (d + 5) p = S (41 + p))
section
variable {N : Nat} {μ c : sw_M} {F W T P : Nat} {S : Nat → Int32}
theorem CW.f8 (h : CW c F W T P) : F ≤ 8 := h.2.1.1
theorem CW.w12 (h : CW c F W T P) : W ≤ 12 := h.2.1.2.1
theorem CW.t6 (h : CW c F W T P) : T ≤ 6 := h.2.1.2.2.1
theorem CW.p5 (h : CW c F W T P) : P ≤ 5 := h.2.1.2.2.2
theorem XR.nF (h : XR μ c) (hC : CW c F W T P) : μ 3 0 = ic F := by rw [h.1]; exact hC.1.1
theorem XR.nW (h : XR μ c) (hC : CW c F W T P) : μ 3 1 = ic W := by rw [h.1]; exact hC.1.2.1
theorem XR.nT (h : XR μ c) (hC : CW c F W T P) : μ 3 2 = ic T := by rw [h.1]; exact hC.1.2.2.1
theorem XR.nP (h : XR μ c) (hC : CW c F W T P) : μ 3 3 = ic P := by rw [h.1]; exact hC.1.2.2.2
theorem XR.r4 (h : XR μ c) : μ 4 = c 4 := h.2.1
theorem XR.r5 (h : XR μ c) : μ 5 = c 5 := h.2.2.1
theorem XR.r6 (h : XR μ c) : μ 6 = c 6 := h.2.2.2.1
theorem XR.r7 (h : XR μ c) : μ 7 = c 7 := h.2.2.2.2.1
theorem XR.r8 (h : XR μ c) : μ 8 = c 8 := h.2.2.2.2.2.1
theorem XR.r9 (h : XR μ c) : μ 9 = c 9 := h.2.2.2.2.2.2.1
theorem XR.r10 (h : XR μ c) : μ 10 = c 10 := h.2.2.2.2.2.2.2
theorem MR.nF (h : MR μ c F W T P) : μ 63 21 = ic F := h.1.1
theorem MR.nW (h : MR μ c F W T P) : μ 63 22 = ic W := h.1.2.1
theorem MR.nT (h : MR μ c F W T P) : μ 63 23 = ic T := h.1.2.2.1
theorem MR.nP (h : MR μ c F W T P) : μ 63 24 = ic P := h.1.2.2.2
theorem MR.w0 (h : MR μ c F W T P) {w : Nat} (hw : w < W) : μ 69 (3 * w) = c 4 w := (h.2.1 w hw).1
theorem MR.w1 (h : MR μ c F W T P) {w : Nat} (hw : w < W) : μ 69 (3 * w + 1) = c 5 w := (h.2.1 w hw).2.1
theorem MR.w2 (h : MR μ c F W T P) {w : Nat} (hw : w < W) : μ 69 (3 * w + 2) = c 6 w := (h.2.1 w hw).2.2
theorem MR.t0 (h : MR μ c F W T P) {t : Nat} (ht : t < T) : μ 70 (2 * t) = c 7 t := (h.2.2.1 t ht).1
theorem MR.t1 (h : MR μ c F W T P) {t : Nat} (ht : t < T) : μ 70 (2 * t + 1) = c 8 t := (h.2.2.1 t ht).2
theorem MR.p0 (h : MR μ c F W T P) {p : Nat} (hp : p < P) : μ 71 (2 * p) = c 9 p := (h.2.2.2 p hp).1
theorem MR.p1 (h : MR μ c F W T P) {p : Nat} (hp : p < P) : μ 71 (2 * p + 1) = c 10 p := (h.2.2.2 p hp).2
theorem WS.ct0 (h : WS F W T P S) {w : Nat} (hw : w < W) : (S (12 + w) = 0) = ¬ (S (12 + w) = 1) := by
  rcases (h.2.2.1 w hw).2 with e | e <;> rw [e] <;> simp
theorem b_fo (p : Nat → Prop) [DecidablePred p] : ∀ (j k : Nat) (a : Int32) (i : Nat), k + j ≤ 32 → bt (fo (fun w a => if p w then a ||| sh w else a) k j a) i = (bt a i || decide (k ≤ i ∧ i < k + j ∧ p i))
  | 0, k, a, i, _ => by rw [fo_0]; simp; omega
  | j + 1, k, a, i, h => by
    rw [fo_s, b_fo p j (k + 1) _ i (by omega)]
    by_cases hp : p k
    · simp only [hp, if_true, b_or, b_sh' (show k < 32 by omega)]
      by_cases e : i = k
      · subst e; simp [hp]
      · simp only [e, decide_false, Bool.or_false]; congr 1; exact decide_eq_decide.2 ⟨fun ⟨a, b, c⟩ => ⟨by omega, by omega, c⟩, fun ⟨a, b, c⟩ => ⟨by omega, by omega, c⟩⟩
    · simp only [hp, if_false]
      by_cases e : i = k
      · subst e; simp [hp]
      · congr 1; exact decide_eq_decide.2 ⟨fun ⟨a, b, c⟩ => ⟨by omega, by omega, c⟩, fun ⟨a, b, c⟩ => ⟨by omega, by omega, c⟩⟩
theorem b_fo0 (p : Nat → Prop) [DecidablePred p] {W : Nat} (hW : W ≤ 32) (i : Nat) : bt (fo (fun w a => if p w then a ||| sh w else a) 0 W 0) i = decide (i < W ∧ p i) := by
  rw [b_fo p W 0 0 i (by omega), b_0]; simp
theorem b_cutS (hW : W ≤ 12) (i : Nat) : bt (cutS W S) i = decide (i < W ∧ S (12 + i) = 1) := b_fo0 (fun w => S (12 + w) = 1) (by omega) i
end
section
variable {N : Nat} {μ c : sw_M} {F W T P : Nat} {S : Nat → Int32}
theorem DR.dh (h : DR μ 35 W T P S) : μ 35 2 = S 48 := h.1.1
theorem DR.dp (h : DR μ 35 W T P S) : μ 35 3 = S 46 := h.1.2.1
theorem DR.dx (h : DR μ 35 W T P S) : μ 35 5 = S 47 := h.1.2.2.1
theorem DR.dc (h : DR μ 35 W T P S) : μ 35 4 = cutS W S := h.1.2.2.2
theorem DR.dl (h : DR μ 35 W T P S) {w : Nat} (hw : w < W) : μ 36 w = S w := h.2.1 w hw
theorem DR.db (h : DR μ 35 W T P S) {t : Nat} (ht : t < T) : μ 38 t = S (30 + t) := h.2.2.1 t ht
theorem DR.dt (h : DR μ 35 W T P S) {t : Nat} (ht : t < T) (e : S (30 + t) = -1) : μ 37 t = S (24 + t) := h.2.2.2.1 t ht e
theorem DR.da (h : DR μ 35 W T P S) {p : Nat} (hp : p < P) : μ 39 p = S (36 + p) := h.2.2.2.2.1 p hp
theorem DR.dr (h : DR μ 35 W T P S) {p : Nat} (hp : p < P) : μ 40 p = S (41 + p) := h.2.2.2.2.2 p hp
end
section
variable {N : Nat} {μ c : sw_M} {F W T P : Nat} {S : Nat → Int32}
theorem DR.eh (h : DR μ 57 W T P S) : μ 57 2 = S 48 := h.1.1
theorem DR.ep (h : DR μ 57 W T P S) : μ 57 3 = S 46 := h.1.2.1
theorem DR.ex (h : DR μ 57 W T P S) : μ 57 5 = S 47 := h.1.2.2.1
theorem DR.ec (h : DR μ 57 W T P S) : μ 57 4 = cutS W S := h.1.2.2.2
theorem DR.el (h : DR μ 57 W T P S) {w : Nat} (hw : w < W) : μ 58 w = S w := h.2.1 w hw
theorem DR.eb (h : DR μ 57 W T P S) {t : Nat} (ht : t < T) : μ 60 t = S (30 + t) := h.2.2.1 t ht
theorem DR.et (h : DR μ 57 W T P S) {t : Nat} (ht : t < T) (e : S (30 + t) = -1) : μ 59 t = S (24 + t) := h.2.2.2.1 t ht e
theorem DR.ea (h : DR μ 57 W T P S) {p : Nat} (hp : p < P) : μ 61 p = S (36 + p) := h.2.2.2.2.1 p hp
theorem DR.er (h : DR μ 57 W T P S) {p : Nat} (hp : p < P) : μ 62 p = S (41 + p) := h.2.2.2.2.2 p hp
end
