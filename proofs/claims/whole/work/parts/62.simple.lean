/-! ===== printed by wip/whole/gen62.py ===== -/
abbrev lv (S : Nat → Int32) (w : Nat) (h g : Int32) : Prop := ¬ S (12 + w) = 1 ∧ S w + g ≤ S 48 + h
def liveB (W : Nat) (S : Nat → Int32) (h : Int32) : Int32 := fo (fun w a => if lv S w h 0 then a ||| sh w else a) 0 W 0
def atB (W : Nat) (c : sw_M) (f : Int32) : Int32 := fo (fun w a => if c 4 w = f ∨ c 5 w = f then a ||| sh w else a) 0 W 0
def atN (W : Nat) (c : sw_M) (f : Int32) : Int32 := fo (fun w a => if c 4 w = f ∨ c 5 w = f then a + 1 else a) 0 W 0
def heldB (T : Nat) (S : Nat → Int32) (p : Int32) : Int32 := fo (fun t a => if S (30 + t) = p then a ||| sh t else a) 0 T 0
def loadS (T : Nat) (c : sw_M) (S : Nat → Int32) (p : Int32) : Int32 := fo (fun t a => if S (30 + t) = p then a + c 8 t else a) 0 T 0
def wtB (T : Nat) (c : sw_M) (x : Int32) : Int32 := fo (fun t a => if bt x t = true then a + c 8 t else a) 0 T 0
def carB (T : Nat) (S : Nat → Int32) : Int32 := fo (fun t a => if ¬ S (30 + t) = -1 then a ||| sh t else a) 0 T 0
def lieB (T : Nat) (S : Nat → Int32) (f : Int32) : Int32 := fo (fun t a => if S (30 + t) = -1 ∧ S (24 + t) = f then a ||| sh t else a) 0 T 0
def manB (P : Nat) (S : Nat → Int32) (f : Int32) : Int32 := fo (fun p a => if S (36 + p) = f then a ||| sh p else a) 0 P 0
def leftS (S : Nat → Int32) (w : Nat) : Int32 := if S (12 + w) = 1 then 99 else clampI (S w - S 48) 0 99
def movB (W : Nat) (c : sw_M) (S : Nat → Int32) : Int32 := fo (fun w a => if ¬ S w = c 6 w then a ||| sh w else a) 0 W 0
def tirS (P : Nat) (S : Nat → Int32) (h : Int32) : Int32 := fo (fun p a => a + (if 0 < S (41 + p) - 5 * h then S (41 + p) - 5 * h else 0)) 0 P 0
def tirN (P : Nat) (S : Nat → Int32) : Int32 := fo (fun p a => a + S (41 + p)) 0 P 0
def spr (W : Nat) (c : sw_M) (S : Nat → Int32) (set h g : Int32) : Int32 := fo (fun w a => if lv S w h g then a else if bt set (c 4 w).toNatClampNeg = true ∨ bt set (c 5 w).toNatClampNeg = true then a ||| (sh (c 4 w).toNatClampNeg ||| sh (c 5 w).toNatClampNeg) else a) 0 W set
theorem or_0 (a : Int32) : a ||| 0 = a := Int32.or_zero
theorem lp_land_wireBitsAt_4 {N : Nat} {μ c : sw_M} {F W T P : Nat} (hN : 5000 ≤ N) (hC : CW c F W T P) (hX : XR μ c) (x : Int32) : ∀ (j k : Nat) (a : Int32) (n : Nat), k + j = W → j < n → f_land_wireBitsAt_4 N μ n x a (ic k) = some (fo (fun w a => if c 4 w = x ∨ c 5 w = x then a ||| sh w else a) k j a)
  | 0, k, a, n, h, hn => by
    have hF' := hC.f8; have hW' := hC.w12; have hT' := hC.t6; have hP' := hC.p5; have nF := hX.nF hC; have nW := hX.nW hC; have nT := hX.nT hC; have nP := hX.nP hC; have r4 := hX.r4; have r5 := hX.r5; have r6 := hX.r6; have r8 := hX.r8; have r10 := hX.r10
    obtain ⟨n, rfl⟩ := fu_s hn
    simp (disch := omega) only [f_land_wireBitsAt_4, nF, nW, nT, nP, r4, r5, r6, r8, r10, wb_e, ib_e, ibL_e, ob_e, nz4, inb_e, inb_lit, ic_n, n_lit, ic_1, lit_add, add_lit, lit_mul, mul_lit, ic_add, ic_mul, ic_le, ic_lt, ic_eq, lit_le, le_lit, lit_lt, lt_lit, lit_eq, eq_lit, ic_m1, m1_ic, ic_lt0, ic_0le, b2_0, b2_1, b2_bl, sh_e, Nat.not_lt_zero, Nat.zero_le, Nat.reduceEqDiff, Nat.reduceAdd, Nat.reduceMul, Nat.reduceSub, Nat.reduceLT, Nat.reduceLeDiff, reduceIte, ne_eq, not_false_eq_true, not_true_eq_false, if_true, if_false, Nat.zero_add]
    rw [if_pos (by omega), fo_0]
  | j + 1, k, a, n, h, hn => by
    have hF' := hC.f8; have hW' := hC.w12; have hT' := hC.t6; have hP' := hC.p5; have nF := hX.nF hC; have nW := hX.nW hC; have nT := hX.nT hC; have nP := hX.nP hC; have r4 := hX.r4; have r5 := hX.r5; have r6 := hX.r6; have r8 := hX.r8; have r10 := hX.r10
    obtain ⟨n, rfl⟩ := fu_s (show 0 < n by omega)
    have ih := fun a => lp_land_wireBitsAt_4 hN hC hX x j (k + 1) a n (by omega) (by omega)
    skip
    simp (disch := omega) only [f_land_wireBitsAt_4, f_land_wireBitsAt_32, nF, nW, nT, nP, r4, r5, r6, r8, r10, wb_e, ib_e, ibL_e, ob_e, nz4, inb_e, inb_lit, ic_n, n_lit, ic_1, lit_add, add_lit, lit_mul, mul_lit, ic_add, ic_mul, ic_le, ic_lt, ic_eq, lit_le, le_lit, lit_lt, lt_lit, lit_eq, eq_lit, ic_m1, m1_ic, ic_lt0, ic_0le, b2_0, b2_1, b2_bl, sh_e, Nat.not_lt_zero, Nat.zero_le, Nat.reduceEqDiff, Nat.reduceAdd, Nat.reduceMul, Nat.reduceSub, Nat.reduceLT, Nat.reduceLeDiff, reduceIte, ne_eq, not_false_eq_true, not_true_eq_false, if_true, if_false, Nat.zero_add, ih]
    rw [if_neg (by omega), fo_s]
    grind
theorem e_land_wireBitsAt {N : Nat} {μ c : sw_M} {F W T P : Nat} (hN : 5000 ≤ N) (hC : CW c F W T P) (hX : XR μ c) (x : Int32) : f_land_wireBitsAt N μ x = some (atB W c x) := by
  have hW' := hC.w12; have hT' := hC.t6; have hP' := hC.p5; have hF' := hC.f8
  unfold f_land_wireBitsAt
  exact lp_land_wireBitsAt_4 hN hC hX x W 0 0 N (by omega) (by omega)
theorem lp_land_weightOf_4 {N : Nat} {μ c : sw_M} {F W T P : Nat} (hN : 5000 ≤ N) (hC : CW c F W T P) (hX : XR μ c) (x : Int32) : ∀ (j k : Nat) (a : Int32) (n : Nat), k + j = T → j < n → f_land_weightOf_4 N μ n x a (ic k) = some (fo (fun t a => if bt x t = true then a + c 8 t else a) k j a)
  | 0, k, a, n, h, hn => by
    have hF' := hC.f8; have hW' := hC.w12; have hT' := hC.t6; have hP' := hC.p5; have nF := hX.nF hC; have nW := hX.nW hC; have nT := hX.nT hC; have nP := hX.nP hC; have r4 := hX.r4; have r5 := hX.r5; have r6 := hX.r6; have r8 := hX.r8; have r10 := hX.r10
    obtain ⟨n, rfl⟩ := fu_s hn
    simp (disch := omega) only [f_land_weightOf_4, nF, nW, nT, nP, r4, r5, r6, r8, r10, wb_e, ib_e, ibL_e, ob_e, nz4, inb_e, inb_lit, ic_n, n_lit, ic_1, lit_add, add_lit, lit_mul, mul_lit, ic_add, ic_mul, ic_le, ic_lt, ic_eq, lit_le, le_lit, lit_lt, lt_lit, lit_eq, eq_lit, ic_m1, m1_ic, ic_lt0, ic_0le, b2_0, b2_1, b2_bl, sh_e, Nat.not_lt_zero, Nat.zero_le, Nat.reduceEqDiff, Nat.reduceAdd, Nat.reduceMul, Nat.reduceSub, Nat.reduceLT, Nat.reduceLeDiff, reduceIte, ne_eq, not_false_eq_true, not_true_eq_false, if_true, if_false, Nat.zero_add]
    rw [if_pos (by omega), fo_0]
  | j + 1, k, a, n, h, hn => by
    have hF' := hC.f8; have hW' := hC.w12; have hT' := hC.t6; have hP' := hC.p5; have nF := hX.nF hC; have nW := hX.nW hC; have nT := hX.nT hC; have nP := hX.nP hC; have r4 := hX.r4; have r5 := hX.r5; have r6 := hX.r6; have r8 := hX.r8; have r10 := hX.r10
    obtain ⟨n, rfl⟩ := fu_s (show 0 < n by omega)
    have ih := fun a => lp_land_weightOf_4 hN hC hX x j (k + 1) a n (by omega) (by omega)
    have hb := has_e (N := N) (μ := μ) x (show k < 32 by omega)
    simp (disch := omega) only [f_land_weightOf_4, nF, nW, nT, nP, r4, r5, r6, r8, r10, hb, wb_e, ib_e, ibL_e, ob_e, nz4, inb_e, inb_lit, ic_n, n_lit, ic_1, lit_add, add_lit, lit_mul, mul_lit, ic_add, ic_mul, ic_le, ic_lt, ic_eq, lit_le, le_lit, lit_lt, lt_lit, lit_eq, eq_lit, ic_m1, m1_ic, ic_lt0, ic_0le, b2_0, b2_1, b2_bl, sh_e, Nat.not_lt_zero, Nat.zero_le, Nat.reduceEqDiff, Nat.reduceAdd, Nat.reduceMul, Nat.reduceSub, Nat.reduceLT, Nat.reduceLeDiff, reduceIte, ne_eq, not_false_eq_true, not_true_eq_false, if_true, if_false, Nat.zero_add, ih]
    rw [if_neg (by omega), fo_s]
    grind
theorem e_land_weightOf {N : Nat} {μ c : sw_M} {F W T P : Nat} (hN : 5000 ≤ N) (hC : CW c F W T P) (hX : XR μ c) (x : Int32) : f_land_weightOf N μ x = some (wtB T c x) := by
  have hW' := hC.w12; have hT' := hC.t6; have hP' := hC.p5; have hF' := hC.f8
  unfold f_land_weightOf
  exact lp_land_weightOf_4 hN hC hX x T 0 0 N (by omega) (by omega)
theorem e_days_isCut {N : Nat} {μ c : sw_M} {F W T P : Nat} (hN : 5000 ≤ N) (hC : CW c F W T P) (hX : XR μ c) {S : Nat → Int32} (hS : WS F W T P S) (hD : DR μ 35 W T P S) {w : Nat} (hw : w < W) : f_days_isCut N μ (ic w) = some (b2 (S (12 + w) = 1)) := by
  have hF' := hC.f8; have hW' := hC.w12; have hT' := hC.t6; have hP' := hC.p5; have nF := hX.nF hC; have nW := hX.nW hC; have nT := hX.nT hC; have nP := hX.nP hC; have r4 := hX.r4; have r5 := hX.r5; have r6 := hX.r6; have r8 := hX.r8; have r10 := hX.r10; have dh := hD.dh; have dp := hD.dp; have dx := hD.dx; have dc := hD.dc
  have hb := bit_0 (cutS W S) (show w < 32 by omega); have hc := b_cutS (S := S) hW' w
  simp (disch := omega) only [f_days_isCut, nF, nW, nT, nP, r4, r5, r6, r8, r10, dh, dp, dx, dc, hb, wb_e, ib_e, ibL_e, ob_e, nz4, inb_e, inb_lit, ic_n, n_lit, ic_1, lit_add, add_lit, lit_mul, mul_lit, ic_add, ic_mul, ic_le, ic_lt, ic_eq, lit_le, le_lit, lit_lt, lt_lit, lit_eq, eq_lit, ic_m1, m1_ic, ic_lt0, ic_0le, b2_0, b2_1, b2_bl, sh_e, Nat.not_lt_zero, Nat.zero_le, Nat.reduceEqDiff, Nat.reduceAdd, Nat.reduceMul, Nat.reduceSub, Nat.reduceLT, Nat.reduceLeDiff, reduceIte, ne_eq, not_false_eq_true, not_true_eq_false, if_true, if_false, Nat.zero_add]
  rw [hc]; unfold b2; by_cases e : S (12 + w) = 1 <;> simp [e, hw]
theorem e_days_isLive {N : Nat} {μ c : sw_M} {F W T P : Nat} (hN : 5000 ≤ N) (hC : CW c F W T P) (hX : XR μ c) {S : Nat → Int32} (hS : WS F W T P S) (hD : DR μ 35 W T P S) {w : Nat} (h : Int32) (hw : w < W) : f_days_isLive N μ (ic w) h = some (b2 (lv S w h 0)) := by
  have hF' := hC.f8; have hW' := hC.w12; have hT' := hC.t6; have hP' := hC.p5; have nF := hX.nF hC; have nW := hX.nW hC; have nT := hX.nT hC; have nP := hX.nP hC; have r4 := hX.r4; have r5 := hX.r5; have r6 := hX.r6; have r8 := hX.r8; have r10 := hX.r10; have dh := hD.dh; have dp := hD.dp; have dx := hD.dx; have dc := hD.dc
  have e1 := e_days_isCut hN hC hX hS hD hw; have e2 := hD.dl hw; have e3 := at_e (N := N) (k := 36) (n := 12) (μ := μ) (show w < 12 by omega) (by decide)
  simp (disch := omega) only [f_days_isLive, nF, nW, nT, nP, r4, r5, r6, r8, r10, dh, dp, dx, dc, e1, e2, e3, wb_e, ib_e, ibL_e, ob_e, nz4, inb_e, inb_lit, ic_n, n_lit, ic_1, lit_add, add_lit, lit_mul, mul_lit, ic_add, ic_mul, ic_le, ic_lt, ic_eq, lit_le, le_lit, lit_lt, lt_lit, lit_eq, eq_lit, ic_m1, m1_ic, ic_lt0, ic_0le, b2_0, b2_1, b2_bl, sh_e, Nat.not_lt_zero, Nat.zero_le, Nat.reduceEqDiff, Nat.reduceAdd, Nat.reduceMul, Nat.reduceSub, Nat.reduceLT, Nat.reduceLeDiff, reduceIte, ne_eq, not_false_eq_true, not_true_eq_false, if_true, if_false, Nat.zero_add]
  unfold b2 lv; rw [Int32.add_zero]; grind
theorem lp_days_liveBits_4 {N : Nat} {μ c : sw_M} {F W T P : Nat} (hN : 5000 ≤ N) (hC : CW c F W T P) (hX : XR μ c) {S : Nat → Int32} (hS : WS F W T P S) (hD : DR μ 35 W T P S) (x : Int32) : ∀ (j k : Nat) (a : Int32) (n : Nat), k + j = W → j < n → f_days_liveBits_4 N μ n x a (ic k) = some (fo (fun w a => if lv S w x 0 then a ||| sh w else a) k j a)
  | 0, k, a, n, h, hn => by
    have hF' := hC.f8; have hW' := hC.w12; have hT' := hC.t6; have hP' := hC.p5; have nF := hX.nF hC; have nW := hX.nW hC; have nT := hX.nT hC; have nP := hX.nP hC; have r4 := hX.r4; have r5 := hX.r5; have r6 := hX.r6; have r8 := hX.r8; have r10 := hX.r10; have dh := hD.dh; have dp := hD.dp; have dx := hD.dx; have dc := hD.dc
    obtain ⟨n, rfl⟩ := fu_s hn
    simp (disch := omega) only [f_days_liveBits_4, nF, nW, nT, nP, r4, r5, r6, r8, r10, dh, dp, dx, dc, wb_e, ib_e, ibL_e, ob_e, nz4, inb_e, inb_lit, ic_n, n_lit, ic_1, lit_add, add_lit, lit_mul, mul_lit, ic_add, ic_mul, ic_le, ic_lt, ic_eq, lit_le, le_lit, lit_lt, lt_lit, lit_eq, eq_lit, ic_m1, m1_ic, ic_lt0, ic_0le, b2_0, b2_1, b2_bl, sh_e, Nat.not_lt_zero, Nat.zero_le, Nat.reduceEqDiff, Nat.reduceAdd, Nat.reduceMul, Nat.reduceSub, Nat.reduceLT, Nat.reduceLeDiff, reduceIte, ne_eq, not_false_eq_true, not_true_eq_false, if_true, if_false, Nat.zero_add]
    rw [if_pos (by omega), fo_0]
  | j + 1, k, a, n, h, hn => by
    have hF' := hC.f8; have hW' := hC.w12; have hT' := hC.t6; have hP' := hC.p5; have nF := hX.nF hC; have nW := hX.nW hC; have nT := hX.nT hC; have nP := hX.nP hC; have r4 := hX.r4; have r5 := hX.r5; have r6 := hX.r6; have r8 := hX.r8; have r10 := hX.r10; have dh := hD.dh; have dp := hD.dp; have dx := hD.dx; have dc := hD.dc
    obtain ⟨n, rfl⟩ := fu_s (show 0 < n by omega)
    have ih := fun a => lp_days_liveBits_4 hN hC hX hS hD x j (k + 1) a n (by omega) (by omega)
    have e1 := e_days_isLive hN hC hX hS hD x (show k < W by omega)
    simp (disch := omega) only [f_days_liveBits_4, nF, nW, nT, nP, r4, r5, r6, r8, r10, dh, dp, dx, dc, e1, wb_e, ib_e, ibL_e, ob_e, nz4, inb_e, inb_lit, ic_n, n_lit, ic_1, lit_add, add_lit, lit_mul, mul_lit, ic_add, ic_mul, ic_le, ic_lt, ic_eq, lit_le, le_lit, lit_lt, lt_lit, lit_eq, eq_lit, ic_m1, m1_ic, ic_lt0, ic_0le, b2_0, b2_1, b2_bl, sh_e, Nat.not_lt_zero, Nat.zero_le, Nat.reduceEqDiff, Nat.reduceAdd, Nat.reduceMul, Nat.reduceSub, Nat.reduceLT, Nat.reduceLeDiff, reduceIte, ne_eq, not_false_eq_true, not_true_eq_false, if_true, if_false, Nat.zero_add, ih]
    rw [if_neg (by omega), fo_s]
    grind
theorem e_days_liveBits {N : Nat} {μ c : sw_M} {F W T P : Nat} (hN : 5000 ≤ N) (hC : CW c F W T P) (hX : XR μ c) {S : Nat → Int32} (hS : WS F W T P S) (hD : DR μ 35 W T P S) (x : Int32) : f_days_liveBits N μ x = some (liveB W S x) := by
  have hW' := hC.w12; have hT' := hC.t6; have hP' := hC.p5; have hF' := hC.f8
  unfold f_days_liveBits
  exact lp_days_liveBits_4 hN hC hX hS hD x W 0 0 N (by omega) (by omega)
theorem lp_days_carriedBits_4 {N : Nat} {μ c : sw_M} {F W T P : Nat} (hN : 5000 ≤ N) (hC : CW c F W T P) (hX : XR μ c) {S : Nat → Int32} (hS : WS F W T P S) (hD : DR μ 35 W T P S)  : ∀ (j k : Nat) (a : Int32) (n : Nat), k + j = T → j < n → f_days_carriedBits_4 N μ n  a (ic k) = some (fo (fun t a => if ¬ S (30 + t) = -1 then a ||| sh t else a) k j a)
  | 0, k, a, n, h, hn => by
    have hF' := hC.f8; have hW' := hC.w12; have hT' := hC.t6; have hP' := hC.p5; have nF := hX.nF hC; have nW := hX.nW hC; have nT := hX.nT hC; have nP := hX.nP hC; have r4 := hX.r4; have r5 := hX.r5; have r6 := hX.r6; have r8 := hX.r8; have r10 := hX.r10; have dh := hD.dh; have dp := hD.dp; have dx := hD.dx; have dc := hD.dc
    obtain ⟨n, rfl⟩ := fu_s hn
    simp (disch := omega) only [f_days_carriedBits_4, nF, nW, nT, nP, r4, r5, r6, r8, r10, dh, dp, dx, dc, wb_e, ib_e, ibL_e, ob_e, nz4, inb_e, inb_lit, ic_n, n_lit, ic_1, lit_add, add_lit, lit_mul, mul_lit, ic_add, ic_mul, ic_le, ic_lt, ic_eq, lit_le, le_lit, lit_lt, lt_lit, lit_eq, eq_lit, ic_m1, m1_ic, ic_lt0, ic_0le, b2_0, b2_1, b2_bl, sh_e, Nat.not_lt_zero, Nat.zero_le, Nat.reduceEqDiff, Nat.reduceAdd, Nat.reduceMul, Nat.reduceSub, Nat.reduceLT, Nat.reduceLeDiff, reduceIte, ne_eq, not_false_eq_true, not_true_eq_false, if_true, if_false, Nat.zero_add]
    rw [if_pos (by omega), fo_0]
  | j + 1, k, a, n, h, hn => by
    have hF' := hC.f8; have hW' := hC.w12; have hT' := hC.t6; have hP' := hC.p5; have nF := hX.nF hC; have nW := hX.nW hC; have nT := hX.nT hC; have nP := hX.nP hC; have r4 := hX.r4; have r5 := hX.r5; have r6 := hX.r6; have r8 := hX.r8; have r10 := hX.r10; have dh := hD.dh; have dp := hD.dp; have dx := hD.dx; have dc := hD.dc
    obtain ⟨n, rfl⟩ := fu_s (show 0 < n by omega)
    have ih := fun a => lp_days_carriedBits_4 hN hC hX hS hD  j (k + 1) a n (by omega) (by omega)
    have e1 := hD.db (show k < T by omega)
    simp (disch := omega) only [f_days_carriedBits_4, nF, nW, nT, nP, r4, r5, r6, r8, r10, dh, dp, dx, dc, e1, wb_e, ib_e, ibL_e, ob_e, nz4, inb_e, inb_lit, ic_n, n_lit, ic_1, lit_add, add_lit, lit_mul, mul_lit, ic_add, ic_mul, ic_le, ic_lt, ic_eq, lit_le, le_lit, lit_lt, lt_lit, lit_eq, eq_lit, ic_m1, m1_ic, ic_lt0, ic_0le, b2_0, b2_1, b2_bl, sh_e, Nat.not_lt_zero, Nat.zero_le, Nat.reduceEqDiff, Nat.reduceAdd, Nat.reduceMul, Nat.reduceSub, Nat.reduceLT, Nat.reduceLeDiff, reduceIte, ne_eq, not_false_eq_true, not_true_eq_false, if_true, if_false, Nat.zero_add, ih]
    rw [if_neg (by omega), fo_s]
    grind
theorem e_days_carriedBits {N : Nat} {μ c : sw_M} {F W T P : Nat} (hN : 5000 ≤ N) (hC : CW c F W T P) (hX : XR μ c) {S : Nat → Int32} (hS : WS F W T P S) (hD : DR μ 35 W T P S)  : f_days_carriedBits N μ  = some (carB T S) := by
  have hW' := hC.w12; have hT' := hC.t6; have hP' := hC.p5; have hF' := hC.f8
  unfold f_days_carriedBits
  exact lp_days_carriedBits_4 hN hC hX hS hD  T 0 0 N (by omega) (by omega)
theorem lp_days_lyingBits_4 {N : Nat} {μ c : sw_M} {F W T P : Nat} (hN : 5000 ≤ N) (hC : CW c F W T P) (hX : XR μ c) {S : Nat → Int32} (hS : WS F W T P S) (hD : DR μ 35 W T P S) (x : Int32) : ∀ (j k : Nat) (a : Int32) (n : Nat), k + j = T → j < n → f_days_lyingBits_4 N μ n x a (ic k) = some (fo (fun t a => if S (30 + t) = -1 ∧ S (24 + t) = x then a ||| sh t else a) k j a)
  | 0, k, a, n, h, hn => by
    have hF' := hC.f8; have hW' := hC.w12; have hT' := hC.t6; have hP' := hC.p5; have nF := hX.nF hC; have nW := hX.nW hC; have nT := hX.nT hC; have nP := hX.nP hC; have r4 := hX.r4; have r5 := hX.r5; have r6 := hX.r6; have r8 := hX.r8; have r10 := hX.r10; have dh := hD.dh; have dp := hD.dp; have dx := hD.dx; have dc := hD.dc
    obtain ⟨n, rfl⟩ := fu_s hn
    simp (disch := omega) only [f_days_lyingBits_4, nF, nW, nT, nP, r4, r5, r6, r8, r10, dh, dp, dx, dc, wb_e, ib_e, ibL_e, ob_e, nz4, inb_e, inb_lit, ic_n, n_lit, ic_1, lit_add, add_lit, lit_mul, mul_lit, ic_add, ic_mul, ic_le, ic_lt, ic_eq, lit_le, le_lit, lit_lt, lt_lit, lit_eq, eq_lit, ic_m1, m1_ic, ic_lt0, ic_0le, b2_0, b2_1, b2_bl, sh_e, Nat.not_lt_zero, Nat.zero_le, Nat.reduceEqDiff, Nat.reduceAdd, Nat.reduceMul, Nat.reduceSub, Nat.reduceLT, Nat.reduceLeDiff, reduceIte, ne_eq, not_false_eq_true, not_true_eq_false, if_true, if_false, Nat.zero_add]
    rw [if_pos (by omega), fo_0]
  | j + 1, k, a, n, h, hn => by
    have hF' := hC.f8; have hW' := hC.w12; have hT' := hC.t6; have hP' := hC.p5; have nF := hX.nF hC; have nW := hX.nW hC; have nT := hX.nT hC; have nP := hX.nP hC; have r4 := hX.r4; have r5 := hX.r5; have r6 := hX.r6; have r8 := hX.r8; have r10 := hX.r10; have dh := hD.dh; have dp := hD.dp; have dx := hD.dx; have dc := hD.dc
    obtain ⟨n, rfl⟩ := fu_s (show 0 < n by omega)
    have ih := fun a => lp_days_lyingBits_4 hN hC hX hS hD x j (k + 1) a n (by omega) (by omega)
    have e1 := hD.db (show k < T by omega); have e2 := hD.dt (show k < T by omega)
    simp (disch := omega) only [f_days_lyingBits_4, nF, nW, nT, nP, r4, r5, r6, r8, r10, dh, dp, dx, dc, e1, wb_e, ib_e, ibL_e, ob_e, nz4, inb_e, inb_lit, ic_n, n_lit, ic_1, lit_add, add_lit, lit_mul, mul_lit, ic_add, ic_mul, ic_le, ic_lt, ic_eq, lit_le, le_lit, lit_lt, lt_lit, lit_eq, eq_lit, ic_m1, m1_ic, ic_lt0, ic_0le, b2_0, b2_1, b2_bl, sh_e, Nat.not_lt_zero, Nat.zero_le, Nat.reduceEqDiff, Nat.reduceAdd, Nat.reduceMul, Nat.reduceSub, Nat.reduceLT, Nat.reduceLeDiff, reduceIte, ne_eq, not_false_eq_true, not_true_eq_false, if_true, if_false, Nat.zero_add, ih]
    rw [if_neg (by omega), fo_s]
    grind
theorem e_days_lyingBits {N : Nat} {μ c : sw_M} {F W T P : Nat} (hN : 5000 ≤ N) (hC : CW c F W T P) (hX : XR μ c) {S : Nat → Int32} (hS : WS F W T P S) (hD : DR μ 35 W T P S) (x : Int32) : f_days_lyingBits N μ x = some (lieB T S x) := by
  have hW' := hC.w12; have hT' := hC.t6; have hP' := hC.p5; have hF' := hC.f8
  unfold f_days_lyingBits
  exact lp_days_lyingBits_4 hN hC hX hS hD x T 0 0 N (by omega) (by omega)
theorem lp_days_loadOf_4 {N : Nat} {μ c : sw_M} {F W T P : Nat} (hN : 5000 ≤ N) (hC : CW c F W T P) (hX : XR μ c) {S : Nat → Int32} (hS : WS F W T P S) (hD : DR μ 35 W T P S) (x : Int32) : ∀ (j k : Nat) (a : Int32) (n : Nat), k + j = T → j < n → f_days_loadOf_4 N μ n x a (ic k) = some (fo (fun t a => if S (30 + t) = x then a + c 8 t else a) k j a)
  | 0, k, a, n, h, hn => by
    have hF' := hC.f8; have hW' := hC.w12; have hT' := hC.t6; have hP' := hC.p5; have nF := hX.nF hC; have nW := hX.nW hC; have nT := hX.nT hC; have nP := hX.nP hC; have r4 := hX.r4; have r5 := hX.r5; have r6 := hX.r6; have r8 := hX.r8; have r10 := hX.r10; have dh := hD.dh; have dp := hD.dp; have dx := hD.dx; have dc := hD.dc
    obtain ⟨n, rfl⟩ := fu_s hn
    simp (disch := omega) only [f_days_loadOf_4, nF, nW, nT, nP, r4, r5, r6, r8, r10, dh, dp, dx, dc, wb_e, ib_e, ibL_e, ob_e, nz4, inb_e, inb_lit, ic_n, n_lit, ic_1, lit_add, add_lit, lit_mul, mul_lit, ic_add, ic_mul, ic_le, ic_lt, ic_eq, lit_le, le_lit, lit_lt, lt_lit, lit_eq, eq_lit, ic_m1, m1_ic, ic_lt0, ic_0le, b2_0, b2_1, b2_bl, sh_e, Nat.not_lt_zero, Nat.zero_le, Nat.reduceEqDiff, Nat.reduceAdd, Nat.reduceMul, Nat.reduceSub, Nat.reduceLT, Nat.reduceLeDiff, reduceIte, ne_eq, not_false_eq_true, not_true_eq_false, if_true, if_false, Nat.zero_add]
    rw [if_pos (by omega), fo_0]
  | j + 1, k, a, n, h, hn => by
    have hF' := hC.f8; have hW' := hC.w12; have hT' := hC.t6; have hP' := hC.p5; have nF := hX.nF hC; have nW := hX.nW hC; have nT := hX.nT hC; have nP := hX.nP hC; have r4 := hX.r4; have r5 := hX.r5; have r6 := hX.r6; have r8 := hX.r8; have r10 := hX.r10; have dh := hD.dh; have dp := hD.dp; have dx := hD.dx; have dc := hD.dc
    obtain ⟨n, rfl⟩ := fu_s (show 0 < n by omega)
    have ih := fun a => lp_days_loadOf_4 hN hC hX hS hD x j (k + 1) a n (by omega) (by omega)
    have e1 := hD.db (show k < T by omega)
    simp (disch := omega) only [f_days_loadOf_4, nF, nW, nT, nP, r4, r5, r6, r8, r10, dh, dp, dx, dc, e1, wb_e, ib_e, ibL_e, ob_e, nz4, inb_e, inb_lit, ic_n, n_lit, ic_1, lit_add, add_lit, lit_mul, mul_lit, ic_add, ic_mul, ic_le, ic_lt, ic_eq, lit_le, le_lit, lit_lt, lt_lit, lit_eq, eq_lit, ic_m1, m1_ic, ic_lt0, ic_0le, b2_0, b2_1, b2_bl, sh_e, Nat.not_lt_zero, Nat.zero_le, Nat.reduceEqDiff, Nat.reduceAdd, Nat.reduceMul, Nat.reduceSub, Nat.reduceLT, Nat.reduceLeDiff, reduceIte, ne_eq, not_false_eq_true, not_true_eq_false, if_true, if_false, Nat.zero_add, ih]
    rw [if_neg (by omega), fo_s]
    grind
theorem e_days_loadOf {N : Nat} {μ c : sw_M} {F W T P : Nat} (hN : 5000 ≤ N) (hC : CW c F W T P) (hX : XR μ c) {S : Nat → Int32} (hS : WS F W T P S) (hD : DR μ 35 W T P S) (x : Int32) : f_days_loadOf N μ x = some (loadS T c S x) := by
  have hW' := hC.w12; have hT' := hC.t6; have hP' := hC.p5; have hF' := hC.f8
  unfold f_days_loadOf
  exact lp_days_loadOf_4 hN hC hX hS hD x T 0 0 N (by omega) (by omega)
theorem e_days_hoursLeft {N : Nat} {μ c : sw_M} {F W T P : Nat} (hN : 5000 ≤ N) (hC : CW c F W T P) (hX : XR μ c) {S : Nat → Int32} (hS : WS F W T P S) (hD : DR μ 35 W T P S) {w : Nat} (hw : w < W) : f_days_hoursLeft N μ (ic w) = some (leftS S w) := by
  have hF' := hC.f8; have hW' := hC.w12; have hT' := hC.t6; have hP' := hC.p5; have nF := hX.nF hC; have nW := hX.nW hC; have nT := hX.nT hC; have nP := hX.nP hC; have r4 := hX.r4; have r5 := hX.r5; have r6 := hX.r6; have r8 := hX.r8; have r10 := hX.r10; have dh := hD.dh; have dp := hD.dp; have dx := hD.dx; have dc := hD.dc
  have e1 := e_days_isCut hN hC hX hS hD hw; have e2 := hD.dl hw; have e3 := at_e (N := N) (k := 36) (n := 12) (μ := μ) (show w < 12 by omega) (by decide); have e4 := fun v => clamp_e (N := N) (μ := μ) v 0 99
  simp (disch := omega) only [f_days_hoursLeft, nF, nW, nT, nP, r4, r5, r6, r8, r10, dh, dp, dx, dc, e1, e2, e3, e4, wb_e, ib_e, ibL_e, ob_e, nz4, inb_e, inb_lit, ic_n, n_lit, ic_1, lit_add, add_lit, lit_mul, mul_lit, ic_add, ic_mul, ic_le, ic_lt, ic_eq, lit_le, le_lit, lit_lt, lt_lit, lit_eq, eq_lit, ic_m1, m1_ic, ic_lt0, ic_0le, b2_0, b2_1, b2_bl, sh_e, Nat.not_lt_zero, Nat.zero_le, Nat.reduceEqDiff, Nat.reduceAdd, Nat.reduceMul, Nat.reduceSub, Nat.reduceLT, Nat.reduceLeDiff, reduceIte, ne_eq, not_false_eq_true, not_true_eq_false, if_true, if_false, Nat.zero_add]
  unfold leftS; grind
theorem lp_days_tiredTogether_4 {N : Nat} {μ c : sw_M} {F W T P : Nat} (hN : 5000 ≤ N) (hC : CW c F W T P) (hX : XR μ c) {S : Nat → Int32} (hS : WS F W T P S) (hD : DR μ 35 W T P S) (x : Int32) : ∀ (j k : Nat) (a : Int32) (n : Nat), k + j = P → j < n → f_days_tiredTogether_4 N μ n x a (ic k) = some (fo (fun p a => a + (if 0 < S (41 + p) - 5 * x then S (41 + p) - 5 * x else 0)) k j a)
  | 0, k, a, n, h, hn => by
    have hF' := hC.f8; have hW' := hC.w12; have hT' := hC.t6; have hP' := hC.p5; have nF := hX.nF hC; have nW := hX.nW hC; have nT := hX.nT hC; have nP := hX.nP hC; have r4 := hX.r4; have r5 := hX.r5; have r6 := hX.r6; have r8 := hX.r8; have r10 := hX.r10; have dh := hD.dh; have dp := hD.dp; have dx := hD.dx; have dc := hD.dc
    obtain ⟨n, rfl⟩ := fu_s hn
    simp (disch := omega) only [f_days_tiredTogether_4, nF, nW, nT, nP, r4, r5, r6, r8, r10, dh, dp, dx, dc, wb_e, ib_e, ibL_e, ob_e, nz4, inb_e, inb_lit, ic_n, n_lit, ic_1, lit_add, add_lit, lit_mul, mul_lit, ic_add, ic_mul, ic_le, ic_lt, ic_eq, lit_le, le_lit, lit_lt, lt_lit, lit_eq, eq_lit, ic_m1, m1_ic, ic_lt0, ic_0le, b2_0, b2_1, b2_bl, sh_e, Nat.not_lt_zero, Nat.zero_le, Nat.reduceEqDiff, Nat.reduceAdd, Nat.reduceMul, Nat.reduceSub, Nat.reduceLT, Nat.reduceLeDiff, reduceIte, ne_eq, not_false_eq_true, not_true_eq_false, if_true, if_false, Nat.zero_add]
    rw [if_pos (by omega), fo_0]
  | j + 1, k, a, n, h, hn => by
    have hF' := hC.f8; have hW' := hC.w12; have hT' := hC.t6; have hP' := hC.p5; have nF := hX.nF hC; have nW := hX.nW hC; have nT := hX.nT hC; have nP := hX.nP hC; have r4 := hX.r4; have r5 := hX.r5; have r6 := hX.r6; have r8 := hX.r8; have r10 := hX.r10; have dh := hD.dh; have dp := hD.dp; have dx := hD.dx; have dc := hD.dc
    obtain ⟨n, rfl⟩ := fu_s (show 0 < n by omega)
    have ih := fun a => lp_days_tiredTogether_4 hN hC hX hS hD x j (k + 1) a n (by omega) (by omega)
    have e1 := hD.dr (show k < P by omega)
    simp (disch := omega) only [f_days_tiredTogether_4, nF, nW, nT, nP, r4, r5, r6, r8, r10, dh, dp, dx, dc, e1, wb_e, ib_e, ibL_e, ob_e, nz4, inb_e, inb_lit, ic_n, n_lit, ic_1, lit_add, add_lit, lit_mul, mul_lit, ic_add, ic_mul, ic_le, ic_lt, ic_eq, lit_le, le_lit, lit_lt, lt_lit, lit_eq, eq_lit, ic_m1, m1_ic, ic_lt0, ic_0le, b2_0, b2_1, b2_bl, sh_e, Nat.not_lt_zero, Nat.zero_le, Nat.reduceEqDiff, Nat.reduceAdd, Nat.reduceMul, Nat.reduceSub, Nat.reduceLT, Nat.reduceLeDiff, reduceIte, ne_eq, not_false_eq_true, not_true_eq_false, if_true, if_false, Nat.zero_add, ih]
    rw [if_neg (by omega), fo_s]
    skip
theorem e_days_tiredTogether {N : Nat} {μ c : sw_M} {F W T P : Nat} (hN : 5000 ≤ N) (hC : CW c F W T P) (hX : XR μ c) {S : Nat → Int32} (hS : WS F W T P S) (hD : DR μ 35 W T P S) (x : Int32) : f_days_tiredTogether N μ x = some (tirS P S x) := by
  have hW' := hC.w12; have hT' := hC.t6; have hP' := hC.p5; have hF' := hC.f8
  unfold f_days_tiredTogether
  exact lp_days_tiredTogether_4 hN hC hX hS hD x P 0 0 N (by omega) (by omega)
theorem e_days_freeOf {N : Nat} {μ c : sw_M} {F W T P : Nat} (hN : 5000 ≤ N) (hC : CW c F W T P) (hX : XR μ c) {S : Nat → Int32} (hS : WS F W T P S) (hD : DR μ 35 W T P S) {p : Nat} (hp : p < P) : f_days_freeOf N μ (ic p) = some (c 10 p - loadS T c S (ic p)) := by
  have hF' := hC.f8; have hW' := hC.w12; have hT' := hC.t6; have hP' := hC.p5; have nF := hX.nF hC; have nW := hX.nW hC; have nT := hX.nT hC; have nP := hX.nP hC; have r4 := hX.r4; have r5 := hX.r5; have r6 := hX.r6; have r8 := hX.r8; have r10 := hX.r10; have dh := hD.dh; have dp := hD.dp; have dx := hD.dx; have dc := hD.dc
  have e1 := e_days_loadOf hN hC hX hS hD (ic p); have e3 := at_e (N := N) (k := 10) (n := 5) (μ := μ) (show p < 5 by omega) (by decide)
  simp (disch := omega) only [f_days_freeOf, nF, nW, nT, nP, r4, r5, r6, r8, r10, dh, dp, dx, dc, e1, e3, wb_e, ib_e, ibL_e, ob_e, nz4, inb_e, inb_lit, ic_n, n_lit, ic_1, lit_add, add_lit, lit_mul, mul_lit, ic_add, ic_mul, ic_le, ic_lt, ic_eq, lit_le, le_lit, lit_lt, lt_lit, lit_eq, eq_lit, ic_m1, m1_ic, ic_lt0, ic_0le, b2_0, b2_1, b2_bl, sh_e, Nat.not_lt_zero, Nat.zero_le, Nat.reduceEqDiff, Nat.reduceAdd, Nat.reduceMul, Nat.reduceSub, Nat.reduceLT, Nat.reduceLeDiff, reduceIte, ne_eq, not_false_eq_true, not_true_eq_false, if_true, if_false, Nat.zero_add]
  skip
theorem lp_days_peopleBits_4 {N : Nat} {μ c : sw_M} {F W T P : Nat} (hN : 5000 ≤ N) (hC : CW c F W T P) (hX : XR μ c) {S : Nat → Int32} (hS : WS F W T P S) (hD : DR μ 35 W T P S) (x : Int32) : ∀ (j k : Nat) (a : Int32) (n : Nat), k + j = P → j < n → f_days_peopleBits_4 N μ n x a (ic k) = some (fo (fun p a => if S (36 + p) = x then a ||| sh p else a) k j a)
  | 0, k, a, n, h, hn => by
    have hF' := hC.f8; have hW' := hC.w12; have hT' := hC.t6; have hP' := hC.p5; have nF := hX.nF hC; have nW := hX.nW hC; have nT := hX.nT hC; have nP := hX.nP hC; have r4 := hX.r4; have r5 := hX.r5; have r6 := hX.r6; have r8 := hX.r8; have r10 := hX.r10; have dh := hD.dh; have dp := hD.dp; have dx := hD.dx; have dc := hD.dc
    obtain ⟨n, rfl⟩ := fu_s hn
    simp (disch := omega) only [f_days_peopleBits_4, nF, nW, nT, nP, r4, r5, r6, r8, r10, dh, dp, dx, dc, wb_e, ib_e, ibL_e, ob_e, nz4, inb_e, inb_lit, ic_n, n_lit, ic_1, lit_add, add_lit, lit_mul, mul_lit, ic_add, ic_mul, ic_le, ic_lt, ic_eq, lit_le, le_lit, lit_lt, lt_lit, lit_eq, eq_lit, ic_m1, m1_ic, ic_lt0, ic_0le, b2_0, b2_1, b2_bl, sh_e, Nat.not_lt_zero, Nat.zero_le, Nat.reduceEqDiff, Nat.reduceAdd, Nat.reduceMul, Nat.reduceSub, Nat.reduceLT, Nat.reduceLeDiff, reduceIte, ne_eq, not_false_eq_true, not_true_eq_false, if_true, if_false, Nat.zero_add]
    rw [if_pos (by omega), fo_0]
  | j + 1, k, a, n, h, hn => by
    have hF' := hC.f8; have hW' := hC.w12; have hT' := hC.t6; have hP' := hC.p5; have nF := hX.nF hC; have nW := hX.nW hC; have nT := hX.nT hC; have nP := hX.nP hC; have r4 := hX.r4; have r5 := hX.r5; have r6 := hX.r6; have r8 := hX.r8; have r10 := hX.r10; have dh := hD.dh; have dp := hD.dp; have dx := hD.dx; have dc := hD.dc
    obtain ⟨n, rfl⟩ := fu_s (show 0 < n by omega)
    have ih := fun a => lp_days_peopleBits_4 hN hC hX hS hD x j (k + 1) a n (by omega) (by omega)
    have e1 := hD.da (show k < P by omega)
    simp (disch := omega) only [f_days_peopleBits_4, nF, nW, nT, nP, r4, r5, r6, r8, r10, dh, dp, dx, dc, e1, wb_e, ib_e, ibL_e, ob_e, nz4, inb_e, inb_lit, ic_n, n_lit, ic_1, lit_add, add_lit, lit_mul, mul_lit, ic_add, ic_mul, ic_le, ic_lt, ic_eq, lit_le, le_lit, lit_lt, lt_lit, lit_eq, eq_lit, ic_m1, m1_ic, ic_lt0, ic_0le, b2_0, b2_1, b2_bl, sh_e, Nat.not_lt_zero, Nat.zero_le, Nat.reduceEqDiff, Nat.reduceAdd, Nat.reduceMul, Nat.reduceSub, Nat.reduceLT, Nat.reduceLeDiff, reduceIte, ne_eq, not_false_eq_true, not_true_eq_false, if_true, if_false, Nat.zero_add, ih]
    rw [if_neg (by omega), fo_s]
    grind
theorem e_days_peopleBits {N : Nat} {μ c : sw_M} {F W T P : Nat} (hN : 5000 ≤ N) (hC : CW c F W T P) (hX : XR μ c) {S : Nat → Int32} (hS : WS F W T P S) (hD : DR μ 35 W T P S) (x : Int32) : f_days_peopleBits N μ x = some (manB P S x) := by
  have hW' := hC.w12; have hT' := hC.t6; have hP' := hC.p5; have hF' := hC.f8
  unfold f_days_peopleBits
  exact lp_days_peopleBits_4 hN hC hX hS hD x P 0 0 N (by omega) (by omega)
theorem lp_days_carriedBy_4 {N : Nat} {μ c : sw_M} {F W T P : Nat} (hN : 5000 ≤ N) (hC : CW c F W T P) (hX : XR μ c) {S : Nat → Int32} (hS : WS F W T P S) (hD : DR μ 35 W T P S) (x : Int32) : ∀ (j k : Nat) (a : Int32) (n : Nat), k + j = T → j < n → f_days_carriedBy_4 N μ n x a (ic k) = some (fo (fun t a => if S (30 + t) = x then a ||| sh t else a) k j a)
  | 0, k, a, n, h, hn => by
    have hF' := hC.f8; have hW' := hC.w12; have hT' := hC.t6; have hP' := hC.p5; have nF := hX.nF hC; have nW := hX.nW hC; have nT := hX.nT hC; have nP := hX.nP hC; have r4 := hX.r4; have r5 := hX.r5; have r6 := hX.r6; have r8 := hX.r8; have r10 := hX.r10; have dh := hD.dh; have dp := hD.dp; have dx := hD.dx; have dc := hD.dc
    obtain ⟨n, rfl⟩ := fu_s hn
    simp (disch := omega) only [f_days_carriedBy_4, nF, nW, nT, nP, r4, r5, r6, r8, r10, dh, dp, dx, dc, wb_e, ib_e, ibL_e, ob_e, nz4, inb_e, inb_lit, ic_n, n_lit, ic_1, lit_add, add_lit, lit_mul, mul_lit, ic_add, ic_mul, ic_le, ic_lt, ic_eq, lit_le, le_lit, lit_lt, lt_lit, lit_eq, eq_lit, ic_m1, m1_ic, ic_lt0, ic_0le, b2_0, b2_1, b2_bl, sh_e, Nat.not_lt_zero, Nat.zero_le, Nat.reduceEqDiff, Nat.reduceAdd, Nat.reduceMul, Nat.reduceSub, Nat.reduceLT, Nat.reduceLeDiff, reduceIte, ne_eq, not_false_eq_true, not_true_eq_false, if_true, if_false, Nat.zero_add]
    rw [if_pos (by omega), fo_0]
  | j + 1, k, a, n, h, hn => by
    have hF' := hC.f8; have hW' := hC.w12; have hT' := hC.t6; have hP' := hC.p5; have nF := hX.nF hC; have nW := hX.nW hC; have nT := hX.nT hC; have nP := hX.nP hC; have r4 := hX.r4; have r5 := hX.r5; have r6 := hX.r6; have r8 := hX.r8; have r10 := hX.r10; have dh := hD.dh; have dp := hD.dp; have dx := hD.dx; have dc := hD.dc
    obtain ⟨n, rfl⟩ := fu_s (show 0 < n by omega)
    have ih := fun a => lp_days_carriedBy_4 hN hC hX hS hD x j (k + 1) a n (by omega) (by omega)
    have e1 := hD.db (show k < T by omega)
    simp (disch := omega) only [f_days_carriedBy_4, nF, nW, nT, nP, r4, r5, r6, r8, r10, dh, dp, dx, dc, e1, wb_e, ib_e, ibL_e, ob_e, nz4, inb_e, inb_lit, ic_n, n_lit, ic_1, lit_add, add_lit, lit_mul, mul_lit, ic_add, ic_mul, ic_le, ic_lt, ic_eq, lit_le, le_lit, lit_lt, lt_lit, lit_eq, eq_lit, ic_m1, m1_ic, ic_lt0, ic_0le, b2_0, b2_1, b2_bl, sh_e, Nat.not_lt_zero, Nat.zero_le, Nat.reduceEqDiff, Nat.reduceAdd, Nat.reduceMul, Nat.reduceSub, Nat.reduceLT, Nat.reduceLeDiff, reduceIte, ne_eq, not_false_eq_true, not_true_eq_false, if_true, if_false, Nat.zero_add, ih]
    rw [if_neg (by omega), fo_s]
    grind
theorem e_days_carriedBy {N : Nat} {μ c : sw_M} {F W T P : Nat} (hN : 5000 ≤ N) (hC : CW c F W T P) (hX : XR μ c) {S : Nat → Int32} (hS : WS F W T P S) (hD : DR μ 35 W T P S) (x : Int32) : f_days_carriedBy N μ x = some (heldB T S x) := by
  have hW' := hC.w12; have hT' := hC.t6; have hP' := hC.p5; have hF' := hC.f8
  unfold f_days_carriedBy
  exact lp_days_carriedBy_4 hN hC hX hS hD x T 0 0 N (by omega) (by omega)
theorem lp_days_movedBits_4 {N : Nat} {μ c : sw_M} {F W T P : Nat} (hN : 5000 ≤ N) (hC : CW c F W T P) (hX : XR μ c) {S : Nat → Int32} (hS : WS F W T P S) (hD : DR μ 35 W T P S)  : ∀ (j k : Nat) (a : Int32) (n : Nat), k + j = W → j < n → f_days_movedBits_4 N μ n  a (ic k) = some (fo (fun w a => if ¬ S w = c 6 w then a ||| sh w else a) k j a)
  | 0, k, a, n, h, hn => by
    have hF' := hC.f8; have hW' := hC.w12; have hT' := hC.t6; have hP' := hC.p5; have nF := hX.nF hC; have nW := hX.nW hC; have nT := hX.nT hC; have nP := hX.nP hC; have r4 := hX.r4; have r5 := hX.r5; have r6 := hX.r6; have r8 := hX.r8; have r10 := hX.r10; have dh := hD.dh; have dp := hD.dp; have dx := hD.dx; have dc := hD.dc
    obtain ⟨n, rfl⟩ := fu_s hn
    simp (disch := omega) only [f_days_movedBits_4, nF, nW, nT, nP, r4, r5, r6, r8, r10, dh, dp, dx, dc, wb_e, ib_e, ibL_e, ob_e, nz4, inb_e, inb_lit, ic_n, n_lit, ic_1, lit_add, add_lit, lit_mul, mul_lit, ic_add, ic_mul, ic_le, ic_lt, ic_eq, lit_le, le_lit, lit_lt, lt_lit, lit_eq, eq_lit, ic_m1, m1_ic, ic_lt0, ic_0le, b2_0, b2_1, b2_bl, sh_e, Nat.not_lt_zero, Nat.zero_le, Nat.reduceEqDiff, Nat.reduceAdd, Nat.reduceMul, Nat.reduceSub, Nat.reduceLT, Nat.reduceLeDiff, reduceIte, ne_eq, not_false_eq_true, not_true_eq_false, if_true, if_false, Nat.zero_add]
    rw [if_pos (by omega), fo_0]
  | j + 1, k, a, n, h, hn => by
    have hF' := hC.f8; have hW' := hC.w12; have hT' := hC.t6; have hP' := hC.p5; have nF := hX.nF hC; have nW := hX.nW hC; have nT := hX.nT hC; have nP := hX.nP hC; have r4 := hX.r4; have r5 := hX.r5; have r6 := hX.r6; have r8 := hX.r8; have r10 := hX.r10; have dh := hD.dh; have dp := hD.dp; have dx := hD.dx; have dc := hD.dc
    obtain ⟨n, rfl⟩ := fu_s (show 0 < n by omega)
    have ih := fun a => lp_days_movedBits_4 hN hC hX hS hD  j (k + 1) a n (by omega) (by omega)
    have e1 := hD.dl (show k < W by omega)
    simp (disch := omega) only [f_days_movedBits_4, nF, nW, nT, nP, r4, r5, r6, r8, r10, dh, dp, dx, dc, e1, wb_e, ib_e, ibL_e, ob_e, nz4, inb_e, inb_lit, ic_n, n_lit, ic_1, lit_add, add_lit, lit_mul, mul_lit, ic_add, ic_mul, ic_le, ic_lt, ic_eq, lit_le, le_lit, lit_lt, lt_lit, lit_eq, eq_lit, ic_m1, m1_ic, ic_lt0, ic_0le, b2_0, b2_1, b2_bl, sh_e, Nat.not_lt_zero, Nat.zero_le, Nat.reduceEqDiff, Nat.reduceAdd, Nat.reduceMul, Nat.reduceSub, Nat.reduceLT, Nat.reduceLeDiff, reduceIte, ne_eq, not_false_eq_true, not_true_eq_false, if_true, if_false, Nat.zero_add, ih]
    rw [if_neg (by omega), fo_s]
    grind
theorem e_days_movedBits {N : Nat} {μ c : sw_M} {F W T P : Nat} (hN : 5000 ≤ N) (hC : CW c F W T P) (hX : XR μ c) {S : Nat → Int32} (hS : WS F W T P S) (hD : DR μ 35 W T P S)  : f_days_movedBits N μ  = some (movB W c S) := by
  have hW' := hC.w12; have hT' := hC.t6; have hP' := hC.p5; have hF' := hC.f8
  unfold f_days_movedBits
  exact lp_days_movedBits_4 hN hC hX hS hD  W 0 0 N (by omega) (by omega)
theorem e_dream_isCut {N : Nat} {μ c : sw_M} {F W T P : Nat} (hN : 5000 ≤ N) (hC : CW c F W T P) (hX : XR μ c) {S : Nat → Int32} (hS : WS F W T P S) (hD : DR μ 57 W T P S) {w : Nat} (hw : w < W) : f_dream_isCut N μ (ic w) = some (b2 (S (12 + w) = 1)) := by
  have hF' := hC.f8; have hW' := hC.w12; have hT' := hC.t6; have hP' := hC.p5; have nF := hX.nF hC; have nW := hX.nW hC; have nT := hX.nT hC; have nP := hX.nP hC; have r4 := hX.r4; have r5 := hX.r5; have r6 := hX.r6; have r8 := hX.r8; have r10 := hX.r10; have dh := hD.eh; have dp := hD.ep; have dx := hD.ex; have dc := hD.ec
  have hb := bit_0 (cutS W S) (show w < 32 by omega); have hc := b_cutS (S := S) hW' w
  simp (disch := omega) only [f_dream_isCut, nF, nW, nT, nP, r4, r5, r6, r8, r10, dh, dp, dx, dc, hb, wb_e, ib_e, ibL_e, ob_e, nz4, inb_e, inb_lit, ic_n, n_lit, ic_1, lit_add, add_lit, lit_mul, mul_lit, ic_add, ic_mul, ic_le, ic_lt, ic_eq, lit_le, le_lit, lit_lt, lt_lit, lit_eq, eq_lit, ic_m1, m1_ic, ic_lt0, ic_0le, b2_0, b2_1, b2_bl, sh_e, Nat.not_lt_zero, Nat.zero_le, Nat.reduceEqDiff, Nat.reduceAdd, Nat.reduceMul, Nat.reduceSub, Nat.reduceLT, Nat.reduceLeDiff, reduceIte, ne_eq, not_false_eq_true, not_true_eq_false, if_true, if_false, Nat.zero_add]
  rw [hc]; unfold b2; by_cases e : S (12 + w) = 1 <;> simp [e, hw]
theorem e_dream_isLive {N : Nat} {μ c : sw_M} {F W T P : Nat} (hN : 5000 ≤ N) (hC : CW c F W T P) (hX : XR μ c) {S : Nat → Int32} (hS : WS F W T P S) (hD : DR μ 57 W T P S) {w : Nat} (h : Int32) (hw : w < W) : f_dream_isLive N μ (ic w) h = some (b2 (lv S w h 0)) := by
  have hF' := hC.f8; have hW' := hC.w12; have hT' := hC.t6; have hP' := hC.p5; have nF := hX.nF hC; have nW := hX.nW hC; have nT := hX.nT hC; have nP := hX.nP hC; have r4 := hX.r4; have r5 := hX.r5; have r6 := hX.r6; have r8 := hX.r8; have r10 := hX.r10; have dh := hD.eh; have dp := hD.ep; have dx := hD.ex; have dc := hD.ec
  have e1 := e_dream_isCut hN hC hX hS hD hw; have e2 := hD.el hw; have e3 := at_e (N := N) (k := 58) (n := 12) (μ := μ) (show w < 12 by omega) (by decide)
  simp (disch := omega) only [f_dream_isLive, nF, nW, nT, nP, r4, r5, r6, r8, r10, dh, dp, dx, dc, e1, e2, e3, wb_e, ib_e, ibL_e, ob_e, nz4, inb_e, inb_lit, ic_n, n_lit, ic_1, lit_add, add_lit, lit_mul, mul_lit, ic_add, ic_mul, ic_le, ic_lt, ic_eq, lit_le, le_lit, lit_lt, lt_lit, lit_eq, eq_lit, ic_m1, m1_ic, ic_lt0, ic_0le, b2_0, b2_1, b2_bl, sh_e, Nat.not_lt_zero, Nat.zero_le, Nat.reduceEqDiff, Nat.reduceAdd, Nat.reduceMul, Nat.reduceSub, Nat.reduceLT, Nat.reduceLeDiff, reduceIte, ne_eq, not_false_eq_true, not_true_eq_false, if_true, if_false, Nat.zero_add]
  unfold b2 lv; rw [Int32.add_zero]; grind
theorem lp_dream_liveBits_4 {N : Nat} {μ c : sw_M} {F W T P : Nat} (hN : 5000 ≤ N) (hC : CW c F W T P) (hX : XR μ c) {S : Nat → Int32} (hS : WS F W T P S) (hD : DR μ 57 W T P S) (x : Int32) : ∀ (j k : Nat) (a : Int32) (n : Nat), k + j = W → j < n → f_dream_liveBits_4 N μ n x a (ic k) = some (fo (fun w a => if lv S w x 0 then a ||| sh w else a) k j a)
  | 0, k, a, n, h, hn => by
    have hF' := hC.f8; have hW' := hC.w12; have hT' := hC.t6; have hP' := hC.p5; have nF := hX.nF hC; have nW := hX.nW hC; have nT := hX.nT hC; have nP := hX.nP hC; have r4 := hX.r4; have r5 := hX.r5; have r6 := hX.r6; have r8 := hX.r8; have r10 := hX.r10; have dh := hD.eh; have dp := hD.ep; have dx := hD.ex; have dc := hD.ec
    obtain ⟨n, rfl⟩ := fu_s hn
    simp (disch := omega) only [f_dream_liveBits_4, nF, nW, nT, nP, r4, r5, r6, r8, r10, dh, dp, dx, dc, wb_e, ib_e, ibL_e, ob_e, nz4, inb_e, inb_lit, ic_n, n_lit, ic_1, lit_add, add_lit, lit_mul, mul_lit, ic_add, ic_mul, ic_le, ic_lt, ic_eq, lit_le, le_lit, lit_lt, lt_lit, lit_eq, eq_lit, ic_m1, m1_ic, ic_lt0, ic_0le, b2_0, b2_1, b2_bl, sh_e, Nat.not_lt_zero, Nat.zero_le, Nat.reduceEqDiff, Nat.reduceAdd, Nat.reduceMul, Nat.reduceSub, Nat.reduceLT, Nat.reduceLeDiff, reduceIte, ne_eq, not_false_eq_true, not_true_eq_false, if_true, if_false, Nat.zero_add]
    rw [if_pos (by omega), fo_0]
  | j + 1, k, a, n, h, hn => by
    have hF' := hC.f8; have hW' := hC.w12; have hT' := hC.t6; have hP' := hC.p5; have nF := hX.nF hC; have nW := hX.nW hC; have nT := hX.nT hC; have nP := hX.nP hC; have r4 := hX.r4; have r5 := hX.r5; have r6 := hX.r6; have r8 := hX.r8; have r10 := hX.r10; have dh := hD.eh; have dp := hD.ep; have dx := hD.ex; have dc := hD.ec
    obtain ⟨n, rfl⟩ := fu_s (show 0 < n by omega)
    have ih := fun a => lp_dream_liveBits_4 hN hC hX hS hD x j (k + 1) a n (by omega) (by omega)
    have e1 := e_dream_isLive hN hC hX hS hD x (show k < W by omega)
    simp (disch := omega) only [f_dream_liveBits_4, nF, nW, nT, nP, r4, r5, r6, r8, r10, dh, dp, dx, dc, e1, wb_e, ib_e, ibL_e, ob_e, nz4, inb_e, inb_lit, ic_n, n_lit, ic_1, lit_add, add_lit, lit_mul, mul_lit, ic_add, ic_mul, ic_le, ic_lt, ic_eq, lit_le, le_lit, lit_lt, lt_lit, lit_eq, eq_lit, ic_m1, m1_ic, ic_lt0, ic_0le, b2_0, b2_1, b2_bl, sh_e, Nat.not_lt_zero, Nat.zero_le, Nat.reduceEqDiff, Nat.reduceAdd, Nat.reduceMul, Nat.reduceSub, Nat.reduceLT, Nat.reduceLeDiff, reduceIte, ne_eq, not_false_eq_true, not_true_eq_false, if_true, if_false, Nat.zero_add, ih]
    rw [if_neg (by omega), fo_s]
    grind
theorem e_dream_liveBits {N : Nat} {μ c : sw_M} {F W T P : Nat} (hN : 5000 ≤ N) (hC : CW c F W T P) (hX : XR μ c) {S : Nat → Int32} (hS : WS F W T P S) (hD : DR μ 57 W T P S) (x : Int32) : f_dream_liveBits N μ x = some (liveB W S x) := by
  have hW' := hC.w12; have hT' := hC.t6; have hP' := hC.p5; have hF' := hC.f8
  unfold f_dream_liveBits
  exact lp_dream_liveBits_4 hN hC hX hS hD x W 0 0 N (by omega) (by omega)
theorem lp_dream_carriedBits_4 {N : Nat} {μ c : sw_M} {F W T P : Nat} (hN : 5000 ≤ N) (hC : CW c F W T P) (hX : XR μ c) {S : Nat → Int32} (hS : WS F W T P S) (hD : DR μ 57 W T P S)  : ∀ (j k : Nat) (a : Int32) (n : Nat), k + j = T → j < n → f_dream_carriedBits_4 N μ n  a (ic k) = some (fo (fun t a => if ¬ S (30 + t) = -1 then a ||| sh t else a) k j a)
  | 0, k, a, n, h, hn => by
    have hF' := hC.f8; have hW' := hC.w12; have hT' := hC.t6; have hP' := hC.p5; have nF := hX.nF hC; have nW := hX.nW hC; have nT := hX.nT hC; have nP := hX.nP hC; have r4 := hX.r4; have r5 := hX.r5; have r6 := hX.r6; have r8 := hX.r8; have r10 := hX.r10; have dh := hD.eh; have dp := hD.ep; have dx := hD.ex; have dc := hD.ec
    obtain ⟨n, rfl⟩ := fu_s hn
    simp (disch := omega) only [f_dream_carriedBits_4, nF, nW, nT, nP, r4, r5, r6, r8, r10, dh, dp, dx, dc, wb_e, ib_e, ibL_e, ob_e, nz4, inb_e, inb_lit, ic_n, n_lit, ic_1, lit_add, add_lit, lit_mul, mul_lit, ic_add, ic_mul, ic_le, ic_lt, ic_eq, lit_le, le_lit, lit_lt, lt_lit, lit_eq, eq_lit, ic_m1, m1_ic, ic_lt0, ic_0le, b2_0, b2_1, b2_bl, sh_e, Nat.not_lt_zero, Nat.zero_le, Nat.reduceEqDiff, Nat.reduceAdd, Nat.reduceMul, Nat.reduceSub, Nat.reduceLT, Nat.reduceLeDiff, reduceIte, ne_eq, not_false_eq_true, not_true_eq_false, if_true, if_false, Nat.zero_add]
    rw [if_pos (by omega), fo_0]
  | j + 1, k, a, n, h, hn => by
    have hF' := hC.f8; have hW' := hC.w12; have hT' := hC.t6; have hP' := hC.p5; have nF := hX.nF hC; have nW := hX.nW hC; have nT := hX.nT hC; have nP := hX.nP hC; have r4 := hX.r4; have r5 := hX.r5; have r6 := hX.r6; have r8 := hX.r8; have r10 := hX.r10; have dh := hD.eh; have dp := hD.ep; have dx := hD.ex; have dc := hD.ec
    obtain ⟨n, rfl⟩ := fu_s (show 0 < n by omega)
    have ih := fun a => lp_dream_carriedBits_4 hN hC hX hS hD  j (k + 1) a n (by omega) (by omega)
    have e1 := hD.eb (show k < T by omega)
    simp (disch := omega) only [f_dream_carriedBits_4, nF, nW, nT, nP, r4, r5, r6, r8, r10, dh, dp, dx, dc, e1, wb_e, ib_e, ibL_e, ob_e, nz4, inb_e, inb_lit, ic_n, n_lit, ic_1, lit_add, add_lit, lit_mul, mul_lit, ic_add, ic_mul, ic_le, ic_lt, ic_eq, lit_le, le_lit, lit_lt, lt_lit, lit_eq, eq_lit, ic_m1, m1_ic, ic_lt0, ic_0le, b2_0, b2_1, b2_bl, sh_e, Nat.not_lt_zero, Nat.zero_le, Nat.reduceEqDiff, Nat.reduceAdd, Nat.reduceMul, Nat.reduceSub, Nat.reduceLT, Nat.reduceLeDiff, reduceIte, ne_eq, not_false_eq_true, not_true_eq_false, if_true, if_false, Nat.zero_add, ih]
    rw [if_neg (by omega), fo_s]
    grind
theorem e_dream_carriedBits {N : Nat} {μ c : sw_M} {F W T P : Nat} (hN : 5000 ≤ N) (hC : CW c F W T P) (hX : XR μ c) {S : Nat → Int32} (hS : WS F W T P S) (hD : DR μ 57 W T P S)  : f_dream_carriedBits N μ  = some (carB T S) := by
  have hW' := hC.w12; have hT' := hC.t6; have hP' := hC.p5; have hF' := hC.f8
  unfold f_dream_carriedBits
  exact lp_dream_carriedBits_4 hN hC hX hS hD  T 0 0 N (by omega) (by omega)
theorem lp_dream_lyingBits_4 {N : Nat} {μ c : sw_M} {F W T P : Nat} (hN : 5000 ≤ N) (hC : CW c F W T P) (hX : XR μ c) {S : Nat → Int32} (hS : WS F W T P S) (hD : DR μ 57 W T P S) (x : Int32) : ∀ (j k : Nat) (a : Int32) (n : Nat), k + j = T → j < n → f_dream_lyingBits_4 N μ n x a (ic k) = some (fo (fun t a => if S (30 + t) = -1 ∧ S (24 + t) = x then a ||| sh t else a) k j a)
  | 0, k, a, n, h, hn => by
    have hF' := hC.f8; have hW' := hC.w12; have hT' := hC.t6; have hP' := hC.p5; have nF := hX.nF hC; have nW := hX.nW hC; have nT := hX.nT hC; have nP := hX.nP hC; have r4 := hX.r4; have r5 := hX.r5; have r6 := hX.r6; have r8 := hX.r8; have r10 := hX.r10; have dh := hD.eh; have dp := hD.ep; have dx := hD.ex; have dc := hD.ec
    obtain ⟨n, rfl⟩ := fu_s hn
    simp (disch := omega) only [f_dream_lyingBits_4, nF, nW, nT, nP, r4, r5, r6, r8, r10, dh, dp, dx, dc, wb_e, ib_e, ibL_e, ob_e, nz4, inb_e, inb_lit, ic_n, n_lit, ic_1, lit_add, add_lit, lit_mul, mul_lit, ic_add, ic_mul, ic_le, ic_lt, ic_eq, lit_le, le_lit, lit_lt, lt_lit, lit_eq, eq_lit, ic_m1, m1_ic, ic_lt0, ic_0le, b2_0, b2_1, b2_bl, sh_e, Nat.not_lt_zero, Nat.zero_le, Nat.reduceEqDiff, Nat.reduceAdd, Nat.reduceMul, Nat.reduceSub, Nat.reduceLT, Nat.reduceLeDiff, reduceIte, ne_eq, not_false_eq_true, not_true_eq_false, if_true, if_false, Nat.zero_add]
    rw [if_pos (by omega), fo_0]
  | j + 1, k, a, n, h, hn => by
    have hF' := hC.f8; have hW' := hC.w12; have hT' := hC.t6; have hP' := hC.p5; have nF := hX.nF hC; have nW := hX.nW hC; have nT := hX.nT hC; have nP := hX.nP hC; have r4 := hX.r4; have r5 := hX.r5; have r6 := hX.r6; have r8 := hX.r8; have r10 := hX.r10; have dh := hD.eh; have dp := hD.ep; have dx := hD.ex; have dc := hD.ec
    obtain ⟨n, rfl⟩ := fu_s (show 0 < n by omega)
    have ih := fun a => lp_dream_lyingBits_4 hN hC hX hS hD x j (k + 1) a n (by omega) (by omega)
    have e1 := hD.eb (show k < T by omega); have e2 := hD.et (show k < T by omega)
    simp (disch := omega) only [f_dream_lyingBits_4, nF, nW, nT, nP, r4, r5, r6, r8, r10, dh, dp, dx, dc, e1, wb_e, ib_e, ibL_e, ob_e, nz4, inb_e, inb_lit, ic_n, n_lit, ic_1, lit_add, add_lit, lit_mul, mul_lit, ic_add, ic_mul, ic_le, ic_lt, ic_eq, lit_le, le_lit, lit_lt, lt_lit, lit_eq, eq_lit, ic_m1, m1_ic, ic_lt0, ic_0le, b2_0, b2_1, b2_bl, sh_e, Nat.not_lt_zero, Nat.zero_le, Nat.reduceEqDiff, Nat.reduceAdd, Nat.reduceMul, Nat.reduceSub, Nat.reduceLT, Nat.reduceLeDiff, reduceIte, ne_eq, not_false_eq_true, not_true_eq_false, if_true, if_false, Nat.zero_add, ih]
    rw [if_neg (by omega), fo_s]
    grind
theorem e_dream_lyingBits {N : Nat} {μ c : sw_M} {F W T P : Nat} (hN : 5000 ≤ N) (hC : CW c F W T P) (hX : XR μ c) {S : Nat → Int32} (hS : WS F W T P S) (hD : DR μ 57 W T P S) (x : Int32) : f_dream_lyingBits N μ x = some (lieB T S x) := by
  have hW' := hC.w12; have hT' := hC.t6; have hP' := hC.p5; have hF' := hC.f8
  unfold f_dream_lyingBits
  exact lp_dream_lyingBits_4 hN hC hX hS hD x T 0 0 N (by omega) (by omega)
theorem lp_dream_loadOf_4 {N : Nat} {μ c : sw_M} {F W T P : Nat} (hN : 5000 ≤ N) (hC : CW c F W T P) (hX : XR μ c) {S : Nat → Int32} (hS : WS F W T P S) (hD : DR μ 57 W T P S) (x : Int32) : ∀ (j k : Nat) (a : Int32) (n : Nat), k + j = T → j < n → f_dream_loadOf_4 N μ n x a (ic k) = some (fo (fun t a => if S (30 + t) = x then a + c 8 t else a) k j a)
  | 0, k, a, n, h, hn => by
    have hF' := hC.f8; have hW' := hC.w12; have hT' := hC.t6; have hP' := hC.p5; have nF := hX.nF hC; have nW := hX.nW hC; have nT := hX.nT hC; have nP := hX.nP hC; have r4 := hX.r4; have r5 := hX.r5; have r6 := hX.r6; have r8 := hX.r8; have r10 := hX.r10; have dh := hD.eh; have dp := hD.ep; have dx := hD.ex; have dc := hD.ec
    obtain ⟨n, rfl⟩ := fu_s hn
    simp (disch := omega) only [f_dream_loadOf_4, nF, nW, nT, nP, r4, r5, r6, r8, r10, dh, dp, dx, dc, wb_e, ib_e, ibL_e, ob_e, nz4, inb_e, inb_lit, ic_n, n_lit, ic_1, lit_add, add_lit, lit_mul, mul_lit, ic_add, ic_mul, ic_le, ic_lt, ic_eq, lit_le, le_lit, lit_lt, lt_lit, lit_eq, eq_lit, ic_m1, m1_ic, ic_lt0, ic_0le, b2_0, b2_1, b2_bl, sh_e, Nat.not_lt_zero, Nat.zero_le, Nat.reduceEqDiff, Nat.reduceAdd, Nat.reduceMul, Nat.reduceSub, Nat.reduceLT, Nat.reduceLeDiff, reduceIte, ne_eq, not_false_eq_true, not_true_eq_false, if_true, if_false, Nat.zero_add]
    rw [if_pos (by omega), fo_0]
  | j + 1, k, a, n, h, hn => by
    have hF' := hC.f8; have hW' := hC.w12; have hT' := hC.t6; have hP' := hC.p5; have nF := hX.nF hC; have nW := hX.nW hC; have nT := hX.nT hC; have nP := hX.nP hC; have r4 := hX.r4; have r5 := hX.r5; have r6 := hX.r6; have r8 := hX.r8; have r10 := hX.r10; have dh := hD.eh; have dp := hD.ep; have dx := hD.ex; have dc := hD.ec
    obtain ⟨n, rfl⟩ := fu_s (show 0 < n by omega)
    have ih := fun a => lp_dream_loadOf_4 hN hC hX hS hD x j (k + 1) a n (by omega) (by omega)
    have e1 := hD.eb (show k < T by omega)
    simp (disch := omega) only [f_dream_loadOf_4, nF, nW, nT, nP, r4, r5, r6, r8, r10, dh, dp, dx, dc, e1, wb_e, ib_e, ibL_e, ob_e, nz4, inb_e, inb_lit, ic_n, n_lit, ic_1, lit_add, add_lit, lit_mul, mul_lit, ic_add, ic_mul, ic_le, ic_lt, ic_eq, lit_le, le_lit, lit_lt, lt_lit, lit_eq, eq_lit, ic_m1, m1_ic, ic_lt0, ic_0le, b2_0, b2_1, b2_bl, sh_e, Nat.not_lt_zero, Nat.zero_le, Nat.reduceEqDiff, Nat.reduceAdd, Nat.reduceMul, Nat.reduceSub, Nat.reduceLT, Nat.reduceLeDiff, reduceIte, ne_eq, not_false_eq_true, not_true_eq_false, if_true, if_false, Nat.zero_add, ih]
    rw [if_neg (by omega), fo_s]
    grind
theorem e_dream_loadOf {N : Nat} {μ c : sw_M} {F W T P : Nat} (hN : 5000 ≤ N) (hC : CW c F W T P) (hX : XR μ c) {S : Nat → Int32} (hS : WS F W T P S) (hD : DR μ 57 W T P S) (x : Int32) : f_dream_loadOf N μ x = some (loadS T c S x) := by
  have hW' := hC.w12; have hT' := hC.t6; have hP' := hC.p5; have hF' := hC.f8
  unfold f_dream_loadOf
  exact lp_dream_loadOf_4 hN hC hX hS hD x T 0 0 N (by omega) (by omega)
theorem e_dream_hoursLeft {N : Nat} {μ c : sw_M} {F W T P : Nat} (hN : 5000 ≤ N) (hC : CW c F W T P) (hX : XR μ c) {S : Nat → Int32} (hS : WS F W T P S) (hD : DR μ 57 W T P S) {w : Nat} (hw : w < W) : f_dream_hoursLeft N μ (ic w) = some (leftS S w) := by
  have hF' := hC.f8; have hW' := hC.w12; have hT' := hC.t6; have hP' := hC.p5; have nF := hX.nF hC; have nW := hX.nW hC; have nT := hX.nT hC; have nP := hX.nP hC; have r4 := hX.r4; have r5 := hX.r5; have r6 := hX.r6; have r8 := hX.r8; have r10 := hX.r10; have dh := hD.eh; have dp := hD.ep; have dx := hD.ex; have dc := hD.ec
  have e1 := e_dream_isCut hN hC hX hS hD hw; have e2 := hD.el hw; have e3 := at_e (N := N) (k := 58) (n := 12) (μ := μ) (show w < 12 by omega) (by decide); have e4 := fun v => clamp_e (N := N) (μ := μ) v 0 99
  simp (disch := omega) only [f_dream_hoursLeft, nF, nW, nT, nP, r4, r5, r6, r8, r10, dh, dp, dx, dc, e1, e2, e3, e4, wb_e, ib_e, ibL_e, ob_e, nz4, inb_e, inb_lit, ic_n, n_lit, ic_1, lit_add, add_lit, lit_mul, mul_lit, ic_add, ic_mul, ic_le, ic_lt, ic_eq, lit_le, le_lit, lit_lt, lt_lit, lit_eq, eq_lit, ic_m1, m1_ic, ic_lt0, ic_0le, b2_0, b2_1, b2_bl, sh_e, Nat.not_lt_zero, Nat.zero_le, Nat.reduceEqDiff, Nat.reduceAdd, Nat.reduceMul, Nat.reduceSub, Nat.reduceLT, Nat.reduceLeDiff, reduceIte, ne_eq, not_false_eq_true, not_true_eq_false, if_true, if_false, Nat.zero_add]
  unfold leftS; grind
theorem lp_dream_tiredTogether_4 {N : Nat} {μ c : sw_M} {F W T P : Nat} (hN : 5000 ≤ N) (hC : CW c F W T P) (hX : XR μ c) {S : Nat → Int32} (hS : WS F W T P S) (hD : DR μ 57 W T P S) (x : Int32) : ∀ (j k : Nat) (a : Int32) (n : Nat), k + j = P → j < n → f_dream_tiredTogether_4 N μ n x a (ic k) = some (fo (fun p a => a + (if 0 < S (41 + p) - 5 * x then S (41 + p) - 5 * x else 0)) k j a)
  | 0, k, a, n, h, hn => by
    have hF' := hC.f8; have hW' := hC.w12; have hT' := hC.t6; have hP' := hC.p5; have nF := hX.nF hC; have nW := hX.nW hC; have nT := hX.nT hC; have nP := hX.nP hC; have r4 := hX.r4; have r5 := hX.r5; have r6 := hX.r6; have r8 := hX.r8; have r10 := hX.r10; have dh := hD.eh; have dp := hD.ep; have dx := hD.ex; have dc := hD.ec
    obtain ⟨n, rfl⟩ := fu_s hn
    simp (disch := omega) only [f_dream_tiredTogether_4, nF, nW, nT, nP, r4, r5, r6, r8, r10, dh, dp, dx, dc, wb_e, ib_e, ibL_e, ob_e, nz4, inb_e, inb_lit, ic_n, n_lit, ic_1, lit_add, add_lit, lit_mul, mul_lit, ic_add, ic_mul, ic_le, ic_lt, ic_eq, lit_le, le_lit, lit_lt, lt_lit, lit_eq, eq_lit, ic_m1, m1_ic, ic_lt0, ic_0le, b2_0, b2_1, b2_bl, sh_e, Nat.not_lt_zero, Nat.zero_le, Nat.reduceEqDiff, Nat.reduceAdd, Nat.reduceMul, Nat.reduceSub, Nat.reduceLT, Nat.reduceLeDiff, reduceIte, ne_eq, not_false_eq_true, not_true_eq_false, if_true, if_false, Nat.zero_add]
    rw [if_pos (by omega), fo_0]
  | j + 1, k, a, n, h, hn => by
    have hF' := hC.f8; have hW' := hC.w12; have hT' := hC.t6; have hP' := hC.p5; have nF := hX.nF hC; have nW := hX.nW hC; have nT := hX.nT hC; have nP := hX.nP hC; have r4 := hX.r4; have r5 := hX.r5; have r6 := hX.r6; have r8 := hX.r8; have r10 := hX.r10; have dh := hD.eh; have dp := hD.ep; have dx := hD.ex; have dc := hD.ec
    obtain ⟨n, rfl⟩ := fu_s (show 0 < n by omega)
    have ih := fun a => lp_dream_tiredTogether_4 hN hC hX hS hD x j (k + 1) a n (by omega) (by omega)
    have e1 := hD.er (show k < P by omega)
    simp (disch := omega) only [f_dream_tiredTogether_4, nF, nW, nT, nP, r4, r5, r6, r8, r10, dh, dp, dx, dc, e1, wb_e, ib_e, ibL_e, ob_e, nz4, inb_e, inb_lit, ic_n, n_lit, ic_1, lit_add, add_lit, lit_mul, mul_lit, ic_add, ic_mul, ic_le, ic_lt, ic_eq, lit_le, le_lit, lit_lt, lt_lit, lit_eq, eq_lit, ic_m1, m1_ic, ic_lt0, ic_0le, b2_0, b2_1, b2_bl, sh_e, Nat.not_lt_zero, Nat.zero_le, Nat.reduceEqDiff, Nat.reduceAdd, Nat.reduceMul, Nat.reduceSub, Nat.reduceLT, Nat.reduceLeDiff, reduceIte, ne_eq, not_false_eq_true, not_true_eq_false, if_true, if_false, Nat.zero_add, ih]
    rw [if_neg (by omega), fo_s]
    skip
theorem e_dream_tiredTogether {N : Nat} {μ c : sw_M} {F W T P : Nat} (hN : 5000 ≤ N) (hC : CW c F W T P) (hX : XR μ c) {S : Nat → Int32} (hS : WS F W T P S) (hD : DR μ 57 W T P S) (x : Int32) : f_dream_tiredTogether N μ x = some (tirS P S x) := by
  have hW' := hC.w12; have hT' := hC.t6; have hP' := hC.p5; have hF' := hC.f8
  unfold f_dream_tiredTogether
  exact lp_dream_tiredTogether_4 hN hC hX hS hD x P 0 0 N (by omega) (by omega)
theorem e_dream_freeOf {N : Nat} {μ c : sw_M} {F W T P : Nat} (hN : 5000 ≤ N) (hC : CW c F W T P) (hX : XR μ c) {S : Nat → Int32} (hS : WS F W T P S) (hD : DR μ 57 W T P S) {p : Nat} (hp : p < P) : f_dream_freeOf N μ (ic p) = some (c 10 p - loadS T c S (ic p)) := by
  have hF' := hC.f8; have hW' := hC.w12; have hT' := hC.t6; have hP' := hC.p5; have nF := hX.nF hC; have nW := hX.nW hC; have nT := hX.nT hC; have nP := hX.nP hC; have r4 := hX.r4; have r5 := hX.r5; have r6 := hX.r6; have r8 := hX.r8; have r10 := hX.r10; have dh := hD.eh; have dp := hD.ep; have dx := hD.ex; have dc := hD.ec
  have e1 := e_dream_loadOf hN hC hX hS hD (ic p); have e3 := at_e (N := N) (k := 10) (n := 5) (μ := μ) (show p < 5 by omega) (by decide)
  simp (disch := omega) only [f_dream_freeOf, nF, nW, nT, nP, r4, r5, r6, r8, r10, dh, dp, dx, dc, e1, e3, wb_e, ib_e, ibL_e, ob_e, nz4, inb_e, inb_lit, ic_n, n_lit, ic_1, lit_add, add_lit, lit_mul, mul_lit, ic_add, ic_mul, ic_le, ic_lt, ic_eq, lit_le, le_lit, lit_lt, lt_lit, lit_eq, eq_lit, ic_m1, m1_ic, ic_lt0, ic_0le, b2_0, b2_1, b2_bl, sh_e, Nat.not_lt_zero, Nat.zero_le, Nat.reduceEqDiff, Nat.reduceAdd, Nat.reduceMul, Nat.reduceSub, Nat.reduceLT, Nat.reduceLeDiff, reduceIte, ne_eq, not_false_eq_true, not_true_eq_false, if_true, if_false, Nat.zero_add]
  skip
theorem e_m_isLive {N : Nat} {μ c : sw_M} {F W T P : Nat} (hN : 5000 ≤ N) (hC : CW c F W T P) (hM : MR μ c F W T P) (hS : WS F W T P (μ 81)) {w : Nat} (h : Int32) (g : Int32) (hw : w < W) : f_m_isLive N μ (ic w) h g = some (b2 (lv (μ 81) w h g)) := by
  have hF' := hC.f8; have hW' := hC.w12; have hT' := hC.t6; have hP' := hC.p5; have nF := hM.nF; have nW := hM.nW; have nT := hM.nT; have nP := hM.nP
  have e1 := hS.ct0 hw
  simp (disch := omega) only [f_m_isLive, nF, nW, nT, nP, e1, wb_e, ib_e, ibL_e, ob_e, nz4, inb_e, inb_lit, ic_n, n_lit, ic_1, lit_add, add_lit, lit_mul, mul_lit, ic_add, ic_mul, ic_le, ic_lt, ic_eq, lit_le, le_lit, lit_lt, lt_lit, lit_eq, eq_lit, ic_m1, m1_ic, ic_lt0, ic_0le, b2_0, b2_1, b2_bl, sh_e, Nat.not_lt_zero, Nat.zero_le, Nat.reduceEqDiff, Nat.reduceAdd, Nat.reduceMul, Nat.reduceSub, Nat.reduceLT, Nat.reduceLeDiff, reduceIte, ne_eq, not_false_eq_true, not_true_eq_false, if_true, if_false, Nat.zero_add]
  unfold b2 lv; grind
theorem e_m_leftOf {N : Nat} {μ c : sw_M} {F W T P : Nat} (hN : 5000 ≤ N) (hC : CW c F W T P) (hM : MR μ c F W T P) (hS : WS F W T P (μ 81)) {w : Nat} (hw : w < W) : f_m_leftOf N μ (ic w) = some (leftS (μ 81) w) := by
  have hF' := hC.f8; have hW' := hC.w12; have hT' := hC.t6; have hP' := hC.p5; have nF := hM.nF; have nW := hM.nW; have nT := hM.nT; have nP := hM.nP
  skip
  simp (disch := omega) only [f_m_leftOf, nF, nW, nT, nP, wb_e, ib_e, ibL_e, ob_e, nz4, inb_e, inb_lit, ic_n, n_lit, ic_1, lit_add, add_lit, lit_mul, mul_lit, ic_add, ic_mul, ic_le, ic_lt, ic_eq, lit_le, le_lit, lit_lt, lt_lit, lit_eq, eq_lit, ic_m1, m1_ic, ic_lt0, ic_0le, b2_0, b2_1, b2_bl, sh_e, Nat.not_lt_zero, Nat.zero_le, Nat.reduceEqDiff, Nat.reduceAdd, Nat.reduceMul, Nat.reduceSub, Nat.reduceLT, Nat.reduceLeDiff, reduceIte, ne_eq, not_false_eq_true, not_true_eq_false, if_true, if_false, Nat.zero_add]
  unfold leftS clampI; grind
theorem e_m_isAt {N : Nat} {μ c : sw_M} {F W T P : Nat} (hN : 5000 ≤ N) (hC : CW c F W T P) (hM : MR μ c F W T P) {w : Nat} (f : Int32) (hw : w < W) : f_m_isAt N μ (ic w) f = some (b2 (c 4 w = f ∨ c 5 w = f)) := by
  have hF' := hC.f8; have hW' := hC.w12; have hT' := hC.t6; have hP' := hC.p5; have nF := hM.nF; have nW := hM.nW; have nT := hM.nT; have nP := hM.nP
  have e0 := hM.w0 hw; have e1 := hM.w1 hw
  simp (disch := omega) only [f_m_isAt, nF, nW, nT, nP, e0, e1, wb_e, ib_e, ibL_e, ob_e, nz4, inb_e, inb_lit, ic_n, n_lit, ic_1, lit_add, add_lit, lit_mul, mul_lit, ic_add, ic_mul, ic_le, ic_lt, ic_eq, lit_le, le_lit, lit_lt, lt_lit, lit_eq, eq_lit, ic_m1, m1_ic, ic_lt0, ic_0le, b2_0, b2_1, b2_bl, sh_e, Nat.not_lt_zero, Nat.zero_le, Nat.reduceEqDiff, Nat.reduceAdd, Nat.reduceMul, Nat.reduceSub, Nat.reduceLT, Nat.reduceLeDiff, reduceIte, ne_eq, not_false_eq_true, not_true_eq_false, if_true, if_false, Nat.zero_add]
  unfold b2; grind
theorem lp_m_liveIn_4 {N : Nat} {μ c : sw_M} {F W T P : Nat} (hN : 5000 ≤ N) (hC : CW c F W T P) (hM : MR μ c F W T P) (hS : WS F W T P (μ 81)) (x : Int32) : ∀ (j k : Nat) (a : Int32) (n : Nat), k + j = W → j < n → f_m_liveIn_4 N μ n x a (ic k) = some (fo (fun w a => if lv (μ 81) w x 0 then a ||| sh w else a) k j a)
  | 0, k, a, n, h, hn => by
    have hF' := hC.f8; have hW' := hC.w12; have hT' := hC.t6; have hP' := hC.p5; have nF := hM.nF; have nW := hM.nW; have nT := hM.nT; have nP := hM.nP
    obtain ⟨n, rfl⟩ := fu_s hn
    simp (disch := omega) only [f_m_liveIn_4, nF, nW, nT, nP, wb_e, ib_e, ibL_e, ob_e, nz4, inb_e, inb_lit, ic_n, n_lit, ic_1, lit_add, add_lit, lit_mul, mul_lit, ic_add, ic_mul, ic_le, ic_lt, ic_eq, lit_le, le_lit, lit_lt, lt_lit, lit_eq, eq_lit, ic_m1, m1_ic, ic_lt0, ic_0le, b2_0, b2_1, b2_bl, sh_e, Nat.not_lt_zero, Nat.zero_le, Nat.reduceEqDiff, Nat.reduceAdd, Nat.reduceMul, Nat.reduceSub, Nat.reduceLT, Nat.reduceLeDiff, reduceIte, ne_eq, not_false_eq_true, not_true_eq_false, if_true, if_false, Nat.zero_add]
    rw [if_pos (by omega), fo_0]
  | j + 1, k, a, n, h, hn => by
    have hF' := hC.f8; have hW' := hC.w12; have hT' := hC.t6; have hP' := hC.p5; have nF := hM.nF; have nW := hM.nW; have nT := hM.nT; have nP := hM.nP
    obtain ⟨n, rfl⟩ := fu_s (show 0 < n by omega)
    have ih := fun a => lp_m_liveIn_4 hN hC hM hS x j (k + 1) a n (by omega) (by omega)
    have e1 := e_m_isLive hN hC hM hS x 0 (show k < W by omega)
    simp (disch := omega) only [f_m_liveIn_4, f_m_liveIn_30, or_0, nF, nW, nT, nP, e1, wb_e, ib_e, ibL_e, ob_e, nz4, inb_e, inb_lit, ic_n, n_lit, ic_1, lit_add, add_lit, lit_mul, mul_lit, ic_add, ic_mul, ic_le, ic_lt, ic_eq, lit_le, le_lit, lit_lt, lt_lit, lit_eq, eq_lit, ic_m1, m1_ic, ic_lt0, ic_0le, b2_0, b2_1, b2_bl, sh_e, Nat.not_lt_zero, Nat.zero_le, Nat.reduceEqDiff, Nat.reduceAdd, Nat.reduceMul, Nat.reduceSub, Nat.reduceLT, Nat.reduceLeDiff, reduceIte, ne_eq, not_false_eq_true, not_true_eq_false, if_true, if_false, Nat.zero_add, ih]
    rw [if_neg (by omega), fo_s]
    grind
theorem e_m_liveIn {N : Nat} {μ c : sw_M} {F W T P : Nat} (hN : 5000 ≤ N) (hC : CW c F W T P) (hM : MR μ c F W T P) (hS : WS F W T P (μ 81)) (x : Int32) : f_m_liveIn N μ x = some (liveB W (μ 81) x) := by
  have hW' := hC.w12; have hT' := hC.t6; have hP' := hC.p5; have hF' := hC.f8
  unfold f_m_liveIn
  exact lp_m_liveIn_4 hN hC hM hS x W 0 0 N (by omega) (by omega)
theorem lp_m_cutNow_4 {N : Nat} {μ c : sw_M} {F W T P : Nat} (hN : 5000 ≤ N) (hC : CW c F W T P) (hM : MR μ c F W T P) (hS : WS F W T P (μ 81))  : ∀ (j k : Nat) (a : Int32) (n : Nat), k + j = W → j < n → f_m_cutNow_4 N μ n  a (ic k) = some (fo (fun w a => if (μ 81) (12 + w) = 1 then a ||| sh w else a) k j a)
  | 0, k, a, n, h, hn => by
    have hF' := hC.f8; have hW' := hC.w12; have hT' := hC.t6; have hP' := hC.p5; have nF := hM.nF; have nW := hM.nW; have nT := hM.nT; have nP := hM.nP
    obtain ⟨n, rfl⟩ := fu_s hn
    simp (disch := omega) only [f_m_cutNow_4, nF, nW, nT, nP, wb_e, ib_e, ibL_e, ob_e, nz4, inb_e, inb_lit, ic_n, n_lit, ic_1, lit_add, add_lit, lit_mul, mul_lit, ic_add, ic_mul, ic_le, ic_lt, ic_eq, lit_le, le_lit, lit_lt, lt_lit, lit_eq, eq_lit, ic_m1, m1_ic, ic_lt0, ic_0le, b2_0, b2_1, b2_bl, sh_e, Nat.not_lt_zero, Nat.zero_le, Nat.reduceEqDiff, Nat.reduceAdd, Nat.reduceMul, Nat.reduceSub, Nat.reduceLT, Nat.reduceLeDiff, reduceIte, ne_eq, not_false_eq_true, not_true_eq_false, if_true, if_false, Nat.zero_add]
    rw [if_pos (by omega), fo_0]
  | j + 1, k, a, n, h, hn => by
    have hF' := hC.f8; have hW' := hC.w12; have hT' := hC.t6; have hP' := hC.p5; have nF := hM.nF; have nW := hM.nW; have nT := hM.nT; have nP := hM.nP
    obtain ⟨n, rfl⟩ := fu_s (show 0 < n by omega)
    have ih := fun a => lp_m_cutNow_4 hN hC hM hS  j (k + 1) a n (by omega) (by omega)
    have e1 := (hS.2.2.1 k (by omega)).2; have e2 : (0 : Int32) <<< (ic k &&& 31) = 0 := Int32.zero_shiftLeft
    simp (disch := omega) only [f_m_cutNow_4, nF, nW, nT, nP, wb_e, ib_e, ibL_e, ob_e, nz4, inb_e, inb_lit, ic_n, n_lit, ic_1, lit_add, add_lit, lit_mul, mul_lit, ic_add, ic_mul, ic_le, ic_lt, ic_eq, lit_le, le_lit, lit_lt, lt_lit, lit_eq, eq_lit, ic_m1, m1_ic, ic_lt0, ic_0le, b2_0, b2_1, b2_bl, sh_e, Nat.not_lt_zero, Nat.zero_le, Nat.reduceEqDiff, Nat.reduceAdd, Nat.reduceMul, Nat.reduceSub, Nat.reduceLT, Nat.reduceLeDiff, reduceIte, ne_eq, not_false_eq_true, not_true_eq_false, if_true, if_false, Nat.zero_add, ih]
    rw [if_neg (by omega), fo_s]
    rcases e1 with e1 | e1 <;> simp [e1, e2, sh_e]
theorem e_m_cutNow {N : Nat} {μ c : sw_M} {F W T P : Nat} (hN : 5000 ≤ N) (hC : CW c F W T P) (hM : MR μ c F W T P) (hS : WS F W T P (μ 81))  : f_m_cutNow N μ  = some (cutS W (μ 81)) := by
  have hW' := hC.w12; have hT' := hC.t6; have hP' := hC.p5; have hF' := hC.f8
  unfold f_m_cutNow
  exact lp_m_cutNow_4 hN hC hM hS  W 0 0 N (by omega) (by omega)
theorem lp_m_carried_4 {N : Nat} {μ c : sw_M} {F W T P : Nat} (hN : 5000 ≤ N) (hC : CW c F W T P) (hM : MR μ c F W T P) (hS : WS F W T P (μ 81))  : ∀ (j k : Nat) (a : Int32) (n : Nat), k + j = T → j < n → f_m_carried_4 N μ n  a (ic k) = some (fo (fun t a => if ¬ (μ 81) (30 + t) = -1 then a ||| sh t else a) k j a)
  | 0, k, a, n, h, hn => by
    have hF' := hC.f8; have hW' := hC.w12; have hT' := hC.t6; have hP' := hC.p5; have nF := hM.nF; have nW := hM.nW; have nT := hM.nT; have nP := hM.nP
    obtain ⟨n, rfl⟩ := fu_s hn
    simp (disch := omega) only [f_m_carried_4, nF, nW, nT, nP, wb_e, ib_e, ibL_e, ob_e, nz4, inb_e, inb_lit, ic_n, n_lit, ic_1, lit_add, add_lit, lit_mul, mul_lit, ic_add, ic_mul, ic_le, ic_lt, ic_eq, lit_le, le_lit, lit_lt, lt_lit, lit_eq, eq_lit, ic_m1, m1_ic, ic_lt0, ic_0le, b2_0, b2_1, b2_bl, sh_e, Nat.not_lt_zero, Nat.zero_le, Nat.reduceEqDiff, Nat.reduceAdd, Nat.reduceMul, Nat.reduceSub, Nat.reduceLT, Nat.reduceLeDiff, reduceIte, ne_eq, not_false_eq_true, not_true_eq_false, if_true, if_false, Nat.zero_add]
    rw [if_pos (by omega), fo_0]
  | j + 1, k, a, n, h, hn => by
    have hF' := hC.f8; have hW' := hC.w12; have hT' := hC.t6; have hP' := hC.p5; have nF := hM.nF; have nW := hM.nW; have nT := hM.nT; have nP := hM.nP
    obtain ⟨n, rfl⟩ := fu_s (show 0 < n by omega)
    have ih := fun a => lp_m_carried_4 hN hC hM hS  j (k + 1) a n (by omega) (by omega)
    skip
    simp (disch := omega) only [f_m_carried_4, f_m_carried_33, or_0, nF, nW, nT, nP, wb_e, ib_e, ibL_e, ob_e, nz4, inb_e, inb_lit, ic_n, n_lit, ic_1, lit_add, add_lit, lit_mul, mul_lit, ic_add, ic_mul, ic_le, ic_lt, ic_eq, lit_le, le_lit, lit_lt, lt_lit, lit_eq, eq_lit, ic_m1, m1_ic, ic_lt0, ic_0le, b2_0, b2_1, b2_bl, sh_e, Nat.not_lt_zero, Nat.zero_le, Nat.reduceEqDiff, Nat.reduceAdd, Nat.reduceMul, Nat.reduceSub, Nat.reduceLT, Nat.reduceLeDiff, reduceIte, ne_eq, not_false_eq_true, not_true_eq_false, if_true, if_false, Nat.zero_add, ih]
    rw [if_neg (by omega), fo_s]
    grind
theorem e_m_carried {N : Nat} {μ c : sw_M} {F W T P : Nat} (hN : 5000 ≤ N) (hC : CW c F W T P) (hM : MR μ c F W T P) (hS : WS F W T P (μ 81))  : f_m_carried N μ  = some (carB T (μ 81)) := by
  have hW' := hC.w12; have hT' := hC.t6; have hP' := hC.p5; have hF' := hC.f8
  unfold f_m_carried
  exact lp_m_carried_4 hN hC hM hS  T 0 0 N (by omega) (by omega)
theorem lp_m_lyingIn_4 {N : Nat} {μ c : sw_M} {F W T P : Nat} (hN : 5000 ≤ N) (hC : CW c F W T P) (hM : MR μ c F W T P) (hS : WS F W T P (μ 81)) (x : Int32) : ∀ (j k : Nat) (a : Int32) (n : Nat), k + j = T → j < n → f_m_lyingIn_4 N μ n x a (ic k) = some (fo (fun t a => if (μ 81) (30 + t) = -1 ∧ (μ 81) (24 + t) = x then a ||| sh t else a) k j a)
  | 0, k, a, n, h, hn => by
    have hF' := hC.f8; have hW' := hC.w12; have hT' := hC.t6; have hP' := hC.p5; have nF := hM.nF; have nW := hM.nW; have nT := hM.nT; have nP := hM.nP
    obtain ⟨n, rfl⟩ := fu_s hn
    simp (disch := omega) only [f_m_lyingIn_4, nF, nW, nT, nP, wb_e, ib_e, ibL_e, ob_e, nz4, inb_e, inb_lit, ic_n, n_lit, ic_1, lit_add, add_lit, lit_mul, mul_lit, ic_add, ic_mul, ic_le, ic_lt, ic_eq, lit_le, le_lit, lit_lt, lt_lit, lit_eq, eq_lit, ic_m1, m1_ic, ic_lt0, ic_0le, b2_0, b2_1, b2_bl, sh_e, Nat.not_lt_zero, Nat.zero_le, Nat.reduceEqDiff, Nat.reduceAdd, Nat.reduceMul, Nat.reduceSub, Nat.reduceLT, Nat.reduceLeDiff, reduceIte, ne_eq, not_false_eq_true, not_true_eq_false, if_true, if_false, Nat.zero_add]
    rw [if_pos (by omega), fo_0]
  | j + 1, k, a, n, h, hn => by
    have hF' := hC.f8; have hW' := hC.w12; have hT' := hC.t6; have hP' := hC.p5; have nF := hM.nF; have nW := hM.nW; have nT := hM.nT; have nP := hM.nP
    obtain ⟨n, rfl⟩ := fu_s (show 0 < n by omega)
    have ih := fun a => lp_m_lyingIn_4 hN hC hM hS x j (k + 1) a n (by omega) (by omega)
    skip
    simp (disch := omega) only [f_m_lyingIn_4, f_m_lyingIn_46, f_m_lyingIn_45, or_0, nF, nW, nT, nP, wb_e, ib_e, ibL_e, ob_e, nz4, inb_e, inb_lit, ic_n, n_lit, ic_1, lit_add, add_lit, lit_mul, mul_lit, ic_add, ic_mul, ic_le, ic_lt, ic_eq, lit_le, le_lit, lit_lt, lt_lit, lit_eq, eq_lit, ic_m1, m1_ic, ic_lt0, ic_0le, b2_0, b2_1, b2_bl, sh_e, Nat.not_lt_zero, Nat.zero_le, Nat.reduceEqDiff, Nat.reduceAdd, Nat.reduceMul, Nat.reduceSub, Nat.reduceLT, Nat.reduceLeDiff, reduceIte, ne_eq, not_false_eq_true, not_true_eq_false, if_true, if_false, Nat.zero_add, ih]
    rw [if_neg (by omega), fo_s]
    grind
theorem e_m_lyingIn {N : Nat} {μ c : sw_M} {F W T P : Nat} (hN : 5000 ≤ N) (hC : CW c F W T P) (hM : MR μ c F W T P) (hS : WS F W T P (μ 81)) (x : Int32) : f_m_lyingIn N μ x = some (lieB T (μ 81) x) := by
  have hW' := hC.w12; have hT' := hC.t6; have hP' := hC.p5; have hF' := hC.f8
  unfold f_m_lyingIn
  exact lp_m_lyingIn_4 hN hC hM hS x T 0 0 N (by omega) (by omega)
theorem lp_m_heldBy_4 {N : Nat} {μ c : sw_M} {F W T P : Nat} (hN : 5000 ≤ N) (hC : CW c F W T P) (hM : MR μ c F W T P) (hS : WS F W T P (μ 81)) (x : Int32) : ∀ (j k : Nat) (a : Int32) (n : Nat), k + j = T → j < n → f_m_heldBy_4 N μ n x a (ic k) = some (fo (fun t a => if (μ 81) (30 + t) = x then a ||| sh t else a) k j a)
  | 0, k, a, n, h, hn => by
    have hF' := hC.f8; have hW' := hC.w12; have hT' := hC.t6; have hP' := hC.p5; have nF := hM.nF; have nW := hM.nW; have nT := hM.nT; have nP := hM.nP
    obtain ⟨n, rfl⟩ := fu_s hn
    simp (disch := omega) only [f_m_heldBy_4, nF, nW, nT, nP, wb_e, ib_e, ibL_e, ob_e, nz4, inb_e, inb_lit, ic_n, n_lit, ic_1, lit_add, add_lit, lit_mul, mul_lit, ic_add, ic_mul, ic_le, ic_lt, ic_eq, lit_le, le_lit, lit_lt, lt_lit, lit_eq, eq_lit, ic_m1, m1_ic, ic_lt0, ic_0le, b2_0, b2_1, b2_bl, sh_e, Nat.not_lt_zero, Nat.zero_le, Nat.reduceEqDiff, Nat.reduceAdd, Nat.reduceMul, Nat.reduceSub, Nat.reduceLT, Nat.reduceLeDiff, reduceIte, ne_eq, not_false_eq_true, not_true_eq_false, if_true, if_false, Nat.zero_add]
    rw [if_pos (by omega), fo_0]
  | j + 1, k, a, n, h, hn => by
    have hF' := hC.f8; have hW' := hC.w12; have hT' := hC.t6; have hP' := hC.p5; have nF := hM.nF; have nW := hM.nW; have nT := hM.nT; have nP := hM.nP
    obtain ⟨n, rfl⟩ := fu_s (show 0 < n by omega)
    have ih := fun a => lp_m_heldBy_4 hN hC hM hS x j (k + 1) a n (by omega) (by omega)
    skip
    simp (disch := omega) only [f_m_heldBy_4, f_m_heldBy_33, or_0, nF, nW, nT, nP, wb_e, ib_e, ibL_e, ob_e, nz4, inb_e, inb_lit, ic_n, n_lit, ic_1, lit_add, add_lit, lit_mul, mul_lit, ic_add, ic_mul, ic_le, ic_lt, ic_eq, lit_le, le_lit, lit_lt, lt_lit, lit_eq, eq_lit, ic_m1, m1_ic, ic_lt0, ic_0le, b2_0, b2_1, b2_bl, sh_e, Nat.not_lt_zero, Nat.zero_le, Nat.reduceEqDiff, Nat.reduceAdd, Nat.reduceMul, Nat.reduceSub, Nat.reduceLT, Nat.reduceLeDiff, reduceIte, ne_eq, not_false_eq_true, not_true_eq_false, if_true, if_false, Nat.zero_add, ih]
    rw [if_neg (by omega), fo_s]
    grind
theorem e_m_heldBy {N : Nat} {μ c : sw_M} {F W T P : Nat} (hN : 5000 ≤ N) (hC : CW c F W T P) (hM : MR μ c F W T P) (hS : WS F W T P (μ 81)) (x : Int32) : f_m_heldBy N μ x = some (heldB T (μ 81) x) := by
  have hW' := hC.w12; have hT' := hC.t6; have hP' := hC.p5; have hF' := hC.f8
  unfold f_m_heldBy
  exact lp_m_heldBy_4 hN hC hM hS x T 0 0 N (by omega) (by omega)
theorem lp_m_weightOf_4 {N : Nat} {μ c : sw_M} {F W T P : Nat} (hN : 5000 ≤ N) (hC : CW c F W T P) (hM : MR μ c F W T P) (x : Int32) : ∀ (j k : Nat) (a : Int32) (n : Nat), k + j = T → j < n → f_m_weightOf_4 N μ n x a (ic k) = some (fo (fun t a => if bt x t = true then a + c 8 t else a) k j a)
  | 0, k, a, n, h, hn => by
    have hF' := hC.f8; have hW' := hC.w12; have hT' := hC.t6; have hP' := hC.p5; have nF := hM.nF; have nW := hM.nW; have nT := hM.nT; have nP := hM.nP
    obtain ⟨n, rfl⟩ := fu_s hn
    simp (disch := omega) only [f_m_weightOf_4, nF, nW, nT, nP, wb_e, ib_e, ibL_e, ob_e, nz4, inb_e, inb_lit, ic_n, n_lit, ic_1, lit_add, add_lit, lit_mul, mul_lit, ic_add, ic_mul, ic_le, ic_lt, ic_eq, lit_le, le_lit, lit_lt, lt_lit, lit_eq, eq_lit, ic_m1, m1_ic, ic_lt0, ic_0le, b2_0, b2_1, b2_bl, sh_e, Nat.not_lt_zero, Nat.zero_le, Nat.reduceEqDiff, Nat.reduceAdd, Nat.reduceMul, Nat.reduceSub, Nat.reduceLT, Nat.reduceLeDiff, reduceIte, ne_eq, not_false_eq_true, not_true_eq_false, if_true, if_false, Nat.zero_add]
    rw [if_pos (by omega), fo_0]
  | j + 1, k, a, n, h, hn => by
    have hF' := hC.f8; have hW' := hC.w12; have hT' := hC.t6; have hP' := hC.p5; have nF := hM.nF; have nW := hM.nW; have nT := hM.nT; have nP := hM.nP
    obtain ⟨n, rfl⟩ := fu_s (show 0 < n by omega)
    have ih := fun a => lp_m_weightOf_4 hN hC hM x j (k + 1) a n (by omega) (by omega)
    have e1 := hM.t1 (show k < T by omega); have e2 := bit_v x (show k < 32 by omega)
    simp (disch := omega) only [f_m_weightOf_4, nF, nW, nT, nP, e1, e2, wb_e, ib_e, ibL_e, ob_e, nz4, inb_e, inb_lit, ic_n, n_lit, ic_1, lit_add, add_lit, lit_mul, mul_lit, ic_add, ic_mul, ic_le, ic_lt, ic_eq, lit_le, le_lit, lit_lt, lt_lit, lit_eq, eq_lit, ic_m1, m1_ic, ic_lt0, ic_0le, b2_0, b2_1, b2_bl, sh_e, Nat.not_lt_zero, Nat.zero_le, Nat.reduceEqDiff, Nat.reduceAdd, Nat.reduceMul, Nat.reduceSub, Nat.reduceLT, Nat.reduceLeDiff, reduceIte, ne_eq, not_false_eq_true, not_true_eq_false, if_true, if_false, Nat.zero_add, ih]
    rw [if_neg (by omega), fo_s]
    cases bt x k <;> simp
theorem e_m_weightOf {N : Nat} {μ c : sw_M} {F W T P : Nat} (hN : 5000 ≤ N) (hC : CW c F W T P) (hM : MR μ c F W T P) (x : Int32) : f_m_weightOf N μ x = some (wtB T c x) := by
  have hW' := hC.w12; have hT' := hC.t6; have hP' := hC.p5; have hF' := hC.f8
  unfold f_m_weightOf
  exact lp_m_weightOf_4 hN hC hM x T 0 0 N (by omega) (by omega)
theorem lp_m_wiresAt_4 {N : Nat} {μ c : sw_M} {F W T P : Nat} (hN : 5000 ≤ N) (hC : CW c F W T P) (hM : MR μ c F W T P) (x : Int32) : ∀ (j k : Nat) (a : Int32) (n : Nat), k + j = W → j < n → f_m_wiresAt_4 N μ n x a (ic k) = some (fo (fun w a => if c 4 w = x ∨ c 5 w = x then a + 1 else a) k j a)
  | 0, k, a, n, h, hn => by
    have hF' := hC.f8; have hW' := hC.w12; have hT' := hC.t6; have hP' := hC.p5; have nF := hM.nF; have nW := hM.nW; have nT := hM.nT; have nP := hM.nP
    obtain ⟨n, rfl⟩ := fu_s hn
    simp (disch := omega) only [f_m_wiresAt_4, nF, nW, nT, nP, wb_e, ib_e, ibL_e, ob_e, nz4, inb_e, inb_lit, ic_n, n_lit, ic_1, lit_add, add_lit, lit_mul, mul_lit, ic_add, ic_mul, ic_le, ic_lt, ic_eq, lit_le, le_lit, lit_lt, lt_lit, lit_eq, eq_lit, ic_m1, m1_ic, ic_lt0, ic_0le, b2_0, b2_1, b2_bl, sh_e, Nat.not_lt_zero, Nat.zero_le, Nat.reduceEqDiff, Nat.reduceAdd, Nat.reduceMul, Nat.reduceSub, Nat.reduceLT, Nat.reduceLeDiff, reduceIte, ne_eq, not_false_eq_true, not_true_eq_false, if_true, if_false, Nat.zero_add]
    rw [if_pos (by omega), fo_0]
  | j + 1, k, a, n, h, hn => by
    have hF' := hC.f8; have hW' := hC.w12; have hT' := hC.t6; have hP' := hC.p5; have nF := hM.nF; have nW := hM.nW; have nT := hM.nT; have nP := hM.nP
    obtain ⟨n, rfl⟩ := fu_s (show 0 < n by omega)
    have ih := fun a => lp_m_wiresAt_4 hN hC hM x j (k + 1) a n (by omega) (by omega)
    have e1 := e_m_isAt hN hC hM x (show k < W by omega)
    simp (disch := omega) only [f_m_wiresAt_4, f_m_wiresAt_27, nF, nW, nT, nP, e1, Int32.add_zero, wb_e, ib_e, ibL_e, ob_e, nz4, inb_e, inb_lit, ic_n, n_lit, ic_1, lit_add, add_lit, lit_mul, mul_lit, ic_add, ic_mul, ic_le, ic_lt, ic_eq, lit_le, le_lit, lit_lt, lt_lit, lit_eq, eq_lit, ic_m1, m1_ic, ic_lt0, ic_0le, b2_0, b2_1, b2_bl, sh_e, Nat.not_lt_zero, Nat.zero_le, Nat.reduceEqDiff, Nat.reduceAdd, Nat.reduceMul, Nat.reduceSub, Nat.reduceLT, Nat.reduceLeDiff, reduceIte, ne_eq, not_false_eq_true, not_true_eq_false, if_true, if_false, Nat.zero_add, ih]
    rw [if_neg (by omega), fo_s]
    grind
theorem e_m_wiresAt {N : Nat} {μ c : sw_M} {F W T P : Nat} (hN : 5000 ≤ N) (hC : CW c F W T P) (hM : MR μ c F W T P) (x : Int32) : f_m_wiresAt N μ x = some (atN W c x) := by
  have hW' := hC.w12; have hT' := hC.t6; have hP' := hC.p5; have hF' := hC.f8
  unfold f_m_wiresAt
  exact lp_m_wiresAt_4 hN hC hM x W 0 0 N (by omega) (by omega)
theorem lp_m_tiredAll_4 {N : Nat} {μ c : sw_M} {F W T P : Nat} (hN : 5000 ≤ N) (hC : CW c F W T P) (hM : MR μ c F W T P) (hS : WS F W T P (μ 81))  : ∀ (j k : Nat) (a : Int32) (n : Nat), k + j = P → j < n → f_m_tiredAll_4 N μ n  a (ic k) = some (fo (fun p a => a + (μ 81) (41 + p)) k j a)
  | 0, k, a, n, h, hn => by
    have hF' := hC.f8; have hW' := hC.w12; have hT' := hC.t6; have hP' := hC.p5; have nF := hM.nF; have nW := hM.nW; have nT := hM.nT; have nP := hM.nP
    obtain ⟨n, rfl⟩ := fu_s hn
    simp (disch := omega) only [f_m_tiredAll_4, nF, nW, nT, nP, wb_e, ib_e, ibL_e, ob_e, nz4, inb_e, inb_lit, ic_n, n_lit, ic_1, lit_add, add_lit, lit_mul, mul_lit, ic_add, ic_mul, ic_le, ic_lt, ic_eq, lit_le, le_lit, lit_lt, lt_lit, lit_eq, eq_lit, ic_m1, m1_ic, ic_lt0, ic_0le, b2_0, b2_1, b2_bl, sh_e, Nat.not_lt_zero, Nat.zero_le, Nat.reduceEqDiff, Nat.reduceAdd, Nat.reduceMul, Nat.reduceSub, Nat.reduceLT, Nat.reduceLeDiff, reduceIte, ne_eq, not_false_eq_true, not_true_eq_false, if_true, if_false, Nat.zero_add]
    rw [if_pos (by omega), fo_0]
  | j + 1, k, a, n, h, hn => by
    have hF' := hC.f8; have hW' := hC.w12; have hT' := hC.t6; have hP' := hC.p5; have nF := hM.nF; have nW := hM.nW; have nT := hM.nT; have nP := hM.nP
    obtain ⟨n, rfl⟩ := fu_s (show 0 < n by omega)
    have ih := fun a => lp_m_tiredAll_4 hN hC hM hS  j (k + 1) a n (by omega) (by omega)
    skip
    simp (disch := omega) only [f_m_tiredAll_4, nF, nW, nT, nP, wb_e, ib_e, ibL_e, ob_e, nz4, inb_e, inb_lit, ic_n, n_lit, ic_1, lit_add, add_lit, lit_mul, mul_lit, ic_add, ic_mul, ic_le, ic_lt, ic_eq, lit_le, le_lit, lit_lt, lt_lit, lit_eq, eq_lit, ic_m1, m1_ic, ic_lt0, ic_0le, b2_0, b2_1, b2_bl, sh_e, Nat.not_lt_zero, Nat.zero_le, Nat.reduceEqDiff, Nat.reduceAdd, Nat.reduceMul, Nat.reduceSub, Nat.reduceLT, Nat.reduceLeDiff, reduceIte, ne_eq, not_false_eq_true, not_true_eq_false, if_true, if_false, Nat.zero_add, ih]
    rw [if_neg (by omega), fo_s]
    skip
theorem e_m_tiredAll {N : Nat} {μ c : sw_M} {F W T P : Nat} (hN : 5000 ≤ N) (hC : CW c F W T P) (hM : MR μ c F W T P) (hS : WS F W T P (μ 81))  : f_m_tiredAll N μ  = some (tirN P (μ 81)) := by
  have hW' := hC.w12; have hT' := hC.t6; have hP' := hC.p5; have hF' := hC.f8
  unfold f_m_tiredAll
  exact lp_m_tiredAll_4 hN hC hM hS  P 0 0 N (by omega) (by omega)
theorem lp_m_field_88 {N : Nat} {μ c : sw_M} {F W T P : Nat} (hN : 5000 ≤ N) (hC : CW c F W T P) (hM : MR μ c F W T P) (hS : WS F W T P (μ 81)) (x : Int32) : ∀ (j k : Nat) (a : Int32) (n : Nat), k + j = P → j < n → f_m_field_88 N n μ x a (ic k) = some (fo (fun p a => if (μ 81) (36 + p) = x then a ||| sh p else a) k j a, μ)
  | 0, k, a, n, h, hn => by
    have hF' := hC.f8; have hW' := hC.w12; have hT' := hC.t6; have hP' := hC.p5; have nF := hM.nF; have nW := hM.nW; have nT := hM.nT; have nP := hM.nP
    obtain ⟨n, rfl⟩ := fu_s hn
    simp (disch := omega) only [f_m_field_88, nF, nW, nT, nP, wb_e, ib_e, ibL_e, ob_e, nz4, inb_e, inb_lit, ic_n, n_lit, ic_1, lit_add, add_lit, lit_mul, mul_lit, ic_add, ic_mul, ic_le, ic_lt, ic_eq, lit_le, le_lit, lit_lt, lt_lit, lit_eq, eq_lit, ic_m1, m1_ic, ic_lt0, ic_0le, b2_0, b2_1, b2_bl, sh_e, Nat.not_lt_zero, Nat.zero_le, Nat.reduceEqDiff, Nat.reduceAdd, Nat.reduceMul, Nat.reduceSub, Nat.reduceLT, Nat.reduceLeDiff, reduceIte, ne_eq, not_false_eq_true, not_true_eq_false, if_true, if_false, Nat.zero_add]
    rw [if_pos (by omega), fo_0]
  | j + 1, k, a, n, h, hn => by
    have hF' := hC.f8; have hW' := hC.w12; have hT' := hC.t6; have hP' := hC.p5; have nF := hM.nF; have nW := hM.nW; have nT := hM.nT; have nP := hM.nP
    obtain ⟨n, rfl⟩ := fu_s (show 0 < n by omega)
    have ih := fun a => lp_m_field_88 hN hC hM hS x j (k + 1) a n (by omega) (by omega)
    skip
    simp (disch := omega) only [f_m_field_88, f_m_field_120, or_0, nF, nW, nT, nP, wb_e, ib_e, ibL_e, ob_e, nz4, inb_e, inb_lit, ic_n, n_lit, ic_1, lit_add, add_lit, lit_mul, mul_lit, ic_add, ic_mul, ic_le, ic_lt, ic_eq, lit_le, le_lit, lit_lt, lt_lit, lit_eq, eq_lit, ic_m1, m1_ic, ic_lt0, ic_0le, b2_0, b2_1, b2_bl, sh_e, Nat.not_lt_zero, Nat.zero_le, Nat.reduceEqDiff, Nat.reduceAdd, Nat.reduceMul, Nat.reduceSub, Nat.reduceLT, Nat.reduceLeDiff, reduceIte, ne_eq, not_false_eq_true, not_true_eq_false, if_true, if_false, Nat.zero_add, ih]
    rw [if_neg (by omega), fo_s]
    grind
