/-! ===== bytes, blanks, numbers, words: plain, then as both programs read them ===== -/
theorem wr_id {μ : sw_M} {k j : Nat} {v : Int32} (h : μ k j = v) : wr μ k j v = μ := by
  funext a b; rw [wr_ap]; split
  · next e => subst e; split
              · next e => subst e; exact h.symm
              · rfl
  · rfl
theorem wr_wr (μ : sw_M) (k j : Nat) (v w : Int32) : wr (wr μ k j v) k j w = wr μ k j w := by
  funext a b; simp only [wr_ap]; split
  · split <;> rfl
  · rfl
theorem wr_wc (μ : sw_M) {k i j : Nat} (h : i ≠ j) (v w : Int32) : wr (wr μ k i v) k j w = wr (wr μ k j w) k i v := by
  funext a b; simp only [wr_ap]; split
  · split
    · next e => subst e; rw [if_neg (Ne.symm h)]
    · rfl
  · rfl
def pB (x : Nat) : Bool := decide (x = 32)
def pD (x : Nat) : Bool := decide (48 ≤ x ∧ x ≤ 57)
def pL (x : Nat) : Bool := decide (97 ≤ x ∧ x ≤ 122)
def rn (p : Nat → Bool) (B : Nat → Nat) : Nat → Nat → Nat
  | 0, i => i
  | d + 1, i => if p (B i) then rn p B d (i + 1) else i
theorem rn_0 (p : Nat → Bool) (B : Nat → Nat) (i : Nat) : rn p B 0 i = i := rfl
theorem rn_s (p : Nat → Bool) (B : Nat → Nat) (d i : Nat) : rn p B (d + 1) i = if p (B i) = true then rn p B d (i + 1) else i := rfl
section
variable {p : Nat → Bool} {B : Nat → Nat}
theorem rn_ge : ∀ d i, i ≤ rn p B d i
  | 0, i => Nat.le_refl i
  | d + 1, i => by
    unfold rn; split
    · have := rn_ge d (i + 1); omega
    · exact Nat.le_refl i
theorem rn_le : ∀ d i, rn p B d i ≤ i + d
  | 0, i => Nat.le_refl i
  | d + 1, i => by
    unfold rn; split
    · have := rn_le d (i + 1); omega
    · omega
theorem rn_st : ∀ d i, rn p B d i < i + d → p (B (rn p B d i)) = false
  | 0, i, h => by unfold rn at h; omega
  | d + 1, i, h => by
    unfold rn at h ⊢; split
    · next e => rw [if_pos e] at h; exact rn_st d (i + 1) (by omega)
    · next e => simpa using e
theorem rn_al : ∀ d i k, i ≤ k → k < rn p B d i → p (B k) = true
  | 0, i, k, h, h2 => by unfold rn at h2; omega
  | d + 1, i, k, h, h2 => by
    unfold rn at h2
    split at h2
    · next e =>
      by_cases q : k = i
      · subst q; exact e
      · exact rn_al d (i + 1) k (by omega) h2
    · omega
end
def re (p : Nat → Bool) (B : Nat → Nat) (L i : Nat) : Nat := rn p B (L - i) i
section
variable {p : Nat → Bool} {B : Nat → Nat} {L i : Nat}
theorem re_ge : i ≤ re p B L i := rn_ge _ _
theorem re_le (h : i ≤ L) : re p B L i ≤ L := by have := rn_le (p := p) (B := B) (L - i) i; unfold re; omega
theorem re_st (h : re p B L i < L) (h2 : i ≤ L) : p (B (re p B L i)) = false := rn_st _ _ (by unfold re at h; omega)
theorem re_al {k : Nat} (h : i ≤ k) (h2 : k < re p B L i) : p (B k) = true := rn_al _ _ k h h2
theorem re_no (h : i < L → p (B i) = false) (h2 : i ≤ L) : re p B L i = i := by
  unfold re
  by_cases q : i < L
  · rw [show L - i = (L - i - 1) + 1 by omega]; unfold rn; rw [h q]; rfl
  · rw [show L - i = 0 by omega]; rfl
theorem re_ys (h : i < L) (h2 : p (B i) = true) : re p B L i = re p B L (i + 1) := by
  unfold re
  rw [show L - i = (L - (i + 1)) + 1 by omega]
  conv => lhs; unfold rn
  rw [h2]; rfl
theorem re_gt (h : i < L) (h2 : p (B i) = true) : i < re p B L i := by
  rw [re_ys h h2]; have := re_ge (p := p) (B := B) (L := L) (i := i + 1); omega
theorem re_re (h : i ≤ L) : re p B L (re p B L i) = re p B L i := re_no (fun q => re_st q h) (re_le h)
end
abbrev sk (B : Nat → Nat) (L i : Nat) : Nat := re pB B L i
def nx (B : Nat → Nat) (L s : Nat) : Nat := if s < L then (if pD (B s) then re pD B L s else if pL (B s) then re pL B L s else s + 1) else s
def kd (B : Nat → Nat) (L s : Nat) : Nat := if s < L then (if pD (B s) then 257 else if pL (B s) then 258 else B s) else 256
def ch (B : Nat → Nat) (L s : Nat) : Nat := if s < L then B s else 0
def vC (B : Nat → Nat) : Nat → Nat → Nat → Nat
  | 0, _, v => v
  | d + 1, i, v => if pD (B i) then vC B d (i + 1) (if v < 1000000 then v * 10 + B i - 48 else 1000000) else v
def vM (B : Nat → Nat) : Nat → Nat → Nat → Nat
  | 0, _, v => v
  | d + 1, i, v => if pD (B i) then vM B d (i + 1) (if v ≤ 9999 then 10 * v + B i - 48 else 10000) else v
theorem vC_0 (B : Nat → Nat) (i v : Nat) : vC B 0 i v = v := rfl
theorem vC_s (B : Nat → Nat) (d i v : Nat) : vC B (d + 1) i v = if pD (B i) = true then vC B d (i + 1) (if v < 1000000 then v * 10 + B i - 48 else 1000000) else v := rfl
theorem vM_0 (B : Nat → Nat) (i v : Nat) : vM B 0 i v = v := rfl
theorem vM_s (B : Nat → Nat) (d i v : Nat) : vM B (d + 1) i v = if pD (B i) = true then vM B d (i + 1) (if v ≤ 9999 then 10 * v + B i - 48 else 10000) else v := rfl
theorem nx_gt {B : Nat → Nat} {L s : Nat} (h : s < L) : s < nx B L s := by
  unfold nx; rw [if_pos h]; split
  · next e => exact re_gt h e
  · split
    · next e => exact re_gt h e
    · omega
theorem nx_le {B : Nat → Nat} {L s : Nat} (h : s ≤ L) : nx B L s ≤ L := by
  unfold nx; split
  · split
    · exact re_le h
    · split
      · exact re_le h
      · omega
  · exact h
theorem pD_e {x : Nat} : pD x = true ↔ 48 ≤ x ∧ x ≤ 57 := by unfold pD; simp
theorem pL_e {x : Nat} : pL x = true ↔ 97 ≤ x ∧ x ≤ 122 := by unfold pL; simp
theorem pB_e {x : Nat} : pB x = true ↔ x = 32 := by unfold pB; simp
/-- both values of a number -/
theorem v_rel (B : Nat → Nat) (hB : ∀ i, B i < 256) : ∀ d i v u, (v = u ∨ (9999 < v ∧ 9999 < u)) → v ≤ 10000009 → u ≤ 100000 → (vC B d i v = vM B d i u ∨ (9999 < vC B d i v ∧ 9999 < vM B d i u)) ∧ vC B d i v ≤ 10000009 ∧ vM B d i u ≤ 100000
  | 0, _, _, _, h, h1, h2 => ⟨h, h1, h2⟩
  | d + 1, i, v, u, h, h1, h2 => by
    unfold vC vM
    by_cases q : pD (B i) = true
    · rw [if_pos q, if_pos q]
      have qq := pD_e.mp q
      refine v_rel B hB d (i + 1) _ _ ?_ ?_ ?_
      · split <;> split <;> omega
      · split <;> omega
      · split <;> omega
    · rw [if_neg q, if_neg q]; exact ⟨h, h1, h2⟩
theorem pD_lt {B : Nat → Nat} (hB : ∀ i, B i < 256) (i : Nat) : (ic (B i) < 48) = ¬ (48 ≤ B i) := by
  have := hB i; rw [lt_lit (by decide) (by omega)]; exact propext (by omega)
theorem pD_gt {B : Nat → Nat} (hB : ∀ i, B i < 256) (i : Nat) : (57 < ic (B i)) = ¬ (B i ≤ 57) := by
  have := hB i; rw [lit_lt (by decide) (by omega)]; exact propext (by omega)
theorem pL_lt {B : Nat → Nat} (hB : ∀ i, B i < 256) (i : Nat) : (ic (B i) < 97) = ¬ (97 ≤ B i) := by
  have := hB i; rw [lt_lit (by decide) (by omega)]; exact propext (by omega)
theorem pL_gt {B : Nat → Nat} (hB : ∀ i, B i < 256) (i : Nat) : (122 < ic (B i)) = ¬ (B i ≤ 122) := by
  have := hB i; rw [lit_lt (by decide) (by omega)]; exact propext (by omega)
theorem small_e {N : Nat} {μ : sw_M} {x : Nat} (hx : x < 256) : f_sm_isSmall N μ (ic x) = some (b2 (pL x = true)) := by
  unfold f_sm_isSmall b2 pL
  simp (disch := omega) only [lt_lit, lit_lt]
  by_cases a : x < 97
  · rw [if_pos a, if_neg (by simp; omega)]
  · rw [if_neg a]
    by_cases b : 122 < x
    · rw [if_pos b, if_neg (by simp; omega)]
    · rw [if_neg b, if_pos (by simp; omega)]
theorem digit_e {N : Nat} {μ : sw_M} {x : Nat} (hx : x < 256) : f_sm_isDigit N μ (ic x) = some (b2 (pD x = true)) := by
  unfold f_sm_isDigit b2 pD
  simp (disch := omega) only [lt_lit, lit_lt]
  by_cases a : x < 48
  · rw [if_pos a, if_neg (by simp; omega)]
  · rw [if_neg a]
    by_cases b : 57 < x
    · rw [if_pos b, if_neg (by simp; omega)]
    · rw [if_neg b, if_pos (by simp; omega)]
/-! the class -/
theorem lp_adv_let {N : Nat} {B : Nat → Nat} (hB : ∀ i, B i < 256) : ∀ (d p : Nat) (μ : sw_M) (n : Nat), d < n → μ 1 1 = ic (p + d) → p + d ≤ 600 → μ 1 2 = ic p → (∀ i, i < p + d → μ 2 i = ic (B i)) → f_tape_advance_223 N n μ = some (wr μ 1 2 (ic (rn pL B d p)))
  | 0, p, μ, n, hn, hL, h6, hp, hb => by
    obtain ⟨n, rfl⟩ := fu_s hn
    simp (disch := omega) only [f_tape_advance_223, hL, hp, wb_e, ib_e, ibL_e, ob_e, nz4, inb_e, inb_lit, ic_n, n_lit, ic_1, lit_add, add_lit, lit_mul, mul_lit, ic_add, ic_mul, ic_le, ic_lt, ic_eq, lit_le, le_lit, lit_lt, lt_lit, lit_eq, eq_lit, ic_m1, m1_ic, ic_lt0, ic_0le, b2_0, b2_1, b2_bl, sh_e, Nat.not_lt_zero, Nat.zero_le, Nat.reduceEqDiff, Nat.reduceAdd, Nat.reduceMul, Nat.reduceSub, Nat.reduceLT, Nat.reduceLeDiff, reduceIte, ne_eq, not_false_eq_true, not_true_eq_false, if_true, if_false, Nat.zero_add]
    rw [if_pos (by omega), rn_0, wr_id hp]
  | d + 1, p, μ, n, hn, hL, h6, hp, hb => by
    obtain ⟨n, rfl⟩ := fu_s (show 0 < n by omega)
    have e := hb p (by omega)
    have ih := lp_adv_let (N := N) hB d (p + 1) (wr μ 1 2 (ic (p + 1))) n (by omega) (by rw [show p + 1 + d = p + (d + 1) by omega]; exact hL) (by omega) rfl (fun i hi => hb i (by omega))
    simp (disch := omega) only [f_tape_advance_223, hL, hp, e, pL_lt hB, pL_gt hB, ih, wr_wr, wb_e, ib_e, ibL_e, ob_e, nz4, inb_e, inb_lit, ic_n, n_lit, ic_1, lit_add, add_lit, lit_mul, mul_lit, ic_add, ic_mul, ic_le, ic_lt, ic_eq, lit_le, le_lit, lit_lt, lt_lit, lit_eq, eq_lit, ic_m1, m1_ic, ic_lt0, ic_0le, b2_0, b2_1, b2_bl, sh_e, Nat.not_lt_zero, Nat.zero_le, Nat.reduceEqDiff, Nat.reduceAdd, Nat.reduceMul, Nat.reduceSub, Nat.reduceLT, Nat.reduceLeDiff, reduceIte, ne_eq, not_false_eq_true, not_true_eq_false, if_true, if_false, Nat.zero_add]
    rw [if_neg (by omega), rn_s]
    by_cases a : 97 ≤ B p
    · rw [if_neg (fun q => q a)]
      by_cases b : B p ≤ 122
      · rw [if_neg (fun q => q b), if_pos (pL_e.mpr ⟨a, b⟩)]
      · rw [if_pos b, if_neg (fun z => b (pL_e.mp z).2), wr_id hp]
    · rw [if_pos a, if_neg (fun z => a (pL_e.mp z).1), wr_id hp]
theorem lp_adv_dig {N : Nat} {B : Nat → Nat} (hB : ∀ i, B i < 256) : ∀ (d p v : Nat) (μ : sw_M) (n : Nat), d < n → μ 1 1 = ic (p + d) → p + d ≤ 600 → μ 1 2 = ic p → μ 1 6 = ic v → v ≤ 10000009 → (∀ i, i < p + d → μ 2 i = ic (B i)) → f_tape_advance_108 N n μ = some (wr (wr μ 1 6 (ic (vC B d p v))) 1 2 (ic (rn pD B d p)))
  | 0, p, v, μ, n, hn, hL, h6, hp, hv, h7, hb => by
    obtain ⟨n, rfl⟩ := fu_s hn
    simp (disch := omega) only [f_tape_advance_108, hL, hp, wb_e, ib_e, ibL_e, ob_e, nz4, inb_e, inb_lit, ic_n, n_lit, ic_1, lit_add, add_lit, lit_mul, mul_lit, ic_add, ic_mul, ic_le, ic_lt, ic_eq, lit_le, le_lit, lit_lt, lt_lit, lit_eq, eq_lit, ic_m1, m1_ic, ic_lt0, ic_0le, b2_0, b2_1, b2_bl, sh_e, Nat.not_lt_zero, Nat.zero_le, Nat.reduceEqDiff, Nat.reduceAdd, Nat.reduceMul, Nat.reduceSub, Nat.reduceLT, Nat.reduceLeDiff, reduceIte, ne_eq, not_false_eq_true, not_true_eq_false, if_true, if_false, Nat.zero_add]
    rw [if_pos (by omega), rn_0, vC_0, wr_id hv, wr_id hp]
  | d + 1, p, v, μ, n, hn, hL, h6, hp, hv, h7, hb => by
    obtain ⟨n, rfl⟩ := fu_s (show 0 < n by omega)
    have e := hb p (by omega)
    have ih := fun (w : Nat) (hw : w ≤ 10000009) => lp_adv_dig (N := N) hB d (p + 1) w (wr (wr μ 1 6 (ic w)) 1 2 (ic (p + 1))) n (by omega) (by rw [show p + 1 + d = p + (d + 1) by omega]; exact hL) (by omega) rfl rfl hw (fun i hi => hb i (by omega))
    have e2 : ∀ w : Int32, (wr μ 1 6 w) 1 2 = ic p := fun _ => hp
    have w4 : ∀ a b c d : Int32, wr (wr (wr (wr μ 1 6 a) 1 2 b) 1 6 c) 1 2 d = wr (wr μ 1 6 c) 1 2 d := by
      intro a b c d; rw [wr_wc μ (by decide), wr_wr, wr_wc _ (by decide), wr_wr, wr_wc _ (by decide)]
    have hBp := hB p
    by_cases a : 48 ≤ B p
    · by_cases b : B p ≤ 57
      · have e3 : ic (v * 10 + B p) - 48 = ic (v * 10 + B p - 48) := ic_sub (a := v * 10 + B p) (b := 48) (by omega)
        have q : pD (B p) = true := pD_e.mpr ⟨a, b⟩
        simp (disch := omega) only [f_tape_advance_108, f_tape_advance_182, hL, hp, hv, e, e2, e3, pD_lt hB, pD_gt hB, wb_e, ib_e, ibL_e, ob_e, nz4, inb_e, inb_lit, ic_n, n_lit, ic_1, lit_add, add_lit, lit_mul, mul_lit, ic_add, ic_mul, ic_le, ic_lt, ic_eq, lit_le, le_lit, lit_lt, lt_lit, lit_eq, eq_lit, ic_m1, m1_ic, ic_lt0, ic_0le, b2_0, b2_1, b2_bl, sh_e, Nat.not_lt_zero, Nat.zero_le, Nat.reduceEqDiff, Nat.reduceAdd, Nat.reduceMul, Nat.reduceSub, Nat.reduceLT, Nat.reduceLeDiff, reduceIte, ne_eq, not_false_eq_true, not_true_eq_false, if_true, if_false, Nat.zero_add]
        rw [if_neg (by omega), if_neg (fun q => q a), if_neg (fun q => q b)]
        rw [rn_s, vC_s, if_pos q, if_pos q]
        by_cases c : v < 1000000
        · rw [if_pos c, if_pos c, ih _ (by omega), w4]
        · rw [if_neg c, if_neg c]
          have := ih 1000000 (by omega)
          rw [show (1000000 : Int32) = ic 1000000 from rfl, this, w4]
      · have q : ¬ pD (B p) = true := fun z => b (pD_e.mp z).2
        simp (disch := omega) only [f_tape_advance_108, hL, hp, hv, e, pD_lt hB, pD_gt hB, wb_e, ib_e, ibL_e, ob_e, nz4, inb_e, inb_lit, ic_n, n_lit, ic_1, lit_add, add_lit, lit_mul, mul_lit, ic_add, ic_mul, ic_le, ic_lt, ic_eq, lit_le, le_lit, lit_lt, lt_lit, lit_eq, eq_lit, ic_m1, m1_ic, ic_lt0, ic_0le, b2_0, b2_1, b2_bl, sh_e, Nat.not_lt_zero, Nat.zero_le, Nat.reduceEqDiff, Nat.reduceAdd, Nat.reduceMul, Nat.reduceSub, Nat.reduceLT, Nat.reduceLeDiff, reduceIte, ne_eq, not_false_eq_true, not_true_eq_false, if_true, if_false, Nat.zero_add]
        rw [if_neg (by omega), if_neg (fun q => q a), if_pos b]
        rw [rn_s, vC_s, if_neg q, if_neg q, wr_id hv, wr_id hp]
    · have q : ¬ pD (B p) = true := fun z => a (pD_e.mp z).1
      simp (disch := omega) only [f_tape_advance_108, hL, hp, hv, e, pD_lt hB, pD_gt hB, wb_e, ib_e, ibL_e, ob_e, nz4, inb_e, inb_lit, ic_n, n_lit, ic_1, lit_add, add_lit, lit_mul, mul_lit, ic_add, ic_mul, ic_le, ic_lt, ic_eq, lit_le, le_lit, lit_lt, lt_lit, lit_eq, eq_lit, ic_m1, m1_ic, ic_lt0, ic_0le, b2_0, b2_1, b2_bl, sh_e, Nat.not_lt_zero, Nat.zero_le, Nat.reduceEqDiff, Nat.reduceAdd, Nat.reduceMul, Nat.reduceSub, Nat.reduceLT, Nat.reduceLeDiff, reduceIte, ne_eq, not_false_eq_true, not_true_eq_false, if_true, if_false, Nat.zero_add]
      rw [if_neg (by omega), if_pos a]
      rw [rn_s, vC_s, if_neg q, if_neg q, wr_id hv, wr_id hp]
theorem lp_adv_bl {N : Nat} {B : Nat → Nat} (hB : ∀ i, B i < 256) : ∀ (d p : Nat) (μ : sw_M) (n : Nat), d < n → μ 1 1 = ic (p + d) → p + d ≤ 600 → μ 1 2 = ic p → (∀ i, i < p + d → μ 2 i = ic (B i)) → f_tape_advance_0 N n μ = f_tape_advance_38 N (wr μ 1 2 (ic (rn pB B d p)))
  | 0, p, μ, n, hn, hL, h6, hp, hb => by
    obtain ⟨n, rfl⟩ := fu_s hn
    simp (disch := omega) only [f_tape_advance_0, hL, hp, wb_e, ib_e, ibL_e, ob_e, nz4, inb_e, inb_lit, ic_n, n_lit, ic_1, lit_add, add_lit, lit_mul, mul_lit, ic_add, ic_mul, ic_le, ic_lt, ic_eq, lit_le, le_lit, lit_lt, lt_lit, lit_eq, eq_lit, ic_m1, m1_ic, ic_lt0, ic_0le, b2_0, b2_1, b2_bl, sh_e, Nat.not_lt_zero, Nat.zero_le, Nat.reduceEqDiff, Nat.reduceAdd, Nat.reduceMul, Nat.reduceSub, Nat.reduceLT, Nat.reduceLeDiff, reduceIte, ne_eq, not_false_eq_true, not_true_eq_false, if_true, if_false, Nat.zero_add]
    rw [if_pos (by omega), rn_0, wr_id hp]
  | d + 1, p, μ, n, hn, hL, h6, hp, hb => by
    obtain ⟨n, rfl⟩ := fu_s (show 0 < n by omega)
    have e := hb p (by omega)
    have hBp := hB p
    have ih := lp_adv_bl (N := N) hB d (p + 1) (wr μ 1 2 (ic (p + 1))) n (by omega) (by rw [show p + 1 + d = p + (d + 1) by omega]; exact hL) (by omega) rfl (fun i hi => hb i (by omega))
    simp (disch := omega) only [f_tape_advance_0, hL, hp, e, ih, wr_wr, wb_e, ib_e, ibL_e, ob_e, nz4, inb_e, inb_lit, ic_n, n_lit, ic_1, lit_add, add_lit, lit_mul, mul_lit, ic_add, ic_mul, ic_le, ic_lt, ic_eq, lit_le, le_lit, lit_lt, lt_lit, lit_eq, eq_lit, ic_m1, m1_ic, ic_lt0, ic_0le, b2_0, b2_1, b2_bl, sh_e, Nat.not_lt_zero, Nat.zero_le, Nat.reduceEqDiff, Nat.reduceAdd, Nat.reduceMul, Nat.reduceSub, Nat.reduceLT, Nat.reduceLeDiff, reduceIte, ne_eq, not_false_eq_true, not_true_eq_false, if_true, if_false, Nat.zero_add]
    rw [if_neg (by omega), rn_s]
    by_cases a : B p = 32
    · rw [if_pos a, if_pos (pB_e.mpr a)]
    · rw [if_neg a, if_neg (fun z => a (pB_e.mp z)), wr_id hp]
/-- the class stands at the piece that begins at s -/
def AT (μ : sw_M) (B : Nat → Nat) (L s : Nat) : Prop := μ 1 1 = ic L ∧ L ≤ 600 ∧ s ≤ L ∧ (∀ i, i < L → μ 2 i = ic (B i)) ∧ μ 1 2 = ic (nx B L s) ∧ μ 1 4 = ic (kd B L s) ∧ μ 1 5 = ic s ∧ (s < L → pD (B s) = true → μ 1 6 = ic (vC B (L - s) s 0)) ∧ (s < L → B s ≠ 32)
/-- what reading leaves of the class's memory -/
def FrP (μ μ' : sw_M) : Prop := (∀ a, a ≠ 1 → μ' a = μ a) ∧ μ' 1 3 = μ 1 3 ∧ μ' 1 8 = μ 1 8
theorem FrP.rf (μ : sw_M) : FrP μ μ := ⟨fun _ _ => rfl, rfl, rfl⟩
theorem FrP.tr {a b c : sw_M} (h : FrP a b) (h2 : FrP b c) : FrP a c := ⟨fun x hx => (h2.1 x hx).trans (h.1 x hx), h2.2.1.trans h.2.1, h2.2.2.trans h.2.2⟩
theorem adv_0 {N : Nat} {μ : sw_M} {B : Nat → Nat} {L p : Nat} (hN : 5000 ≤ N) (hB : ∀ i, B i < 256) (hL : μ 1 1 = ic L) (h6 : L ≤ 600) (hp : μ 1 2 = ic p) (hpL : p ≤ L) (hb : ∀ i, i < L → μ 2 i = ic (B i)) : ∃ μ', f_tape_advance N μ = some μ' ∧ AT μ' B L (sk B L p) ∧ FrP μ μ' := by
  have e1 := lp_adv_bl (N := N) hB (L - p) p μ N (by omega) (by rw [show p + (L - p) = L by omega]; exact hL) (by omega) hp (fun i hi => hb i (by omega))
  have hsL : sk B L p ≤ L := re_le hpL
  have hst : sk B L p < L → B (sk B L p) ≠ 32 := fun h q => by
    have := re_st (p := pB) (B := B) h hpL
    rw [show re pB B L p = sk B L p from rfl, q] at this; exact absurd this (by decide)
  unfold f_tape_advance
  rw [e1]
  show ∃ μ', f_tape_advance_38 N (wr μ 1 2 (ic (sk B L p))) = some μ' ∧ _
  generalize sk B L p = s at hsL hst ⊢
  have r2 : ∀ (v w : Int32), (wr (wr μ 1 2 v) 1 5 w) 1 2 = v := fun _ _ => rfl
  unfold f_tape_advance_38
  rw [wb_e, show (wr μ 1 2 (ic s)) 1 2 = ic s from rfl, r2, show (wr (wr μ 1 2 (ic s)) 1 5 (ic s)) 1 1 = ic L from hL]
  by_cases h : s < L
  · have e := hb s h
    have hBs := hB s
    rw [if_pos (by rw [ic_lt (by omega) (by omega)]; exact h), inb_e (by omega) (by decide), ic_n (by omega), wb_e, show (wr (wr μ 1 2 (ic s)) 1 5 (ic s)) 2 s = ic (B s) from e, show (wr (wr (wr μ 1 2 (ic s)) 1 5 (ic s)) 1 4 (ic (B s))) 1 4 = ic (B s) from rfl]
    simp only [pD_lt hB, pD_gt hB]
    have hne : pD (B s) = false → ∃ μ', f_tape_advance_198 N (wr (wr (wr μ 1 2 (ic s)) 1 5 (ic s)) 1 4 (ic (B s))) = some μ' ∧ AT μ' B L s ∧ FrP μ μ' := by
      intro hd
      unfold f_tape_advance_198
      rw [show (wr (wr (wr μ 1 2 (ic s)) 1 5 (ic s)) 1 4 (ic (B s))) 1 4 = ic (B s) from rfl]
      simp only [pL_lt hB, pL_gt hB]
      have hn : pL (B s) = false → ∃ μ', f_tape_advance_275 N (wr (wr (wr μ 1 2 (ic s)) 1 5 (ic s)) 1 4 (ic (B s))) = some μ' ∧ AT μ' B L s ∧ FrP μ μ' := by
        intro hl
        refine ⟨_, rfl, ⟨hL, h6, hsL, hb, ?_, ?_, rfl, fun _ z => ?_, hst⟩, fun a ha => ?_, rfl, rfl⟩
        · show ic s + 1 = _; unfold nx; rw [if_pos h, hd, hl, ic_1]; rfl
        · show ic (B s) = _; unfold kd; rw [if_pos h, hd, hl]; rfl
        · rw [hd] at z; exact absurd z (by decide)
        · rw [wr_nr ha, wr_nr ha, wr_nr ha, wr_nr ha]
      by_cases a : 97 ≤ B s
      · rw [if_neg (fun q => q a)]
        by_cases b : B s ≤ 122
        · have hl : pL (B s) = true := pL_e.mpr ⟨a, b⟩
          rw [if_neg (fun q => q b), wb_e, lp_adv_let (N := N) hB (L - s) s (wr (wr (wr (wr μ 1 2 (ic s)) 1 5 (ic s)) 1 4 (ic (B s))) 1 4 258) N (by omega) (by rw [show s + (L - s) = L by omega]; exact hL) (by omega) rfl (fun i hi => hb i (by omega))]
          refine ⟨_, rfl, ⟨hL, h6, hsL, hb, ?_, ?_, rfl, fun _ z => ?_, hst⟩, fun a ha => ?_, rfl, rfl⟩
          · show ic (re pL B L s) = _; unfold nx; rw [if_pos h, hd, hl]; rfl
          · show (258 : Int32) = _; unfold kd; rw [if_pos h, hd, hl]; rfl
          · rw [hd] at z; exact absurd z (by decide)
          · rw [wr_nr ha, wr_nr ha, wr_nr ha, wr_nr ha, wr_nr ha]
        · rw [if_pos b]; exact hn (by unfold pL; simp; omega)
      · rw [if_pos a]; exact hn (by unfold pL; simp; omega)
    by_cases a : 48 ≤ B s
    · rw [if_neg (fun q => q a)]
      by_cases b : B s ≤ 57
      · have hd : pD (B s) = true := pD_e.mpr ⟨a, b⟩
        rw [if_neg (fun q => q b), wb_e, wb_e, lp_adv_dig (N := N) hB (L - s) s 0 (wr (wr (wr (wr (wr μ 1 2 (ic s)) 1 5 (ic s)) 1 4 (ic (B s))) 1 4 257) 1 6 0) N (by omega) (by rw [show s + (L - s) = L by omega]; exact hL) (by omega) rfl rfl (by omega) (fun i hi => hb i (by omega))]
        refine ⟨_, rfl, ⟨hL, h6, hsL, hb, ?_, ?_, rfl, fun _ z => rfl, hst⟩, fun a ha => ?_, rfl, rfl⟩
        · show ic (re pD B L s) = _; unfold nx; rw [if_pos h, hd]; rfl
        · show (257 : Int32) = _; unfold kd; rw [if_pos h, hd]; rfl
        · rw [wr_nr ha, wr_nr ha, wr_nr ha, wr_nr ha, wr_nr ha, wr_nr ha, wr_nr ha]
      · rw [if_pos b]; exact hne (by unfold pD; simp; omega)
    · rw [if_pos a]; exact hne (by unfold pD; simp; omega)
  · rw [if_neg (by rw [ic_lt (by omega) (by omega)]; exact h), wb_e]
    have hs : s = L := by omega
    refine ⟨_, rfl, ⟨hL, h6, hsL, hb, ?_, ?_, rfl, fun z => absurd z h, hst⟩, fun a ha => ?_, rfl, rfl⟩
    · show ic s = _; unfold nx; rw [if_neg h]
    · show (256 : Int32) = _; unfold kd; rw [if_neg h]; rfl
    · rw [wr_nr ha, wr_nr ha, wr_nr ha]
theorem adv_e {N : Nat} {μ : sw_M} {B : Nat → Nat} {L s : Nat} (hN : 5000 ≤ N) (hB : ∀ i, B i < 256) (h : AT μ B L s) : ∃ μ', f_tape_advance N μ = some μ' ∧ AT μ' B L (sk B L (nx B L s)) ∧ FrP μ μ' :=
  adv_0 hN hB h.1 h.2.1 h.2.2.2.2.1 (nx_le h.2.2.1) h.2.2.2.1
/-! the reference -/
/-- the reference stands ahead of s, and has found no fault -/
def RT (ν : sw_M) (B : Nat → Nat) (L s : Nat) : Prop := ν 63 3 = ic L ∧ L ≤ 600 ∧ (∃ a : Nat, a ≤ L ∧ ν 63 4 = ic a ∧ sk B L a = s) ∧ (∀ i, i < L → ν 65 i = ic (B i)) ∧ ν 63 5 = -1
def FrR (ν ν' : sw_M) : Prop := (∀ a, a ≠ 63 → ν' a = ν a) ∧ ∀ j, j ≠ 4 → j ≠ 5 → j ≠ 6 → ν' 63 j = ν 63 j
theorem FrR.rf (μ : sw_M) : FrR μ μ := ⟨fun _ _ => rfl, fun _ _ _ _ => rfl⟩
theorem FrR.tr {a b c : sw_M} (h : FrR a b) (h2 : FrR b c) : FrR a c := ⟨fun x hx => (h2.1 x hx).trans (h.1 x hx), fun j h3 h4 h5 => (h2.2 j h3 h4 h5).trans (h.2 j h3 h4 h5)⟩
theorem FrR.wr {a b : sw_M} (h : FrR a b) {j : Nat} (v : Int32) (hj : j = 4 ∨ j = 5 ∨ j = 6) : FrR a (wr b 63 j v) := ⟨fun x hx => by rw [wr_nr hx]; exact h.1 x hx, fun i h3 h4 h5 => by rw [wr_ap, if_pos rfl, if_neg (by omega)]; exact h.2 i h3 h4 h5⟩
theorem RT.sL {ν : sw_M} {B : Nat → Nat} {L s : Nat} (h : RT ν B L s) : s ≤ L := by
  obtain ⟨-, -, ⟨a, ha, -, rfl⟩, -⟩ := h; exact re_le ha
theorem RT.ss {ν : sw_M} {B : Nat → Nat} {L s : Nat} (h : RT ν B L s) : sk B L s = s := by
  obtain ⟨-, -, ⟨a, ha, -, rfl⟩, -⟩ := h; exact re_re ha
theorem RT.at {ν : sw_M} {B : Nat → Nat} {L s t : Nat} (h : RT ν B L s) (ht : t ≤ L) : RT (wr ν 63 4 (ic t)) B L (sk B L t) := ⟨h.1, h.2.1, ⟨t, ht, rfl, rfl⟩, h.2.2.2.1, h.2.2.2.2⟩
theorem lp_here {N : Nat} {B : Nat → Nat} (hB : ∀ i, B i < 256) : ∀ (d p : Nat) (μ : sw_M) (n : Nat), d < n → μ 63 3 = ic (p + d) → p + d ≤ 600 → μ 63 4 = ic p → (∀ i, i < p + d → μ 65 i = ic (B i)) → f_m_here_0 N n μ = f_m_here_38 N (wr μ 63 4 (ic (rn pB B d p)))
  | 0, p, μ, n, hn, hL, h6, hp, hb => by
    obtain ⟨n, rfl⟩ := fu_s hn
    simp (disch := omega) only [f_m_here_0, hL, hp, wb_e, ib_e, ibL_e, ob_e, nz4, inb_e, inb_lit, ic_n, n_lit, ic_1, lit_add, add_lit, lit_mul, mul_lit, ic_add, ic_mul, ic_le, ic_lt, ic_eq, lit_le, le_lit, lit_lt, lt_lit, lit_eq, eq_lit, ic_m1, m1_ic, ic_lt0, ic_0le, b2_0, b2_1, b2_bl, sh_e, Nat.not_lt_zero, Nat.zero_le, Nat.reduceEqDiff, Nat.reduceAdd, Nat.reduceMul, Nat.reduceSub, Nat.reduceLT, Nat.reduceLeDiff, reduceIte, ne_eq, not_false_eq_true, not_true_eq_false, if_true, if_false, Nat.zero_add]
    rw [if_pos (by omega), rn_0, wr_id hp]
  | d + 1, p, μ, n, hn, hL, h6, hp, hb => by
    obtain ⟨n, rfl⟩ := fu_s (show 0 < n by omega)
    have e := hb p (by omega)
    have hBp := hB p
    have ih := lp_here (N := N) hB d (p + 1) (wr μ 63 4 (ic (p + 1))) n (by omega) (by rw [show p + 1 + d = p + (d + 1) by omega]; exact hL) (by omega) rfl (fun i hi => hb i (by omega))
    simp (disch := omega) only [f_m_here_0, hL, hp, e, ih, wr_wr, wb_e, ib_e, ibL_e, ob_e, nz4, inb_e, inb_lit, ic_n, n_lit, ic_1, lit_add, add_lit, lit_mul, mul_lit, ic_add, ic_mul, ic_le, ic_lt, ic_eq, lit_le, le_lit, lit_lt, lt_lit, lit_eq, eq_lit, ic_m1, m1_ic, ic_lt0, ic_0le, b2_0, b2_1, b2_bl, sh_e, Nat.not_lt_zero, Nat.zero_le, Nat.reduceEqDiff, Nat.reduceAdd, Nat.reduceMul, Nat.reduceSub, Nat.reduceLT, Nat.reduceLeDiff, reduceIte, ne_eq, not_false_eq_true, not_true_eq_false, if_true, if_false, Nat.zero_add]
    rw [if_neg (by omega), rn_s]
    by_cases a : B p = 32
    · rw [if_pos a, if_pos (pB_e.mpr a)]
    · rw [if_neg a, if_neg (fun z => a (pB_e.mp z)), wr_id hp]
theorem here_e {N : Nat} {ν : sw_M} {B : Nat → Nat} {L s : Nat} (hN : 5000 ≤ N) (hB : ∀ i, B i < 256) (h : RT ν B L s) : f_m_here N ν = some (ic (ch B L s), wr ν 63 4 (ic s)) ∧ RT (wr ν 63 4 (ic s)) B L s := by
  have hsL := h.sL; have hss := h.ss
  refine ⟨?_, by have := h.at hsL; rwa [hss] at this⟩
  obtain ⟨h3, h6, ⟨a, ha, h4, hs⟩, hb, h5⟩ := h
  have e1 := lp_here (N := N) hB (L - a) a ν N (by omega) (by rw [show a + (L - a) = L by omega]; exact h3) (by omega) h4 (fun i hi => hb i (by omega))
  unfold f_m_here
  rw [e1, show rn pB B (L - a) a = s from hs]
  unfold f_m_here_38
  rw [show (wr ν 63 4 (ic s)) 63 3 = ic L from h3, show (wr ν 63 4 (ic s)) 63 4 = ic s from rfl]
  unfold ch
  by_cases q : s < L
  · rw [if_neg (by rw [ic_le (by omega) (by omega)]; omega), inb_e (by omega) (by decide), ic_n (by omega), if_pos q, show (wr ν 63 4 (ic s)) 65 s = ic (B s) from hb s q]
  · rw [if_pos (by rw [ic_le (by omega) (by omega)]; omega), if_neg q]; rfl
theorem fine_1 {N : Nat} {ν : sw_M} (h : ν 63 5 = -1) : f_m_fine N ν = some 1 := by unfold f_m_fine; rw [if_pos h]
theorem fine_0 {N : Nat} {ν : sw_M} (h : ¬ ν 63 5 = -1) : f_m_fine N ν = some 0 := by unfold f_m_fine; rw [if_neg h]
theorem wrong_1 {N : Nat} {ν : sw_M} (h : ν 63 5 = -1) (k p : Int32) : f_m_wrong N ν k p = some (wr (wr ν 63 5 p) 63 6 k) := by unfold f_m_wrong; rw [if_pos h]; rfl
theorem wrong_0 {N : Nat} {ν : sw_M} (h : ¬ ν 63 5 = -1) (k p : Int32) : f_m_wrong N ν k p = some ν := by unfold f_m_wrong; rw [if_neg h]
theorem more_e {N : Nat} {ν : sw_M} {B : Nat → Nat} {L s : Nat} (hN : 5000 ≤ N) (hB : ∀ i, B i < 256) (h : RT ν B L s) : f_m_isMore N ν = some (b2 (s < L), wr ν 63 4 (ic s)) := by
  have hsL := h.sL; have h6 := h.2.1
  unfold f_m_isMore
  have e3 : (wr ν 63 4 (ic s)) 63 3 = ic L := h.1
  have e4 : (wr ν 63 4 (ic s)) 63 4 = ic s := rfl
  rw [(here_e hN hB h).1, ob_e]
  simp only [e3, e4]
  unfold b2
  by_cases q : s < L
  · rw [if_neg (by rw [ic_le (by omega) (by omega)]; omega), if_pos q]
  · rw [if_pos (by rw [ic_le (by omega) (by omega)]; omega), if_neg q]
/-! both at once -/
def BAD (μ ν : sw_M) : Prop := ∃ k p : Nat, p ≤ 600 ∧ k ≤ 3 ∧ μ 1 7 = ic k ∧ μ 1 8 = ic p ∧ ν 63 5 = ic p ∧ ν 63 6 = ic k
theorem BAD.nf {μ ν : sw_M} (h : BAD μ ν) : ¬ ν 63 5 = -1 := by
  obtain ⟨k, p, hp, hk, -, -, h5, -⟩ := h; rw [h5, ic_m1 (by omega)]; exact id
def FrB (μ μ' : sw_M) : Prop := (∀ a, a ≠ 1 → μ' a = μ a) ∧ μ' 1 3 = μ 1 3
theorem FrP.fb {a b : sw_M} (h : FrP a b) : FrB a b := ⟨h.1, h.2.1⟩
theorem FrB.tr {a b c : sw_M} (h : FrB a b) (h2 : FrB b c) : FrB a c := ⟨fun x hx => (h2.1 x hx).trans (h.1 x hx), h2.2.trans h.2⟩
theorem fail_e {N : Nat} {μ : sw_M} {s : Nat} (h : μ 1 5 = ic s) (k : Int32) : f_tape_fail N μ k = some (0, wr (wr μ 1 7 k) 1 8 (ic s)) := by
  unfold f_tape_fail; rw [wb_e, wb_e, show (wr μ 1 7 k) 1 5 = ic s from h]
theorem fb_fail (μ : sw_M) (k p : Int32) : FrB μ (wr (wr μ 1 7 k) 1 8 p) := ⟨fun a ha => by rw [wr_nr ha, wr_nr ha], rfl⟩
theorem bad_mk (μ ν : sw_M) {k p : Nat} (hp : p ≤ 600) (hk : k ≤ 3) : BAD (wr (wr μ 1 7 (ic k)) 1 8 (ic p)) (wr (wr ν 63 5 (ic p)) 63 6 (ic k)) := ⟨k, p, hp, hk, rfl, rfl, rfl, rfl⟩
def SG (c : Nat) : Prop := 0 < c ∧ c < 256 ∧ pD c = false ∧ pL c = false
theorem kd_ch {B : Nat → Nat} (hB : ∀ i, B i < 256) {L s c : Nat} (hc : SG c) : kd B L s = c ↔ ch B L s = c := by
  obtain ⟨h0, h1, h2, h3⟩ := hc
  unfold kd ch
  by_cases q : s < L
  · rw [if_pos q, if_pos q]
    by_cases d : pD (B s) = true
    · rw [if_pos d]
      exact ⟨fun z => by omega, fun z => by rw [z, h2] at d; exact absurd d (by decide)⟩
    · rw [if_neg d]
      by_cases l : pL (B s) = true
      · rw [if_pos l]
        exact ⟨fun z => by omega, fun z => by rw [z, h3] at l; exact absurd l (by decide)⟩
      · rw [if_neg l]
  · rw [if_neg q, if_neg q]; omega
theorem kd_lt {B : Nat → Nat} (hB : ∀ i, B i < 256) (L s : Nat) : kd B L s < 300 := by
  unfold kd; have := hB s; split
  · split
    · decide
    · split <;> omega
  · decide
theorem ch_lt {B : Nat → Nat} (hB : ∀ i, B i < 256) (L s : Nat) : ch B L s < 256 := by
  unfold ch; have := hB s; split
  · exact this
  · decide
theorem ch_nx {B : Nat → Nat} {L s c : Nat} (hc : SG c) (h : ch B L s = c) : s < L ∧ nx B L s = s + 1 := by
  obtain ⟨h0, h1, h2, h3⟩ := hc
  unfold ch at h
  by_cases q : s < L
  · rw [if_pos q] at h
    refine ⟨q, ?_⟩
    unfold nx; rw [if_pos q, h, h2, h3]; rfl
  · rw [if_neg q] at h; omega
theorem j_sign {N : Nat} {μ ν : sw_M} {B : Nat → Nat} {L s c : Nat} (hN : 5000 ≤ N) (hB : ∀ i, B i < 256) (hA : AT μ B L s) (hR : RT ν B L s) (hc : SG c) :
    (∃ μ' ν' s', f_tape_takeSign N μ (ic c) = some (1, μ') ∧ f_m_sign N ν (ic c) = some ν' ∧ AT μ' B L s' ∧ RT ν' B L s' ∧ s < s' ∧ FrP μ μ' ∧ FrR ν ν' ∧ ch B L s = c ∧ s' = sk B L (nx B L s)) ∨
    (∃ μ' ν', f_tape_takeSign N μ (ic c) = some (0, μ') ∧ f_m_sign N ν (ic c) = some ν' ∧ BAD μ' ν' ∧ FrB μ μ' ∧ FrR ν ν' ∧ ch B L s ≠ c) := by
  have h6 := hA.2.1; have hsL := hA.2.2.1
  have c1 := kd_lt hB L s; have c2 := ch_lt hB L s; have c3 := hc.2.1
  obtain ⟨e1, e2⟩ := here_e hN hB hR
  have e4 : (wr ν 63 4 (ic s)) 63 4 = ic s := rfl
  have h5 := hR.2.2.2.2
  have h5' : (wr ν 63 4 (ic s)) 63 5 = -1 := h5
  by_cases h : ch B L s = c
  · left
    obtain ⟨q1, q2⟩ := ch_nx hc h
    obtain ⟨μ', a1, a2, a3⟩ := adv_e hN hB hA
    have hs' : s < sk B L (nx B L s) := Nat.lt_of_lt_of_le (nx_gt q1) re_ge
    refine ⟨μ', wr ν 63 4 (ic (s + 1)), _, ?_, ?_, a2, ?_, hs', a3, (FrR.rf ν).wr _ (Or.inl rfl), h, rfl⟩
    · unfold f_tape_takeSign
      rw [hA.2.2.2.2.2.1, if_pos (by rw [(kd_ch hB hc).mpr h]), a1, ob_e]
    · unfold f_m_sign f_m_sign_24
      rw [fine_1 h5, ob_e, if_neg (by decide), e1, ob_e]
      simp only
      rw [if_pos (by rw [h]), fine_1 h5', ob_e, if_neg (by decide), wb_e, e4, ic_1, wr_wr]
    · rw [q2]; exact hR.at (by omega)
  · right
    have hbd := bad_mk μ (wr ν 63 4 (ic s)) (k := 1) (p := s) (by omega) (by decide)
    refine ⟨_, _, ?_, ?_, hbd, fb_fail μ _ _, (((FrR.rf ν).wr _ (Or.inl rfl)).wr _ (Or.inr (Or.inl rfl))).wr _ (Or.inr (Or.inr rfl)), h⟩
    · unfold f_tape_takeSign
      rw [hA.2.2.2.2.2.1, if_neg (by rw [ic_eq (by omega) (by omega)]; exact fun z => h ((kd_ch hB hc).mp z)), fail_e hA.2.2.2.2.2.2.1, ob_e, bl_0]; rfl
    · unfold f_m_sign f_m_sign_24
      rw [fine_1 h5, ob_e, if_neg (by decide), e1, ob_e]
      simp only
      rw [if_neg (by rw [ic_eq (by omega) (by omega)]; exact h), wrong_1 h5', ob_e, e4]
      have := fine_0 (N := N) hbd.nf
      rw [show (1 : Int32) = ic 1 from rfl, this, ob_e, if_pos rfl]
theorem sign_bad {N : Nat} {ν : sw_M} (h : ¬ ν 63 5 = -1) (c : Int32) : f_m_sign N ν c = some ν := by
  unfold f_m_sign f_m_sign_24
  rw [fine_0 h, ob_e, if_pos rfl, ob_e, if_pos rfl]
theorem num_bad {N : Nat} {ν : sw_M} (h : ¬ ν 63 5 = -1) (a b : Int32) : f_m_readNumber N ν a b = some (0, ν) := by
  unfold f_m_readNumber
  rw [fine_0 h, ob_e, if_pos rfl]
theorem lp_num {N : Nat} {B : Nat → Nat} (hB : ∀ i, B i < 256) (lo hi fr : Int32) : ∀ (d p v : Nat) (μ : sw_M) (n : Nat), d < n → μ 63 3 = ic (p + d) → p + d ≤ 600 → μ 63 4 = ic p → v ≤ 100000 → (∀ i, i < p + d → μ 65 i = ic (B i)) → f_m_readNumber_41 N n μ lo hi fr (ic v) = f_m_readNumber_114 N (wr μ 63 4 (ic (rn pD B d p))) lo hi fr (ic (vM B d p v))
  | 0, p, v, μ, n, hn, hL, h6, hp, h7, hb => by
    obtain ⟨n, rfl⟩ := fu_s hn
    simp (disch := omega) only [f_m_readNumber_41, hL, hp, wb_e, ib_e, ibL_e, ob_e, nz4, inb_e, inb_lit, ic_n, n_lit, ic_1, lit_add, add_lit, lit_mul, mul_lit, ic_add, ic_mul, ic_le, ic_lt, ic_eq, lit_le, le_lit, lit_lt, lt_lit, lit_eq, eq_lit, ic_m1, m1_ic, ic_lt0, ic_0le, b2_0, b2_1, b2_bl, sh_e, Nat.not_lt_zero, Nat.zero_le, Nat.reduceEqDiff, Nat.reduceAdd, Nat.reduceMul, Nat.reduceSub, Nat.reduceLT, Nat.reduceLeDiff, reduceIte, ne_eq, not_false_eq_true, not_true_eq_false, if_true, if_false, Nat.zero_add]
    rw [if_pos (by omega), rn_0, vM_0, wr_id hp]
  | d + 1, p, v, μ, n, hn, hL, h6, hp, h7, hb => by
    obtain ⟨n, rfl⟩ := fu_s (show 0 < n by omega)
    have e := hb p (by omega)
    have hBp := hB p
    have ih := fun (w : Nat) (hw : w ≤ 100000) => lp_num (N := N) hB lo hi fr d (p + 1) w (wr μ 63 4 (ic (p + 1))) n (by omega) (by rw [show p + 1 + d = p + (d + 1) by omega]; exact hL) (by omega) rfl hw (fun i hi => hb i (by omega))
    have ed := digit_e (N := N) (μ := μ) hBp
    by_cases q : pD (B p) = true
    · have qq := pD_e.mp q
      have e3 : ic (10 * v + B p) - 48 = ic (10 * v + B p - 48) := ic_sub (a := 10 * v + B p) (b := 48) (by omega)
      simp (disch := omega) only [f_m_readNumber_41, f_m_readNumber_99, hL, hp, e, ed, e3, wb_e, ib_e, ibL_e, ob_e, nz4, inb_e, inb_lit, ic_n, n_lit, ic_1, lit_add, add_lit, lit_mul, mul_lit, ic_add, ic_mul, ic_le, ic_lt, ic_eq, lit_le, le_lit, lit_lt, lt_lit, lit_eq, eq_lit, ic_m1, m1_ic, ic_lt0, ic_0le, b2_0, b2_1, b2_bl, sh_e, Nat.not_lt_zero, Nat.zero_le, Nat.reduceEqDiff, Nat.reduceAdd, Nat.reduceMul, Nat.reduceSub, Nat.reduceLT, Nat.reduceLeDiff, reduceIte, ne_eq, not_false_eq_true, not_true_eq_false, if_true, if_false, Nat.zero_add]
      rw [if_neg (by omega), if_neg (fun z => z q)]
      rw [rn_s, vM_s, if_pos q, if_pos q]
      by_cases c : v ≤ 9999
      · rw [if_pos c, if_pos c, ih _ (by omega), wr_wr]
      · rw [if_neg c, if_neg c]
        have := ih 10000 (by omega)
        rw [show (10000 : Int32) = ic 10000 from rfl, this, wr_wr]
    · simp (disch := omega) only [f_m_readNumber_41, hL, hp, e, ed, wb_e, ib_e, ibL_e, ob_e, nz4, inb_e, inb_lit, ic_n, n_lit, ic_1, lit_add, add_lit, lit_mul, mul_lit, ic_add, ic_mul, ic_le, ic_lt, ic_eq, lit_le, le_lit, lit_lt, lt_lit, lit_eq, eq_lit, ic_m1, m1_ic, ic_lt0, ic_0le, b2_0, b2_1, b2_bl, sh_e, Nat.not_lt_zero, Nat.zero_le, Nat.reduceEqDiff, Nat.reduceAdd, Nat.reduceMul, Nat.reduceSub, Nat.reduceLT, Nat.reduceLeDiff, reduceIte, ne_eq, not_false_eq_true, not_true_eq_false, if_true, if_false, Nat.zero_add]
      rw [if_neg (by omega), if_pos q]
      rw [rn_s, vM_s, if_neg q, if_neg q, wr_id hp]
theorem j_num {N : Nat} {μ ν : sw_M} {B : Nat → Nat} {L s lo hi : Nat} (hN : 5000 ≤ N) (hB : ∀ i, B i < 256) (hA : AT μ B L s) (hR : RT ν B L s) (hhi : hi ≤ 999) (x : Int32) (hx : (∃ y : Nat, y = hi + 1 ∧ x = ic y - 1)) (hlo : lo ≤ 9) :
    (∃ μ' ν' s' v, f_tape_takeNumber N μ (ic lo) x = some (ic v, μ') ∧ f_m_readNumber N ν (ic lo) x = some (ic v, ν') ∧ AT μ' B L s' ∧ RT ν' B L s' ∧ s < s' ∧ FrP μ μ' ∧ FrR ν ν' ∧ lo ≤ v ∧ v ≤ hi ∧ μ 1 6 = ic v ∧ μ 1 4 = 257 ∧ ν' 63 4 = ic (nx B L s)) ∨
    (∃ μ' ν', f_tape_takeNumber N μ (ic lo) x = some (-1, μ') ∧ f_m_readNumber N ν (ic lo) x = some (0, ν') ∧ BAD μ' ν' ∧ FrB μ μ' ∧ FrR ν ν') := by
  have h6 := hA.2.1; have hsL := hA.2.2.1
  have c1 := kd_lt hB L s; have c2 := ch_lt hB L s
  obtain ⟨y, rfl, rfl⟩ := hx
  rw [show ic (hi + 1) - 1 = ic hi from ic_s1 hi]
  obtain ⟨e1, e2⟩ := here_e hN hB hR
  have e4 : (wr ν 63 4 (ic s)) 63 4 = ic s := rfl
  have h5 := hR.2.2.2.2
  have h5' : ∀ t, (wr ν 63 4 (ic t)) 63 5 = -1 := fun _ => h5
  have hm0 : f_m_readNumber N ν (ic lo) (ic hi) = if pD (ch B L s) = true then f_m_readNumber_41 N N (wr ν 63 4 (ic s)) (ic lo) (ic hi) (ic s) 0 else some (0, wr (wr (wr ν 63 4 (ic s)) 63 5 (ic s)) 63 6 1) := by
    unfold f_m_readNumber
    rw [fine_1 h5, ob_e, if_neg (by decide), e1, ob_e]
    simp only
    rw [e4, ib_e, digit_e c2, ob_e, wrong_1 (h5' s), ob_e]
    simp only [b2_0]
    by_cases z : pD (ch B L s) = true
    · rw [if_neg (fun y => y z), if_pos z]
    · rw [if_pos z, if_neg z]
  by_cases hd : s < L ∧ pD (B s) = true
  · obtain ⟨q, d⟩ := hd
    have k1 : kd B L s = 257 := by unfold kd; rw [if_pos q, if_pos d]
    have k2 : pD (ch B L s) = true := by unfold ch; rw [if_pos q]; exact d
    have n1 : nx B L s = re pD B L s := by unfold nx; rw [if_pos q, if_pos d]
    obtain ⟨r1, r2, r3⟩ := v_rel B hB (L - s) s 0 0 (Or.inl rfl) (by omega) (by omega)
    have v6 := hA.2.2.2.2.2.2.2.1 q d
    have e3 := lp_num (N := N) hB (ic lo) (ic hi) (ic s) (L - s) s 0 (wr ν 63 4 (ic s)) N (by omega) (by rw [show s + (L - s) = L by omega]; exact hR.1) (by omega) rfl (by omega) (fun i hi => hR.2.2.2.1 i (by omega))
    have e3' : f_m_readNumber_41 N N (wr ν 63 4 (ic s)) (ic lo) (ic hi) (ic s) 0 = _ := e3
    rw [wr_wr] at e3'
    rw [if_pos k2, e3'] at hm0
    by_cases hv : lo ≤ vC B (L - s) s 0 ∧ vC B (L - s) s 0 ≤ hi
    · have hvv : vM B (L - s) s 0 = vC B (L - s) s 0 := by omega
      have hw : ic lo ≤ ic (vC B (L - s) s 0) ∧ ic (vC B (L - s) s 0) ≤ ic hi := by rw [ic_le (by omega) (by omega), ic_le (by omega) (by omega)]; exact hv
      left
      obtain ⟨μ', a1, a2, a3⟩ := adv_e hN hB hA
      refine ⟨μ', wr ν 63 4 (ic (re pD B L s)), _, vC B (L - s) s 0, ?_, ?_, a2, ?_, Nat.lt_of_lt_of_le (nx_gt q) re_ge, a3, (FrR.rf ν).wr _ (Or.inl rfl), hv.1, hv.2, v6, by rw [hA.2.2.2.2.2.1, k1]; rfl, by rw [n1]; rfl⟩
      · unfold f_tape_takeNumber
        rw [hA.2.2.2.2.2.1, if_pos (by rw [k1]; rfl), v6, ib_e, within_e, ob_e, b2_p hw, if_neg o1, a1, ob_e]
      · rw [hm0, hvv]
        unfold f_m_readNumber_114
        rw [if_neg (by rw [ic_lt (by omega) (by omega)]; omega), if_pos hw.2]; rfl
      · rw [n1]; exact hR.at (re_le hsL)
    · right
      have hw : ¬ (ic lo ≤ ic (vC B (L - s) s 0) ∧ ic (vC B (L - s) s 0) ≤ ic hi) := by rw [ic_le (by omega) (by omega), ic_le (by omega) (by omega)]; exact hv
      have hbd := bad_mk μ (wr ν 63 4 (ic (re pD B L s))) (k := 2) (p := s) (by omega) (by decide)
      have hF : FrR ν (wr (wr (wr ν 63 4 (ic (re pD B L s))) 63 5 (ic s)) 63 6 (ic 2)) := (((FrR.rf ν).wr _ (Or.inl rfl)).wr _ (Or.inr (Or.inl rfl))).wr _ (Or.inr (Or.inr rfl))
      refine ⟨_, _, ?_, ?_, hbd, fb_fail μ _ _, hF⟩
      · unfold f_tape_takeNumber
        rw [hA.2.2.2.2.2.1, if_pos (by rw [k1]; rfl), v6, ib_e, within_e, ob_e, b2_n hw, if_pos rfl, fail_e hA.2.2.2.2.2.2.1, ob_e]; rfl
      · rw [hm0]
        unfold f_m_readNumber_114 f_m_readNumber_126
        have e9 : f_m_wrong N (wr ν 63 4 (ic (rn pD B (L - s) s))) 2 (ic s) = some (wr (wr (wr ν 63 4 (ic (re pD B L s))) 63 5 (ic s)) 63 6 2) := wrong_1 (h5' _) 2 (ic s)
        rw [e9, ob_e]
        by_cases z1 : vM B (L - s) s 0 < lo
        · rw [if_pos (by rw [ic_lt (by omega) (by omega)]; exact z1)]; rfl
        · rw [if_neg (by rw [ic_lt (by omega) (by omega)]; exact z1), if_neg (by rw [ic_le (by omega) (by omega)]; omega)]; rfl
  · right
    have k1 : ¬ kd B L s = 257 := by
      unfold kd; have := hB s
      by_cases q : s < L
      · rw [if_pos q, if_neg (fun z => hd ⟨q, z⟩)]; split <;> omega
      · rw [if_neg q]; omega
    have k2 : ¬ pD (ch B L s) = true := by
      unfold ch
      by_cases q : s < L
      · rw [if_pos q]; exact fun z => hd ⟨q, z⟩
      · rw [if_neg q]; decide
    have hbd := bad_mk μ (wr ν 63 4 (ic s)) (k := 1) (p := s) (by omega) (by decide)
    refine ⟨_, _, ?_, ?_, hbd, fb_fail μ _ _, (((FrR.rf ν).wr _ (Or.inl rfl)).wr _ (Or.inr (Or.inl rfl))).wr _ (Or.inr (Or.inr rfl))⟩
    · unfold f_tape_takeNumber
      rw [hA.2.2.2.2.2.1, if_neg (by rw [eq_lit (by decide) (by omega)]; exact k1), fail_e hA.2.2.2.2.2.2.1, ob_e]; rfl
    · rw [hm0, if_neg k2]; rfl
