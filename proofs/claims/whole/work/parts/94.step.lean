/-! ===== the plain steps of a work's text ===== -/
section
variable {N : Nat} {B : Nat → Nat} {L s W T P x n : Nat} {μ ν : sw_M}
def cTwo (N : Nat) (X : Option (Int32 × sw_M)) : Option (Int32 × sw_M) := Option.bind X (fun r29 => bl r29.1 (some (r29.1, r29.2)))
/-- a word, two numbers -/
theorem st_two (hN : 5000 ≤ N) (hB : ∀ i, B i < 256) (hL : L ≤ 150) (hA : AT μ B L s) (hR : RT ν B L s) (hQ : WQ μ ν W T P n) (hn : 4 * n ≤ s) {j : Nat} (hj : j < 19) (hw : wv B L s = oc j) (k : Nat) (hk : k < 6) {Y1 lo y2 : Nat} (hY1 : Y1 ≤ 1000) (hlo : lo ≤ 9) (hy2 : y2 ≤ 1000) (x1 x0 x2 : Int32) (e1 : x1 = ic Y1) (e0 : x0 = ic lo) (e2 : x2 = ic y2 - 1) (hSA : ∀ a b, a < Y1 → lo ≤ b → b < y2 → SA W T P k a b) :
    WX B L W T P x 3 n μ ν s (cTwo N (f_work_readTwo N μ (ic k) x1 x0 x2)) (Option.bind (f_m_readNumber N (wr ν 63 4 (ic (re pL B L s))) 0 (x1 - 1)) (fun r3 => Option.bind (f_m_readNumber N r3.2 x0 x2) (fun r1 => f_m_tellsStep N r1.2 (ic k) r3.1 r1.1))) := by
  obtain ⟨w1, w2, w3, w4⟩ := wv_w hA.2.2.1 hj hw
  have hln := ln_b j hj
  have hsk : nx B L s ≤ sk B L (nx B L s) := re_ge
  have hle : re pL B L s ≤ L := re_le hA.2.2.1
  obtain ⟨μ1, a1, hA1, fp1⟩ := adv_e hN hB hA
  have hR1 : RT (wr ν 63 4 (ic (re pL B L s))) B L (sk B L (nx B L s)) := by rw [w3, w4]; exact hR.at (by omega)
  have f1 : FrR ν (wr ν 63 4 (ic (re pL B L s))) := (FrR.rf ν).wr _ (Or.inl rfl)
  unfold cTwo f_work_readTwo
  rw [a1, ob_e, e1]
  rcases jn hN hB hA1 hR1 (lo := 0) (y := Y1) (by decide) hY1 0 (ic Y1 - 1) rfl rfl with ⟨μ2, ν2, s2, v, x3, y3, hA2, hR2, hs2, fp2, fr2, hv1, hv, -, -⟩ | ⟨μ2, ν2, x3, y3, hbd, fb2, fr2, -⟩
  · rw [x3, ob_e, if_neg (show ¬ ic v = -1 by rw [ic_m1 (by omega)]; exact id), y3, ob_e]
    simp only
    rcases jn hN hB hA2 hR2 (lo := lo) (y := y2) hlo hy2 x0 x2 e0 e2 with ⟨μ3, ν3, s3, v2, x4, y4, hA3, hR3, hs3, fp3, fr3, hw1, hw2, -, -⟩ | ⟨μ3, ν3, x4, y4, hbd, fb3, fr3, -⟩
    · have hl3 := hA3.2.2.1
      have hQ3 := ((hQ.fp fp1 f1).fp fp2 fr2).fp fp3 fr3
      rw [x4, ob_e, if_neg (show ¬ ic v2 = -1 by rw [ic_m1 (by omega)]; exact id), y4, ob_e]
      simp only
      rw [wadd_e hQ3.1 (by omega), ob_e, if_neg (show ¬ (1 : Int32) = 0 by decide), ob_e, tells_e hQ3.2.1 (by omega) hR3.2.2.2.2]
      have hQ4 := hQ3.em (k := k) (a := v) (ic v2) (ic v2) (Or.inr ⟨v2, rfl, rfl, hSA v v2 hv hw1 hw2⟩)
      have hk6 : ¬ (xs μ3 n (ic k) (ic v) (ic v2)) 42 n = 6 := by
        rw [xs42, if_pos rfl, eq_lit (by decide) (by omega)]; show ¬ k = 6; omega
      have fp := fp1.tr (fp2.tr fp3)
      have fr := f1.tr (fr2.tr fr3)
      refine Or.inl ⟨_, _, s3, n + 1, rfl, rfl, hA3, hR3, hQ4, WE.one hk6, fun i hi => ?_, fun i hi => ?_, by omega, by omega, fp.xk.tr (xs_k _ _ _ _ _), fp.2.2, fr.mk.tr (ms_k _ _ _ _ _), fr.s7⟩
      · rw [← fp.1 42 (by decide), ← fp.1 43 (by decide), ← fp.1 44 (by decide)]; exact xs_old hi
      · rw [← fr.1 78 (by decide)]; exact ms_old hi
    · rw [x4, ob_e, if_pos rfl, y4, ob_e, ob_e, bl_0]
      simp only
      rw [tells_bad hbd.nf]
      exact Or.inr ⟨_, _, rfl, rfl, hbd, fp1.xk.tr (fp2.xk.tr fb3.xk), (f1.tr (fr2.tr fr3)).mk⟩
  · rw [x3, ob_e, if_pos rfl, y3, ob_e, ob_e, bl_0]
    simp only
    rw [num_bad hbd.nf, ob_e]
    simp only
    rw [tells_bad hbd.nf]
    exact Or.inr ⟨_, _, rfl, rfl, hbd, fp1.xk.tr fb2.xk, (f1.tr fr2).mk⟩
/-- a word, one number -/
theorem st_one (hN : 5000 ≤ N) (hB : ∀ i, B i < 256) (hL : L ≤ 150) (hA : AT μ B L s) (hR : RT ν B L s) (hQ : WQ μ ν W T P n) (hn : 4 * n ≤ s) {j : Nat} (hj : j < 19) (hw : wv B L s = oc j) (hW : μ 3 1 = ic W) (hW2 : W ≤ 12) :
    WX B L W T P x 3 n μ ν s (Option.bind (f_tape_advance N μ) (fun r23 => Option.bind (f_tape_takeNumber N r23 0 ((r23 3 1) - 1)) (fun r25 => if r25.1 = (-1) then some (0, r25.2) else Option.bind (f_work_add N r25.2 4 r25.1 0) (fun r27 => if r27.1 = 0 then some (0, r27.2) else some (1, r27.2))))) (Option.bind (f_m_readNumber N (wr ν 63 4 (ic (re pL B L s))) 0 (ic W - 1)) (fun r30 => f_m_tellsStep N r30.2 4 r30.1 0)) := by
  obtain ⟨w1, w2, w3, w4⟩ := wv_w hA.2.2.1 hj hw
  have hln := ln_b j hj
  have hsk : nx B L s ≤ sk B L (nx B L s) := re_ge
  have hle : re pL B L s ≤ L := re_le hA.2.2.1
  obtain ⟨μ1, a1, hA1, fp1⟩ := adv_e hN hB hA
  have hR1 : RT (wr ν 63 4 (ic (re pL B L s))) B L (sk B L (nx B L s)) := by rw [w3, w4]; exact hR.at (by omega)
  have f1 : FrR ν (wr ν 63 4 (ic (re pL B L s))) := (FrR.rf ν).wr _ (Or.inl rfl)
  rw [a1, ob_e, fp1.1 3 (by decide), hW]
  rcases jn hN hB hA1 hR1 (lo := 0) (y := W) (by decide) (by omega) 0 (ic W - 1) rfl rfl with ⟨μ2, ν2, s2, v, x3, y3, hA2, hR2, hs2, fp2, fr2, hv1, hv, -, -⟩ | ⟨μ2, ν2, x3, y3, hbd, fb2, fr2, -⟩
  · have hl3 := hA2.2.2.1
    have hQ3 := (hQ.fp fp1 f1).fp fp2 fr2
    rw [x3, ob_e, if_neg (show ¬ ic v = -1 by rw [ic_m1 (by omega)]; exact id), y3, ob_e]
    simp only
    rw [wadd_e hQ3.1 (by omega), ob_e, if_neg (show ¬ (1 : Int32) = 0 by decide), tells_e hQ3.2.1 (by omega) hR2.2.2.2.2]
    have hQ4 := hQ3.em (k := 4) (a := v) 0 0 (Or.inr ⟨0, rfl, rfl, Or.inr (Or.inr (Or.inr (Or.inr (Or.inl ⟨rfl, hv⟩))))⟩)
    have hk6 : ¬ (xs μ2 n (ic 4) (ic v) 0) 42 n = 6 := by rw [xs42, if_pos rfl]; decide
    have fp := fp1.tr fp2
    have fr := f1.tr fr2
    refine Or.inl ⟨_, _, s2, n + 1, rfl, rfl, hA2, hR2, hQ4, WE.one hk6, fun i hi => ?_, fun i hi => ?_, by omega, by omega, fp.xk.tr (xs_k _ _ _ _ _), fp.2.2, fr.mk.tr (ms_k _ _ _ _ _), fr.s7⟩
    · rw [← fp.1 42 (by decide), ← fp.1 43 (by decide), ← fp.1 44 (by decide)]; exact xs_old hi
    · rw [← fr.1 78 (by decide)]; exact ms_old hi
  · rw [x3, ob_e, if_pos rfl, y3, ob_e]
    simp only
    rw [tells_bad hbd.nf]
    exact Or.inr ⟨_, _, rfl, rfl, hbd, fp1.xk.tr fb2.xk, (f1.tr fr2).mk⟩
/-- a word alone -/
theorem st_none (hN : 5000 ≤ N) (hB : ∀ i, B i < 256) (hL : L ≤ 150) (hA : AT μ B L s) (hR : RT ν B L s) (hQ : WQ μ ν W T P n) (hn : 4 * n ≤ s) {j : Nat} (hj : j < 19) (hw : wv B L s = oc j) :
    WX B L W T P x 3 n μ ν s (Option.bind (f_tape_advance N μ) (fun r19 => Option.bind (f_work_add N r19 5 0 0) (fun r21 => bl r21.1 (some (r21.1, r21.2))))) (f_m_tellsStep N (wr ν 63 4 (ic (re pL B L s))) 5 0 0) := by
  obtain ⟨w1, w2, w3, w4⟩ := wv_w hA.2.2.1 hj hw
  have hln := ln_b j hj
  have hsk : nx B L s ≤ sk B L (nx B L s) := re_ge
  have hle : re pL B L s ≤ L := re_le hA.2.2.1
  obtain ⟨μ1, a1, hA1, fp1⟩ := adv_e hN hB hA
  have hR1 : RT (wr ν 63 4 (ic (re pL B L s))) B L (sk B L (nx B L s)) := by rw [w3, w4]; exact hR.at (by omega)
  have f1 : FrR ν (wr ν 63 4 (ic (re pL B L s))) := (FrR.rf ν).wr _ (Or.inl rfl)
  have hl1 := hA1.2.2.1
  have hQ3 := hQ.fp fp1 f1
  rw [a1, ob_e, wadd_e hQ3.1 (by omega), ob_e, bl_1, tells_e hQ3.2.1 (by omega) hR1.2.2.2.2]
  have hQ4 := hQ3.em (k := 5) (a := 0) 0 0 (Or.inr ⟨0, rfl, rfl, Or.inr (Or.inr (Or.inr (Or.inr (Or.inr rfl))))⟩)
  have hk6 : ¬ (xs μ1 n (ic 5) (ic 0) 0) 42 n = 6 := by rw [xs42, if_pos rfl]; decide
  refine Or.inl ⟨_, _, _, n + 1, rfl, rfl, hA1, hR1, hQ4, WE.one hk6, fun i hi => ?_, fun i hi => ?_, by omega, by omega, fp1.xk.tr (xs_k _ _ _ _ _), fp1.2.2, f1.mk.tr (ms_k _ _ _ _ _), f1.s7⟩
  · rw [← fp1.1 42 (by decide), ← fp1.1 43 (by decide), ← fp1.1 44 (by decide)]; exact xs_old hi
  · rw [← f1.1 78 (by decide)]; exact ms_old hi
end
