/-! ===== units, and the whole of a law's text ===== -/
def nmv (w : Nat) : Int32 := if w = oc 8 then 0 else if w = oc 14 then 1 else if w = oc 16 then 2 else if w = oc 6 then 3 else if w = oc 4 then 4 else if w = oc 18 then 5 else if w = oc 11 then 6 else -1
theorem nm_cases (w : Nat) : nmv w = -1 ∨ ∃ i j : Nat, i < 7 ∧ j < 19 ∧ w = oc j ∧ nmv w = ic i := by
  unfold nmv
  by_cases h1 : w = oc 8
  · exact Or.inr ⟨0, 8, by decide, by decide, h1, by rw [if_pos h1]; rfl⟩
  by_cases h2 : w = oc 14
  · exact Or.inr ⟨1, 14, by decide, by decide, h2, by rw [if_neg h1, if_pos h2]; rfl⟩
  by_cases h3 : w = oc 16
  · exact Or.inr ⟨2, 16, by decide, by decide, h3, by rw [if_neg h1, if_neg h2, if_pos h3]; rfl⟩
  by_cases h4 : w = oc 6
  · exact Or.inr ⟨3, 6, by decide, by decide, h4, by rw [if_neg h1, if_neg h2, if_neg h3, if_pos h4]; rfl⟩
  by_cases h5 : w = oc 4
  · exact Or.inr ⟨4, 4, by decide, by decide, h5, by rw [if_neg h1, if_neg h2, if_neg h3, if_neg h4, if_pos h5]; rfl⟩
  by_cases h6 : w = oc 18
  · exact Or.inr ⟨5, 18, by decide, by decide, h6, by rw [if_neg h1, if_neg h2, if_neg h3, if_neg h4, if_neg h5, if_pos h6]; rfl⟩
  by_cases h7 : w = oc 11
  · exact Or.inr ⟨6, 11, by decide, by decide, h7, by rw [if_neg h1, if_neg h2, if_neg h3, if_neg h4, if_neg h5, if_neg h6, if_pos h7]; rfl⟩
  exact Or.inl (by rw [if_neg h1, if_neg h2, if_neg h3, if_neg h4, if_neg h5, if_neg h6, if_neg h7])
theorem ite7 {α β : Type} (F : α → β) {p1 p2 p3 p4 p5 p6 p7 : Prop} [Decidable p1] [Decidable p2] [Decidable p3] [Decidable p4] [Decidable p5] [Decidable p6] [Decidable p7] (a1 a2 a3 a4 a5 a6 a7 a8 : α) : (if p1 then F a1 else if p2 then F a2 else if p3 then F a3 else if p4 then F a4 else if p5 then F a5 else if p6 then F a6 else if p7 then F a7 else F a8) = F (if p1 then a1 else if p2 then a2 else if p3 then a3 else if p4 then a4 else if p5 then a5 else if p6 then a6 else if p7 then a7 else a8) := by
  by_cases h1 : p1
  · rw [if_pos h1, if_pos h1]
  rw [if_neg h1, if_neg h1]
  by_cases h2 : p2
  · rw [if_pos h2, if_pos h2]
  rw [if_neg h2, if_neg h2]
  by_cases h3 : p3
  · rw [if_pos h3, if_pos h3]
  rw [if_neg h3, if_neg h3]
  by_cases h4 : p4
  · rw [if_pos h4, if_pos h4]
  rw [if_neg h4, if_neg h4]
  by_cases h5 : p5
  · rw [if_pos h5, if_pos h5]
  rw [if_neg h5, if_neg h5]
  by_cases h6 : p6
  · rw [if_pos h6, if_pos h6]
  rw [if_neg h6, if_neg h6]
  by_cases h7 : p7
  · rw [if_pos h7, if_pos h7]
  rw [if_neg h7, if_neg h7]
theorem name_e {N : Nat} {μ : sw_M} {B : Nat → Nat} {L s : Nat} (hN : 5000 ≤ N) (hB : ∀ i, B i < 256) (hA : AT μ B L s) : f_sl_nameHere N μ = some (nmv (wv B L s)) := by
  unfold f_sl_nameHere nmv
  simp only [isWord_e hN hB hA (show 8 < 19 by decide), isWord_e hN hB hA (show 14 < 19 by decide), isWord_e hN hB hA (show 16 < 19 by decide), isWord_e hN hB hA (show 6 < 19 by decide), isWord_e hN hB hA (show 4 < 19 by decide), isWord_e hN hB hA (show 18 < 19 by decide), isWord_e hN hB hA (show 11 < 19 by decide), ob_e, b2_0, ite_not]
  exact ite7 some _ _ _ _ _ _ _ _
theorem fact_e {N : Nat} {ν : sw_M} {B : Nat → Nat} {L s : Nat} (hN : 5000 ≤ N) (hB : ∀ i, B i < 256) (hR : RT ν B L s) : f_m_factHere N (wr ν 63 4 (ic s)) = some (nmv (wv B L s), wr ν 63 4 (ic s)) := by
  have hw := wv_lt (B := B) L s
  have hc : ∀ j, j < 19 → (ic (wv B L s) = ic (oc j)) = (wv B L s = oc j) := fun j hj => ic_eq (by omega) (by have := oc_b j hj; omega)
  have h1 := word_e hN hB hR.id
  rw [wr_wr] at h1
  unfold f_m_factHere nmv
  simp only [h1, of_e hN (show 8 < 19 by decide), of_e hN (show 14 < 19 by decide), of_e hN (show 16 < 19 by decide), of_e hN (show 6 < 19 by decide), of_e hN (show 4 < 19 by decide), of_e hN (show 18 < 19 by decide), of_e hN (show 11 < 19 by decide), ob_e, hc 8 (by decide), hc 14 (by decide), hc 16 (by decide), hc 6 (by decide), hc 4 (by decide), hc 18 (by decide), hc 11 (by decide)]
  exact ite7 (fun v => some (v, wr ν 63 4 (ic s))) _ _ _ _ _ _ _ _
theorem rb_Unit {N : Nat} (ps pp pu : sw_M → Option sw_M) (pt : sw_M → Int32 → Int32 → Option sw_M) : RQ (f_m_readUnit_b N ps pp pu pt) := fun ν h => by
  unfold f_m_readUnit_b; rw [fine_0 h, ob_e, if_pos rfl]
theorem rd_Unit {N : Nat} {B : Nat → Nat} {L x : Nat} (qs qp qu qc : sw_M → Int32 → Option (Int32 × sw_M)) (ps pp pu : sw_M → Option sw_M) (pt : sw_M → Int32 → Int32 → Option sw_M) (hN : 5000 ≤ N) (hB : ∀ i, B i < 256) (hL : L ≤ 150) (hx : x ≤ 6) (hf : x < 6 → RD B L 1 (x + 1) qs ps) (hp : RQ ps) (hc : RCh N B L x qc pt) : RD B L 1 x (f_lawR_readUnit_b N qs qp qu qc) (f_m_readUnit_b N ps pp pu pt) := by
  intro μ ν s n d hA hR hQ hn h7
  have hsL := hA.2.2.1
  have h1 := (here_e (N := N) hN hB hR).1
  have h2 := (here_e (N := N) hN hB hR.id).1
  rw [wr_wr] at h2
  have f1 : FrR ν (wr ν 63 4 (ic s)) := (FrR.rf ν).wr _ (Or.inl rfl)
  have h5 := hR.2.2.2.2
  have h51 : (wr ν 63 4 (ic s)) 63 5 = -1 := h5
  have c2 := ch_lt hB L s
  unfold f_lawR_readUnit_b f_m_readUnit_b
  rw [fine_1 h5, ob_e, if_neg (show ¬ (1 : Int32) = 0 by decide), h1, ob_e]
  simp only
  rw [h2, ob_e]
  simp only
  rw [digit_e c2, ob_e]
  by_cases zD : pD (ch B L s) = true
  · have z40 : ¬ ic (ch B L s) = 40 := fun z => by
      rw [(ch_eq hB sg40).mp z] at zD; exact absurd zD (by decide)
    rw [if_pos ((kd257 hB hA).mpr zD), if_neg z40, b2_p zD, if_neg (show ¬ (1 : Int32) = 0 by decide)]
    rcases jn hN hB hA hR.id (lo := 0) (y := 1000) (by decide) (by decide) 0 999 rfl rfl with ⟨μ2, ν2, s2, v, x2, y2, hA2, hR2, hs2, fp, fr, hv1, hv, -, -⟩ | ⟨μ2, ν2, x2, y2, hbd, fb, fr, -⟩
    · have hl2 := hA2.2.2.1
      have hlt : n < 150 := by omega
      have hQ2 := hQ.fp fp (f1.tr fr)
      have hQ3 := hQ2.em 0 (ic v) (d + 1) (Or.inl ⟨rfl, rfl⟩)
      have m7 : ν2 63 7 = ν 63 7 := fr.s7
      refine Or.inl ⟨xe μ2 n (cx 0) (ic v), me ν2 n 0 (ic v), s2, n + 1, ?_, ?_, hA2, hR2, hQ3, by omega, by omega, fp.xw.tr (xe_w _ _ _ _), fp.2.2, (f1.tr fr).mw.tr (me_w _ _ _ _), m7⟩
      · rw [x2, ob_e, if_neg (show ¬ ic v = -1 by rw [ic_m1 (by omega)]; exact id)]
        simp only
        rw [radd_e hQ2.1 hlt, ob_e, if_neg (show ¬ (1 : Int32) = 0 by decide)]; rfl
      · rw [y2, ob_e]
        simp only
        rw [emit_e hQ2.2.1 hlt hR2.2.2.2.2, ob_e]
    · refine Or.inr ⟨μ2, ν2, ?_, ?_, hbd, fb.xw, (f1.tr fr).mw⟩
      · rw [x2, ob_e, if_pos rfl]
      · rw [y2, ob_e]
        simp only
        rw [emit_bad hbd.nf, ob_e]
  rw [if_neg (fun z => zD ((kd257 hB hA).mp z)), b2_n zD, if_pos (show (0 : Int32) = 0 from rfl)]
  by_cases z40 : ch B L s = 40
  · rw [if_pos (show μ 1 4 = 40 from (kd_eq hB hA sg40).mpr z40), if_pos (show ic (ch B L s) = 40 from (ch_eq hB sg40).mpr z40)]
    unfold f_lawR_readUnit_60
    by_cases hx6 : x < 6
    rotate_left
    · have hx6' : x = 6 := by omega
      subst hx6'
      have hbd := bad_mk μ (wr ν 63 4 (ic s)) (k := 3) (p := s) (by omega) (by decide)
      have f3 : FrR ν (wr (wr (wr ν 63 4 (ic s)) 63 5 (ic s)) 63 6 (ic 3)) := (f1.wr _ (Or.inr (Or.inl rfl))).wr _ (Or.inr (Or.inr rfl))
      obtain ⟨ν2, hν2⟩ : ∃ y : sw_M, y = wr (wr (wr (wr ν 63 4 (ic s)) 63 5 (ic s)) 63 6 (ic 3)) 63 7 (6 + 1) := ⟨_, rfl⟩
      have nf2 : ¬ ν2 63 5 = -1 := by rw [hν2]; exact hbd.nf
      have hbd2 : BAD (wr (wr μ 1 7 (ic 3)) 1 8 (ic s)) ν2 := by rw [hν2]; exact hbd.w rfl rfl rfl rfl
      refine Or.inr ⟨_, wr ν2 63 7 (ν2 63 7 - 1), ?_, ?_, hbd2.w rfl rfl rfl rfl, (fb_fail μ _ _).xw, ?_⟩
      · rw [if_neg (by decide), tu_1 hA.2.2.2.2.2.2.1, ob_e, if_pos rfl]; rfl
      · rw [opens_0 hR (by omega) h7, ob_e, ← hν2, hp ν2 nf2, ob_e, sign_bad nf2, ob_e, wb_e]
      · rw [hν2]; exact (f3.mw.w7 _).w7 _
    rw [if_pos (show ic x < 6 by rw [lt_lit (by decide) (by omega)]; exact hx6)]
    obtain ⟨w1, w2⟩ := ch_nx sg40 z40
    have hsk : nx B L s ≤ sk B L (nx B L s) := re_ge
    obtain ⟨μ1, a1, hA1, fp1⟩ := tu_0 hN hB hA
    obtain ⟨ν1, hν1⟩ : ∃ y : sw_M, y = wr (wr ν 63 4 (ic (s + 1))) 63 7 (ic (x + 1)) := ⟨_, rfl⟩
    have hR1 : RT ν1 B L (sk B L (nx B L s)) := by rw [hν1, w2]; exact hR.at (t := s + 1) (by omega)
    have m1 : MW ν ν1 := by rw [hν1]; exact (((FrR.rf ν).wr _ (Or.inl rfl)).mw).w7 _
    have h71 : ν1 63 7 = ic (x + 1) := by rw [hν1]; rfl
    have hQ1 : LQ μ1 ν1 n d := hQ.fr (by rw [fp1.1 24 (by decide)]) (fp1.1 25 (by decide)) (fp1.1 26 (by decide)) (by rw [hν1]; rfl) (by rw [hν1]; rfl) (by rw [hν1]; rfl)
    have ho : f_m_opensOne N (wr ν 63 4 (ic s)) 1 = some ν1 := by rw [hν1]; exact opens_1 (k := 1) hR h7 hx6
    rw [a1, ob_e, if_neg (show ¬ (1 : Int32) = 0 by decide), ic_1, ho, ob_e]
    simp only
    rcases hf hx6 μ1 ν1 _ n d hA1 hR1 hQ1 (by omega) h71 with ⟨μ3, ν3, s3, n3, x3, y3, hA3, hR3, hQ3, hs3, hn3, xw3, x83, mw3, m73⟩ | ⟨μ3, ν3, x3, y3, hbd, xw3, mw3⟩
    rotate_left
    · refine Or.inr ⟨μ3, wr ν3 63 7 (ν3 63 7 - 1), ?_, ?_, hbd.w rfl rfl rfl rfl, fp1.xw.tr xw3, (m1.tr mw3).w7 _⟩
      · rw [x3, ob_e, if_pos rfl]
      · rw [y3, ob_e, sign_bad hbd.nf, ob_e, wb_e]
    rw [x3, ob_e, if_neg (show ¬ (1 : Int32) = 0 by decide), y3, ob_e]
    simp only
    rcases j_sign hN hB hA3 hR3 sg41 with ⟨μ4, ν4, s4, x4, y4, hA4, hR4, hs4, fp4, fr4, -, -⟩ | ⟨μ4, ν4, x4, y4, hbd, fb4, fr4, -⟩
    rotate_left
    · have x4' : f_tape_takeSign N μ3 41 = some (0, μ4) := x4
      have y4' : f_m_sign N ν3 41 = some ν4 := y4
      refine Or.inr ⟨μ4, wr ν4 63 7 (ν4 63 7 - 1), ?_, ?_, hbd.w rfl rfl rfl rfl, fp1.xw.tr (xw3.tr fb4.xw), (m1.tr (mw3.tr fr4.mw)).w7 _⟩
      · rw [x4', ob_e, if_pos rfl]
      · rw [y4', ob_e, wb_e]
    have x4' : f_tape_takeSign N μ3 41 = some (1, μ4) := x4
    have y4' : f_m_sign N ν3 41 = some ν4 := y4
    have h74 : ν4 63 7 = ic (x + 1) := fr4.s7.trans (m73.trans h71)
    have e7 : ν4 63 7 - 1 = ic x := by rw [h74, show ic (x + 1) - 1 = ic (x + 1 - 1) from ic_sub (a := x + 1) (b := 1) (by omega), Nat.add_sub_cancel]
    have hQ4 := hQ3.fp fp4 fr4
    refine Or.inl ⟨μ4, wr ν4 63 7 (ic x), s4, n3, ?_, ?_, hA4, hR4, hQ4, by omega, by omega, fp1.xw.tr (xw3.tr fp4.xw), by rw [fp4.2.2, x83, fp1.2.2], (m1.tr (mw3.tr fr4.mw)).w7 _, h7.symm⟩
    · rw [x4', ob_e, if_neg (show ¬ (1 : Int32) = 0 by decide)]
    · rw [y4', ob_e, e7, wb_e]
  -- a word
  have hw := wv_lt (B := B) L s
  have hcw : ∀ j, j < 19 → (ic (wv B L s) = ic (oc j)) = (wv B L s = oc j) := fun j hj => ic_eq (by omega) (by have := oc_b j hj; omega)
  have hwd := word_e hN hB hR.id
  rw [wr_wr] at hwd
  rw [if_neg (show ¬ μ 1 4 = 40 from fun z => z40 ((kd_eq hB hA sg40).mp z)), if_neg (show ¬ ic (ch B L s) = 40 from fun z => z40 ((ch_eq hB sg40).mp z)), hwd, ob_e, isWord_e hN hB hA (show 5 < 19 by decide), ob_e]
  simp only
  rw [of_e hN (show 5 < 19 by decide), ob_e, isWord_e hN hB hA (show 9 < 19 by decide), ob_e]
  by_cases w5 : wv B L s = oc 5
  · rw [b2_p w5, if_neg (show ¬ (1 : Int32) = 0 by decide), if_pos (show ic (wv B L s) = ic (oc 5) by rw [w5])]
    have r := hc 5 6 μ ν s n d (by decide) (by decide) (by decide) hA hR hQ hn h7 w5
    have e : ∀ o : Option sw_M, Option.bind o (fun r23 => some r23) = o := fun o => by cases o <;> rfl
    rw [e]
    exact r
  rw [b2_n w5, if_pos (show (0 : Int32) = 0 from rfl), if_neg (show ¬ ic (wv B L s) = ic (oc 5) by rw [hcw 5 (by decide)]; exact w5), hwd, ob_e]
  simp only
  rw [of_e hN (show 9 < 19 by decide), ob_e]
  by_cases w9 : wv B L s = oc 9
  · rw [b2_p w9, if_neg (show ¬ (1 : Int32) = 0 by decide), if_pos (show ic (wv B L s) = ic (oc 9) by rw [w9])]
    have r := hc 9 7 μ ν s n d (by decide) (by decide) (by decide) hA hR hQ hn h7 w9
    have e : ∀ o : Option sw_M, Option.bind o (fun r23 => some r23) = o := fun o => by cases o <;> rfl
    rw [e]
    exact r
  rw [b2_n w9, if_pos (show (0 : Int32) = 0 from rfl), if_neg (show ¬ ic (wv B L s) = ic (oc 9) by rw [hcw 9 (by decide)]; exact w9), fact_e hN hB hR, ob_e, name_e hN hB hA, ob_e]
  simp only
  unfold f_m_readUnit_136
  rcases nm_cases (wv B L s) with e | ⟨i, j, hi, hj, hwj, e⟩
  · rw [e, if_pos rfl, if_pos rfl, fail_e hA.2.2.2.2.2.2.1, ob_e, bl_0, wrong_1 h51, ob_e, show (wr ν 63 4 (ic s)) 63 4 = ic s from rfl]
    have hbd := bad_mk μ (wr ν 63 4 (ic s)) (k := 1) (p := s) (by omega) (by decide)
    have hb : ¬ (wr (wr (wr ν 63 4 (ic s)) 63 5 (ic s)) 63 6 1) 63 5 = -1 := hbd.nf
    rw [fine_0 hb, ob_e, if_pos rfl]
    exact Or.inr ⟨_, _, rfl, rfl, hbd, (fb_fail μ _ _).xw, ((f1.wr _ (Or.inr (Or.inl rfl))).wr _ (Or.inr (Or.inr rfl))).mw⟩
  · obtain ⟨w1, w2, w3, w4⟩ := wv_w hsL hj hwj
    have hln := ln_b j hj
    have hsk : nx B L s ≤ sk B L (nx B L s) := re_ge
    obtain ⟨μ1, a1, hA1, fp1⟩ := adv_e hN hB hA
    have hle : re pL B L s ≤ L := re_le hsL
    have hR1 : RT (wr ν 63 4 (ic (re pL B L s))) B L (sk B L (nx B L s)) := by rw [w3, w4]; exact hR.at (by omega)
    have f2 : FrR ν (wr ν 63 4 (ic (re pL B L s))) := (FrR.rf ν).wr _ (Or.inl rfl)
    have hl1 := hA1.2.2.1
    have hlt : n < 150 := by omega
    have hQ1 := hQ.fp fp1 f2
    have hQ2 := hQ1.em 1 (ic i) (d + 1) (Or.inr (Or.inl ⟨rfl, ⟨i, hi, rfl⟩, rfl⟩))
    rw [e, if_neg (show ¬ ic i = -1 by rw [ic_m1 (by omega)]; exact id), if_neg (show ¬ ic i = -1 by rw [ic_m1 (by omega)]; exact id), a1, ob_e, radd_e hQ1.1 hlt, ob_e, bl_1, fine_1 h51, ob_e, if_neg (show ¬ (1 : Int32) = 0 by decide), pass_e hN hB hR, ob_e, emit_e hQ1.2.1 hlt hR1.2.2.2.2, ob_e]
    exact Or.inl ⟨_, _, _, n + 1, rfl, rfl, hA1, hR1, hQ2, by omega, by omega, fp1.xw.tr (xe_w _ _ _ _), fp1.2.2, f2.mw.tr (me_w _ _ _ _), rfl⟩
/-- both groups, level by level -/
theorem law_bad {N : Nat} (hN : 5000 ≤ N) (d : Nat) : RQ (grp_m_readSum N (d + 1)).2.2.1 ∧ RQ (grp_m_readSum N (d + 2)).2.1 ∧ RQ (grp_m_readSum N (d + 3)).1 := by
  have u : ∀ d, RQ (grp_m_readSum N (d + 1)).2.2.1 := fun d => rb_Unit _ _ _ _
  have p : ∀ d, RQ (grp_m_readSum N (d + 2)).2.1 := fun d => rb_Product _ _ _ _ hN (u d)
  exact ⟨u d, p d, rb_Sum _ _ _ _ hN (p d)⟩
theorem law_rd {N : Nat} {B : Nat → Nat} {L : Nat} (hN : 5000 ≤ N) (hB : ∀ i, B i < 256) (hL : L ≤ 150) : ∀ (d x : Nat), x ≤ 6 →
    (4 * (6 - x) + 4 ≤ d → RCh N B L x (grp_lawR_readSum N d).2.2.2 (grp_m_readSum N d).2.2.2) ∧
    (4 * (6 - x) + 5 ≤ d → RD B L 1 x (grp_lawR_readSum N d).2.2.1 (grp_m_readSum N d).2.2.1) ∧
    (4 * (6 - x) + 6 ≤ d → RD B L 1 x (grp_lawR_readSum N d).2.1 (grp_m_readSum N d).2.1) ∧
    (4 * (6 - x) + 7 ≤ d → RD B L 1 x (grp_lawR_readSum N d).1 (grp_m_readSum N d).1) := by
  intro d
  induction d with
  | zero => intro x hx; exact ⟨fun h => by omega, fun h => by omega, fun h => by omega, fun h => by omega⟩
  | succ d ih =>
    intro x hx
    have hs : 4 * (6 - x) + 3 ≤ d → x < 6 → RD B L 1 (x + 1) (grp_lawR_readSum N d).1 (grp_m_readSum N d).1 := fun h h6 => (ih (x + 1) (by omega)).2.2.2 (by omega)
    have hb : 3 ≤ d → RQ (grp_m_readSum N d).1 := fun h => by
      obtain ⟨e, rfl⟩ : ∃ e, d = e + 3 := ⟨d - 3, by omega⟩
      exact (law_bad hN e).2.2
    obtain ⟨i1, i2, i3, i4⟩ := ih x hx
    exact ⟨fun h => rd_Choice (grp_lawR_readSum N d).1 (grp_lawR_readSum N d).2.1 (grp_lawR_readSum N d).2.2.1 (grp_lawR_readSum N d).2.2.2 (grp_m_readSum N d).1 (grp_m_readSum N d).2.1 (grp_m_readSum N d).2.2.1 (grp_m_readSum N d).2.2.2 hN hB hL hx (hs (by omega)) (hb (by omega)),
      fun h => rd_Unit _ _ _ _ _ _ _ _ hN hB hL hx (hs (by omega)) (hb (by omega)) (i1 (by omega)),
      fun h => rd_Product _ _ _ _ _ _ _ _ hN hB hL (i2 (by omega)),
      fun h => rd_Sum _ _ _ _ _ _ _ _ hN hB hL (i3 (by omega))⟩
/-- what the whole text comes to -/
def LW (N : Nat) (μ ν : sw_M) (X : Option (Int32 × sw_M)) (M : Option (Int32 × sw_M)) : Prop :=
  (∃ μ' ν' n, X = some (1, μ') ∧ M = f_m_law_77 N ν' ∧ LQ μ' ν' n 1 ∧ n ≤ 150 ∧ ν' 63 5 = -1 ∧ XW μ μ' ∧ μ' 1 8 = μ 1 8 ∧ MW ν ν') ∨
  (∃ μ' ν', X = some (0, μ') ∧ M = f_m_law_77 N ν' ∧ BAD μ' ν' ∧ XW μ μ' ∧ MW ν ν')
def mLaw (N : Nat) (ν : sw_M) : Option (Int32 × sw_M) := Option.bind (f_m_readSum N ν) (fun r6 => Option.bind (f_m_fine N r6) (fun r8 => if r8 = 0 then f_m_law_77 N r6 else Option.bind (f_m_isMore N r6) (fun r10 => if r10.1 = 0 then f_m_law_77 N r10.2 else Option.bind (f_m_wrong N r10.2 1 (r10.2 63 4)) (fun r12 => f_m_law_77 N r12))))
theorem law_sim {N : Nat} {μ : sw_M} {B : Nat → Nat} {n s : Nat} (hN : 5000 ≤ N) (hB : ∀ i, B i < 256) (h6 : n ≤ 150) (hA : AT μ B n s) (hs : s = sk B n 0) (ν : sw_M) (hb : ∀ i, i < n → ν 65 i = ic (B i)) :
    ∃ ν1, f_m_begins N ν (ic n) = some ν1 ∧ LW N μ (wr ν1 63 30 0) (f_lawR_read N μ) (mLaw N (wr ν1 63 30 0)) := by
  obtain ⟨ν1, e1, e2, e3, e4, e5, e6, e7⟩ := begins_e (N := N) (show n ≤ 600 by omega) hb
  refine ⟨ν1, e1, ?_⟩
  subst hs
  have hA1 : AT (wr μ 24 4 0) B n (sk B n 0) := hA
  have hR1 : RT (wr ν1 63 30 0) B n (sk B n 0) := e2
  have hQ : LQ (wr μ 24 4 0) (wr ν1 63 30 0) 0 0 := ⟨rfl, rfl, fun i hi => by omega, rfl, fun k hk => by omega⟩
  have x0 : XW μ (wr μ 24 4 0) := ⟨fun a _ q => wr_nr (by omega), rfl⟩
  unfold f_lawR_read mLaw
  rw [wb_e]
  rcases (law_rd hN hB h6 40 0 (by decide)).2.2.2 (by decide) (wr μ 24 4 0) (wr ν1 63 30 0) _ 0 0 hA1 hR1 hQ (by omega) e7 with ⟨μ2, ν2, s2, n2, x2, y2, hA2, hR2, hQ2, hs2, hn2, xw, x8, mw, m7⟩ | ⟨μ2, ν2, x2, y2, hbd, xw, mw⟩
  · have x2' : f_lawR_readSum N (wr μ 24 4 0) 0 = some (1, μ2) := x2
    have y2' : f_m_readSum N (wr ν1 63 30 0) = some ν2 := y2
    have hl2 := hA2.2.2.1
    have f2 : FrR ν2 (wr ν2 63 4 (ic s2)) := (FrR.rf ν2).wr _ (Or.inl rfl)
    have hkd : (μ2 1 4 = 256) ↔ ¬ s2 < n := by rw [hA2.2.2.2.2.2.1, eq_lit (by decide) (by have := kd_lt hB n s2; omega)]; exact kd_end hB n s2
    rw [x2', ob_e, if_neg (show ¬ (1 : Int32) = 0 by decide), y2', ob_e, fine_1 hR2.2.2.2.2, ob_e, if_neg (show ¬ (1 : Int32) = 0 by decide), more_e hN hB hR2, ob_e]
    simp only
    by_cases q : s2 < n
    · have hbd := bad_mk μ2 (wr ν2 63 4 (ic s2)) (k := 1) (p := s2) (by omega) (by decide)
      rw [if_neg (fun z => hkd.mp z q), fail_e hA2.2.2.2.2.2.2.1, ob_e, if_pos rfl, b2_p q, if_neg (show ¬ (1 : Int32) = 0 by decide), wrong_1 (show (wr ν2 63 4 (ic s2)) 63 5 = -1 from hR2.2.2.2.2), ob_e, show (wr ν2 63 4 (ic s2)) 63 4 = ic s2 from rfl]
      exact Or.inr ⟨_, _, rfl, rfl, hbd, x0.tr (xw.tr (fb_fail μ2 _ _).xw), mw.tr ((f2.wr _ (Or.inr (Or.inl rfl))).wr _ (Or.inr (Or.inr rfl))).mw⟩
    · rw [if_pos (hkd.mpr q), b2_n q, if_pos rfl]
      exact Or.inl ⟨μ2, wr ν2 63 4 (ic s2), n2, rfl, rfl, hQ2.fp (FrP.rf μ2) f2, by omega, hR2.2.2.2.2, x0.tr xw, x8, mw.tr f2.mw⟩
  · have x2' : f_lawR_readSum N (wr μ 24 4 0) 0 = some (0, μ2) := x2
    have y2' : f_m_readSum N (wr ν1 63 30 0) = some ν2 := y2
    rw [x2', ob_e, if_pos rfl, y2', ob_e, fine_0 hbd.nf, ob_e, if_pos rfl]
    exact Or.inr ⟨μ2, ν2, rfl, rfl, hbd, x0.tr xw, mw⟩
