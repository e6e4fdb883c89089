/-! ===== the units of a law's text ===== -/
theorem kd257 {B : Nat → Nat} {L s : Nat} {μ : sw_M} (hB : ∀ i, B i < 256) (hA : AT μ B L s) : (μ 1 4 = 257) ↔ pD (ch B L s) = true := by
  rw [hA.2.2.2.2.2.1, eq_lit (by decide) (by have := kd_lt hB L s; omega)]
  show kd B L s = 257 ↔ _
  unfold kd ch; have := hB s
  by_cases q : s < L
  · rw [if_pos q, if_pos q]
    by_cases d : pD (B s) = true
    · rw [if_pos d]; exact ⟨fun _ => d, fun _ => rfl⟩
    · rw [if_neg d]
      refine ⟨fun z => ?_, fun z => absurd z d⟩
      split at z <;> omega
  · rw [if_neg q, if_neg q]
    exact ⟨fun z => by omega, fun z => absurd z (by decide)⟩
/-- what the class does with two pieces -/
def CH (N : Nat) (c : Int32) (X : Option (Int32 × sw_M)) : Option (Int32 × sw_M) := Option.bind X (fun r17 => if r17.1 = 0 then some (0, r17.2) else Option.bind (f_lawR_add N r17.2 c 0) (fun r19 => if r19.1 = 0 then some (0, r19.2) else some (1, r19.2)))
def RCh (N : Nat) (B : Nat → Nat) (L x : Nat) (qc : sw_M → Int32 → Option (Int32 × sw_M)) (pt : sw_M → Int32 → Int32 → Option sw_M) : Prop := ∀ j q μ ν s n d, j < 19 → 2 ≤ q → q ≤ 8 → AT μ B L s → RT ν B L s → LQ μ ν n d → n ≤ s → ν 63 7 = ic x → wv B L s = oc j → LX B L μ ν s n (d + 1) (CH N (cx (ic q)) (qc μ (ic x))) (pt (wr ν 63 4 (ic s)) (ic (ln j)) (ic q))
def tw6 (N : Nat) (a2 : Int32) (ν : sw_M) : Option sw_M := wb (wr ν 63 7 ((ν 63 7) - 1)) (fun μ13 => Option.bind (f_m_emit N μ13 a2 0) (fun r14 => some r14))
def tw5 (N : Nat) (a2 : Int32) (ν : sw_M) : Option sw_M := Option.bind (f_m_sign N ν 93) (tw6 N a2)
def tw4 (N : Nat) (ps : sw_M → Option sw_M) (a2 : Int32) (ν : sw_M) : Option sw_M := Option.bind (ps ν) (tw5 N a2)
def tw3 (N : Nat) (ps : sw_M → Option sw_M) (a2 : Int32) (ν : sw_M) : Option sw_M := Option.bind (f_m_sign N ν 44) (tw4 N ps a2)
def tw2 (N : Nat) (ps : sw_M → Option sw_M) (a2 : Int32) (ν : sw_M) : Option sw_M := Option.bind (ps ν) (tw3 N ps a2)
def tw1 (N : Nat) (ps : sw_M → Option sw_M) (a2 : Int32) (ν : sw_M) : Option sw_M := Option.bind (f_m_sign N ν 91) (tw2 N ps a2)
section
variable {N : Nat} {ν : sw_M} {a2 : Int32} {ps : sw_M → Option sw_M}
theorem tw6_bad (h : ¬ ν 63 5 = -1) : tw6 N a2 ν = some (wr ν 63 7 (ν 63 7 - 1)) := by
  unfold tw6
  rw [wb_e, emit_bad (ν := wr ν 63 7 (ν 63 7 - 1)) h, ob_e]
theorem tw5_bad (h : ¬ ν 63 5 = -1) : tw5 N a2 ν = some (wr ν 63 7 (ν 63 7 - 1)) := by
  unfold tw5; rw [sign_bad h, ob_e, tw6_bad h]
theorem tw4_bad (hp : RQ ps) (h : ¬ ν 63 5 = -1) : tw4 N ps a2 ν = some (wr ν 63 7 (ν 63 7 - 1)) := by
  unfold tw4; rw [hp ν h, ob_e, tw5_bad h]
theorem tw3_bad (hp : RQ ps) (h : ¬ ν 63 5 = -1) : tw3 N ps a2 ν = some (wr ν 63 7 (ν 63 7 - 1)) := by
  unfold tw3; rw [sign_bad h, ob_e, tw4_bad hp h]
theorem tw2_bad (hp : RQ ps) (h : ¬ ν 63 5 = -1) : tw2 N ps a2 ν = some (wr ν 63 7 (ν 63 7 - 1)) := by
  unfold tw2; rw [hp ν h, ob_e, tw3_bad hp h]
theorem tw1_bad (hp : RQ ps) (h : ¬ ν 63 5 = -1) : tw1 N ps a2 ν = some (wr ν 63 7 (ν 63 7 - 1)) := by
  unfold tw1; rw [sign_bad h, ob_e, tw2_bad hp h]
/-- opening one more nest -/
theorem opens_1 {B : Nat → Nat} {L s x k : Nat} (hR : RT ν B L s) (h7 : ν 63 7 = ic x) (hx : x < 6) : f_m_opensOne N (wr ν 63 4 (ic s)) (ic k) = some (wr (wr ν 63 4 (ic (s + k))) 63 7 (ic (x + 1))) := by
  have h5 : (wr ν 63 4 (ic s)) 63 5 = -1 := hR.2.2.2.2
  have e7 : (wr ν 63 4 (ic s)) 63 7 = ic x := h7
  have e7' : (wr ν 63 4 (ic (s + k))) 63 7 = ic x := h7
  unfold f_m_opensOne f_m_opensOne_25 f_m_opensOne_42
  rw [fine_1 h5, ob_e, if_neg (by decide), e7, if_neg (by rw [eq_lit (by decide) (by omega)]; show ¬ x = 6; omega), ob_e, if_neg (by decide), wb_e, wr_wr, show (wr ν 63 4 (ic s)) 63 4 = ic s from rfl, ic_add, e7', wb_e, ic_1]
theorem opens_0 {B : Nat → Nat} {L s : Nat} (hR : RT ν B L s) (h6 : s ≤ 600) (h7 : ν 63 7 = 6) (k : Int32) : f_m_opensOne N (wr ν 63 4 (ic s)) k = some (wr (wr (wr (wr ν 63 4 (ic s)) 63 5 (ic s)) 63 6 (ic 3)) 63 7 (6 + 1)) := by
  have h5 : (wr ν 63 4 (ic s)) 63 5 = -1 := hR.2.2.2.2
  have e7 : (wr ν 63 4 (ic s)) 63 7 = 6 := h7
  have hb : ¬ (wr (wr (wr ν 63 4 (ic s)) 63 5 (ic s)) 63 6 3) 63 5 = -1 := by show ¬ ic s = -1; rw [ic_m1 (by omega)]; exact id
  unfold f_m_opensOne f_m_opensOne_25 f_m_opensOne_42
  rw [fine_1 h5, ob_e, if_neg (by decide), e7, if_pos rfl, wrong_1 h5, ob_e, show (wr ν 63 4 (ic s)) 63 4 = ic s from rfl, fine_0 hb, ob_e, if_pos rfl, show (wr (wr (wr ν 63 4 (ic s)) 63 5 (ic s)) 63 6 3) 63 7 = 6 from h7, wb_e]; rfl
end
theorem tu_0 {N : Nat} {μ : sw_M} {B : Nat → Nat} {L s : Nat} (hN : 5000 ≤ N) (hB : ∀ i, B i < 256) (hA : AT μ B L s) : ∃ μ', f_tape_takeUnless N μ 0 = some (1, μ') ∧ AT μ' B L (sk B L (nx B L s)) ∧ FrP μ μ' := by
  obtain ⟨μ1, a1, a2, a3⟩ := adv_e hN hB hA
  exact ⟨μ1, by unfold f_tape_takeUnless; rw [if_pos rfl, a1, ob_e], a2, a3⟩
/-- two pieces in brackets -/
theorem rd_Choice {N : Nat} {B : Nat → Nat} {L x : Nat} (qs qp qu qc : sw_M → Int32 → Option (Int32 × sw_M)) (ps pp pu : sw_M → Option sw_M) (pt : sw_M → Int32 → Int32 → Option sw_M) (hN : 5000 ≤ N) (hB : ∀ i, B i < 256) (hL : L ≤ 150) (hx : x ≤ 6) (hf : x < 6 → RD B L 1 (x + 1) qs ps) (hp : RQ ps) : RCh N B L x (f_lawR_readChoice_b N qs qp qu qc) (f_m_readTwo_b N ps pp pu pt) := by
  intro j q μ ν s n d hj hq hq2 hA hR hQ hn h7 hw
  have hsL := hA.2.2.1
  have eM : f_m_readTwo_b N ps pp pu pt (wr ν 63 4 (ic s)) (ic (ln j)) (ic q) = Option.bind (f_m_opensOne N (wr ν 63 4 (ic s)) (ic (ln j))) (tw1 N ps (ic q)) := rfl
  rw [eM]
  have hfail : ∀ (μ1 ν1 : sw_M), BAD μ1 ν1 → XW μ μ1 → MW ν ν1 → LX B L μ ν s n (d + 1) (CH N (cx (ic q)) (some (0, μ1))) (some (wr ν1 63 7 (ν1 63 7 - 1))) := fun μ1 ν1 hbd xw mw => Or.inr ⟨μ1, _, by unfold CH; rw [ob_e, if_pos rfl], rfl, hbd.w rfl rfl rfl rfl, xw, mw.w7 _⟩
  by_cases hx6 : x < 6
  rotate_left
  · have hx6' : x = 6 := by omega
    subst hx6'
    have eX : f_lawR_readChoice_b N qs qp qu qc μ (ic 6) = some (0, wr (wr μ 1 7 3) 1 8 (ic s)) := by
      unfold f_lawR_readChoice_b f_lawR_readChoice_12
      rw [if_neg (by decide), tu_1 hA.2.2.2.2.2.2.1, ob_e, if_pos rfl]
    have hbd := bad_mk μ (wr ν 63 4 (ic s)) (k := 3) (p := s) (by omega) (by decide)
    have f1 : FrR ν (wr (wr (wr ν 63 4 (ic s)) 63 5 (ic s)) 63 6 (ic 3)) := (((FrR.rf ν).wr _ (Or.inl rfl)).wr _ (Or.inr (Or.inl rfl))).wr _ (Or.inr (Or.inr rfl))
    rw [opens_0 hR (by omega) h7, ob_e, eX, tw1_bad (ν := wr (wr (wr (wr ν 63 4 (ic s)) 63 5 (ic s)) 63 6 (ic 3)) 63 7 (6 + 1)) hp hbd.nf]
    exact hfail _ _ (hbd.w rfl rfl rfl rfl) (fb_fail μ _ _).xw (f1.mw.w7 _)
  obtain ⟨w1, w2, w3, w4⟩ := wv_w hsL hj hw
  have hln := ln_b j hj
  have hnl : nx B L s ≤ L := nx_le hsL
  have hsk : nx B L s ≤ sk B L (nx B L s) := re_ge
  obtain ⟨μ1, a1, hA1, fp1⟩ := tu_0 hN hB hA
  obtain ⟨ν1, hν1⟩ : ∃ y : sw_M, y = wr (wr ν 63 4 (ic (s + ln j))) 63 7 (ic (x + 1)) := ⟨_, rfl⟩
  have hR1 : RT ν1 B L (sk B L (nx B L s)) := by rw [hν1, w3]; exact hR.at (t := s + ln j) (by omega)
  have m1 : MW ν ν1 := by rw [hν1]; exact (((FrR.rf ν).wr _ (Or.inl rfl)).mw).w7 _
  have h71 : ν1 63 7 = ic (x + 1) := by rw [hν1]; rfl
  have hQ1 : LQ μ1 ν1 n d := hQ.fr (by rw [fp1.1 24 (by decide)]) (fp1.1 25 (by decide)) (fp1.1 26 (by decide)) (by rw [hν1]; rfl) (by rw [hν1]; rfl) (by rw [hν1]; rfl)
  obtain ⟨eX, heX⟩ : ∃ y, y = f_lawR_readChoice_b N qs qp qu qc μ (ic x) := ⟨_, rfl⟩
  have hX : eX = Option.bind (f_tape_takeSign N μ1 91) (fun r3 => if r3.1 = 0 then some (0, r3.2) else Option.bind (qs r3.2 (ic (x + 1))) (fun r5 => if r5.1 = 0 then some (0, r5.2) else Option.bind (f_tape_takeSign N r5.2 44) (fun r7 => if r7.1 = 0 then some (0, r7.2) else Option.bind (qs r7.2 (ic (x + 1))) (fun r9 => if r9.1 = 0 then some (0, r9.2) else Option.bind (f_tape_takeSign N r9.2 93) (fun r11 => if r11.1 = 0 then some (0, r11.2) else some (1, r11.2)))))) := by
    rw [heX]
    unfold f_lawR_readChoice_b f_lawR_readChoice_12
    rw [if_pos (by rw [lt_lit (by decide) (by omega)]; exact hx6), a1, ob_e, if_neg (show ¬ (1 : Int32) = 0 by decide), ic_1]
  rw [← heX, opens_1 hR h7 hx6, ob_e, ← hν1]
  have hn1 : n + (s + 1) ≤ n + sk B L (nx B L s) := by omega
  -- [
  unfold tw1
  rcases j_sign hN hB hA1 hR1 sg91 with ⟨μ2, ν2, s2, x2, y2, hA2, hR2, hs2, fp2, fr2, -, -⟩ | ⟨μ2, ν2, x2, y2, hbd, fb2, fr2, -⟩
  rotate_left
  · have x2' : f_tape_takeSign N μ1 91 = some (0, μ2) := x2
    have y2' : f_m_sign N ν1 91 = some ν2 := y2
    rw [hX, x2', ob_e, if_pos rfl, y2', ob_e, tw2_bad hp hbd.nf]
    exact hfail _ _ hbd (fp1.xw.tr fb2.xw) (m1.tr fr2.mw)
  have x2' : f_tape_takeSign N μ1 91 = some (1, μ2) := x2
  have y2' : f_m_sign N ν1 91 = some ν2 := y2
  rw [x2', ob_e, if_neg (show ¬ (1 : Int32) = 0 by decide)] at hX
  simp only at hX
  rw [y2', ob_e]
  unfold tw2
  rcases hf hx6 μ2 ν2 s2 n d hA2 hR2 (hQ1.fp fp2 fr2) (by omega) (fr2.s7.trans h71) with ⟨μ3, ν3, s3, n3, x3, y3, hA3, hR3, hQ3, hs3, hn3, xw3, x83, mw3, m73⟩ | ⟨μ3, ν3, x3, y3, hbd, xw3, mw3⟩
  rotate_left
  · rw [hX, x3, ob_e, if_pos rfl, y3, ob_e, tw3_bad hp hbd.nf]
    exact hfail _ _ hbd (fp1.xw.tr (fp2.xw.tr xw3)) (m1.tr (fr2.mw.tr mw3))
  rw [x3, ob_e, if_neg (show ¬ (1 : Int32) = 0 by decide)] at hX
  simp only at hX
  rw [y3, ob_e]
  unfold tw3
  rcases j_sign hN hB hA3 hR3 sg44 with ⟨μ4, ν4, s4, x4, y4, hA4, hR4, hs4, fp4, fr4, -, -⟩ | ⟨μ4, ν4, x4, y4, hbd, fb4, fr4, -⟩
  rotate_left
  · have x4' : f_tape_takeSign N μ3 44 = some (0, μ4) := x4
    have y4' : f_m_sign N ν3 44 = some ν4 := y4
    rw [hX, x4', ob_e, if_pos rfl, y4', ob_e, tw4_bad hp hbd.nf]
    exact hfail _ _ hbd (fp1.xw.tr (fp2.xw.tr (xw3.tr fb4.xw))) (m1.tr (fr2.mw.tr (mw3.tr fr4.mw)))
  have x4' : f_tape_takeSign N μ3 44 = some (1, μ4) := x4
  have y4' : f_m_sign N ν3 44 = some ν4 := y4
  rw [x4', ob_e, if_neg (show ¬ (1 : Int32) = 0 by decide)] at hX
  simp only at hX
  rw [y4', ob_e]
  unfold tw4
  rcases hf hx6 μ4 ν4 s4 n3 (d + 1) hA4 hR4 (hQ3.fp fp4 fr4) (by omega) (fr4.s7.trans (m73.trans (fr2.s7.trans h71))) with ⟨μ5, ν5, s5, n5, x5, y5, hA5, hR5, hQ5, hs5, hn5, xw5, x85, mw5, m75⟩ | ⟨μ5, ν5, x5, y5, hbd, xw5, mw5⟩
  rotate_left
  · rw [hX, x5, ob_e, if_pos rfl, y5, ob_e, tw5_bad hbd.nf]
    exact hfail _ _ hbd (fp1.xw.tr (fp2.xw.tr (xw3.tr (fp4.xw.tr xw5)))) (m1.tr (fr2.mw.tr (mw3.tr (fr4.mw.tr mw5))))
  rw [x5, ob_e, if_neg (show ¬ (1 : Int32) = 0 by decide)] at hX
  simp only at hX
  rw [y5, ob_e]
  unfold tw5
  rcases j_sign hN hB hA5 hR5 sg93 with ⟨μ6, ν6, s6, x6, y6, hA6, hR6, hs6, fp6, fr6, -, -⟩ | ⟨μ6, ν6, x6, y6, hbd, fb6, fr6, -⟩
  rotate_left
  · have x6' : f_tape_takeSign N μ5 93 = some (0, μ6) := x6
    have y6' : f_m_sign N ν5 93 = some ν6 := y6
    rw [hX, x6', ob_e, if_pos rfl, y6', ob_e, tw6_bad hbd.nf]
    exact hfail _ _ hbd (fp1.xw.tr (fp2.xw.tr (xw3.tr (fp4.xw.tr (xw5.tr fb6.xw))))) (m1.tr (fr2.mw.tr (mw3.tr (fr4.mw.tr (mw5.tr fr6.mw)))))
  have x6' : f_tape_takeSign N μ5 93 = some (1, μ6) := x6
  have y6' : f_m_sign N ν5 93 = some ν6 := y6
  rw [x6', ob_e, if_neg (show ¬ (1 : Int32) = 0 by decide)] at hX
  simp only at hX
  rw [y6', ob_e]
  have hl6 := hA6.2.2.1
  have hlt : n5 < 150 := by omega
  have h76 : ν6 63 7 = ic (x + 1) := fr6.s7.trans (m75.trans (fr4.s7.trans (m73.trans (fr2.s7.trans h71))))
  have e7 : ν6 63 7 - 1 = ic x := by rw [h76, show ic (x + 1) - 1 = ic (x + 1 - 1) from ic_sub (a := x + 1) (b := 1) (by omega), Nat.add_sub_cancel]
  obtain ⟨ν7, hν7⟩ : ∃ y : sw_M, y = wr ν6 63 7 (ic x) := ⟨_, rfl⟩
  have hQ6 := hQ5.fp fp6 fr6
  have hQ7 : LQ μ6 ν7 n5 (d + 1 + 1) := by rw [hν7]; exact hQ6
  have hR7 : RT ν7 B L s6 := by rw [hν7]; exact hR6
  have hQ8 := hQ7.em (ic q) 0 (d + 1) (Or.inr (Or.inr ⟨q, hq, hq2, rfl, by omega, by omega⟩))
  have xw : XW μ μ6 := fp1.xw.tr (fp2.xw.tr (xw3.tr (fp4.xw.tr (xw5.tr fp6.xw))))
  have mw : MW ν ν7 := by rw [hν7]; exact (m1.tr (fr2.mw.tr (mw3.tr (fr4.mw.tr (mw5.tr fr6.mw))))).w7 _
  refine Or.inl ⟨xe μ6 n5 (cx (ic q)) 0, me ν7 n5 (ic q) 0, s6, n5 + 1, ?_, ?_, hA6, hR7, hQ8, by omega, by omega, xw.tr (xe_w _ _ _ _), ?_, mw.tr (me_w _ _ _ _), ?_⟩
  · unfold CH
    rw [hX, ob_e, if_neg (show ¬ (1 : Int32) = 0 by decide)]
    simp only
    rw [radd_e hQ7.1 hlt, ob_e, if_neg (show ¬ (1 : Int32) = 0 by decide)]
  · unfold tw6
    rw [e7, wb_e, ← hν7, emit_e hQ7.2.1 hlt hR7.2.2.2.2, ob_e]
  · show μ6 1 8 = μ 1 8
    rw [fp6.2.2, x85, fp4.2.2, x83, fp2.2.2, fp1.2.2]
  · show ν7 63 7 = _
    rw [hν7, h7]; rfl
