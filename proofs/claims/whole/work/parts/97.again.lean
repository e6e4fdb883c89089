/-! ===== steps in brackets ===== -/
def mAg (N : Nat) (q : sw_M → Option sw_M) (ν : sw_M) : Option sw_M := Option.bind (f_m_opensOne N ν 5) (fun r19 => Option.bind (f_m_readNumber N r19 0 40) (fun r21 => Option.bind (f_m_sign N r21.2 91) (fun r23 => ib (r23 63 35) (fun y25 => Option.bind (f_m_tellsStep N r23 6 r21.1 0) (fun r26 => f_m_readStep_258 N q N r26 y25)))))
section
variable {N : Nat} {B : Nat → Nat} {L W T P x : Nat} {ν : sw_M} {q : sw_M → Option sw_M}
theorem r281_bad (h : ¬ ν 63 5 = -1) (y : Int32) : f_m_readStep_281 N q ν y = some (wr ν 63 7 (ν 63 7 - 1)) := by
  have hb : ¬ (wr ν 63 7 (ν 63 7 - 1)) 63 5 = -1 := h
  unfold f_m_readStep_281 f_m_readStep_316 f_m_readStep_328
  rw [sign_bad h, ob_e, wb_e, fine_0 hb, ob_e, if_pos rfl, sign_bad hb, ob_e]
theorem r258_bad (hN : 5000 ≤ N) (h : ¬ ν 63 5 = -1) (y : Int32) : f_m_readStep_258 N q N ν y = some (wr ν 63 7 (ν 63 7 - 1)) := by
  obtain ⟨N', hN'⟩ := fu_s (show 0 < N by omega)
  rw [show f_m_readStep_258 N q N ν y = f_m_readStep_258 N q (N' + 1) ν y by rw [← hN'], f_m_readStep_258, fine_0 h, ob_e, if_pos rfl, r281_bad h]
end
def RAg (N : Nat) (B : Nat → Nat) (L W T P x : Nat) (qa : sw_M → Int32 → Option (Int32 × sw_M)) (q : sw_M → Option sw_M) : Prop := ∀ μ ν s n, AT μ B L s → RT ν B L s → CM μ ν W T P → WQ μ ν W T P n → 4 * n ≤ s → ν 63 7 = ic x → wv B L s = oc 0 → WX B L W T P x 4 n μ ν s (SS N (cTwo N (qa μ (ic x)))) (mAg N q (wr ν 63 4 (ic s)))
def HS (N : Nat) (B : Nat → Nat) (L W T P x : Nat) (qs : sw_M → Int32 → Option (Int32 × sw_M)) (q : sw_M → Option sw_M) : Prop := ∀ μ ν s n y, AT μ B L s → RT ν B L s → CM μ ν W T P → WQ μ ν W T P n → 4 * n ≤ s → ν 63 7 = ic x → W3 B L W T P x n (fun s => ch B L s = 93) (fun ν' => f_m_readStep_281 N q ν' y) μ ν s (qs μ (ic x)) (f_m_readStep_258 N q N ν y)
theorem rd_Again {N : Nat} {B : Nat → Nat} {L W T P x : Nat} (qs qst qa : sw_M → Int32 → Option (Int32 × sw_M)) (q : sw_M → Option sw_M) (hN : 5000 ≤ N) (hB : ∀ i, B i < 256) (hL : L ≤ 150) (hx : x ≤ 6) (hf : x < 6 → HS N B L W T P (x + 1) qs q) : RAg N B L W T P x (f_work_readAgain_b N qs qst qa) q := by
  intro μ ν s n hA hR hC hQ hn h7 hw
  have hsL := hA.2.2.1
  have hfail : ∀ (μ1 ν1 : sw_M), BAD μ1 ν1 → XK μ μ1 → MK ν ν1 → WX B L W T P x 4 n μ ν s (SS N (cTwo N (some (0, μ1)))) (some (wr ν1 63 7 (ν1 63 7 - 1))) := fun μ1 ν1 hbd xw mw => Or.inr ⟨μ1, _, by unfold SS cTwo; rw [ob_e, bl_0, ob_e, if_pos rfl], rfl, hbd.w rfl rfl rfl rfl, xw, mw.w7 _⟩
  by_cases hx6 : x < 6
  rotate_left
  · have hx6' : x = 6 := by omega
    subst hx6'
    have eX : f_work_readAgain_b N qs qst qa μ (ic 6) = some (0, wr (wr μ 1 7 3) 1 8 (ic s)) := by
      unfold f_work_readAgain_b f_work_readAgain_12
      rw [if_neg (by decide), tu_1 hA.2.2.2.2.2.2.1, ob_e, if_pos rfl]
    have hbd := bad_mk μ (wr ν 63 4 (ic s)) (k := 3) (p := s) (by omega) (by decide)
    have f1 : FrR ν (wr (wr (wr ν 63 4 (ic s)) 63 5 (ic s)) 63 6 (ic 3)) := (((FrR.rf ν).wr _ (Or.inl rfl)).wr _ (Or.inr (Or.inl rfl))).wr _ (Or.inr (Or.inr rfl))
    obtain ⟨ν2, hν2⟩ : ∃ y : sw_M, y = wr (wr (wr (wr ν 63 4 (ic s)) 63 5 (ic s)) 63 6 (ic 3)) 63 7 (6 + 1) := ⟨_, rfl⟩
    have nf2 : ¬ ν2 63 5 = -1 := by rw [hν2]; exact hbd.nf
    have eM : mAg N q (wr ν 63 4 (ic s)) = some (wr ν2 63 7 (ν2 63 7 - 1)) := by
      unfold mAg
      rw [opens_0 hR (by omega) h7, ob_e, ← hν2, num_bad nf2, ob_e]
      simp only
      rw [sign_bad nf2, ob_e, ib_e, tells_bad nf2, ob_e, r258_bad hN nf2]
    rw [eX, eM]
    exact hfail _ _ (by rw [hν2]; exact hbd.w rfl rfl rfl rfl) (fb_fail μ _ _).xk (by rw [hν2]; exact f1.mk.w7 _)
  obtain ⟨w1, w2, w3, w4⟩ := wv_w hsL (show 0 < 19 by decide) hw
  have hln : ln 0 = 5 := by decide +kernel
  have hnl : nx B L s ≤ L := nx_le hsL
  have hsk : nx B L s ≤ sk B L (nx B L s) := re_ge
  obtain ⟨μ1, a1, hA1, fp1⟩ := tu_0 hN hB hA
  obtain ⟨ν1, hν1⟩ : ∃ y : sw_M, y = wr (wr ν 63 4 (ic (s + 5))) 63 7 (ic (x + 1)) := ⟨_, rfl⟩
  have hR1 : RT ν1 B L (sk B L (nx B L s)) := by rw [hν1, w3, hln]; exact hR.at (t := s + 5) (by omega)
  have m1 : MK ν ν1 := by rw [hν1]; exact (((FrR.rf ν).wr _ (Or.inl rfl)).mk).w7 _
  have h71 : ν1 63 7 = ic (x + 1) := by rw [hν1]; rfl
  have hQ1 : WQ μ1 ν1 W T P n := hQ.fr (by rw [fp1.1 41 (by decide)]) (fp1.1 42 (by decide)) (fp1.1 43 (by decide)) (fp1.1 44 (by decide)) (by rw [hν1]; rfl) (by rw [hν1]; rfl)
  have ho : f_m_opensOne N (wr ν 63 4 (ic s)) 5 = some ν1 := by rw [hν1]; exact opens_1 (k := 5) hR h7 hx6
  obtain ⟨eX, heX⟩ : ∃ y, y = f_work_readAgain_b N qs qst qa μ (ic x) := ⟨_, rfl⟩
  have hX : eX = Option.bind (f_tape_takeNumber N μ1 0 40) (fun r3 => if r3.1 = (-1) then some (0, r3.2) else Option.bind (f_tape_takeSign N r3.2 91) (fun r5 => if r5.1 = 0 then some (0, r5.2) else ib (r5.2 41 5) (fun y7 => Option.bind (f_work_add N r5.2 6 r3.1 ((r5.2 41 5) + 1)) (fun r8 => Option.bind (qs r8.2 (ic (x + 1))) (fun r10 => if r10.1 = 0 then some (0, r10.2) else Option.bind (f_tape_takeSign N r10.2 93) (fun r12 => if r12.1 = 0 then some (0, r12.2) else Option.bind (f_sx_put N 44 150 r12.2 y7 (r12.2 41 5)) (fun r14 => some (1, r14)))))))) := by
    rw [heX]
    unfold f_work_readAgain_b f_work_readAgain_12
    rw [if_pos (by rw [lt_lit (by decide) (by omega)]; exact hx6), a1, ob_e, if_neg (show ¬ (1 : Int32) = 0 by decide), ic_1]
  rw [← heX]
  unfold mAg
  rw [ho, ob_e]
  rcases jn hN hB hA1 hR1 (lo := 0) (y := 41) (by decide) (by decide) 0 40 rfl rfl with ⟨μ2, ν2, s2, v, x2, y2, hA2, hR2, hs2, fp2, fr2, hv1, hv, -, -⟩ | ⟨μ2, ν2, x2, y2, hbd, fb2, fr2, -⟩
  rotate_left
  · rw [hX, x2, ob_e, if_pos rfl, y2, ob_e]
    simp only
    rw [sign_bad hbd.nf, ob_e, ib_e, tells_bad hbd.nf, ob_e, r258_bad hN hbd.nf]
    exact hfail _ _ hbd (fp1.xk.tr fb2.xk) (m1.tr fr2.mk)
  rw [x2, ob_e, if_neg (show ¬ ic v = -1 by rw [ic_m1 (by omega)]; exact id)] at hX
  simp only at hX
  rw [y2, ob_e]
  simp only
  rcases j_sign hN hB hA2 hR2 sg91 with ⟨μ3, ν3, s3, x3, y3, hA3, hR3, hs3, fp3, fr3, -, -⟩ | ⟨μ3, ν3, x3, y3, hbd, fb3, fr3, -⟩
  rotate_left
  · have x3' : f_tape_takeSign N μ2 91 = some (0, μ3) := x3
    have y3' : f_m_sign N ν2 91 = some ν3 := y3
    rw [hX, x3', ob_e, if_pos rfl, y3', ob_e, ib_e, tells_bad hbd.nf, ob_e, r258_bad hN hbd.nf]
    exact hfail _ _ hbd (fp1.xk.tr (fp2.xk.tr fb3.xk)) (m1.tr (fr2.mk.tr fr3.mk))
  have x3' : f_tape_takeSign N μ2 91 = some (1, μ3) := x3
  have y3' : f_m_sign N ν2 91 = some ν3 := y3
  have hl3 := hA3.2.2.1
  have hQ3 := (hQ1.fp fp2 fr2).fp fp3 fr3
  have hn36 : 4 * (n + 1) ≤ s3 := by omega
  rw [x3', ob_e, if_neg (show ¬ (1 : Int32) = 0 by decide), ib_e] at hX
  simp only at hX
  rw [hQ3.1, ic_1, wadd_e hQ3.1 (by omega), ob_e] at hX
  simp only at hX
  rw [y3', ob_e, hQ3.2.1, ib_e, tells_e hQ3.2.1 (by omega) hR3.2.2.2.2, ob_e]
  have hQ4 := hQ3.em (k := 6) (a := v) (ic (n + 1)) 0 (Or.inl ⟨rfl, by omega⟩)
  obtain ⟨μ4, hμ4⟩ : ∃ y : sw_M, y = xs μ3 n 6 (ic v) (ic (n + 1)) := ⟨_, rfl⟩
  obtain ⟨ν4, hν4⟩ : ∃ y : sw_M, y = ms ν3 n 6 (ic v) 0 := ⟨_, rfl⟩
  have hQ4' : WQ μ4 ν4 W T P (n + 1) := by rw [hμ4, hν4]; exact hQ4
  have hA4 : AT μ4 B L s3 := by rw [hμ4]; exact hA3
  have hR4 : RT ν4 B L s3 := by rw [hν4]; exact hR3
  have xk4 : XK μ μ4 := by rw [hμ4]; exact (fp1.xk.tr (fp2.xk.tr fp3.xk)).tr (xs_k _ _ _ _ _)
  have mk4 : MK ν ν4 := by rw [hν4]; exact (m1.tr (fr2.mk.tr fr3.mk)).tr (ms_k _ _ _ _ _)
  have h74 : ν4 63 7 = ic (x + 1) := by rw [hν4]; exact fr3.s7.trans (fr2.s7.trans h71)
  have x84 : μ4 1 8 = μ 1 8 := by rw [hμ4]; show μ3 1 8 = _; rw [fp3.2.2, fp2.2.2, fp1.2.2]
  rw [← hμ4] at hX
  rw [← hν4]
  rcases hf hx6 μ4 ν4 s3 (n + 1) (ic (3 * n)) hA4 hR4 (hC.fr xk4 mk4) hQ4' hn36 h74 with ⟨μ5, ν5, s5, n5, b1, b2, b3, b4, b5, b6, b7, b8, b9, b10, b11, b12, b13, b14, b15⟩ | ⟨μ5, ν5, s5, b1, b2, b3, b4, b5, b6, b7⟩ | ⟨μ5, ν5, b1, b2, b3, b4, b5⟩
  · rw [b1, ob_e, if_neg (show ¬ (1 : Int32) = 0 by decide)] at hX
    simp only at hX
    rw [b2]
    show WX B L W T P x 4 n μ ν s (SS N (cTwo N eX)) (f_m_readStep_281 N q ν5 (ic (3 * n)))
    rcases j_sign hN hB b3 b4 sg93 with ⟨μ6, ν6, s6, x6, y6, hA6, hR6, hs6, fp6, fr6, -, -⟩ | ⟨_, _, _, _, _, _, _, hne⟩
    rotate_left
    · exact absurd b5 hne
    have x6' : f_tape_takeSign N μ5 93 = some (1, μ6) := x6
    have y6' : f_m_sign N ν5 93 = some ν6 := y6
    have hle : n + 1 ≤ n5 := by obtain ⟨f, z⟩ := b7; exact WF.le _ _ _ _ z
    have hQ6 := b6.fp fp6 fr6
    have hl6 := hA6.2.2.1
    rw [x6', ob_e, if_neg (show ¬ (1 : Int32) = 0 by decide)] at hX
    simp only at hX
    rw [hQ6.1, put_e (by omega) (by decide), ob_e] at hX
    have h76 : ν6 63 7 = ic (x + 1) := fr6.s7.trans (b15.trans h74)
    have e7 : ν6 63 7 - 1 = ic x := by rw [h76, show ic (x + 1) - 1 = ic (x + 1 - 1) from ic_sub (a := x + 1) (b := 1) (by omega), Nat.add_sub_cancel]
    obtain ⟨μ7, hμ7⟩ : ∃ y : sw_M, y = wr μ6 44 n (ic n5) := ⟨_, rfl⟩
    obtain ⟨ν7, hν7⟩ : ∃ y : sw_M, y = wr (wr ν6 63 7 (ic x)) 78 (3 * n + 2) (ic (3 * n5)) := ⟨_, rfl⟩
    have eM : f_m_readStep_281 N q ν5 (ic (3 * n)) = Option.bind (some ν7) (fun r => f_m_readStep_328 N q r) := by
      unfold f_m_readStep_281 f_m_readStep_316
      rw [y6', ob_e, e7, wb_e, fine_1 (show (wr ν6 63 7 (ic x)) 63 5 = -1 from hR6.2.2.2.2), ob_e, if_neg (show ¬ (1 : Int32) = 0 by decide), add_lit, inb_e (by omega) (by decide), ic_n (by omega), show (wr ν6 63 7 (ic x)) 63 35 = ic (3 * n5) from hQ6.2.1, wb_e, ob_e, hν7]
    have e42 : ∀ i, μ7 42 i = μ5 42 i := fun i => by rw [hμ7, wr_nr (by decide), fp6.1 42 (by decide)]
    have e43 : ∀ i, μ7 43 i = μ5 43 i := fun i => by rw [hμ7, wr_nr (by decide), fp6.1 43 (by decide)]
    have e44 : ∀ i, μ7 44 i = if i = n then ic n5 else μ5 44 i := fun i => by rw [hμ7, wr_ap, if_pos rfl, fp6.1 44 (by decide)]
    have e78 : ∀ i, ν7 78 i = if i = 3 * n + 2 then ic (3 * n5) else ν5 78 i := fun i => by rw [hν7, wr_ap, if_pos rfl, wr_nr (by decide), fr6.1 78 (by decide)]
    have k6 : μ5 42 n = 6 := by rw [(b8 n (by omega)).1, hμ4, xs42, if_pos rfl]
    have hWX : WX B L W T P x 3 n μ ν s (cTwo N eX) (some ν7) := by
      refine Or.inl ⟨μ7, ν7, s6, n5, ?_, rfl, by rw [hμ7]; exact hA6, by rw [hν7]; exact hR6, ⟨?_, ?_, fun i hi => ?_⟩, ?_, fun i hi => ?_, fun i hi => ?_, by omega, by omega, ?_, ?_, ?_, ?_⟩
      · rw [hX, hμ7]; unfold cTwo; rw [ob_e, bl_1]
      · rw [hμ7]; exact hQ6.1
      · rw [hν7]; exact hQ6.2.1
      · obtain ⟨k, a, g1, g2, g3, g4, g5⟩ := b6.2.2 i hi
        refine ⟨k, a, by rw [e42]; exact g1, by rw [e43]; exact g2, by rw [e78, if_neg (by omega)]; exact g3, by rw [e78, if_neg (by omega)]; exact g4, ?_⟩
        rw [e44, e78]
        by_cases e : i = n
        · subst e
          left
          rcases g5 with z | ⟨b, -, -, z⟩
          · exact z
          · exfalso
            rw [k6] at g1
            have hk : k = 6 := by
              unfold SA at z
              have : ic 6 = ic k := g1
              rw [ic_eq (by omega) (by omega)] at this; exact this.symm
            unfold SA at z; omega
        · rw [if_neg e, if_neg (by omega)]; exact g5
      · refine WE.nest (by rw [e42]; exact k6) hx6 (by rw [e44, if_pos rfl]) (by rw [e78, if_pos rfl]) (b7.cg (fun i h1 h2 => ⟨e42 i, by rw [e44, if_neg (by omega)], by rw [e78, if_neg (by omega)]⟩))
      · obtain ⟨c1, c2, c3⟩ := b8 i (by omega)
        rw [e42, e43, e44, if_neg (by omega), c1, c2, c3, hμ4]
        obtain ⟨o1, o2, o3⟩ := xs_old (μ := μ3) (k := 6) (a := ic v) (b := ic (n + 1)) hi
        rw [o1, o2, o3, fp3.1 42 (by decide), fp3.1 43 (by decide), fp3.1 44 (by decide), fp2.1 42 (by decide), fp2.1 43 (by decide), fp2.1 44 (by decide), fp1.1 42 (by decide), fp1.1 43 (by decide), fp1.1 44 (by decide)]
        exact ⟨rfl, rfl, rfl⟩
      · rw [e78, if_neg (by omega), b9 i (by omega), hν4, ms_old hi, fr3.1 78 (by decide), fr2.1 78 (by decide), hν1]; rfl
      · rw [hμ7]
        refine (xk4.tr (b12.tr fp6.xk)).tr ⟨fun a q1 q2 => wr_nr (by omega), rfl, fun j _ => rfl⟩
      · rw [hμ7]; show μ6 1 8 = _; rw [fp6.2.2, b13, x84]
      · rw [hν7]; exact ((mk4.tr (b14.tr fr6.mk)).w7 _).w78 _ _
      · rw [hν7, h7]; rfl
    rw [eM]
    exact st_sign hN hB hWX
  · have eS : f_tape_takeSign N μ5 93 = some (0, wr (wr μ5 1 7 1) 1 8 (ic s5)) := by
      unfold f_tape_takeSign
      rw [if_neg (show ¬ μ5 1 4 = 93 from fun z => b4 ((kd_eq hB b3 sg93).mp z)), fail_e b3.2.2.2.2.2.2.1, ob_e, bl_0]
    rw [hX, b1, ob_e, if_neg (show ¬ (1 : Int32) = 0 by decide)]
    simp only
    rw [eS, ob_e, if_pos rfl, b2]
    simp only
    rw [r281_bad b5.nf]
    exact hfail _ _ b5 (xk4.tr (b6.tr (fb_fail μ5 _ _).xk)) (mk4.tr b7)
  · rw [hX, b1, ob_e, if_pos rfl, b2]
    simp only
    rw [r281_bad b3.nf]
    exact hfail _ _ b3 (xk4.tr b4) (mk4.tr b5)
