/-! ===== the book's text ===== -/
theorem kd_end {B : Nat → Nat} (hB : ∀ i, B i < 256) (L s : Nat) : kd B L s = 256 ↔ ¬ s < L := by
  unfold kd; have := hB s
  by_cases q : s < L
  · rw [if_pos q]
    refine ⟨fun z => ?_, fun z => absurd q z⟩
    split at z
    · omega
    · split at z <;> omega
  · rw [if_neg q]; exact ⟨fun _ => q, fun _ => rfl⟩
theorem RT.id {ν : sw_M} {B : Nat → Nat} {L s : Nat} (h : RT ν B L s) : RT (wr ν 63 4 (ic s)) B L s := by
  have := h.at h.sL; rwa [h.ss] at this
theorem sg59 : SG 59 := ⟨by decide, by decide, by decide, by decide⟩
theorem BAD.w {μ ν μ' ν' : sw_M} (h : BAD μ ν) (h7 : μ' 1 7 = μ 1 7) (h8 : μ' 1 8 = μ 1 8) (h5 : ν' 63 5 = ν 63 5) (h6 : ν' 63 6 = ν 63 6) : BAD μ' ν' := by
  obtain ⟨k, p, a, b, c, d, e, f⟩ := h
  exact ⟨k, p, a, b, h7.trans c, h8.trans d, h5.trans e, h6.trans f⟩
def XB (μ μ' : sw_M) : Prop := (∀ a, a ≠ 1 → a ≠ 32 → a ≠ 33 → a ≠ 34 → μ' a = μ a) ∧ μ' 1 3 = μ 1 3
def MB (ν ν' : sw_M) : Prop := (∀ a, a ≠ 63 → a ≠ 83 → ν' a = ν a) ∧ ∀ j, j ≠ 4 → j ≠ 5 → j ≠ 6 → ν' 63 j = ν 63 j
theorem XB.rf (μ : sw_M) : XB μ μ := ⟨fun _ _ _ _ _ => rfl, rfl⟩
theorem MB.rf (μ : sw_M) : MB μ μ := ⟨fun _ _ _ => rfl, fun _ _ _ _ => rfl⟩
theorem XB.tr {a b c : sw_M} (h : XB a b) (h2 : XB b c) : XB a c := ⟨fun x q1 q2 q3 q4 => (h2.1 x q1 q2 q3 q4).trans (h.1 x q1 q2 q3 q4), h2.2.trans h.2⟩
theorem MB.tr {a b c : sw_M} (h : MB a b) (h2 : MB b c) : MB a c := ⟨fun x q1 q2 => (h2.1 x q1 q2).trans (h.1 x q1 q2), fun j q1 q2 q3 => (h2.2 j q1 q2 q3).trans (h.2 j q1 q2 q3)⟩
theorem FrB.xb {a b : sw_M} (h : FrB a b) : XB a b := ⟨fun x q1 _ _ _ => h.1 x q1, h.2⟩
theorem FrP.xb {a b : sw_M} (h : FrP a b) : XB a b := h.fb.xb
theorem FrR.mb {a b : sw_M} (h : FrR a b) : MB a b := ⟨fun x q1 _ => h.1 x q1, h.2⟩
def BL (μ ν : sw_M) (n : Nat) : Prop := n ≤ 8 ∧ μ 32 0 = ic n ∧ (∀ i, i < n → ∃ k v : Nat, k ≤ 40 ∧ v ≤ 12 ∧ μ 33 i = ic k ∧ μ 34 i = ic v ∧ ν 83 k = ic v) ∧ (∀ k, k ≤ 40 → ν 83 k = -1 ∨ ∃ i, i < n ∧ μ 33 i = ic k)
theorem BL.fr {μ ν μ' ν' : sw_M} {n : Nat} (h : BL μ ν n) (h32 : μ' 32 = μ 32) (h33 : μ' 33 = μ 33) (h34 : μ' 34 = μ 34) (h83 : ν' 83 = ν 83) : BL μ' ν' n := by
  unfold BL at h ⊢; rw [h32, h33, h34, h83]; exact h
theorem lp_tellsR {N : Nat} {μ : sw_M} {nb : Nat} (hb8 : nb ≤ 8) (h29 : μ 32 0 = ic nb) (x : Int32) : ∀ (j k n : Nat), k + j = nb → j < n → ∃ r, f_bookR_tells_2 N μ n x (ic k) = some r ∧ (r = 0 ↔ ∀ i, k ≤ i → i < nb → ¬ μ 33 i = x)
  | 0, k, n, hk, hn => by
    obtain ⟨n, rfl⟩ := fu_s hn
    refine ⟨0, ?_, ⟨fun _ i h1 h2 => by omega, fun _ => rfl⟩⟩
    rw [f_bookR_tells_2, h29, if_pos (by rw [ic_le (by omega) (by omega)]; omega)]
  | j + 1, k, n, hk, hn => by
    obtain ⟨n, rfl⟩ := fu_s (show 0 < n by omega)
    obtain ⟨r, h1, h2⟩ := lp_tellsR hb8 h29 x j (k + 1) n (by omega) (by omega)
    have hst : f_bookR_tells_2 N μ (n + 1) x (ic k) = if μ 33 k = x then some 1 else f_bookR_tells_2 N μ n x (ic (k + 1)) := by
      rw [f_bookR_tells_2, h29, if_neg (by rw [ic_le (by omega) (by omega)]; omega), inb_e (by omega) (by decide), ic_n (by omega), ic_1]
    by_cases q : μ 33 k = x
    · exact ⟨1, by rw [hst, if_pos q], ⟨fun z => absurd z (by decide), fun z => absurd q (z k (Nat.le_refl k) (by omega))⟩⟩
    · refine ⟨r, by rw [hst, if_neg q, h1], ?_⟩
      rw [h2]
      refine ⟨fun z i h3 h4 => ?_, fun z i h3 h4 => z i (by omega) h4⟩
      by_cases e : i = k
      · subst e; exact q
      · exact z i (by omega) h4
theorem lp_book_step {N : Nat} {B : Nat → Nat} {L n : Nat} (hN : 5000 ≤ N) (hB : ∀ i, B i < 256) (u u2 : Nat)
    (ih : n < 8 → ∀ (s : Nat) (μ ν : sw_M), AT μ B L s → RT ν B L s → BL μ ν (n + 1) →
      (∃ μ' ν' n', f_bookR_read_7 N u μ (ic (n + 1)) = some (1, μ') ∧ f_m_book_67 N u2 ν (ic (n + 1)) = f_m_book_183 N ν' (ic n') ∧ BL μ' ν' n' ∧ ν' 63 5 = -1 ∧ XB μ μ' ∧ μ' 1 8 = μ 1 8 ∧ MB ν ν') ∨
      (∃ μ' ν' x, f_bookR_read_7 N u μ (ic (n + 1)) = some (0, μ') ∧ f_m_book_67 N u2 ν (ic (n + 1)) = f_m_book_183 N ν' x ∧ BAD μ' ν' ∧ XB μ μ' ∧ MB ν ν'))
    (s : Nat) (μ ν : sw_M) (hA : AT μ B L s) (hR : RT ν B L s) (hL : BL μ ν n) :
    (∃ μ' ν' n', f_bookR_read_7 N (u + 1) μ (ic n) = some (1, μ') ∧ f_m_book_67 N (u2 + 1) ν (ic n) = f_m_book_183 N ν' (ic n') ∧ BL μ' ν' n' ∧ ν' 63 5 = -1 ∧ XB μ μ' ∧ μ' 1 8 = μ 1 8 ∧ MB ν ν') ∨
    (∃ μ' ν' x, f_bookR_read_7 N (u + 1) μ (ic n) = some (0, μ') ∧ f_m_book_67 N (u2 + 1) ν (ic n) = f_m_book_183 N ν' x ∧ BAD μ' ν' ∧ XB μ μ' ∧ MB ν ν') := by
  obtain ⟨h8, h32, hl1, hl2⟩ := id hL
  have k1 := kd_lt hB L s
  have hmore := more_e hN hB hR
  have hR1 := hR.id
  have m1 : MB ν (wr ν 63 4 (ic s)) := ((FrR.rf ν).wr _ (Or.inl rfl)).mb
  have hhere := (here_e hN hB hR1).1
  rw [wr_wr] at hhere
  have t4 : (wr ν 63 4 (ic s)) 63 4 = ic s := rfl
  by_cases hs : s < L
  rotate_left
  · left
    have ke := (kd_end hB L s).mpr hs
    refine ⟨μ, wr ν 63 4 (ic s), n, ?_, ?_, hL.fr rfl rfl rfl rfl, hR.2.2.2.2, XB.rf μ, rfl, m1⟩
    · rw [f_bookR_read_7, if_neg (by rw [lit_lt (by decide) (by omega)]; omega), hA.2.2.2.2.2.1, if_pos (by rw [ke]; rfl)]
    · rw [f_m_book_67, fine_1 hR.2.2.2.2, ob_e, if_neg (by decide), hmore, ob_e, b2_n hs]; rfl
  · have ke : ¬ ic (kd B L s) = 256 := by rw [eq_lit (by decide) (by omega), kd_end hB L s]; exact fun z => z hs
    -- the reference's line, by its first number
    have hM : ∀ (r : Int32) (ν1 : sw_M), f_m_readNumber N (wr ν 63 4 (ic s)) 0 40 = some (r, ν1) → f_m_book_67 N (u2 + 1) ν (ic n) = Option.bind (f_m_fine N ν1) (fun r10 => if r10 = 0 then f_m_book_124 N (f_m_book_67 N u2) ν1 (ic n) (ic s) r else inb r 41 (if (ν1 83 r.toNatClampNeg) = (-1) then f_m_book_124 N (f_m_book_67 N u2) ν1 (ic n) (ic s) r else Option.bind (f_m_wrong N ν1 2 (ic s)) (fun r13 => f_m_book_124 N (f_m_book_67 N u2) r13 (ic n) (ic s) r))) := by
      intro r ν1 hr
      rw [f_m_book_67, fine_1 hR.2.2.2.2, ob_e, if_neg (by decide), hmore, ob_e, b2_p hs, if_neg o1]
      simp only
      rw [hhere, ob_e]
      simp only [t4, ib_e]
      rw [hr, ob_e]
    have hX : f_bookR_read_7 N (u + 1) μ (ic n) = Option.bind (f_bookR_readLine N μ) (fun r1 => if r1.1 = 0 then some (0, r1.2) else f_bookR_read_7 N u r1.2 (ic (n + 1))) := by
      rw [f_bookR_read_7, if_neg (by rw [lit_lt (by decide) (by omega)]; omega), hA.2.2.2.2.2.1, if_neg ke, ic_1]
    -- a fault already known
    have hbad143 : ∀ (ν1 : sw_M) (r : Int32), ¬ ν1 63 5 = -1 → f_m_book_143 N (f_m_book_67 N u2) ν1 (ic n) r = f_m_book_183 N ν1 (ic n) := by
      intro ν1 r hb
      unfold f_m_book_143
      rw [num_bad hb, ob_e]
      simp only
      rw [sign_bad hb, ob_e, fine_0 hb, ob_e, if_pos rfl]
    have hbad124 : ∀ (ν1 : sw_M) (r : Int32), ¬ ν1 63 5 = -1 → f_m_book_124 N (f_m_book_67 N u2) ν1 (ic n) (ic s) r = f_m_book_183 N ν1 (ic n) := by
      intro ν1 r hb
      unfold f_m_book_124
      rw [fine_0 hb, ob_e, if_pos rfl, hbad143 ν1 r hb]
    rcases jn hN hB hA hR1 (lo := 0) (y := 41) (by decide) (by decide) 0 40 rfl rfl with ⟨μ1, ν1, s1, v, x1, y1, hA1, hR2, hs1, fp, fr, -, hv, v6, v4⟩ | ⟨μ1, ν1, x1, y1, hbd, fb, fr, hwhy⟩
    · have hMv := hM _ _ y1
      rw [fine_1 hR2.2.2.2.2, ob_e, if_neg (by decide), inb_e (by omega) (by decide), ic_n (by omega)] at hMv
      have r83 : ν1 83 = ν 83 := fr.1 83 (by decide)
      have t5 := hA.2.2.2.2.2.2.1
      obtain ⟨tl, ht1, ht2⟩ := lp_tellsR (N := N) (μ := μ) h8 h32 (μ 1 6) n 0 N (by omega) (by omega)
      have ht1' : f_bookR_tells N μ (μ 1 6) = some tl := ht1
      have fail83 : ∀ k : Nat, 2 ≤ k → k ≤ 3 → f_bookR_readLine N μ = some (0, wr (wr μ 1 7 (ic k)) 1 8 (ic s)) → f_m_book_67 N (u2 + 1) ν (ic n) = f_m_book_183 N (wr (wr ν1 63 5 (ic s)) 63 6 (ic k)) (ic n) → (∃ μ' ν' x, f_bookR_read_7 N (u + 1) μ (ic n) = some (0, μ') ∧ f_m_book_67 N (u2 + 1) ν (ic n) = f_m_book_183 N ν' x ∧ BAD μ' ν' ∧ XB μ μ' ∧ MB ν ν') := by
        intro k hk1 hk2 hx hm
        refine ⟨wr (wr μ 1 7 (ic k)) 1 8 (ic s), wr (wr ν1 63 5 (ic s)) 63 6 (ic k), ic n, ?_, hm, bad_mk _ _ (by have := hA.2.1; have := hA.2.2.1; omega) hk2, (fb_fail μ _ _).xb, (m1.tr fr.mb).tr ?_⟩
        · rw [hX, hx, ob_e, if_pos rfl]
        · exact (((FrR.rf ν1).wr _ (Or.inr (Or.inl rfl))).wr _ (Or.inr (Or.inr rfl))).mb
      by_cases htl : tl = 0
      · have hno := ht2.mp htl
        have h83 : ν 83 v = -1 := by
          rcases hl2 v (by omega) with z | ⟨i, hi, z⟩
          · exact z
          · exact absurd (z.trans v6.symm) (hno i (Nat.zero_le i) hi)
        rw [r83, if_pos h83] at hMv
        have hx15 : f_bookR_readLine N μ = if n < 8 then f_bookR_readLine_65 N μ else some (0, wr (wr μ 1 7 3) 1 8 (ic s)) := by
          unfold f_bookR_readLine f_bookR_readLine_15 f_bookR_readLine_37
          rw [if_pos v4, if_neg (by decide), ht1', ob_e, if_pos htl, if_neg (by decide), v6, if_neg (by rw [lit_lt (by decide) (by omega)]; omega), h32]
          by_cases z : n < 8
          · rw [if_pos (by rw [lt_lit (by decide) (by omega)]; exact z), if_pos z]
          · rw [if_neg (by rw [lt_lit (by decide) (by omega)]; exact z), if_neg z, fail_e t5, ob_e, bl_0]
        by_cases hn8 : n < 8
        · rw [if_pos hn8] at hx15
          have hm124 : f_m_book_124 N (f_m_book_67 N u2) ν1 (ic n) (ic s) (ic v) = f_m_book_143 N (f_m_book_67 N u2) ν1 (ic n) (ic v) := by
            unfold f_m_book_124
            rw [fine_1 hR2.2.2.2.2, ob_e, if_neg (by decide), if_neg (by rw [eq_lit (by decide) (by omega)]; omega)]
          rw [hm124] at hMv
          have hne : ¬ ic v = -1 := by rw [ic_m1 (by omega)]; exact id
          rcases jn hN hB hA1 hR2 (lo := 0) (y := 13) (by decide) (by decide) 0 12 rfl rfl with ⟨μ2, ν2, s2, v2, x2, y2, hA2, hR3, hs2, fp2, fr2, -, hv2, -, -⟩ | ⟨μ2, ν2, x2, y2, hbd, fb2, fr2, -⟩
          · have hne2 : ¬ ic v2 = -1 := by rw [ic_m1 (by omega)]; exact id
            rcases j_sign hN hB hA2 hR3 sg59 with ⟨μ3, ν3, s3, x3, y3, hA3, hR4, hs3, fp3, fr3, -, -⟩ | ⟨μ3, ν3, x3, y3, hbd, fb3, fr3, -⟩
            · have x3' : f_tape_takeSign N μ2 59 = some (1, μ3) := x3
              have y3' : f_m_sign N ν2 59 = some ν3 := y3
              have r32 : ∀ a, a = 32 ∨ a = 33 ∨ a = 34 → μ3 a = μ a := fun a ha => by
                rw [fp3.1 a (by omega), fp2.1 a (by omega), fp.1 a (by omega)]
              have q83 : ν3 83 = ν 83 := by rw [fr3.1 83 (by decide), fr2.1 83 (by decide), r83]
              obtain ⟨μ4, hμ4⟩ : ∃ μ4 : sw_M, μ4 = wr (wr (wr μ3 33 n (ic v)) 34 n (ic v2)) 32 0 (ic (n + 1)) := ⟨_, rfl⟩
              have e32 : μ3 32 0 = ic n := by rw [r32 32 (by decide)]; exact h32
              have hxl : f_bookR_readLine N μ = some (1, μ4) := by
                rw [hx15]
                unfold f_bookR_readLine_65
                rw [x1, ob_e, if_neg hne]
                simp only
                rw [x2, ob_e, if_neg hne2]
                simp only
                rw [x3', ob_e, if_neg (show ¬ (1 : Int32) = 0 by decide)]
                simp only
                rw [e32, put_e (show n < 8 by omega) (by decide), ob_e, show (wr μ3 33 n (ic v)) 32 0 = ic n from e32, put_e (show n < 8 by omega) (by decide), ob_e, show (wr (wr μ3 33 n (ic v)) 34 n (ic v2)) 32 0 = ic n from e32, wb_e, ic_1, hμ4]
              have hml : f_m_book_67 N (u2 + 1) ν (ic n) = f_m_book_67 N u2 (wr ν3 83 v (ic v2)) (ic (n + 1)) := by
                rw [hMv]
                unfold f_m_book_143
                rw [y2, ob_e]
                simp only
                rw [y3', ob_e, fine_1 hR4.2.2.2.2, ob_e, if_neg (by decide), inb_e (by omega) (by decide), ic_n (by omega), wb_e, ic_1]
              have hA4 : AT μ4 B L s3 := by rw [hμ4]; exact hA3
              have hR5 : RT (wr ν3 83 v (ic v2)) B L s3 := hR4
              have hBL : BL μ4 (wr ν3 83 v (ic v2)) (n + 1) := by
                refine ⟨by omega, by rw [hμ4]; rfl, fun i hi => ?_, fun k hk => ?_⟩
                · have e33 : μ4 33 i = if i = n then ic v else μ 33 i := by
                    rw [hμ4]; show (if i = n then ic v else μ3 33 i) = _; rw [r32 33 (by decide)]
                  have e34 : μ4 34 i = if i = n then ic v2 else μ 34 i := by
                    rw [hμ4]; show (if i = n then ic v2 else μ3 34 i) = _; rw [r32 34 (by decide)]
                  by_cases e : i = n
                  · refine ⟨v, v2, by omega, by omega, by rw [e33, if_pos e], by rw [e34, if_pos e], ?_⟩
                    rw [wr_ap, if_pos rfl, if_pos rfl]
                  · obtain ⟨k, w, g1, g2, g3, g4, g5⟩ := hl1 i (by omega)
                    refine ⟨k, w, g1, g2, by rw [e33, if_neg e]; exact g3, by rw [e34, if_neg e]; exact g4, ?_⟩
                    have : k ≠ v := fun z => by
                      subst z
                      exact hno i (Nat.zero_le i) (by omega) (g3.trans v6.symm)
                    rw [wr_ap, if_pos rfl, if_neg this, q83]; exact g5
                · by_cases e : k = v
                  · subst e
                    right
                    refine ⟨n, by omega, ?_⟩
                    rw [hμ4]; show (if n = n then _ else _) = _; rw [if_pos rfl]
                  · rw [wr_ap, if_pos rfl, if_neg e, q83]
                    rcases hl2 k hk with z | ⟨i, hi, z⟩
                    · exact Or.inl z
                    · refine Or.inr ⟨i, by omega, ?_⟩
                      rw [hμ4]; show (if i = n then _ else μ3 33 i) = _
                      rw [if_neg (by omega), r32 33 (by decide)]; exact z
              have fx4 : XB μ μ4 := by
                refine ((fp.xb.tr fp2.xb).tr fp3.xb).tr ⟨fun a q1 q2 q3 q4 => ?_, by rw [hμ4]; rfl⟩
                rw [hμ4, wr_nr q2, wr_nr q4, wr_nr q3]
              have f18 : μ4 1 8 = μ 1 8 := by
                rw [hμ4]; show μ3 1 8 = _; rw [fp3.2.2, fp2.2.2, fp.2.2]
              have fm4 : MB ν (wr ν3 83 v (ic v2)) := (((m1.tr fr.mb).tr fr2.mb).tr fr3.mb).tr ⟨fun a _ q2 => wr_nr q2, fun j _ _ _ => rfl⟩
              rcases ih hn8 s3 μ4 _ hA4 hR5 hBL with ⟨μ', ν', n', g1, g2, g3, g4, g5, g6, g7⟩ | ⟨μ', ν', x, g1, g2, g3, g5, g7⟩
              · left
                refine ⟨μ', ν', n', ?_, by rw [hml]; exact g2, g3, g4, fx4.tr g5, g6.trans f18, fm4.tr g7⟩
                rw [hX, hxl, ob_e, if_neg (show ¬ (1 : Int32) = 0 by decide)]; exact g1
              · right
                refine ⟨μ', ν', x, ?_, by rw [hml]; exact g2, g3, fx4.tr g5, fm4.tr g7⟩
                rw [hX, hxl, ob_e, if_neg (show ¬ (1 : Int32) = 0 by decide)]; exact g1
            · right
              have x3' : f_tape_takeSign N μ2 59 = some (0, μ3) := x3
              have y3' : f_m_sign N ν2 59 = some ν3 := y3
              refine ⟨μ3, ν3, ic n, ?_, ?_, hbd, (fp.xb.tr fp2.xb).tr fb3.xb, ((m1.tr fr.mb).tr fr2.mb).tr fr3.mb⟩
              · rw [hX, hx15]
                unfold f_bookR_readLine_65
                rw [x1, ob_e, if_neg hne]
                simp only
                rw [x2, ob_e, if_neg hne2]
                simp only
                rw [x3', ob_e, if_pos rfl, ob_e, if_pos rfl]
              · rw [hMv]
                unfold f_m_book_143
                rw [y2, ob_e]
                simp only
                rw [y3', ob_e, fine_0 hbd.nf, ob_e, if_pos rfl]
          · right
            refine ⟨μ2, ν2, ic n, ?_, ?_, hbd, fp.xb.tr fb2.xb, (m1.tr fr.mb).tr fr2.mb⟩
            · rw [hX, hx15]
              unfold f_bookR_readLine_65
              rw [x1, ob_e, if_neg hne]
              simp only
              rw [x2, ob_e, if_pos rfl, ob_e, if_pos rfl]
            · rw [hMv]
              unfold f_m_book_143
              rw [y2, ob_e]
              simp only
              rw [sign_bad hbd.nf, ob_e, fine_0 hbd.nf, ob_e, if_pos rfl]
        · right
          rw [if_neg hn8] at hx15
          refine fail83 3 (by decide) (by decide) hx15 ?_
          have hbd := bad_mk μ ν1 (k := 3) (p := s) (by have := hA.2.1; have := hA.2.2.1; omega) (by decide)
          rw [hMv]
          unfold f_m_book_124
          rw [fine_1 hR2.2.2.2.2, ob_e, if_neg (by decide), if_pos (by rw [show n = 8 by omega]; rfl), wrong_1 hR2.2.2.2.2, ob_e]
          exact hbad143 _ _ hbd.nf
      · right
        have hyes : ¬ ν 83 v = -1 := by
          intro z
          apply htl
          rw [ht2]
          intro i _ hi y
          obtain ⟨k, w, g1, g2, g3, g4, g5⟩ := hl1 i hi
          have : k = v := by rw [y, v6, ic_eq (by omega) (by omega)] at g3; exact g3.symm
          subst this
          rw [g5, ic_m1 (by omega)] at z; exact z
        refine fail83 2 (by decide) (by decide) ?_ ?_
        · unfold f_bookR_readLine f_bookR_readLine_15
          rw [if_pos v4, if_neg (by decide), ht1', ob_e, if_neg htl, fail_e t5, ob_e, bl_0]; rfl
        · have hbd := bad_mk μ ν1 (k := 2) (p := s) (by have := hA.2.1; have := hA.2.2.1; omega) (by decide)
          rw [hMv, r83, if_neg hyes, wrong_1 hR2.2.2.2.2, ob_e]
          exact hbad124 _ _ hbd.nf
    · right
      have hMv := hM _ _ y1
      rw [fine_0 hbd.nf, ob_e, if_pos rfl, hbad124 _ _ hbd.nf] at hMv
      have hxl : f_bookR_readLine N μ = f_bookR_readLine_65 N μ := by
        unfold f_bookR_readLine f_bookR_readLine_15 f_bookR_readLine_37
        by_cases q4 : μ 1 4 = 257
        · rcases hwhy with z | ⟨v, hv, v6, hv2, -⟩
          · exact absurd q4 z
          · obtain ⟨tl, ht1, ht2⟩ := lp_tellsR (N := N) (μ := μ) h8 h32 (μ 1 6) n 0 N (by omega) (by omega)
            have ht1' : f_bookR_tells N μ (μ 1 6) = some tl := ht1
            have htl : tl = 0 := by
              rw [ht2]
              intro i _ hi y
              obtain ⟨k, w, g1, g2, g3, g4, g5⟩ := hl1 i hi
              rw [y, v6, ic_eq (by omega) (by omega)] at g3
              omega
            rw [if_pos q4, if_neg (by decide), ht1', ob_e, if_pos htl, if_neg (by decide), v6, if_pos (by rw [lit_lt (by decide) (by omega)]; omega)]
        · rw [if_neg q4, if_pos rfl, if_pos rfl]
      refine ⟨μ1, ν1, ic n, ?_, hMv, hbd, fb.xb, m1.tr fr.mb⟩
      rw [hX, hxl]
      unfold f_bookR_readLine_65
      rw [x1, ob_e, if_pos rfl, ob_e, if_pos rfl]
theorem lp_book {N : Nat} {B : Nat → Nat} {L : Nat} (hN : 5000 ≤ N) (hB : ∀ i, B i < 256) : ∀ (j n s : Nat) (μ ν : sw_M) (u u2 : Nat), n + j = 8 → j < u → j < u2 → AT μ B L s → RT ν B L s → BL μ ν n →
    (∃ μ' ν' n', f_bookR_read_7 N u μ (ic n) = some (1, μ') ∧ f_m_book_67 N u2 ν (ic n) = f_m_book_183 N ν' (ic n') ∧ BL μ' ν' n' ∧ ν' 63 5 = -1 ∧ XB μ μ' ∧ μ' 1 8 = μ 1 8 ∧ MB ν ν') ∨
    (∃ μ' ν' x, f_bookR_read_7 N u μ (ic n) = some (0, μ') ∧ f_m_book_67 N u2 ν (ic n) = f_m_book_183 N ν' x ∧ BAD μ' ν' ∧ XB μ μ' ∧ MB ν ν') := by
  intro j
  induction j with
  | zero =>
    intro n s μ ν u u2 hn hu hu2 hA hR hL
    obtain ⟨u, rfl⟩ := fu_s hu
    obtain ⟨u2, rfl⟩ := fu_s hu2
    exact lp_book_step hN hB u u2 (fun z => absurd z (by omega)) s μ ν hA hR hL
  | succ j ih =>
    intro n s μ ν u u2 hn hu hu2 hA hR hL
    obtain ⟨u, rfl⟩ := fu_s (show 0 < u by omega)
    obtain ⟨u2, rfl⟩ := fu_s (show 0 < u2 by omega)
    exact lp_book_step hN hB u u2 (fun _ s' μ1 ν1 a r l => ih (n + 1) s' μ1 ν1 u u2 (by omega) (by omega) (by omega) a r l) s μ ν hA hR hL
