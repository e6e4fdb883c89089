/-! ===== undo, image, restore ===== -/
theorem inv_mk {μ μ' : sw_M} {F W T P : Nat} {K O : Nat → Int32} {nl nb n m : Nat} (hQ : QI μ F W T P K O nl nb) (tp : TP μ) (h13 : μ 0 13 = μ 64 0) (h14 : μ 0 14 = μ 64 1)
    (fr : ∀ a, (a < 35 ∨ (49 ≤ a ∧ a ≠ 63 ∧ a ≠ 76 ∧ a ≠ 77 ∧ a ≠ 80 ∧ a ≠ 81 ∧ a ≠ 82 ∧ a ≠ 86)) → a ≠ 19 → a ≠ 22 → a ≠ 23 → μ' a = μ a) (f19 : μ' 19 4 = μ 19 4)
    (f63 : ∀ j, (j = 2 ∨ j = 8 ∨ (21 ≤ j ∧ j ≤ 24) ∨ j = 31 ∨ j = 46) → μ' 63 j = μ 63 j)
    (sh : SHF μ' F W T P n) (im : IMG μ' F W T P m) (hS : OKS F W T P (μ' 80)) (hD : DR μ' 35 W T P (μ' 80)) (hr : μ' 41 8 = μ' 63 37) : Inv μ' := by
  have r0 := fr 0 (by decide) (by decide) (by decide) (by decide); have r1 := fr 1 (by decide) (by decide) (by decide) (by decide); have r2 := fr 2 (by decide) (by decide) (by decide) (by decide)
  have r3 := fr 3 (by decide) (by decide) (by decide) (by decide); have r4 := fr 4 (by decide) (by decide) (by decide) (by decide); have r5 := fr 5 (by decide) (by decide) (by decide) (by decide)
  have r6 := fr 6 (by decide) (by decide) (by decide) (by decide); have r7 := fr 7 (by decide) (by decide) (by decide) (by decide); have r8 := fr 8 (by decide) (by decide) (by decide) (by decide)
  have r9 := fr 9 (by decide) (by decide) (by decide) (by decide); have r10 := fr 10 (by decide) (by decide) (by decide) (by decide)
  have r20 := fr 20 (by decide) (by decide) (by decide) (by decide); have r21 := fr 21 (by decide) (by decide) (by decide) (by decide); have r29 := fr 29 (by decide) (by decide) (by decide) (by decide)
  have r30 := fr 30 (by decide) (by decide) (by decide) (by decide); have r31 := fr 31 (by decide) (by decide) (by decide) (by decide)
  have r64 := fr 64 (by decide) (by decide) (by decide) (by decide); have r65 := fr 65 (by decide) (by decide) (by decide) (by decide); have r69 := fr 69 (by decide) (by decide) (by decide) (by decide)
  have r70 := fr 70 (by decide) (by decide) (by decide) (by decide); have r71 := fr 71 (by decide) (by decide) (by decide) (by decide); have r74 := fr 74 (by decide) (by decide) (by decide) (by decide)
  have r75 := fr 75 (by decide) (by decide) (by decide) (by decide); have r84 := fr 84 (by decide) (by decide) (by decide) (by decide)
  have c2 := f63 2 (by decide); have c8 := f63 8 (by decide); have c21 := f63 21 (by decide); have c22 := f63 22 (by decide); have c23 := f63 23 (by decide); have c24 := f63 24 (by decide); have c31 := f63 31 (by decide); have c46 := f63 46 (by decide)
  obtain ⟨hC, hM, -, -, hX, hL, hB⟩ := hQ
  refine ⟨F, W, T, P, K, O, nl, nb, n, m, ⟨?_, ?_, hS, hD, ?_, ?_, ?_⟩, ?_, sh, im, hr, ?_, ?_⟩
  · unfold CW at hC ⊢; simp only [r3, r4, r5, r6, r7, r8, r9, r10]; exact hC
  · unfold MR at hM ⊢; simp only [c21, c22, c23, c24, r69, r70, r71, r4, r5, r6, r7, r8, r9, r10]; exact hM
  · unfold XL at hX ⊢; simp only [f19, r20, r21]; exact hX
  · unfold ML at hL ⊢; simp only [c31, r74, r75]; exact hL
  · unfold BK at hB ⊢; simp only [r29, r30, r31, c46, r84]; exact hB
  · unfold TP at tp ⊢; simp only [r1, r2, c2, c8, r65]; exact tp
  · rw [r0, r64]; exact h13
  · rw [r0, r64]; exact h14
theorem lp_undo {N : Nat} {w : Nat} (hw : w < 16) : ∀ (j k : Nat) (μ : sw_M) (n : Nat), k + j = 49 → j < n → μ 63 36 = ic w → f_m_undo_26 N n μ (ic k) = some (ic w, wr (wrR μ 80 (fun i => if k ≤ i ∧ i < 49 then μ 82 (49 * w + i) else μ 80 i)) 63 37 0)
  | 0, k, μ, n, hk, hn, h => by
    obtain ⟨n, rfl⟩ := fu_s hn
    rw [f_m_undo_26, if_pos (by rw [lit_le (by decide) (by omega)]; omega), wb_e, show (fun i => if k ≤ i ∧ i < 49 then μ 82 (49 * w + i) else μ 80 i) = μ 80 by funext i; rw [if_neg (by omega)], wrR_self]
    rw [show (wr μ 63 37 0) 63 36 = ic w from h]
  | j + 1, k, μ, n, hk, hn, h => by
    obtain ⟨n, rfl⟩ := fu_s (show 0 < n by omega)
    have ih := lp_undo (N := N) hw j (k + 1) (wr μ 80 k (μ 82 (49 * w + k))) n (by omega) (by omega) h
    rw [f_m_undo_26, if_neg (by rw [lit_le (by decide) (by omega)]; omega), h, lit_mul, ic_add, inb_e (by omega) (by decide), inb_e (by omega) (by decide), ic_n (by omega), ic_n (by omega), wb_e, ic_1, ih, wr_up μ 80, wrR_wrR, wrR_r, wrR_nr (show 82 ≠ 80 by decide)]
    congr 4
    funext i
    by_cases e : i = k
    · subst e; rw [if_neg (by omega), up_s, if_pos (by omega)]
    · rw [up_n e]
      by_cases e3 : k ≤ i ∧ i < 49
      · rw [if_pos e3, if_pos (by omega)]
      · rw [if_neg e3, if_neg (by omega)]
theorem op_undo {N : Nat} {μ : sw_M} (hN : 5000 ≤ N) (hI : Inv μ) : ∃ v μ1 μ2, f_x_undo N μ = some (v, μ1) ∧ f_m_undo N μ1 = some (v, μ2) ∧ Inv μ2 := by
  obtain ⟨F, W, T, P, K, O, nl, nb, n, m, hQ, tp, hs, hm, -, h13, h14⟩ := id hI
  have hC := hQ.1
  have hW' := hC.w12; have hT' := hC.t6; have hP' := hC.p5
  obtain ⟨s1, s2, s3, s4⟩ := id hs
  by_cases hn : n = 0
  · subst hn
    refine ⟨-1, μ, wr μ 63 0 0, ?_, ?_, hI.sm ((SM.rf μ).wr63 0 0 (Or.inl rfl))⟩
    · unfold f_x_undo; rw [s2, if_neg (by decide)]
    · unfold f_m_undo; rw [wb_e, show (wr μ 63 0 0) 63 36 = 0 from s3, if_pos rfl]
  · obtain ⟨u, rfl⟩ : ∃ u, n = u + 1 := ⟨n - 1, by omega⟩
    obtain ⟨μ1, e1, f1, d1⟩ := e_load_days (N := N) (k0 := 46) (n0 := 608) (r := u) (by decide) (by omega) (by decide) (wr μ 45 4 (ic u))
    have hor := s4 u (by omega)
    have e3 : f_m_undo N (wr μ1 41 8 0) = some (ic u, wr (wrR (wr (wr (wr μ1 41 8 0) 63 0 0) 63 36 (ic u)) 80 (fun i => if 0 ≤ i ∧ i < 49 then μ1 82 (49 * u + i) else μ1 80 i)) 63 37 0) := by
      have q := lp_undo (N := N) (w := u) (by omega) 49 0 (wr (wr (wr μ1 41 8 0) 63 0 0) 63 36 (ic u)) N (by omega) (by omega) rfl
      have t : (wr (wr μ1 41 8 0) 63 0 0) 63 36 = ic (u + 1) := by
        show μ1 63 36 = _; rw [f1 63 (by decide)]; exact s3
      unfold f_m_undo
      rw [wb_e, t, if_neg (by rw [eq_lit (by decide) (by omega)]; omega), wb_e, ic_s1]
      exact q
    generalize hg : (fun i => if 0 ≤ i ∧ i < 49 then μ1 82 (49 * u + i) else μ1 80 i) = g at e3
    have hgi : ∀ i, i < 49 → g i = μ 82 (49 * u + i) := by
      intro i hi; rw [← hg]; show (if 0 ≤ i ∧ i < 49 then μ1 82 (49 * u + i) else μ1 80 i) = _
      rw [if_pos (by omega), f1 82 (by decide)]; rfl
    refine ⟨ic u, wr μ1 41 8 0, _, ?_, e3, ?_⟩
    · unfold f_x_undo f_shelf_back
      rw [s2, if_pos (by rw [lit_lt (by decide) (by omega)]; omega), if_neg (by rw [le_lit (by decide) (by omega)]; omega), ic_s1, wb_e, show (wr μ 45 4 (ic u)) 45 4 = ic u from rfl, e1, ob_e, ob_e, wb_e]
      congr 2
      show μ1 45 4 = ic u
      rw [f1 45 (by decide)]; rfl
    · refine inv_mk (μ := μ) hQ tp h13 h14 (fun a ha _ _ _ => ?_) ?_ (fun j hj => ?_) (n := u) (m := m) ?_ ?_ ?_ ?_ rfl
      · rw [wr_nr (by omega), wrR_nr (by omega), wr_nr (by omega), wr_nr (by omega), wr_nr (by omega), f1 a (by omega), wr_nr (by omega)]
      · show μ1 19 4 = _; rw [f1 19 (by decide)]; rfl
      · rw [wr_ap, if_pos rfl, if_neg (by omega), wrR_nr (by decide), wr_ap, if_pos rfl, if_neg (by omega), wr_ap, if_pos rfl, if_neg (by omega), wr_nr (by decide), f1 63 (by decide)]; rfl
      · refine ⟨by omega, ?_, rfl, fun i hi => ?_⟩
        · show μ1 45 4 = _; rw [f1 45 (by decide)]; rfl
        · show OR F W T P (fun j => μ1 46 (38 * i + j)) (fun j => μ1 82 (49 * i + j))
          rw [f1 46 (by decide), f1 82 (by decide)]; exact s4 i (by omega)
      · obtain ⟨i1, i2, i3, i4⟩ := hm
        refine ⟨i1, ?_, ?_, fun i hi => ?_⟩
        · show μ1 45 5 = _; rw [f1 45 (by decide)]; exact i2
        · show μ1 63 50 = _; rw [f1 63 (by decide)]; exact i3
        · have := i4 i hi
          unfold IM1 at this ⊢
          show OR F W T P (fun j => μ1 47 (646 * i + j)) (fun j => μ1 86 (834 * i + j)) ∧ ∃ k : Nat, k ≤ 16 ∧ μ1 48 i = ic k ∧ μ1 86 (834 * i + 833) = ic k ∧ ∀ q, q < k → OR F W T P (fun j => μ1 47 (646 * i + 38 + 38 * q + j)) (fun j => μ1 86 (834 * i + 49 + 49 * q + j))
          rw [f1 47 (by decide), f1 86 (by decide), f1 48 (by decide)]; exact this
      · have e80 : (wr (wrR (wr (wr (wr μ1 41 8 0) 63 0 0) 63 36 (ic u)) 80 g) 63 37 0) 80 = g := by rw [wr_nr (by decide), wrR_r]
        rw [e80]
        refine ⟨hor.1.1.cg hW' hT' hP' hgi, ?_⟩
        rw [hgi 48 (by decide)]; exact hor.1.2
      · have e80 : (wr (wrR (wr (wr (wr μ1 41 8 0) 63 0 0) 63 36 (ic u)) 80 g) 63 37 0) 80 = g := by rw [wr_nr (by decide), wrR_r]
        rw [e80]
        have hd := d1 W T P (fun j => μ 82 (49 * u + j)) hW' hT' hP' hor.2
        exact (hd.fr (fun a h1 h2 => by rw [wr_nr (by omega), wrR_nr (by omega), wr_nr (by omega), wr_nr (by omega), wr_nr (by omega)])).cg hW' hT' hP' hgi
theorem lp_keep {N k0 n0 b sz : Nat} (hk : k0 ≠ 86) (h0 : sz ≤ n0) (hb : b + sz ≤ 2502) (hn0 : n0 < 100000) : ∀ (j k : Nat) (μ : sw_M) (n : Nat), k + j = sz → j < n → f_m_keepsRow_3 N k0 n0 n μ (ic b) (ic sz) 1 (ic k) = some (ic (b + sz), wrR μ 86 (fun i => if b + k ≤ i ∧ i < b + sz then μ k0 (i - b) else μ 86 i))
  | 0, k, μ, n, h, hn => by
    obtain ⟨n, rfl⟩ := fu_s hn
    rw [f_m_keepsRow_3, if_pos (by rw [ic_le (by omega) (by omega)]; omega), ic_add, show (fun i => if b + k ≤ i ∧ i < b + sz then μ k0 (i - b) else μ 86 i) = μ 86 by funext i; rw [if_neg (by omega)], wrR_self]
  | j + 1, k, μ, n, h, hn => by
    obtain ⟨n, rfl⟩ := fu_s (show 0 < n by omega)
    have ih := lp_keep (N := N) hk h0 hb hn0 j (k + 1) (wr μ 86 (b + k) (μ k0 k)) n (by omega) (by omega)
    rw [f_m_keepsRow_3, if_neg (by rw [ic_le (by omega) (by omega)]; omega), if_neg (by decide), inb_e (by omega) (by omega), ic_add, inb_e (by omega) (by decide), ic_n (by omega), ic_n (by omega), wb_e, ic_1, ih, wr_up, wrR_wrR, wrR_r, wrR_nr hk]
    congr 3
    funext i
    by_cases e : i = b + k
    · subst e; rw [if_neg (by omega), up_s, if_pos (by omega)]; congr 1; omega
    · rw [up_n e]
      by_cases e3 : b + k ≤ i ∧ i < b + sz
      · rw [if_pos e3, if_pos (by omega)]
      · rw [if_neg e3, if_neg (by omega)]
theorem lp_bring {N k0 n0 b sz : Nat} (hk : k0 ≠ 86) (h0 : sz ≤ n0) (hb : b + sz ≤ 2502) (hn0 : n0 < 100000) : ∀ (j k : Nat) (μ : sw_M) (n : Nat), k + j = sz → j < n → f_m_keepsRow_3 N k0 n0 n μ (ic b) (ic sz) 0 (ic k) = some (ic (b + sz), wrR μ k0 (fun i => if k ≤ i ∧ i < sz then μ 86 (b + i) else μ k0 i))
  | 0, k, μ, n, h, hn => by
    obtain ⟨n, rfl⟩ := fu_s hn
    rw [f_m_keepsRow_3, if_pos (by rw [ic_le (by omega) (by omega)]; omega), ic_add, show (fun i => if k ≤ i ∧ i < sz then μ 86 (b + i) else μ k0 i) = μ k0 by funext i; rw [if_neg (by omega)], wrR_self]
  | j + 1, k, μ, n, h, hn => by
    obtain ⟨n, rfl⟩ := fu_s (show 0 < n by omega)
    have ih := lp_bring (N := N) hk h0 hb hn0 j (k + 1) (wr μ k0 k (μ 86 (b + k))) n (by omega) (by omega)
    rw [f_m_keepsRow_3, if_neg (by rw [ic_le (by omega) (by omega)]; omega), if_pos rfl, ic_add, inb_e (by omega) (by decide), inb_e (by omega) (by omega), ic_n (by omega), ic_n (by omega), wb_e, ic_1, ih, wr_up, wrR_wrR, wrR_r, wrR_nr (Ne.symm hk)]
    congr 3
    funext i
    by_cases e : i = k
    · subst e; rw [if_neg (by omega), up_s, if_pos (by omega)]
    · rw [up_n e]
      by_cases e3 : k ≤ i ∧ i < sz
      · rw [if_pos e3, if_pos (by omega)]
      · rw [if_neg e3, if_neg (by omega)]
theorem cpc_3 {α : Type} {a b n0 n1 : Nat} (h0 : a + 608 ≤ n0) (h1 : b + 608 ≤ n1) (q0 : n0 < 2147483648) (q1 : n1 < 2147483648) (k : Option α) : cpc (ic a) (ic b) (Int32.ofNat 608) n0 n1 k = k := by
  unfold cpc
  rw [if_neg]
  rw [show Int32.ofNat 608 = ic 608 from rfl, ic_lt0 (by omega), ic_lt0 (by omega), ic_lt0 (by omega), ic_n (by omega), ic_n (by omega), ic_n (by omega)]
  rintro (z | z | z | z | z)
  · exact z
  · exact z
  · exact z
  · omega
  · omega
theorem op_image {N : Nat} {μ : sw_M} (hN : 5000 ≤ N) (hI : Inv μ) : ∃ v μ1 μ2, f_x_image N μ = some (v, μ1) ∧ f_m_image N μ1 = some (v, μ2) ∧ Inv μ2 := by
  obtain ⟨F, W, T, P, K, O, nl, nb, n, m, hQ, tp, hs, hm, hrf, h13, h14⟩ := id hI
  have hC := hQ.1
  have hW' := hC.w12; have hT' := hC.t6; have hP' := hC.p5
  obtain ⟨s1, s2, s3, s4⟩ := id hs
  obtain ⟨i1, i2, i3, i4⟩ := id hm
  by_cases hm3 : m = 3
  · subst hm3
    refine ⟨-1, μ, wr μ 63 0 0, ?_, ?_, hI.sm ((SM.rf μ).wr63 0 0 (Or.inl rfl))⟩
    · unfold f_x_image; rw [i2, if_neg (by decide)]
    · unfold f_m_image; rw [wb_e, show (wr μ 63 0 0) 63 50 = 3 from i3, if_pos rfl]
  · have hm2 : m ≤ 2 := by omega
    have e1 := e_save (N := N) (k0 := 47) (n0 := 1938) (r := 17 * m) (by decide) (by omega) (by decide) μ
    obtain ⟨A, hA⟩ : ∃ A : Nat → Int32, A = va_cpy (μ 46) (svF μ (μ 47) (38 * (17 * m))) 0 (646 * m + 38) 608 := ⟨_, rfl⟩
    obtain ⟨B, hB⟩ : ∃ B : Nat → Int32, B = up (fun i => if 834 * m + 49 ≤ i ∧ i < 834 * m + 833 then μ 82 (i - (834 * m + 49)) else if 834 * m ≤ i ∧ i < 834 * m + 49 then μ 80 (i - 834 * m) else μ 86 i) (834 * m + 833) (ic n) := ⟨_, rfl⟩
    refine ⟨ic (m + 1), wr (wr (wrR μ 47 A) 48 m (ic n)) 45 5 (ic (m + 1)), wr (wrR (wr (wr (wr (wrR μ 47 A) 48 m (ic n)) 45 5 (ic (m + 1))) 63 0 0) 86 B) 63 50 (ic (m + 1)), ?_, ?_, ?_⟩
    · unfold f_x_image f_shelf_keepImage
      rw [i2, if_pos (by rw [lt_lit (by decide) (by omega)]; omega), if_neg (by rw [lit_le (by decide) (by omega)]; omega), ib_e, mul_lit, Nat.mul_comm, e1, ob_e, ic_1, mul_lit, show (17 * m + 1) * 38 = 646 * m + 38 by omega, show (0 : Int32) = ic 0 from rfl, cpc_3 (by omega) (by omega) (by decide) (by decide), wb_e]
      have q45 : ∀ j, (wrR (wrR μ 47 (svF μ (μ 47) (38 * (17 * m)))) 47 (va_cpy (wrR μ 47 (svF μ (μ 47) (38 * (17 * m))) 46) (wrR μ 47 (svF μ (μ 47) (38 * (17 * m))) 47) (ic 0).toNatClampNeg (ic (646 * m + 38)).toNatClampNeg (Int32.ofNat 608).toNatClampNeg)) 45 j = μ 45 j := fun _ => rfl
      have eA : wrR (wrR μ 47 (svF μ (μ 47) (38 * (17 * m)))) 47 (va_cpy (wrR μ 47 (svF μ (μ 47) (38 * (17 * m))) 46) (wrR μ 47 (svF μ (μ 47) (38 * (17 * m))) 47) (ic 0).toNatClampNeg (ic (646 * m + 38)).toNatClampNeg (Int32.ofNat 608).toNatClampNeg) = wrR μ 47 A := by
        rw [wrR_wrR, wrR_r, wrR_nr (show 46 ≠ 47 by decide), ic_n (by decide), ic_n (by omega), show (Int32.ofNat 608).toNatClampNeg = 608 from rfl, hA]
      rw [eA]
      have t5 : (wrR μ 47 A) 45 5 = ic m := i2
      have t4 : (wrR μ 47 A) 45 4 = ic n := s2
      rw [t5, inb_e (by omega) (by decide), ic_n (by omega), wb_e, t4]
      have t6 : (wr (wrR μ 47 A) 48 m (ic n)) 45 5 = ic m := i2
      rw [t6, wb_e, ic_1]; rfl
    · show f_m_image N (wr (wr (wrR μ 47 A) 48 m (ic n)) 45 5 (ic (m + 1))) = _
      generalize hν : wr (wr (wrR μ 47 A) 48 m (ic n)) 45 5 (ic (m + 1)) = ν
      have v50 : (wr ν 63 0 0) 63 50 = ic m := by rw [← hν]; exact i3
      have v36 : ∀ g, (wrR (wr ν 63 0 0) 86 g) 63 36 = ic n := fun g => by rw [← hν]; exact s3
      have v80 : (wr ν 63 0 0) 80 = μ 80 := by rw [← hν]; rfl
      have v82 : ∀ g, (wrR (wr ν 63 0 0) 86 g) 82 = μ 82 := fun g => by rw [← hν]; rfl
      have v86 : (wr ν 63 0 0) 86 = μ 86 := by rw [← hν]; rfl
      have k1 := lp_keep (N := N) (k0 := 80) (n0 := 49) (b := 834 * m) (sz := 49) (by decide) (by decide) (by omega) (by decide) 49 0 (wr ν 63 0 0) N (by omega) (by omega)
      rw [v80, v86] at k1
      have k2 := fun g => lp_keep (N := N) (k0 := 82) (n0 := 784) (b := 834 * m + 49) (sz := 784) (by decide) (by decide) (by omega) (by decide) 784 0 (wrR (wr ν 63 0 0) 86 g) N (by omega) (by omega)
      unfold f_m_image f_m_keepsAll f_m_keepsRow
      rw [wb_e, v50, if_neg (by rw [eq_lit (by decide) (by omega)]; exact hm3), lit_mul]
      have k1' : f_m_keepsRow_3 N 80 49 N (wr ν 63 0 0) (ic (834 * m)) 49 1 0 = _ := k1
      rw [k1', ob_e]
      have k2' := k2 (fun i => if 834 * m + 0 ≤ i ∧ i < 834 * m + 49 then μ 80 (i - 834 * m) else μ 86 i)
      rw [v82, wrR_r, wrR_wrR] at k2'
      have k2'' : f_m_keepsRow_3 N 82 784 N (wrR (wr ν 63 0 0) 86 (fun i => if 834 * m + 0 ≤ i ∧ i < 834 * m + 49 then μ 80 (i - 834 * m) else μ 86 i)) (ic (834 * m + 49)) 784 1 0 = _ := k2'
      simp only
      rw [k2'', ob_e, if_neg (by decide)]
      simp only
      rw [inb_e (by omega) (by decide), ic_n (by omega), wb_e, v36, ob_e, wr_up _ 86, wrR_wrR, wrR_r]
      have t50 : ∀ g, (wrR (wr ν 63 0 0) 86 g) 63 50 = ic m := fun g => v50
      rw [t50, wb_e, ic_1]
      have eB : up (fun i => if 834 * m + 49 + 0 ≤ i ∧ i < 834 * m + 49 + 784 then μ 82 (i - (834 * m + 49)) else if 834 * m + 0 ≤ i ∧ i < 834 * m + 49 then μ 80 (i - 834 * m) else μ 86 i) (834 * m + 49 + 784) (ic n) = B := by
        rw [hB]; funext i; simp only [up_ap, Nat.add_zero, show 834 * m + 49 + 784 = 834 * m + 833 by omega]
      rw [eB]; rfl
    · have bOut : ∀ i, i < 834 * m → B i = μ 86 i := fun i hi => by
        rw [hB, up_n (by omega)]; show (if _ then _ else if _ then _ else _) = _
        rw [if_neg (by omega), if_neg (by omega)]
      have aOut : ∀ i, i < 646 * m → A i = μ 47 i := fun i hi => by
        rw [hA]; unfold va_cpy; rw [if_neg (by omega), sv_out (by omega)]
      refine inv_mk (μ := μ) hQ tp h13 h14 (fun a ha _ _ _ => ?_) rfl (fun j hj => ?_) (n := n) (m := m + 1) ?_ ?_ ?_ ?_ hrf
      · rw [wr_nr (by omega), wrR_nr (by omega), wr_nr (by omega), wr_nr (by omega), wr_nr (by omega), wrR_nr (by omega)]
      · rw [wr_ap, if_pos rfl, if_neg (by omega), wrR_nr (by decide), wr_ap, if_pos rfl, if_neg (by omega)]; rfl
      · exact hs
      · refine ⟨by omega, rfl, rfl, fun i hi => ?_⟩
        show OR F W T P (fun j => A (646 * i + j)) (fun j => B (834 * i + j)) ∧ ∃ k : Nat, k ≤ 16 ∧ (wr (wrR μ 47 A) 48 m (ic n)) 48 i = ic k ∧ B (834 * i + 833) = ic k ∧ ∀ q, q < k → OR F W T P (fun j => A (646 * i + 38 + 38 * q + j)) (fun j => B (834 * i + 49 + 49 * q + j))
        by_cases e : i = m
        · subst e
          refine ⟨⟨?_, ?_⟩, n, s1, ?_, ?_, fun q hq => ?_⟩
          · have hb : ∀ j, j < 49 → B (834 * i + j) = μ 80 j := fun j hj => by
              rw [hB, up_n (by omega)]; show (if _ then _ else if _ then _ else _) = _
              rw [if_neg (by omega), if_pos (by omega)]; congr 1; omega
            refine ⟨hQ.2.2.1.1.cg hW' hT' hP' hb, ?_⟩
            show ∃ h : Nat, h ≤ 400 ∧ B (834 * i + 48) = ic h
            rw [hb 48 (by decide)]; exact hQ.2.2.1.2
          · have hb : ∀ j, j < 49 → B (834 * i + j) = μ 80 j := fun j hj => by
              rw [hB, up_n (by omega)]; show (if _ then _ else if _ then _ else _) = _
              rw [if_neg (by omega), if_pos (by omega)]; congr 1; omega
            have hr := RW.sv hW' hT' hP' hQ.2.2.2.1 (μ 47) (38 * (17 * i))
            refine hr.cg hW' hT' hP' hb (fun j hj => ?_)
            rw [hA]; unfold va_cpy
            rw [if_neg (by omega)]
            congr 1; omega
          · rw [wr_ap, if_pos rfl, if_pos rfl]
          · rw [hB, up_s]
          · have ho := s4 q hq
            refine ho.cg hW' hT' hP' (fun j hj => ?_) (fun j hj => ?_)
            · rw [hB, up_n (by omega)]; show (if _ then _ else if _ then _ else _) = _
              rw [if_pos (by omega)]; congr 1; omega
            · rw [hA]; unfold va_cpy; rw [if_pos (by omega)]; congr 1; omega
        · have ho := i4 i (by omega)
          obtain ⟨o1', k, k1, k2, k3, k4⟩ := ho
          refine ⟨o1'.cg hW' hT' hP' (fun j hj => bOut _ (by omega)) (fun j hj => aOut _ (by omega)), k, k1, ?_, ?_, fun q hq => (k4 q hq).cg hW' hT' hP' (fun j hj => bOut _ (by omega)) (fun j hj => aOut _ (by omega))⟩
          · rw [wr_ap, if_pos rfl, if_neg e]; exact k2
          · rw [bOut _ (by omega)]; exact k3
      · exact hQ.2.2.1
      · exact hQ.2.2.2.1
theorem op_restore {N : Nat} {μ : sw_M} (hN : 5000 ≤ N) (hI : Inv μ) : ∃ v μ1 μ2, f_x_restore N μ = some (v, μ1) ∧ f_m_restore N μ1 = some (v, μ2) ∧ Inv μ2 := by
  obtain ⟨F, W, T, P, K, O, nl, nb, n, m, hQ, tp, hs, hm, hrf, h13, h14⟩ := id hI
  have hC := hQ.1
  have hW' := hC.w12; have hT' := hC.t6; have hP' := hC.p5
  obtain ⟨s1, s2, s3, s4⟩ := id hs
  obtain ⟨i1, i2, i3, i4⟩ := id hm
  by_cases hm0 : m = 0
  · subst hm0
    refine ⟨-1, μ, wr μ 63 0 0, ?_, ?_, hI.sm ((SM.rf μ).wr63 0 0 (Or.inl rfl))⟩
    · unfold f_x_restore; rw [i2, if_neg (by decide)]
    · unfold f_m_restore; rw [wb_e, show (wr μ 63 0 0) 63 50 = 0 from i3, if_pos rfl]
  · obtain ⟨u, rfl⟩ : ∃ u, m = u + 1 := ⟨m - 1, by omega⟩
    obtain ⟨μ1, e1, f1, d1⟩ := e_load_days (N := N) (k0 := 47) (n0 := 1938) (r := 17 * u) (by decide) (by omega) (by decide) (wr μ 45 5 (ic u))
    obtain ⟨ho, k, k1, k2, k3, k4⟩ := i4 u (by omega)
    have r47 : μ1 47 = μ 47 := by rw [f1 47 (by decide)]; rfl
    have r86 : μ1 86 = μ 86 := by rw [f1 86 (by decide)]; rfl
    have r48 : μ1 48 = μ 48 := by rw [f1 48 (by decide)]; rfl
    have r45 : μ1 45 5 = ic u := by rw [f1 45 (by decide)]; rfl
    obtain ⟨A, hA⟩ : ∃ A : Nat → Int32, A = va_cpy (μ 47) (μ1 46) (646 * u + 38) 0 608 := ⟨_, rfl⟩
    obtain ⟨B, hB⟩ : ∃ B : Nat → Int32, B = fun i => if 0 ≤ i ∧ i < 49 then μ 86 (834 * u + i) else μ1 80 i := ⟨_, rfl⟩
    obtain ⟨D, hDD⟩ : ∃ D : Nat → Int32, D = fun i => if 0 ≤ i ∧ i < 784 then μ 86 (834 * u + 49 + i) else μ1 82 i := ⟨_, rfl⟩
    refine ⟨ic u, wr (wr (wrR μ1 46 A) 45 4 (ic k)) 41 8 0, wr (wr (wrR (wrR (wr (wr (wr (wr (wrR μ1 46 A) 45 4 (ic k)) 41 8 0) 63 0 0) 63 50 (ic u)) 80 B) 82 D) 63 36 (ic k)) 63 37 0, ?_, ?_, ?_⟩
    · unfold f_x_restore f_shelf_bringImage
      rw [i2, if_pos (by rw [lit_lt (by decide) (by omega)]; omega), if_neg (by rw [le_lit (by decide) (by omega)]; omega), wb_e, ic_s1, show (wr μ 45 5 (ic u)) 45 5 = ic u from rfl, ib_e, mul_lit, Nat.mul_comm, e1, ob_e, ic_1, mul_lit, show (17 * u + 1) * 38 = 646 * u + 38 by omega, show (0 : Int32) = ic 0 from rfl, cpc_3 (by omega) (by omega) (by decide) (by decide), wb_e]
      have eA : va_cpy (μ1 47) (μ1 46) (ic (646 * u + 38)).toNatClampNeg (ic 0).toNatClampNeg (Int32.ofNat 608).toNatClampNeg = A := by
        rw [ic_n (by omega), ic_n (by omega), show (Int32.ofNat 608).toNatClampNeg = 608 from rfl, hA, r47]
      rw [eA]
      have t5 : (wrR μ1 46 A) 45 5 = ic u := r45
      have t48 : (wrR μ1 46 A) 48 u = ic k := by show μ1 48 u = _; rw [r48]; exact k2
      rw [t5, inb_e (by omega) (by decide), ic_n (by omega), t48, wb_e, ob_e, wb_e]
      congr 2
    · show f_m_restore N (wr (wr (wrR μ1 46 A) 45 4 (ic k)) 41 8 0) = _
      generalize hν : wr (wr (wrR μ1 46 A) 45 4 (ic k)) 41 8 0 = ν
      have v50 : (wr ν 63 0 0) 63 50 = ic (u + 1) := by rw [← hν]; show μ1 63 50 = _; rw [f1 63 (by decide)]; exact i3
      have v80 : (wr (wr ν 63 0 0) 63 50 (ic u)) 80 = μ1 80 := by rw [← hν]; rfl
      have v82 : ∀ g, (wrR (wr (wr ν 63 0 0) 63 50 (ic u)) 80 g) 82 = μ1 82 := fun g => by rw [← hν]; rfl
      have v86 : (wr (wr ν 63 0 0) 63 50 (ic u)) 86 = μ 86 := by rw [← hν]; exact r86
      have v86' : ∀ g, (wrR (wr (wr ν 63 0 0) 63 50 (ic u)) 80 g) 86 = μ 86 := fun g => by rw [← hν]; exact r86
      have q1 := lp_bring (N := N) (k0 := 80) (n0 := 49) (b := 834 * u) (sz := 49) (by decide) (by decide) (by omega) (by decide) 49 0 (wr (wr ν 63 0 0) 63 50 (ic u)) N (by omega) (by omega)
      rw [v80, v86, ← hB] at q1
      have q2 := lp_bring (N := N) (k0 := 82) (n0 := 784) (b := 834 * u + 49) (sz := 784) (by decide) (by decide) (by omega) (by decide) 784 0 (wrR (wr (wr ν 63 0 0) 63 50 (ic u)) 80 B) N (by omega) (by omega)
      rw [v82, v86', ← hDD] at q2
      unfold f_m_restore f_m_keepsAll f_m_keepsRow
      rw [wb_e, v50, if_neg (by rw [eq_lit (by decide) (by omega)]; omega), wb_e, ic_s1, show (wr (wr ν 63 0 0) 63 50 (ic u)) 63 50 = ic u from rfl, lit_mul]
      have q1' : f_m_keepsRow_3 N 80 49 N (wr (wr ν 63 0 0) 63 50 (ic u)) (ic (834 * u)) 49 0 0 = _ := q1
      rw [q1', ob_e]
      have q2' : f_m_keepsRow_3 N 82 784 N (wrR (wr (wr ν 63 0 0) 63 50 (ic u)) 80 B) (ic (834 * u + 49)) 784 0 0 = _ := q2
      simp only
      rw [q2', ob_e, if_pos trivial]
      simp only
      have t86 : (wrR (wrR (wr (wr ν 63 0 0) 63 50 (ic u)) 80 B) 82 D) 86 (834 * u + 49 + 784) = ic k := by
        rw [← hν]; show μ1 86 (834 * u + 49 + 784) = ic k; rw [r86, show 834 * u + 49 + 784 = 834 * u + 833 by omega]; exact k3
      rw [inb_e (by omega) (by decide), ic_n (by omega), t86, wb_e, ob_e, wb_e]
      rfl
    · have hBi : ∀ j, j < 49 → B j = μ 86 (834 * u + j) := fun j hj => by rw [hB]; show (if _ then _ else _) = _; rw [if_pos (by omega)]
      have hDi : ∀ j, j < 784 → D j = μ 86 (834 * u + 49 + j) := fun j hj => by rw [hDD]; show (if _ then _ else _) = _; rw [if_pos (by omega)]
      have hAi : ∀ j, j < 608 → A j = μ 47 (646 * u + 38 + j) := fun j hj => by rw [hA]; unfold va_cpy; rw [if_pos (by omega)]; congr 1
      refine inv_mk (μ := μ) hQ tp h13 h14 (fun a ha _ _ _ => ?_) ?_ (fun j hj => ?_) (n := k) (m := u) ?_ ?_ ?_ ?_ rfl
      · rw [wr_nr (by omega), wr_nr (by omega), wrR_nr (by omega), wrR_nr (by omega), wr_nr (by omega), wr_nr (by omega), wr_nr (by omega), wr_nr (by omega), wrR_nr (by omega), f1 a (by omega), wr_nr (by omega)]
      · show μ1 19 4 = _; rw [f1 19 (by decide)]; rfl
      · rw [wr_ap, if_pos rfl, if_neg (by omega), wr_ap, if_pos rfl, if_neg (by omega), wrR_nr (by decide), wrR_nr (by decide), wr_ap, if_pos rfl, if_neg (by omega), wr_ap, if_pos rfl, if_neg (by omega), wr_nr (by decide), wr_nr (by decide), wrR_nr (by decide), f1 63 (by decide)]; rfl
      · refine ⟨k1, rfl, rfl, fun i hi => ?_⟩
        show OR F W T P (fun j => A (38 * i + j)) (fun j => D (49 * i + j))
        refine (k4 i hi).cg hW' hT' hP' (fun j hj => ?_) (fun j hj => ?_)
        · rw [hDi _ (by omega)]; congr 1; omega
        · rw [hAi _ (by omega)]; congr 1; omega
      · refine ⟨by omega, ?_, rfl, fun i hi => ?_⟩
        · show μ1 45 5 = _; exact r45
        · have := i4 i (by omega)
          unfold IM1 at this ⊢
          show OR F W T P (fun j => μ1 47 (646 * i + j)) (fun j => μ1 86 (834 * i + j)) ∧ ∃ k : Nat, k ≤ 16 ∧ μ1 48 i = ic k ∧ μ1 86 (834 * i + 833) = ic k ∧ ∀ q, q < k → OR F W T P (fun j => μ1 47 (646 * i + 38 + 38 * q + j)) (fun j => μ1 86 (834 * i + 49 + 49 * q + j))
          rw [r47, r86, r48]; exact this
      · show OKS F W T P B
        refine ⟨ho.1.1.cg hW' hT' hP' hBi, ?_⟩
        rw [hBi 48 (by decide)]; exact ho.1.2
      · show DR _ 35 W T P B
        have hd := d1 W T P (fun j => μ 86 (834 * u + j)) hW' hT' hP' (by
          have : (fun j => (wr μ 45 5 (ic u)) 47 (38 * (17 * u) + j)) = fun j => μ 47 (646 * u + j) := by
            funext j; show μ 47 _ = _; congr 1; omega
          rw [this]; exact ho.2)
        exact (hd.fr (fun a h1 h2 => by rw [wr_nr (by omega), wr_nr (by omega), wrR_nr (by omega), wrR_nr (by omega), wr_nr (by omega), wr_nr (by omega), wr_nr (by omega), wr_nr (by omega), wrR_nr (by omega)])).cg hW' hT' hP' hBi
