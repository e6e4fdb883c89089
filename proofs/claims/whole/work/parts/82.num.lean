/-! ===== numbers below a bound, for both ===== -/
theorem le_m1 {v y : Nat} (hv : v < 1000000000) (hy : y < 1000000000) : (ic v ≤ ic y - 1) ↔ v < y := by
  rw [Int32.le_iff_toInt_le, show ic y - 1 = ic y - ic 1 from rfl, ic_sub_toInt (by omega) (by omega), ic_toInt (by omega)]
  omega
theorem jn2 {N : Nat} {μ ν : sw_M} {B : Nat → Nat} {L s lo y1 y2 : Nat} (hN : 5000 ≤ N) (hB : ∀ i, B i < 256) (hA : AT μ B L s) (hR : RT ν B L s) (hlo : lo ≤ 9) (hy1 : y1 ≤ y2) (hy2 : y2 ≤ 1000) (x0 x1 x2 : Int32) (hx0 : x0 = ic lo) (hx1 : x1 = ic y1 - 1) (hx2 : x2 = ic y2 - 1) :
    (∃ μ' ν' s' v, f_tape_takeNumber N μ x0 x1 = some (ic v, μ') ∧ f_m_readNumber N ν x0 x2 = some (ic v, ν') ∧ AT μ' B L s' ∧ RT ν' B L s' ∧ s < s' ∧ FrP μ μ' ∧ FrR ν ν' ∧ lo ≤ v ∧ v < y1 ∧ μ 1 6 = ic v ∧ μ 1 4 = 257) ∨
    (∃ ν' v, f_tape_takeNumber N μ x0 x1 = some (-1, wr (wr μ 1 7 2) 1 8 (ic s)) ∧ f_m_readNumber N ν x0 x2 = some (ic v, ν') ∧ ν' 63 5 = -1 ∧ FrR ν ν' ∧ lo ≤ v ∧ y1 ≤ v ∧ v < y2 ∧ μ 1 6 = ic v ∧ μ 1 4 = 257) ∨
    (∃ μ' ν', f_tape_takeNumber N μ x0 x1 = some (-1, μ') ∧ f_m_readNumber N ν x0 x2 = some (0, ν') ∧ BAD μ' ν' ∧ FrB μ μ' ∧ FrR ν ν' ∧ (¬ μ 1 4 = 257 ∨ ∃ v, v < 1000000000 ∧ μ 1 6 = ic v ∧ (v < lo ∨ y1 ≤ v) ∧ ∃ k : Int32, k = 2 ∧ μ' = wr (wr μ 1 7 k) 1 8 (ic s))) := by
  have h6 := hA.2.1; have hsL := hA.2.2.1
  have c1 := kd_lt hB L s; have c2 := ch_lt hB L s
  subst hx0 hx1 hx2
  obtain ⟨e1, e2⟩ := here_e hN hB hR
  have e4 : (wr ν 63 4 (ic s)) 63 4 = ic s := rfl
  have h5 := hR.2.2.2.2
  have h5' : ∀ t, (wr ν 63 4 (ic t)) 63 5 = -1 := fun _ => h5
  have hm0 : f_m_readNumber N ν (ic lo) (ic y2 - 1) = if pD (ch B L s) = true then f_m_readNumber_41 N N (wr ν 63 4 (ic s)) (ic lo) (ic y2 - 1) (ic s) 0 else some (0, wr (wr (wr ν 63 4 (ic s)) 63 5 (ic s)) 63 6 1) := by
    unfold f_m_readNumber
    rw [fine_1 h5, ob_e, if_neg (by decide), e1, ob_e]
    simp only
    rw [e4, ib_e, digit_e c2, ob_e, wrong_1 (h5' s), ob_e]
    simp only [b2_0]
    by_cases z : pD (ch B L s) = true
    · rw [if_neg (fun y => y z), if_pos z]
    · rw [if_pos z, if_neg z]
  by_cases hd : s < L ∧ pD (B s) = true
  · obtain ⟨q, d⟩ := hd
    have k1 : kd B L s = 257 := by unfold kd; rw [if_pos q, if_pos d]
    have k2 : pD (ch B L s) = true := by unfold ch; rw [if_pos q]; exact d
    have k4 : μ 1 4 = 257 := by rw [hA.2.2.2.2.2.1, k1]; rfl
    have n1 : nx B L s = re pD B L s := by unfold nx; rw [if_pos q, if_pos d]
    obtain ⟨r1, r2, r3⟩ := v_rel B hB (L - s) s 0 0 (Or.inl rfl) (by omega) (by omega)
    have v6 := hA.2.2.2.2.2.2.2.1 q d
    have e3 := lp_num (N := N) hB (ic lo) (ic y2 - 1) (ic s) (L - s) s 0 (wr ν 63 4 (ic s)) N (by omega) (by rw [show s + (L - s) = L by omega]; exact hR.1) (by omega) rfl (by omega) (fun i hi => hR.2.2.2.1 i (by omega))
    have e3' : f_m_readNumber_41 N N (wr ν 63 4 (ic s)) (ic lo) (ic y2 - 1) (ic s) 0 = _ := e3
    rw [wr_wr] at e3'
    rw [if_pos k2, e3'] at hm0
    have e9 : f_m_wrong N (wr ν 63 4 (ic (rn pD B (L - s) s))) 2 (ic s) = some (wr (wr (wr ν 63 4 (ic (re pD B L s))) 63 5 (ic s)) 63 6 2) := wrong_1 (h5' _) 2 (ic s)
    have hxno : ¬ (lo ≤ vC B (L - s) s 0 ∧ vC B (L - s) s 0 < y1) → f_tape_takeNumber N μ (ic lo) (ic y1 - 1) = some (-1, wr (wr μ 1 7 2) 1 8 (ic s)) := by
      intro hv
      have hw : ¬ (ic lo ≤ ic (vC B (L - s) s 0) ∧ ic (vC B (L - s) s 0) ≤ ic y1 - 1) := by rw [ic_le (by omega) (by omega), le_m1 (by omega) (by omega)]; exact hv
      unfold f_tape_takeNumber
      rw [if_pos k4, v6, ib_e, within_e, ob_e, b2_n hw, if_pos rfl, fail_e hA.2.2.2.2.2.2.1, ob_e]
    by_cases hv : lo ≤ vC B (L - s) s 0 ∧ vC B (L - s) s 0 < y1
    · have hvv : vM B (L - s) s 0 = vC B (L - s) s 0 := by omega
      have hw : ic lo ≤ ic (vC B (L - s) s 0) ∧ ic (vC B (L - s) s 0) ≤ ic y1 - 1 := by rw [ic_le (by omega) (by omega), le_m1 (by omega) (by omega)]; exact hv
      left
      obtain ⟨μ', a1, a2, a3⟩ := adv_e hN hB hA
      refine ⟨μ', wr ν 63 4 (ic (re pD B L s)), _, vC B (L - s) s 0, ?_, ?_, a2, ?_, Nat.lt_of_lt_of_le (nx_gt q) re_ge, a3, (FrR.rf ν).wr _ (Or.inl rfl), hv.1, hv.2, v6, k4⟩
      · unfold f_tape_takeNumber
        rw [if_pos k4, v6, ib_e, within_e, ob_e, b2_p hw, if_neg o1, a1, ob_e]
      · rw [hm0, hvv]
        unfold f_m_readNumber_114
        rw [if_neg (by rw [ic_lt (by omega) (by omega)]; omega), if_pos (by rw [le_m1 (by omega) (by omega)]; omega)]; rfl
      · rw [n1]; exact hR.at (re_le hsL)
    · right
      by_cases hu : lo ≤ vM B (L - s) s 0 ∧ vM B (L - s) s 0 < y2
      · have hvv : vM B (L - s) s 0 = vC B (L - s) s 0 := by omega
        left
        refine ⟨wr ν 63 4 (ic (re pD B L s)), vC B (L - s) s 0, hxno hv, ?_, h5, (FrR.rf ν).wr _ (Or.inl rfl), by omega, by omega, by omega, v6, k4⟩
        rw [hm0, hvv]
        unfold f_m_readNumber_114
        rw [if_neg (by rw [ic_lt (by omega) (by omega)]; omega), if_pos (by rw [le_m1 (by omega) (by omega)]; omega)]; rfl
      · right
        have hbd := bad_mk μ (wr ν 63 4 (ic (re pD B L s))) (k := 2) (p := s) (by omega) (by decide)
        have hF : FrR ν (wr (wr (wr ν 63 4 (ic (re pD B L s))) 63 5 (ic s)) 63 6 (ic 2)) := (((FrR.rf ν).wr _ (Or.inl rfl)).wr _ (Or.inr (Or.inl rfl))).wr _ (Or.inr (Or.inr rfl))
        refine ⟨_, _, hxno hv, ?_, hbd, fb_fail μ _ _, hF, Or.inr ⟨vC B (L - s) s 0, by omega, v6, by omega, 2, rfl, rfl⟩⟩
        rw [hm0]
        unfold f_m_readNumber_114 f_m_readNumber_126
        rw [e9, ob_e]
        by_cases z1 : vM B (L - s) s 0 < lo
        · rw [if_pos (by rw [ic_lt (by omega) (by omega)]; exact z1)]; rfl
        · rw [if_neg (by rw [ic_lt (by omega) (by omega)]; exact z1), if_neg (by rw [le_m1 (by omega) (by omega)]; omega)]; rfl
  · right; right
    have k1 : ¬ kd B L s = 257 := by
      unfold kd; have := hB s
      by_cases q : s < L
      · rw [if_pos q, if_neg (fun z => hd ⟨q, z⟩)]; split <;> omega
      · rw [if_neg q]; omega
    have k2 : ¬ pD (ch B L s) = true := by
      unfold ch
      by_cases q : s < L
      · rw [if_pos q]; exact fun z => hd ⟨q, z⟩
      · rw [if_neg q]; decide
    have k4 : ¬ μ 1 4 = 257 := by rw [hA.2.2.2.2.2.1, eq_lit (by decide) (by omega)]; exact k1
    have hbd := bad_mk μ (wr ν 63 4 (ic s)) (k := 1) (p := s) (by omega) (by decide)
    refine ⟨_, _, ?_, ?_, hbd, fb_fail μ _ _, (((FrR.rf ν).wr _ (Or.inl rfl)).wr _ (Or.inr (Or.inl rfl))).wr _ (Or.inr (Or.inr rfl)), Or.inl k4⟩
    · unfold f_tape_takeNumber
      rw [if_neg k4, fail_e hA.2.2.2.2.2.2.1, ob_e]; rfl
    · rw [hm0, if_neg k2]; rfl
/-- one bound -/
theorem jn {N : Nat} {μ ν : sw_M} {B : Nat → Nat} {L s lo y : Nat} (hN : 5000 ≤ N) (hB : ∀ i, B i < 256) (hA : AT μ B L s) (hR : RT ν B L s) (hlo : lo ≤ 9) (hy : y ≤ 1000) (x0 x : Int32) (hx0 : x0 = ic lo) (hx : x = ic y - 1) :
    (∃ μ' ν' s' v, f_tape_takeNumber N μ x0 x = some (ic v, μ') ∧ f_m_readNumber N ν x0 x = some (ic v, ν') ∧ AT μ' B L s' ∧ RT ν' B L s' ∧ s < s' ∧ FrP μ μ' ∧ FrR ν ν' ∧ lo ≤ v ∧ v < y ∧ μ 1 6 = ic v ∧ μ 1 4 = 257) ∨
    (∃ μ' ν', f_tape_takeNumber N μ x0 x = some (-1, μ') ∧ f_m_readNumber N ν x0 x = some (0, ν') ∧ BAD μ' ν' ∧ FrB μ μ' ∧ FrR ν ν' ∧ (¬ μ 1 4 = 257 ∨ ∃ v, v < 1000000000 ∧ μ 1 6 = ic v ∧ (v < lo ∨ y ≤ v) ∧ ∃ k : Int32, k = 2 ∧ μ' = wr (wr μ 1 7 k) 1 8 (ic s))) := by
  rcases jn2 hN hB hA hR hlo (Nat.le_refl y) hy x0 x x hx0 hx hx with h | ⟨ν', v, -, -, -, -, -, h1, h2, -⟩ | h
  · exact Or.inl h
  · omega
  · exact Or.inr h
/-! beginnings -/
def byt (μ : sw_M) (h i : Nat) : Nat := if i < h then (μ 65 i).toNatClampNeg else 0
theorem open_e {N : Nat} {μ : sw_M} {h n : Nat} (hN : 5000 ≤ N) (h6 : h ≤ 600) (hn : n ≤ h) (tb : ∀ i, i < h → μ 2 i = μ 65 i ∧ ∃ v : Nat, v < 256 ∧ μ 65 i = ic v) : (∀ i, byt μ h i < 256) ∧ ∃ μ', f_tape_open N μ (ic n) = some μ' ∧ AT μ' (byt μ h) n (sk (byt μ h) n 0) ∧ (∀ a, a ≠ 1 → μ' a = μ a) ∧ μ' 1 3 = 0 ∧ μ' 1 8 = -1 := by
  have hB : ∀ i, byt μ h i < 256 := by
    intro i; unfold byt
    by_cases q : i < h
    · obtain ⟨-, v, hv, e⟩ := tb i q
      rw [if_pos q, e, ic_n (by omega)]; exact hv
    · rw [if_neg q]; decide
  refine ⟨hB, ?_⟩
  have hb : ∀ i, i < n → μ 2 i = ic (byt μ h i) := by
    intro i hi
    obtain ⟨e0, v, hv, e⟩ := tb i (by omega)
    unfold byt
    rw [if_pos (by omega), e0, e, ic_n (by omega)]
  obtain ⟨m0, hm0⟩ : ∃ m0 : sw_M, m0 = wr (wr (wr (wr (wr μ 1 3 0) 1 7 0) 1 8 (-1)) 1 1 (ic n)) 1 2 0 := ⟨_, rfl⟩
  obtain ⟨μ', a1, a2, a3⟩ := adv_0 (N := N) (μ := m0) (B := byt μ h) (L := n) (p := 0) hN hB (by rw [hm0]; rfl) (by omega) (by rw [hm0]; rfl) (Nat.zero_le n) (by rw [hm0]; exact hb)
  refine ⟨μ', ?_, a2, fun a ha => ?_, ?_, ?_⟩
  · have hc : clampI (ic n) 0 (Int32.ofNat 600) = ic n := by
      unfold clampI
      rw [if_pos (by rw [ic_0le (by omega)]; trivial), if_pos (by show ic n ≤ ic 600; rw [ic_le (by omega) (by omega)]; omega)]
    unfold f_tape_open f_tape_drop
    simp only [wb_e, ob_e]
    rw [clamp_e, ob_e, hc, ← hm0, a1, ob_e]
  · rw [a3.1 a ha, hm0, wr_nr ha, wr_nr ha, wr_nr ha, wr_nr ha, wr_nr ha]
  · rw [a3.2.1, hm0]; rfl
  · rw [a3.2.2, hm0]; rfl
theorem begins_e {N : Nat} {ν : sw_M} {B : Nat → Nat} {n : Nat} (h6 : n ≤ 600) (hb : ∀ i, i < n → ν 65 i = ic (B i)) : ∃ ν', f_m_begins N ν (ic n) = some ν' ∧ RT ν' B n (sk B n 0) ∧ (∀ a, a ≠ 63 → ν' a = ν a) ∧ (∀ j, (j < 2 ∨ 8 < j) → ν' 63 j = ν 63 j) ∧ ν' 63 2 = 0 ∧ ν' 63 8 = -1 ∧ ν' 63 7 = 0 := by
  refine ⟨wr (wr (wr (wr (wr (wr ν 63 2 0) 63 8 (-1)) 63 3 (ic n)) 63 4 0) 63 5 (-1)) 63 7 0, rfl, ⟨rfl, h6, ⟨0, Nat.zero_le n, rfl, rfl⟩, hb, rfl⟩, fun a ha => ?_, fun j hj => ?_, rfl, rfl, rfl⟩
  · rw [wr_nr ha, wr_nr ha, wr_nr ha, wr_nr ha, wr_nr ha, wr_nr ha]
  · simp only [wr_ap]
    simp (disch := omega) only [if_pos, if_neg, if_true]
