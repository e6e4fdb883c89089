/-! ===== words: the class compares bytes, the reference packs five bits a letter ===== -/
theorem ic_or (a b : Nat) : ic a ||| ic b = ic (a ||| b) := by
  refine b_ext (fun i hi => ?_)
  rw [b_or, bt_ic hi, bt_ic hi, bt_ic hi, Nat.testBit_or]
theorem pk5 {p d : Nat} (hp : p < 33554432) (hd : d < 32) : (ic p <<< ((5 : Int32) &&& 31)) ||| ic d = ic (p * 32 + d) := by
  have h1 : ic p <<< ((5 : Int32) &&& 31) = ic (p * 2 ^ 5) := pk_shlN (n := p) ((5 : Int32) &&& 31) 5 (by decide) (by omega)
  rw [h1, ic_or]
  have : 2 ^ 5 * p + d = 2 ^ 5 * p ||| d := Nat.two_pow_add_eq_or_of_lt (by omega) p
  congr 1
  rw [Nat.mul_comm p, ← this]
def ln (j : Nat) : Nat := (strB.map List.length).getD j 0
def tc (j i : Nat) : Nat := ((strB.getD j []).getD i 0).toNatClampNeg
/-- the first n letters from s on, packed -/
def pks (B : Nat → Nat) (s : Nat) : Nat → Nat
  | 0 => 0
  | n + 1 => pks B s n * 32 + (B (s + n) - 96)
theorem pks_s (B : Nat → Nat) (s n : Nat) : pks B s (n + 1) = pks B s n * 32 + (B (s + n) - 96) := rfl
def oc (j : Nat) : Nat := pks (tc j) 0 (ln j)
theorem ln_b : ∀ j, j < 19 → 3 ≤ ln j ∧ ln j ≤ 6 := by decide +kernel
theorem tc_b : ∀ j, j < 19 → ∀ i, i < 6 → i < ln j → 97 ≤ tc j i ∧ tc j i ≤ 122 := by decide +kernel
theorem ln_e : ∀ j, j < 19 → (Int32.ofNat ((strB.map List.length).getD j 0)) >>> ((0 : Int32) &&& 31) = ic (ln j) := by decide +kernel
theorem tc_e : ∀ j, j < 19 → ∀ i, i < 6 → i < ln j → ((((strB.getD j []).getD i 0) &&& 255).toUInt32 % 65536).toInt32 = ic (tc j i) ∧ ((ic (tc j i)).toUInt32 % 65536).toInt32 = ic (tc j i) := by decide +kernel
theorem oc_d : ∀ j, j < 19 → ∀ k, k < 19 → oc j = oc k → j = k := by decide +kernel
theorem oc_b : ∀ j, j < 19 → 0 < oc j ∧ oc j < 1073741824 := by decide +kernel
section
variable {N : Nat} {μ : sw_M} {j : Nat}
theorem len_e (hj : j < 19) : f_js_length N j μ = some (ic (ln j)) := by
  unfold f_js_length f_js_coder
  rw [if_neg (by decide), ob_e, ln_e j hj]
theorem chr_e (hj : j < 19) {i : Nat} (hi : i < ln j) : f_js_charAt N j μ (ic i) = some (ic (tc j i)) := by
  have hl := ln_b j hj
  obtain ⟨h1, h2⟩ := tc_e j hj i (by omega) hi
  unfold f_js_charAt f_js_isLatin1 f_jl_charAt f_js_checkIndex f_jp_checkIndex
  rw [if_neg (by decide), if_pos rfl, ob_e, if_neg (by decide), if_neg (by rw [ic_lt0 (by omega)]; exact id), if_pos (by show ic i < ic (ln j); rw [ic_lt (by omega) (by omega)]; exact hi), ob_e, ob_e, inb_e (n := (strB.map List.length).getD j 0) hi (by show ln j < _; omega), ic_n (by omega), h1, ob_e]
  unfold chr
  rw [if_pos h2]
theorem lp_of (hj : j < 19) : ∀ (d k n : Nat), k + d = ln j → d < n → f_sm_of_4 N j μ n (ic (pks (tc j) 0 k)) (ic k) = some (ic (oc j))
  | 0, k, n, h, hn => by
    have hl := ln_b j hj
    obtain ⟨n, rfl⟩ := fu_s hn
    rw [f_sm_of_4, len_e hj, ob_e, if_pos (by rw [ic_le (by omega) (by omega)]; omega), show k = ln j by omega]; rfl
  | d + 1, k, n, h, hn => by
    have hl := ln_b j hj
    obtain ⟨n, rfl⟩ := fu_s (show 0 < n by omega)
    have ht := tc_b j hj k (by omega) (by omega)
    have hp : pks (tc j) 0 k < 33554432 := by
      have : ∀ j, j < 19 → ∀ k, k < 6 → k < ln j → pks (tc j) 0 k < 33554432 := by decide +kernel
      exact this j hj k (by omega) (by omega)
    rw [f_sm_of_4, len_e hj, ob_e, if_neg (by rw [ic_le (by omega) (by omega)]; omega), chr_e hj (by omega), ob_e, show ic (tc j k) - 96 = ic (tc j k - 96) from ic_sub (a := tc j k) (b := 96) (by omega), pk5 hp (by omega), ib_e, ic_1, ← lp_of hj d (k + 1) n (by omega) (by omega), pks_s, Nat.zero_add]
theorem of_e (hN : 5000 ≤ N) (hj : j < 19) : f_sm_of N j μ = some (ic (oc j)) := by
  have hl := ln_b j hj
  exact lp_of hj (ln j) 0 N (by omega) (by omega)
end
theorem pks_pos {B : Nat → Nat} {s n : Nat} (h : ∀ i, i < n + 1 → 97 ≤ B (s + i)) : 0 < pks B s (n + 1) := by
  have := h n (by omega); rw [pks_s]; omega
theorem pks_inj {B T : Nat → Nat} {s : Nat} : ∀ n m, (∀ i, i < n → 97 ≤ B (s + i) ∧ B (s + i) ≤ 122) → (∀ i, i < m → 97 ≤ T (0 + i) ∧ T (0 + i) ≤ 122) → pks B s n = pks T 0 m → n = m ∧ ∀ i, i < n → B (s + i) = T i
  | 0, 0, _, _, _ => ⟨rfl, fun i hi => by omega⟩
  | 0, m + 1, _, h2, h => by have := pks_pos (B := T) (s := 0) (n := m) (fun i hi => (h2 i hi).1); rw [← h] at this; exact absurd this (by show ¬ 0 < 0; omega)
  | n + 1, 0, h1, _, h => by have := pks_pos (B := B) (s := s) (n := n) (fun i hi => (h1 i hi).1); rw [h] at this; exact absurd this (by show ¬ 0 < 0; omega)
  | n + 1, m + 1, h1, h2, h => by
    rw [pks_s, pks_s] at h
    have a := h1 n (by omega); have b := h2 m (by omega)
    obtain ⟨e, ih⟩ := pks_inj (B := B) (T := T) (s := s) n m (fun i hi => h1 i (by omega)) (fun i hi => h2 i (by omega)) (by omega)
    subst e
    refine ⟨rfl, fun i hi => ?_⟩
    by_cases q : i = n
    · subst q; rw [Nat.zero_add] at b h; omega
    · exact ih i (by omega)
theorem pks_lt {B : Nat → Nat} {s : Nat} : ∀ n, (∀ i, i < n → 97 ≤ B (s + i) ∧ B (s + i) ≤ 122) → pks B s n < 32 ^ n
  | 0, _ => by show 0 < 32 ^ 0; decide
  | n + 1, h => by
    have ih := pks_lt n (fun i hi => h i (by omega)); have a := h n (by omega)
    rw [pks_s, Nat.pow_succ]; omega
/-- the word's letters and their number -/
def wn (B : Nat → Nat) (L s : Nat) : Nat := re pL B L s - s
def wv (B : Nat → Nat) (L s : Nat) : Nat := if wn B L s ≤ 6 then pks B s (wn B L s) else 0
theorem wn_l {B : Nat → Nat} {L s i : Nat} (h : i < wn B L s) : 97 ≤ B (s + i) ∧ B (s + i) ≤ 122 := pL_e.mp (re_al (p := pL) (B := B) (L := L) (i := s) (by omega) (by unfold wn at h; omega))
theorem lp_word {N : Nat} {B : Nat → Nat} (hB : ∀ i, B i < 256) {s : Nat} : ∀ (d n : Nat) (μ : sw_M) (u : Nat), d < u → s + n + d ≤ 600 → μ 63 3 = ic (s + n + d) → (∀ i, i < s + n + d → μ 65 i = ic (B i)) → (∀ i, i < n → 97 ≤ B (s + i) ∧ B (s + i) ≤ 122) → f_m_word_14 N u μ (ic (if n ≤ 6 then pks B s n else 0)) (ic n) (ic (s + n)) = some (ic (if rn pL B d (s + n) - s ≤ 6 then pks B s (rn pL B d (s + n) - s) else 0), μ)
  | 0, n, μ, u, hu, h6, h3, hb, hl => by
    obtain ⟨u, rfl⟩ := fu_s hu
    rw [f_m_word_14, h3, if_pos (by rw [ic_le (by omega) (by omega)]; omega), rn_0]
    unfold f_m_word_67
    rw [show s + n - s = n by omega]
    by_cases q : n ≤ 6
    · rw [if_pos (by rw [le_lit (by decide) (by omega)]; exact q), if_pos q]
    · rw [if_neg (by rw [le_lit (by decide) (by omega)]; exact q), if_neg q]; rfl
  | d + 1, n, μ, u, hu, h6, h3, hb, hl => by
    obtain ⟨u, rfl⟩ := fu_s (show 0 < u by omega)
    have e := hb (s + n) (by omega)
    have hBn := hB (s + n)
    rw [f_m_word_14, h3, if_neg (by rw [ic_le (by omega) (by omega)]; omega), inb_e (by omega) (by decide), ic_n (by omega), e, small_e hBn, ob_e, rn_s]
    simp only [b2_0]
    by_cases q : pL (B (s + n)) = true
    · have qq := pL_e.mp q
      have ih := lp_word (N := N) hB (s := s) d (n + 1) μ u (by omega) (by omega) (by rw [h3]; congr 1; omega) (fun i hi => hb i (by omega)) (fun i hi => by
        by_cases z : i = n
        · subst z; exact qq
        · exact hl i (by omega))
      rw [if_neg (fun z => z q), if_pos q, ← show s + (n + 1) = s + n + 1 by omega, ← ih]
      unfold f_m_word_57
      rw [ib_e, ib_e, ic_1, ic_1]
      by_cases z : n < 6
      · have hp := pks_lt n hl
        have h32 : 32 ^ n ≤ 32 ^ 5 := Nat.pow_le_pow_right (by decide) (by omega)
        rw [if_neg (by rw [lit_le (by decide) (by omega)]; omega), inb_e (by omega) (by decide), if_pos (by omega), if_pos (by omega), show ic (B (s + n)) - 96 = ic (B (s + n) - 96) from ic_sub (a := B (s + n)) (b := 96) (by omega), pk5 (by omega) (by omega), pks_s]; rfl
      · rw [if_pos (by rw [lit_le (by decide) (by omega)]; omega), show (if n + 1 ≤ 6 then pks B s (n + 1) else 0) = 0 from if_neg (by omega)]; rfl
    · rw [if_pos q, if_neg q]
      unfold f_m_word_67
      rw [show s + n - s = n by omega]
      by_cases z : n ≤ 6
      · rw [if_pos (by rw [le_lit (by decide) (by omega)]; exact z), if_pos z]
      · rw [if_neg (by rw [le_lit (by decide) (by omega)]; exact z), if_neg z]; rfl
theorem word_e {N : Nat} {ν : sw_M} {B : Nat → Nat} {L s : Nat} (hN : 5000 ≤ N) (hB : ∀ i, B i < 256) (h : RT ν B L s) : f_m_word N ν = some (ic (wv B L s), wr ν 63 4 (ic s)) := by
  have hsL := h.sL; have h6 := h.2.1
  have e := lp_word (N := N) hB (s := s) (L - s) 0 (wr ν 63 4 (ic s)) N (by omega) (by omega) (by rw [show s + 0 + (L - s) = L by omega]; exact h.1) (fun i hi => h.2.2.2.1 i (by omega)) (fun i hi => by omega)
  unfold f_m_word
  rw [(here_e hN hB h).1, ob_e]
  have t : (wr ν 63 4 (ic s)) 63 4 = ic s := rfl
  simp only [t, ib_e]
  exact e
theorem lp_isWord {N : Nat} {B : Nat → Nat} {μ : sw_M} {j s : Nat} (hj : j < 19) (h5 : μ 1 5 = ic s) (hs : s + ln j ≤ 600) (hb : ∀ i, i < s + ln j → μ 2 i = ic (B i)) (hB : ∀ i, B i < 256) : ∀ (d k n : Nat), k + d = ln j → d < n → ∃ r, f_tape_isWord_30 N j μ n (ic k) = some r ∧ (r = 0 ∨ r = 1) ∧ (r = 1 ↔ ∀ i, k ≤ i → i < ln j → B (s + i) = tc j i)
  | 0, k, n, h, hn => by
    have hl := ln_b j hj
    obtain ⟨n, rfl⟩ := fu_s hn
    refine ⟨1, ?_, Or.inr rfl, ⟨fun _ i h1 h2 => by omega, fun _ => rfl⟩⟩
    rw [f_tape_isWord_30, len_e hj, ob_e, if_pos (by rw [ic_le (by omega) (by omega)]; omega)]
  | d + 1, k, n, h, hn => by
    have hl := ln_b j hj
    obtain ⟨n, rfl⟩ := fu_s (show 0 < n by omega)
    have hBk := hB (s + k)
    have ht := tc_b j hj k (by omega) (by omega)
    obtain ⟨r, h1, h2, h3⟩ := lp_isWord (N := N) (μ := μ) hj h5 hs hb hB d (k + 1) n (by omega) (by omega)
    have hst : f_tape_isWord_30 N j μ (n + 1) (ic k) = if ic (B (s + k)) = ic (tc j k) then f_tape_isWord_30 N j μ n (ic (k + 1)) else some 0 := by
      rw [f_tape_isWord_30, len_e hj, ob_e, if_neg (by rw [ic_le (by omega) (by omega)]; omega), h5, ic_add, at_e (by omega) (by decide), ob_e, hb _ (by omega), chr_e hj (by omega), ob_e, ic_1]
    by_cases q : B (s + k) = tc j k
    · refine ⟨r, by rw [hst, if_pos (by rw [q]), h1], h2, ?_⟩
      rw [h3]
      refine ⟨fun z i h4 h5 => ?_, fun z i h4 h5 => z i (by omega) h5⟩
      by_cases e : i = k
      · subst e; exact q
      · exact z i (by omega) h5
    · refine ⟨0, by rw [hst, if_neg (by rw [ic_eq (by omega) (by omega)]; exact q)], Or.inl rfl, ⟨fun z => absurd z (by decide), fun z => absurd (z k (Nat.le_refl k) (by omega)) q⟩⟩
/-- the class's test of a word is the reference's -/
theorem isWord_e {N : Nat} {μ : sw_M} {B : Nat → Nat} {L s j : Nat} (hN : 5000 ≤ N) (hB : ∀ i, B i < 256) (h : AT μ B L s) (hj : j < 19) : f_tape_isWord N j μ = some (b2 (wv B L s = oc j)) := by
  obtain ⟨h1, h6, hsL, hb, h2, h4, h5, -⟩ := h
  have hl := ln_b j hj
  have hoc := oc_b j hj
  have hk := kd_lt hB L s
  have hnx : nx B L s ≤ L := nx_le hsL
  have hle : wn B L s ≤ L := by have := re_le (p := pL) (B := B) hsL; unfold wn; omega
  unfold f_tape_isWord
  rw [h4]
  by_cases q : s < L ∧ pL (B s) = true
  · have nd : ¬ pD (B s) = true := fun z => by have a := pD_e.mp z; have b := pL_e.mp q.2; omega
    have k1 : kd B L s = 258 := by unfold kd; rw [if_pos q.1, if_neg nd, if_pos q.2]
    have n1 : nx B L s = re pL B L s := by unfold nx; rw [if_pos q.1, if_neg nd, if_pos q.2]
    have hge : s ≤ re pL B L s := re_ge
    have hsub : ic (nx B L s) - ic s = ic (wn B L s) := by rw [n1, ic_sub hge]; rfl
    rw [if_pos (by rw [k1]; rfl), len_e hj, ob_e, h2, h5, hsub]
    by_cases z : wn B L s = ln j
    · have hle2 : s + ln j ≤ L := by have := re_le (p := pL) (B := B) hsL; unfold wn at z; omega
      obtain ⟨r, g1, g2, g3⟩ := lp_isWord (N := N) (μ := μ) hj h5 (by omega) (fun i hi => hb i (by omega)) hB (ln j) 0 N (by omega) (by omega)
      rw [if_pos (by rw [z])]
      have g1' : f_tape_isWord_30 N j μ N 0 = some r := g1
      rw [g1']
      have key : r = 1 ↔ wv B L s = oc j := by
        rw [g3]
        unfold wv oc
        rw [if_pos (by omega), z]
        refine ⟨fun y => ?_, fun y i _ hi => ?_⟩
        · have : ∀ n, n ≤ ln j → pks B s n = pks (tc j) 0 n := by
            intro n
            induction n with
            | zero => intro _; rfl
            | succ n ih => intro hn; rw [pks_s, pks_s, ih (by omega), y n (Nat.zero_le n) (by omega), Nat.zero_add]
          exact this (ln j) (Nat.le_refl _)
        · exact (pks_inj (ln j) (ln j) (fun i hi => wn_l (L := L) (by rw [z]; exact hi)) (fun i hi => by rw [Nat.zero_add]; exact tc_b j hj i (by omega) hi) y).2 i hi
      by_cases y : wv B L s = oc j
      · rw [b2_p y, key.mpr y]
      · rw [b2_n y]
        rcases g2 with u | u
        · rw [u]
        · exact absurd (key.mp u) y
    · rw [if_neg (by rw [ic_eq (by omega) (by omega)]; exact z), b2_n]
      intro y
      unfold wv oc at y
      by_cases u : wn B L s ≤ 6
      · rw [if_pos u] at y
        exact z (pks_inj (wn B L s) (ln j) (fun i hi => wn_l hi) (fun i hi => by rw [Nat.zero_add]; exact tc_b j hj i (by omega) hi) y).1
      · rw [if_neg u] at y; unfold oc at hoc; omega
  · have k1 : ¬ kd B L s = 258 := by
      unfold kd; have := hB s
      by_cases z : s < L
      · rw [if_pos z]
        split
        · omega
        · rw [if_neg (fun y => q ⟨z, y⟩)]; omega
      · rw [if_neg z]; omega
    have w0 : wn B L s = 0 := by
      have : re pL B L s = s := re_no (fun z => by cases y : pL (B s); rfl; exact absurd ⟨z, y⟩ q) hsL
      unfold wn; omega
    rw [if_neg (by rw [eq_lit (by decide) (by omega)]; exact k1), b2_n]
    intro y
    unfold wv at y
    rw [if_pos (by omega), w0] at y
    have : pks B s 0 = 0 := rfl
    omega
theorem wv_w {B : Nat → Nat} {L s j : Nat} (hsL : s ≤ L) (hj : j < 19) (h : wv B L s = oc j) : s < L ∧ pL (B s) = true ∧ nx B L s = s + ln j ∧ re pL B L s = s + ln j := by
  have hl := ln_b j hj
  have hoc := oc_b j hj
  unfold wv at h
  by_cases u : wn B L s ≤ 6
  · rw [if_pos u] at h
    have e := (pks_inj (T := tc j) (wn B L s) (ln j) (fun i hi => wn_l hi) (fun i hi => by rw [Nat.zero_add]; exact tc_b j hj i (by omega) hi) h).1
    have hre := re_le (p := pL) (B := B) hsL
    have hge : s ≤ re pL B L s := re_ge
    have e2 : re pL B L s = s + ln j := by unfold wn at e; omega
    have hp : pL (B s) = true := pL_e.mpr (wn_l (B := B) (L := L) (s := s) (i := 0) (by omega))
    have nd : ¬ pD (B s) = true := fun z => by have a := pD_e.mp z; have b := pL_e.mp hp; omega
    refine ⟨by omega, hp, ?_, e2⟩
    unfold nx; rw [if_pos (by omega), if_neg nd, if_pos hp, e2]
  · rw [if_neg u] at h; omega
theorem lp_pass {N : Nat} {B : Nat → Nat} (hB : ∀ i, B i < 256) : ∀ (d p : Nat) (μ : sw_M) (n : Nat), d < n → μ 63 3 = ic (p + d) → p + d ≤ 600 → μ 63 4 = ic p → (∀ i, i < p + d → μ 65 i = ic (B i)) → f_m_pass_0 N n μ = some (wr μ 63 4 (ic (rn pL B d p)))
  | 0, p, μ, n, hn, hL, h6, hp, hb => by
    obtain ⟨n, rfl⟩ := fu_s hn
    rw [f_m_pass_0, hL, hp, if_pos (by rw [ic_le (by omega) (by omega)]; omega), rn_0, wr_id hp]
  | d + 1, p, μ, n, hn, hL, h6, hp, hb => by
    obtain ⟨n, rfl⟩ := fu_s (show 0 < n by omega)
    have e := hb p (by omega)
    have ih := lp_pass (N := N) hB d (p + 1) (wr μ 63 4 (ic (p + 1))) n (by omega) (by rw [show p + 1 + d = p + (d + 1) by omega]; exact hL) (by omega) rfl (fun i hi => hb i (by omega))
    rw [f_m_pass_0, hL, hp, if_neg (by rw [ic_le (by omega) (by omega)]; omega), inb_e (by omega) (by decide), ic_n (by omega), e, small_e (hB p), ob_e, wb_e, ic_1, ih, wr_wr, rn_s]
    simp only [b2_0]
    by_cases q : pL (B p) = true
    · rw [if_neg (fun z => z q), if_pos q]
    · rw [if_pos q, if_neg q, wr_id hp]
theorem pass_e {N : Nat} {ν : sw_M} {B : Nat → Nat} {L s : Nat} (hN : 5000 ≤ N) (hB : ∀ i, B i < 256) (h : RT ν B L s) : f_m_pass N (wr ν 63 4 (ic s)) = some (wr ν 63 4 (ic (re pL B L s))) := by
  have hsL := h.sL; have h6 := h.2.1
  have := lp_pass (N := N) hB (L - s) s (wr ν 63 4 (ic s)) N (by omega) (by rw [show s + (L - s) = L by omega]; exact h.1) (by omega) rfl (fun i hi => h.2.2.2.1 i (by omega))
  rw [wr_wr] at this
  exact this
