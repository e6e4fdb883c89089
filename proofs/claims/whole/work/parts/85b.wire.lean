/-! ===== a wire of a country's text ===== -/
def MT (A C : Nat → Nat) (a b w : Nat) : Prop := (A w = a ∧ C w = b) ∨ (A w = b ∧ C w = a)
theorem ite4 {α : Type} {p q r s : Prop} [Decidable p] [Decidable q] [Decidable r] [Decidable s] (X Y : α) : (if p then if q then X else if r then if s then X else Y else Y else if r then if s then X else Y else Y) = if (p ∧ q) ∨ (r ∧ s) then X else Y := by
  by_cases h1 : p <;> by_cases h2 : q <;> by_cases h3 : r <;> by_cases h4 : s <;> simp [h1, h2, h3, h4]
section
variable {N : Nat} {μ ν : sw_M} {W a b : Nat} {A C : Nat → Nat}
theorem lp_wiredR (h1 : μ 11 1 = ic W) (hW : W ≤ 12) (ht : ∀ w, w < W → A w < 9 ∧ C w < 9 ∧ A w ≠ C w ∧ μ 12 w = ic (A w) ∧ μ 13 w = ic (C w)) (ha : a < 9) (hb : b < 1000000000) : ∀ (d k n : Nat), k + d = W → d < n → ∃ r, f_landR_isWired_2 N μ n (ic a) (ic b) (ic k) = some r ∧ (r = 0 ↔ ∀ w, k ≤ w → w < W → ¬ MT A C a b w) := by
  intro d
  induction d with
  | zero =>
    intro k n hk hn
    obtain ⟨n, rfl⟩ := fu_s hn
    refine ⟨0, ?_, fun _ w q1 q2 => by omega, fun _ => rfl⟩
    unfold f_landR_isWired_2
    rw [h1, if_pos (by rw [ic_le (by omega) (by omega)]; omega)]
  | succ d ih =>
    intro k n hk hn
    obtain ⟨n, rfl⟩ := fu_s (show 0 < n by omega)
    obtain ⟨g1, g2, g3, g4, g5⟩ := ht k (by omega)
    obtain ⟨r, i1, i2⟩ := ih (k + 1) n (by omega) (by omega)
    rw [f_landR_isWired_2, h1, if_neg (by rw [ic_le (by omega) (by omega)]; omega)]
    unfold f_landR_across
    rw [at_e (by omega) (by decide), ob_e, at_e (by omega) (by decide), ob_e, g4, g5, ic_1, i1]
    by_cases m : MT A C a b k
    · refine ⟨1, ?_, fun z => absurd z (by decide), fun z => absurd m (z k (by omega) (by omega))⟩
      rcases m with ⟨m1, m2⟩ | ⟨m1, m2⟩
      · rw [if_pos (by rw [m1]), ob_e, m2, if_pos rfl]
      · rw [if_neg (by rw [ic_eq (by omega) (by omega)]; omega), if_pos (by rw [m2]), ob_e, m1, if_pos rfl]
    · refine ⟨r, ?_, ?_⟩
      · by_cases q1 : a = A k
        · rw [if_pos (by rw [q1]), ob_e, if_neg (by rw [ic_eq (by omega) (by omega)]; intro z; exact m (Or.inl ⟨q1.symm, z⟩))]
        · rw [if_neg (by rw [ic_eq (by omega) (by omega)]; omega)]
          by_cases q2 : a = C k
          · rw [if_pos (by rw [q2]), ob_e, if_neg (by rw [ic_eq (by omega) (by omega)]; intro z; exact m (Or.inr ⟨z, q2.symm⟩))]
          · rw [if_neg (by rw [ic_eq (by omega) (by omega)]; omega), ob_e, if_neg (by intro z; have := z.symm; rw [ic_m1 (by omega)] at this; exact this)]
      · rw [i2]
        constructor
        · intro h w q1 q2
          by_cases e : w = k
          · rw [e]; exact m
          · exact h w (by omega) q2
        · intro h w q1 q2; exact h w (by omega) q2
theorem lp_w41 (h1 : ν 63 17 = ic W) (hW : W ≤ 12) (h5 : ν 63 5 = -1) (ht : ∀ w, w < W → A w < 9 ∧ C w < 9 ∧ A w ≠ C w ∧ ν 66 (3 * w) = ic (A w) ∧ ν 66 (3 * w + 1) = ic (C w)) (ha : a < 9) (hb : b < 9) {y : Nat} (hy : y ≤ 600) : ∀ (d k n : Nat), k + d = W → d < n →
    ((∀ w, k ≤ w → w < W → ¬ MT A C a b w) → f_m_readWire_41 N n ν (ic a) (ic y) (ic b) (ic k) = f_m_readWire_117 N ν (ic a) (ic b)) ∧
    (¬ (∀ w, k ≤ w → w < W → ¬ MT A C a b w) → f_m_readWire_41 N n ν (ic a) (ic y) (ic b) (ic k) = f_m_readWire_117 N (wr (wr ν 63 5 (ic y)) 63 6 2) (ic a) (ic b)) := by
  intro d
  induction d with
  | zero =>
    intro k n hk hn
    obtain ⟨n, rfl⟩ := fu_s hn
    refine ⟨fun _ => ?_, fun z => absurd (fun w q1 q2 => by omega) z⟩
    rw [f_m_readWire_41, h1, if_pos (by rw [ic_le (by omega) (by omega)]; omega)]
  | succ d ih =>
    intro k n hk hn
    obtain ⟨n, rfl⟩ := fu_s (show 0 < n by omega)
    obtain ⟨g1, g2, g3, g4, g5⟩ := ht k (by omega)
    obtain ⟨i1, i2⟩ := ih (k + 1) n (by omega) (by omega)
    have e0 : f_m_readWire_41 N (n + 1) ν (ic a) (ic y) (ic b) (ic k) = if ((A k = a ∧ C k = b) ∨ (A k = b ∧ C k = a)) then f_m_readWire_105 N (f_m_readWire_41 N n) ν (ic a) (ic y) (ic b) (ic k) else f_m_readWire_41 N n ν (ic a) (ic y) (ic b) (ic (k + 1)) := by
      rw [f_m_readWire_41, h1, if_neg (by rw [ic_le (by omega) (by omega)]; omega), fine_1 h5, ob_e, if_neg (by decide), lit_mul, inb_e (by omega) (by decide), ic_n (by omega), g4, ib_e, add_lit, inb_e (by omega) (by decide), ic_n (by omega), g5, ib_e]
      unfold f_m_readWire_93
      rw [ic_1]
      simp only [ic_eq (show A k < 2147483648 by omega) (show a < 2147483648 by omega), ic_eq (show A k < 2147483648 by omega) (show b < 2147483648 by omega), ic_eq (show C k < 2147483648 by omega) (show a < 2147483648 by omega), ic_eq (show C k < 2147483648 by omega) (show b < 2147483648 by omega)]
      exact ite4 _ _
    have hb2 : ¬ (wr (wr ν 63 5 (ic y)) 63 6 2) 63 5 = -1 := by show ¬ ic y = -1; rw [ic_m1 (by omega)]; exact id
    have e1 : f_m_readWire_105 N (f_m_readWire_41 N n) ν (ic a) (ic y) (ic b) (ic k) = f_m_readWire_117 N (wr (wr ν 63 5 (ic y)) 63 6 2) (ic a) (ic b) := by
      unfold f_m_readWire_105
      rw [wrong_1 h5, ob_e, ic_1]
      obtain ⟨n, rfl⟩ := fu_s (show 0 < n by omega)
      rw [f_m_readWire_41, fine_0 hb2, ob_e, if_pos rfl, ite_self]
    rw [e0]
    by_cases m : MT A C a b k
    · rw [if_pos (show (A k = a ∧ C k = b) ∨ (A k = b ∧ C k = a) from m), e1]
      exact ⟨fun z => absurd m (z k (by omega) (by omega)), fun _ => rfl⟩
    · rw [if_neg (show ¬ ((A k = a ∧ C k = b) ∨ (A k = b ∧ C k = a)) from m)]
      have hs : (∀ w, k + 1 ≤ w → w < W → ¬ MT A C a b w) ↔ (∀ w, k ≤ w → w < W → ¬ MT A C a b w) := by
        constructor
        · intro h w q1 q2
          by_cases e : w = k
          · rw [e]; exact m
          · exact h w (by omega) q2
        · intro h w q1 q2; exact h w (by omega) q2
      exact ⟨fun z => i1 (hs.mpr z), fun z => i2 (fun q => z (hs.mp q))⟩
theorem w117 (h1 : ν 63 17 = ic W) (hW : W < 12) {x z r : Int32} {ν2 : sw_M} (h2 : f_m_readNumber N (wr (wr ν 66 (3 * W) x) 66 (3 * W + 1) z) 0 99 = some (r, ν2)) (h3 : ν2 63 17 = ic W) : f_m_readWire_117 N ν x z = some (wr (wr ν2 66 (3 * W + 2) r) 63 17 (ic (W + 1))) := by
  have e1 : (wr ν 66 (3 * W) x) 63 17 = ic W := h1
  have e2 : (wr (wr ν 66 (3 * W) x) 66 (3 * W + 1) z) 63 17 = ic W := h1
  have e3 : (wr ν2 66 (3 * W + 2) r) 63 17 = ic W := h3
  unfold f_m_readWire_117
  rw [h1, lit_mul, inb_e (by omega) (by decide), ic_n (by omega), wb_e, e1, lit_mul, add_lit, inb_e (by omega) (by decide), ic_n (by omega), wb_e, h2, ob_e, e2, lit_mul, add_lit, inb_e (by omega) (by decide), ic_n (by omega), wb_e, e3, wb_e, ic_1]
theorem w38_bad (h1 : ν 63 17 = ic W) (hW : W < 12) (h5 : ¬ ν 63 5 = -1) (hN : 5000 ≤ N) (x y z : Int32) : f_m_readWire_38 N ν x y z = some (wr (wr (wr (wr ν 66 (3 * W) x) 66 (3 * W + 1) z) 66 (3 * W + 2) 0) 63 17 (ic (W + 1))) := by
  have e : f_m_readWire_38 N ν x y z = f_m_readWire_117 N ν x z := by
    unfold f_m_readWire_38
    obtain ⟨n, hn⟩ := fu_s (show 0 < N by omega)
    rw [show f_m_readWire_41 N N ν x y z 0 = f_m_readWire_41 N (n + 1) ν x y z 0 by rw [← hn], f_m_readWire_41, fine_0 h5, ob_e, if_pos rfl, ite_self]
  have hb : ¬ (wr (wr ν 66 (3 * W) x) 66 (3 * W + 1) z) 63 5 = -1 := h5
  rw [e, w117 h1 hW (num_bad hb 0 99) h1]
end
theorem num_pos {N : Nat} {ν ν' : sw_M} {B : Nat → Nat} {L s : Nat} {x y r : Int32} (hN : 5000 ≤ N) (hB : ∀ i, B i < 256) (hR : RT ν B L s) (h : f_m_readNumber N ν x y = some (r, ν')) : ∃ t, t ≤ L ∧ ν' 63 4 = ic t := by
  have h6 := hR.2.1; have hsL := hR.sL
  have c2 := ch_lt hB L s
  obtain ⟨e1, e2⟩ := here_e hN hB hR
  have e4 : (wr ν 63 4 (ic s)) 63 4 = ic s := rfl
  have h5 := hR.2.2.2.2
  have h5' : ∀ t, (wr ν 63 4 (ic t)) 63 5 = -1 := fun _ => h5
  unfold f_m_readNumber at h
  rw [fine_1 h5, ob_e, if_neg (by decide), e1, ob_e] at h
  simp only at h
  rw [e4, ib_e, digit_e c2, ob_e, wrong_1 (h5' s), ob_e] at h
  have e3 := lp_num (N := N) hB x y (ic s) (L - s) s 0 (wr ν 63 4 (ic s)) N (by omega) (by rw [show s + (L - s) = L by omega]; exact hR.1) (by omega) rfl (by omega) (fun i hi => hR.2.2.2.1 i (by omega))
  have e3' : f_m_readNumber_41 N N (wr ν 63 4 (ic s)) x y (ic s) 0 = _ := e3
  have hle := rn_le (p := pD) (B := B) (L - s) s
  have h5r : ∀ t u, (wr (wr ν 63 4 (ic t)) 63 4 (ic u)) 63 5 = -1 := fun _ _ => h5
  rw [e3'] at h
  unfold f_m_readNumber_114 f_m_readNumber_126 at h
  rw [wrong_1 (h5r s _), ob_e] at h
  split at h
  · cases h; exact ⟨s, hsL, rfl⟩
  · split at h
    · cases h; exact ⟨_, by omega, rfl⟩
    · split at h
      · cases h; exact ⟨_, by omega, rfl⟩
      · cases h; exact ⟨_, by omega, rfl⟩
theorem here_tot {N : Nat} {ν : sw_M} {B : Nat → Nat} {L a : Nat} (hN : 5000 ≤ N) (h3 : ν 63 3 = ic L) (h6 : L ≤ 600) (ha : a ≤ L) (h4 : ν 63 4 = ic a) (hb : ∀ i, i < L → ν 65 i = ic (B i)) (hB : ∀ i, B i < 256) : ∃ c t, t ≤ L ∧ f_m_here N ν = some (c, wr ν 63 4 (ic t)) := by
  have e := lp_here (N := N) hB (L - a) a ν N (by omega) (by rw [show a + (L - a) = L by omega]; exact h3) (by omega) h4 (fun i hi => hb i (by omega))
  have hle := rn_le (p := pB) (B := B) (L - a) a
  have e' : f_m_here N ν = _ := e
  rw [e']
  have q3 : (wr ν 63 4 (ic (rn pB B (L - a) a))) 63 3 = ic L := h3
  have q4 : (wr ν 63 4 (ic (rn pB B (L - a) a))) 63 4 = ic (rn pB B (L - a) a) := rfl
  unfold f_m_here_38
  rw [q3, q4]
  by_cases q : L ≤ rn pB B (L - a) a
  · rw [if_pos (by rw [ic_le (by omega) (by omega)]; exact q)]; exact ⟨_, _, by omega, rfl⟩
  · rw [if_neg (by rw [ic_le (by omega) (by omega)]; exact q), inb_e (by omega) (by decide)]; exact ⟨_, _, by omega, rfl⟩
section
variable {N : Nat} {B : Nat → Nat} {L s : Nat} {μ ν : sw_M} {F W T P l : Nat}
theorem ro_wire (hN : 5000 ≤ N) (hB : ∀ i, B i < 256) (hA : AT μ B L s) (hR : RT ν B L s) (hL : LR μ ν F W T P l) (hcap : W < 12) : RO B L μ ν s (f_landR_readWire N μ) (f_m_readWire N ν) := by
  obtain ⟨⟨l0, l1, l2, l3, l4⟩, ⟨n0, n1, n2, n3, n4⟩, ⟨hF, hW, hT, hP, hl⟩, hw, ht, hp⟩ := id hL
  have hM : ∀ (r r2 : Int32) (ν1 ν2 ν3 : sw_M) (c : Int32), f_m_readNumber N ν 0 (ic F - 1) = some (r, ν1) → f_m_here N ν1 = some (c, ν2) → ν2 63 16 = ic F → f_m_readNumber N ν2 0 (ic F - 1) = some (r2, ν3) → f_m_readWire N ν = Option.bind (f_m_fine N ν3) (fun r8 => if r8 = 0 then f_m_readWire_38 N ν3 r (ν2 63 4) r2 else if r = r2 then Option.bind (f_m_wrong N ν3 2 (ν2 63 4)) (fun r10 => f_m_readWire_38 N r10 r (ν2 63 4) r2) else f_m_readWire_38 N ν3 r (ν2 63 4) r2) := by
    intro r r2 ν1 ν2 ν3 c h1 h2 h3 h4
    unfold f_m_readWire f_m_readField
    rw [n0, h1, ob_e, ob_e]
    simp only
    rw [h2, ob_e]
    simp only [ib_e, h3, h4, ob_e]
  rcases jn hN hB hA hR (lo := 0) (y := F) (by decide) (by omega) 0 (μ 11 0 - 1) rfl (by rw [l0]) with ⟨μ1, ν1, s1, v, x1, y1, hA1, hR2, hs1, fp, fr, hv1, hv, -, -⟩ | ⟨μ1, ν1, x1, y1, hbd, fb, fr, -⟩
  · rw [l0] at y1
    obtain ⟨he, hR3⟩ := here_e (N := N) hN hB hR2
    obtain ⟨ν2, hν2⟩ : ∃ x : sw_M, x = wr ν1 63 4 (ic s1) := ⟨_, rfl⟩
    rw [← hν2] at he hR3
    have fr2 : FrR ν ν2 := by rw [hν2]; exact fr.wr _ (Or.inl rfl)
    have t4 : ν2 63 4 = ic s1 := by rw [hν2]; rfl
    have t16 : ν2 63 16 = ic F := by rw [fr2.2 16 (by decide) (by decide) (by decide)]; exact n0
    have t17 : ν2 63 17 = ic W := by rw [fr2.2 17 (by decide) (by decide) (by decide)]; exact n1
    have k0 : μ1 11 0 = ic F := by rw [fp.1 11 (by decide)]; exact l0
    have k1 : μ1 11 1 = ic W := by rw [fp.1 11 (by decide)]; exact l1
    have hs6 : s1 ≤ 600 := by have := hA1.2.1; have := hA1.2.2.1; omega
    have hx1 : f_landR_readWire N μ = if (μ1 1 4) = 257 then if (μ1 1 6) = ic v then f_landR_readWire_49 N μ1 else Option.bind (f_landR_isWired N μ1 (ic v) (μ1 1 6)) (fun r3 => if r3 = 0 then f_landR_readWire_55 N μ1 (ic v) else f_landR_readWire_49 N μ1) else f_landR_readWire_55 N μ1 (ic v) := by
      unfold f_landR_readWire
      rw [x1, ob_e, if_neg (by rw [ic_m1 (by omega)]; exact id)]
    have h49 : f_landR_readWire_49 N μ1 = some (0, wr (wr μ1 1 7 2) 1 8 (ic s1)) := by
      unfold f_landR_readWire_49
      rw [fail_e hA1.2.2.2.2.2.2.1, ob_e, bl_0]
    -- the tables
    obtain ⟨A, hAd⟩ : ∃ A : Nat → Nat, A = fun w => (μ 12 w).toNatClampNeg := ⟨_, rfl⟩
    obtain ⟨C, hCd⟩ : ∃ C : Nat → Nat, C = fun w => (μ 13 w).toNatClampNeg := ⟨_, rfl⟩
    have hac : ∀ w, w < W → A w < F ∧ C w < F ∧ A w ≠ C w ∧ (μ 12 w = ic (A w) ∧ μ 13 w = ic (C w)) ∧ ν 66 (3 * w) = ic (A w) ∧ ν 66 (3 * w + 1) = ic (C w) := by
      intro w q
      obtain ⟨a, b, h, ⟨g1, g2, g3, g4⟩, ⟨g5, g6, g7⟩, g8, g9, g10⟩ := hw w q
      rw [hAd, hCd]; simp only
      rw [g5, g6, ic_n (by omega), ic_n (by omega)]
      exact ⟨g1, g2, g3, ⟨rfl, rfl⟩, g8, g9⟩
    have htC : ∀ w, w < W → A w < 9 ∧ C w < 9 ∧ A w ≠ C w ∧ μ1 12 w = ic (A w) ∧ μ1 13 w = ic (C w) := by
      intro w q
      obtain ⟨g1, g2, g3, ⟨g4, g5⟩, -⟩ := hac w q
      rw [fp.1 12 (by decide), fp.1 13 (by decide)]
      exact ⟨by omega, by omega, g3, g4, g5⟩
    rcases jn hN hB hA1 hR3 (lo := 0) (y := F) (by decide) (by omega) 0 (μ1 11 0 - 1) rfl (by rw [k0]) with ⟨μ2, ν3, s2, b, x2, y2, hA2, hR4, hs2, fp2, fr3, hb1, hb2, v6, v4⟩ | ⟨μ2, ν3, x2, y2, hbd, fb2, fr3, hwhy⟩
    · rw [k0] at y2
      have t17b : ν3 63 17 = ic W := by rw [fr3.2 17 (by decide) (by decide) (by decide)]; exact t17
      have hMv := hM _ _ _ _ _ _ y1 he t16 y2
      rw [t4] at hMv
      rw [fine_1 hR4.2.2.2.2, ob_e, if_neg (by decide)] at hMv
      rw [if_pos v4, v6] at hx1
      have htM : ∀ w, w < W → A w < 9 ∧ C w < 9 ∧ A w ≠ C w ∧ ν3 66 (3 * w) = ic (A w) ∧ ν3 66 (3 * w + 1) = ic (C w) := by
        intro w q
        obtain ⟨g1, g2, g3, -, g4, g5⟩ := hac w q
        rw [fr3.1 66 (by decide), fr2.1 66 (by decide)]
        exact ⟨by omega, by omega, g3, g4, g5⟩
      have hbd2 := bad_mk μ1 ν3 (k := 2) (p := s1) hs6 (by decide)
      have hfail : f_landR_readWire N μ = f_landR_readWire_49 N μ1 → (∃ x z, f_m_readWire N ν = some (wr (wr (wr (wr (wr (wr ν3 63 5 (ic s1)) 63 6 (ic 2)) 66 (3 * W) x) 66 (3 * W + 1) z) 66 (3 * W + 2) 0) 63 17 (ic (W + 1)))) → RO B L μ ν s (f_landR_readWire N μ) (f_m_readWire N ν) := by
        intro e1 ⟨x, z, e2⟩
        right
        refine ⟨_, _, e1.trans h49, e2, hbd2.w rfl rfl rfl rfl, fp.xn.tr (fb_fail μ1 _ _).xn, ?_⟩
        exact ((((((fr2.tr fr3).mn.w63 5 _ (by decide)).w63 6 _ (by decide)).w3 66 _ _ (by decide) (by decide)).w3 66 _ _ (by decide) (by decide)).w3 66 _ _ (by decide) (by decide)).w63 17 _ (by decide)
      by_cases hvb : v = b
      · apply hfail
        · rw [hx1, if_pos (by rw [hvb])]
        · rw [if_pos (by rw [hvb]), wrong_1 hR4.2.2.2.2, ob_e] at hMv
          exact ⟨_, _, hMv.trans (w38_bad (ν := wr (wr ν3 63 5 (ic s1)) 63 6 (ic 2)) t17b hcap hbd2.nf hN _ _ _)⟩
      · rw [if_neg (by rw [ic_eq (by omega) (by omega)]; omega)] at hMv
        rw [if_neg (by rw [ic_eq (by omega) (by omega)]; omega)] at hx1
        obtain ⟨r, r1, r2⟩ := lp_wiredR (N := N) k1 hW htC (a := v) (b := b) (by omega) (by omega) W 0 N (by omega) (by omega)
        have r1' : f_landR_isWired N μ1 (ic v) (ic b) = some r := r1
        rw [r1', ob_e] at hx1
        obtain ⟨z1, z2⟩ := lp_w41 (N := N) t17b hW hR4.2.2.2.2 htM (a := v) (b := b) (by omega) (by omega) (y := s1) hs6 W 0 N (by omega) (by omega)
        have h38 : f_m_readWire_38 N ν3 (ic v) (ic s1) (ic b) = f_m_readWire_41 N N ν3 (ic v) (ic s1) (ic b) (ic 0) := rfl
        by_cases hm : ∀ w, 0 ≤ w → w < W → ¬ MT A C v b w
        · rw [if_pos (r2.mpr hm)] at hx1
          rw [h38, z1 hm] at hMv
          have hR5 : RT (wr (wr ν3 66 (3 * W) (ic v)) 66 (3 * W + 1) (ic b)) B L s2 := hR4
          rcases jn hN hB hA2 hR5 (lo := 0) (y := 100) (by decide) (by decide) 0 99 rfl rfl with ⟨μ3, ν4, s3, h, x3, y3, hA3, hR6, hs3, fp3, fr4, hh1, hh2, -, -⟩ | ⟨μ3, ν4, x3, y3, hbd, fb3, fr4, -⟩
          · left
            have t17c : ν4 63 17 = ic W := by rw [fr4.2 17 (by decide) (by decide) (by decide)]; exact t17b
            have k1c : μ3 11 1 = ic W := by rw [fp3.1 11 (by decide), fp2.1 11 (by decide)]; exact k1
            rw [w117 t17b hcap y3 t17c] at hMv
            have fp123 := fp.tr (fp2.tr fp3)
            refine ⟨wr (wr (wr (wr μ3 12 W (ic v)) 13 W (ic b)) 14 W (ic h)) 11 1 (ic (W + 1)), wr (wr ν4 66 (3 * W + 2) (ic h)) 63 17 (ic (W + 1)), s3, F, W + 1, T, P, l, ?_, hMv, hA3, hR6, by omega, ?_, ((((fp123.xn.w3 12 _ _ (by decide) (by decide)).w3 13 _ _ (by decide) (by decide)).w3 14 _ _ (by decide) (by decide)).w3 11 _ _ (by decide) (by decide)), fp123.2.2, ?_⟩
            · rw [hx1]
              unfold f_landR_readWire_55
              rw [x2, ob_e, if_neg (by rw [ic_m1 (by omega)]; exact id)]
              simp only
              rw [x3, ob_e, if_neg (by rw [ic_m1 (by omega)]; exact id)]
              simp only
              rw [k1c, put_e (by omega) (by decide), ob_e, show (wr μ3 12 W (ic v)) 11 1 = ic W from k1c, put_e (by omega) (by decide), ob_e, show (wr (wr μ3 12 W (ic v)) 13 W (ic b)) 11 1 = ic W from k1c, put_e (by omega) (by decide), ob_e, show (wr (wr (wr μ3 12 W (ic v)) 13 W (ic b)) 14 W (ic h)) 11 1 = ic W from k1c, wb_e, ic_1]
            · obtain ⟨m', hm'⟩ : ∃ x : sw_M, x = wr (wr (wr (wr μ3 12 W (ic v)) 13 W (ic b)) 14 W (ic h)) 11 1 (ic (W + 1)) := ⟨_, rfl⟩
              obtain ⟨q', hq'⟩ : ∃ x : sw_M, x = wr (wr ν4 66 (3 * W + 2) (ic h)) 63 17 (ic (W + 1)) := ⟨_, rfl⟩
              rw [← hm', ← hq']
              have r1 : ∀ a, 15 ≤ a → a ≤ 18 → m' a = μ a := fun a _ _ => by rw [hm', wr_nr (by omega), wr_nr (by omega), wr_nr (by omega), wr_nr (by omega), fp123.1 a (by omega)]
              have rq : ∀ a, a ≠ 63 → a ≠ 66 → q' a = ν a := fun a _ _ => by rw [hq', wr_nr (by omega), wr_nr (by omega), fr4.1 a (by omega), wr_nr (by omega), wr_nr (by omega), fr3.1 a (by omega), fr2.1 a (by omega)]
              have r3 : ∀ j, 16 ≤ j → j ≤ 20 → j ≠ 17 → q' 63 j = ν 63 j := fun j _ _ _ => by rw [hq', wr_ap, if_pos rfl, if_neg (by omega), wr_nr (by decide), fr4.2 j (by omega) (by omega) (by omega), wr_nr (by decide), wr_nr (by decide), fr3.2 j (by omega) (by omega) (by omega), fr2.2 j (by omega) (by omega) (by omega)]
              have r4 : ∀ j, j ≠ 1 → m' 11 j = μ 11 j := fun j _ => by rw [hm', wr_ap, if_pos rfl, if_neg (by omega), wr_nr (by decide), wr_nr (by decide), wr_nr (by decide), fp123.1 11 (by decide)]
              have e12 : ∀ t, m' 12 t = if t = W then ic v else μ 12 t := fun t => by rw [hm', wr_nr (by decide), wr_nr (by decide), wr_nr (by decide), wr_ap, if_pos rfl, fp123.1 12 (by decide)]
              have e13 : ∀ t, m' 13 t = if t = W then ic b else μ 13 t := fun t => by rw [hm', wr_nr (by decide), wr_nr (by decide), wr_ap, if_pos rfl, wr_nr (by decide), fp123.1 13 (by decide)]
              have e14 : ∀ t, m' 14 t = if t = W then ic h else μ 14 t := fun t => by rw [hm', wr_nr (by decide), wr_ap, if_pos rfl, wr_nr (by decide), wr_nr (by decide), fp123.1 14 (by decide)]
              have e66 : ∀ t, q' 66 t = if t = 3 * W + 2 then ic h else if t = 3 * W + 1 then ic b else if t = 3 * W then ic v else ν 66 t := fun t => by rw [hq', wr_nr (by decide), wr_ap, if_pos rfl, fr4.1 66 (by decide), wr_ap, if_pos rfl, wr_ap, if_pos rfl, fr3.1 66 (by decide), fr2.1 66 (by decide)]
              unfold LR
              rw [r1 15 (by decide) (by decide), r1 16 (by decide) (by decide), r1 17 (by decide) (by decide), r1 18 (by decide) (by decide), rq 67 (by decide) (by decide), rq 68 (by decide) (by decide), r3 16 (by decide) (by decide) (by decide), r3 18 (by decide) (by decide) (by decide), r3 19 (by decide) (by decide) (by decide), r3 20 (by decide) (by decide) (by decide), r4 0 (by decide), r4 2 (by decide), r4 3 (by decide), r4 4 (by decide)]
              refine ⟨⟨l0, by rw [hm']; rfl, l2, l3, l4⟩, ⟨n0, by rw [hq']; rfl, n2, n3, n4⟩, ⟨hF, by omega, hT, hP, hl⟩, fun w hlt => ?_, ht, hp⟩
              rw [e12, e13, e14, e66, e66, e66]
              by_cases e : w = W
              · subst e
                exact ⟨v, b, h, ⟨hv, hb2, hvb, by omega⟩, ⟨if_pos rfl, if_pos rfl, if_pos rfl⟩, by rw [if_neg (by omega), if_neg (by omega), if_pos rfl], by rw [if_neg (by omega), if_pos rfl], by rw [if_pos rfl]⟩
              · obtain ⟨a', b', h', g1, ⟨g2, g3, g3'⟩, g4, g5, g6⟩ := hw w (by omega)
                exact ⟨a', b', h', g1, ⟨by rw [if_neg e]; exact g2, by rw [if_neg e]; exact g3, by rw [if_neg e]; exact g3'⟩, by rw [if_neg (by omega), if_neg (by omega), if_neg (by omega)]; exact g4, by rw [if_neg (by omega), if_neg (by omega), if_neg (by omega)]; exact g5, by rw [if_neg (by omega), if_neg (by omega), if_neg (by omega)]; exact g6⟩
            · exact ((((((fr2.tr fr3).mn.w3 66 _ _ (by decide) (by decide)).w3 66 _ _ (by decide) (by decide)).tr fr4.mn).w3 66 _ _ (by decide) (by decide)).w63 17 _ (by decide))
          · right
            have t17c : ν4 63 17 = ic W := by rw [fr4.2 17 (by decide) (by decide) (by decide)]; exact t17b
            rw [w117 t17b hcap y3 t17c] at hMv
            refine ⟨μ3, _, ?_, hMv, hbd.w rfl rfl rfl rfl, (fp.tr fp2).xn.tr fb3.xn, ((((((fr2.tr fr3).mn.w3 66 _ _ (by decide) (by decide)).w3 66 _ _ (by decide) (by decide)).tr fr4.mn).w3 66 _ _ (by decide) (by decide)).w63 17 _ (by decide))⟩
            rw [hx1]
            unfold f_landR_readWire_55
            rw [x2, ob_e, if_neg (by rw [ic_m1 (by omega)]; exact id)]
            simp only
            rw [x3, ob_e, if_pos rfl]
        · apply hfail
          · rw [hx1, if_neg (fun z => hm (r2.mp z))]
          · rw [h38, z2 hm] at hMv
            refine ⟨ic v, ic b, hMv.trans ?_⟩
            exact w117 (ν := wr (wr ν3 63 5 (ic s1)) 63 6 2) t17b hcap (num_bad (ν := wr (wr (wr (wr ν3 63 5 (ic s1)) 63 6 2) 66 (3 * W) (ic v)) 66 (3 * W + 1) (ic b)) hbd2.nf 0 99) t17b
    · right
      rw [k0] at y2
      have t17b : ν3 63 17 = ic W := by rw [fr3.2 17 (by decide) (by decide) (by decide)]; exact t17
      have hMv := hM _ _ _ _ _ _ y1 he t16 y2
      rw [fine_0 hbd.nf, ob_e, if_pos rfl, w38_bad t17b hcap hbd.nf hN] at hMv
      refine ⟨μ2, _, ?_, hMv, hbd.w rfl rfl rfl rfl, fp.xn.tr fb2.xn, (((((fr2.tr fr3).mn.w3 66 _ _ (by decide) (by decide)).w3 66 _ _ (by decide) (by decide)).w3 66 _ _ (by decide) (by decide)).w63 17 _ (by decide))⟩
      have h55 : f_landR_readWire_55 N μ1 (ic v) = some (0, μ2) := by
        unfold f_landR_readWire_55
        rw [x2, ob_e, if_pos rfl]
      rw [hx1, h55]
      by_cases q4 : μ1 1 4 = 257
      · rcases hwhy with z | ⟨b, hb, v6, hb2, -⟩
        · exact absurd q4 z
        · obtain ⟨r, r1, r2⟩ := lp_wiredR (N := N) k1 hW htC (a := v) (b := b) (by omega) (by omega) W 0 N (by omega) (by omega)
          have r1' : f_landR_isWired N μ1 (ic v) (ic b) = some r := r1
          have hr : r = 0 := by
            rw [r2]
            intro w _ q m
            obtain ⟨g1, g2, -⟩ := hac w q
            rcases m with ⟨m1, m2⟩ | ⟨m1, m2⟩ <;> omega
          rw [if_pos q4, v6, if_neg (by rw [ic_eq (by omega) (by omega)]; omega), r1', ob_e, if_pos hr]
      · rw [if_neg q4]
  · right
    rw [l0] at y1
    have t16 : ν1 63 16 = ic F := by rw [fr.2 16 (by decide) (by decide) (by decide)]; exact n0
    have t17 : ν1 63 17 = ic W := by rw [fr.2 17 (by decide) (by decide) (by decide)]; exact n1
    obtain ⟨p1, hp1, hp2⟩ := num_pos hN hB hR y1
    obtain ⟨c, t, ht', he⟩ := here_tot (N := N) (ν := ν1) hN (by rw [fr.2 3 (by decide) (by decide) (by decide)]; exact hR.1) hR.2.1 hp1 hp2 (fun i hi => by rw [fr.1 65 (by decide)]; exact hR.2.2.2.1 i hi) hB
    have hb2 : ¬ (wr ν1 63 4 (ic t)) 63 5 = -1 := hbd.nf
    have hMv := hM _ _ _ _ _ _ y1 he t16 (num_bad hb2 0 _)
    rw [fine_0 hb2, ob_e, if_pos rfl, w38_bad (ν := wr ν1 63 4 (ic t)) t17 hcap hb2 hN] at hMv
    refine ⟨μ1, _, ?_, hMv, hbd.w rfl rfl rfl rfl, fb.xn, (((((fr.mn.w63 4 _ (by decide)).w3 66 _ _ (by decide) (by decide)).w3 66 _ _ (by decide) (by decide)).w3 66 _ _ (by decide) (by decide)).w63 17 _ (by decide))⟩
    unfold f_landR_readWire
    rw [x1, ob_e, if_pos rfl]
end
