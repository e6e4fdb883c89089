/-! ===== printed by wip/whole/gen79h.py: states kept and brought back ===== -/
theorem cpc_1 {α : Type} {b m n0 n1 : Nat} (h0 : (OfNat.ofNat m : Nat) ≤ n0) (h1 : b + (OfNat.ofNat m : Nat) ≤ n1) (q0 : n0 < 2147483648) (q1 : n1 < 2147483648) (k : Option α) : cpc 0 (ic b) (no_index (OfNat.ofNat m)) n0 n1 k = k := by
  unfold cpc
  rw [if_neg]
  rw [show ((no_index (OfNat.ofNat m)) : Int32) = ic (OfNat.ofNat m) from rfl]
  generalize (OfNat.ofNat m : Nat) = q at h0 h1 ⊢
  rw [ic_lt0 (by omega), ic_lt0 (by omega), ic_n (by omega), ic_n (by omega), show (0 : Int32).toNatClampNeg = 0 from rfl]
  rintro (z | z | z | z | z)
  · exact absurd z (by decide)
  · exact z
  · exact z
  · omega
  · omega
theorem cpc_2 {α : Type} {b m n0 n1 : Nat} (h0 : b + (OfNat.ofNat m : Nat) ≤ n0) (h1 : (OfNat.ofNat m : Nat) ≤ n1) (q0 : n0 < 2147483648) (q1 : n1 < 2147483648) (k : Option α) : cpc (ic b) 0 (no_index (OfNat.ofNat m)) n0 n1 k = k := by
  unfold cpc
  rw [if_neg]
  rw [show ((no_index (OfNat.ofNat m)) : Int32) = ic (OfNat.ofNat m) from rfl]
  generalize (OfNat.ofNat m : Nat) = q at h0 h1 ⊢
  rw [ic_lt0 (by omega), ic_lt0 (by omega), ic_n (by omega), ic_n (by omega), show (0 : Int32).toNatClampNeg = 0 from rfl]
  rintro (z | z | z | z | z)
  · exact z
  · exact absurd z (by decide)
  · exact z
  · omega
  · omega
def svF (μ : sw_M) (g : Nat → Int32) (b : Nat) : Nat → Int32 := fun i => if b + 33 ≤ i ∧ i < b + 38 then μ 40 (i - (b + 33)) else if b + 28 ≤ i ∧ i < b + 33 then μ 39 (i - (b + 28)) else if b + 22 ≤ i ∧ i < b + 28 then μ 38 (i - (b + 22)) else if b + 16 ≤ i ∧ i < b + 22 then μ 37 (i - (b + 16)) else if b + 4 ≤ i ∧ i < b + 16 then μ 36 (i - (b + 4)) else if i = b + 3 then μ 35 5 else if i = b + 2 then μ 35 4 else if i = b + 1 then μ 35 3 else if i = b + 0 then μ 35 2 else g i
theorem sv_core (μ : sw_M) (g : Nat → Int32) (b : Nat) : va_cpy (μ 40) (va_cpy (μ 39) (va_cpy (μ 38) (va_cpy (μ 37) (va_cpy (μ 36) (up (up (up (up g b (μ 35 2)) (b + 1) (μ 35 3)) (b + 2) (μ 35 4)) (b + 3) (μ 35 5)) 0 (b + 4) 12) 0 (b + 16) 6) 0 (b + 22) 6) 0 (b + 28) 5) 0 (b + 33) 5 = svF μ g b := by
  funext i
  unfold va_cpy svF
  simp only [up_ap]
  by_cases h33 : b + 33 ≤ i ∧ i < b + 38
  · rw [if_pos (by omega), if_pos h33]; congr 1; omega
  rw [if_neg (by omega), if_neg h33]
  by_cases h28 : b + 28 ≤ i ∧ i < b + 33
  · rw [if_pos (by omega), if_pos h28]; congr 1; omega
  rw [if_neg (by omega), if_neg h28]
  by_cases h22 : b + 22 ≤ i ∧ i < b + 28
  · rw [if_pos (by omega), if_pos h22]; congr 1; omega
  rw [if_neg (by omega), if_neg h22]
  by_cases h16 : b + 16 ≤ i ∧ i < b + 22
  · rw [if_pos (by omega), if_pos h16]; congr 1; omega
  rw [if_neg (by omega), if_neg h16]
  by_cases h4 : b + 4 ≤ i ∧ i < b + 16
  · rw [if_pos (by omega), if_pos h4]; congr 1; omega
  rw [if_neg (by omega), if_neg h4]
  by_cases e3 : i = b + 3
  · rw [if_pos (by omega), if_pos e3]
  rw [if_neg (by omega), if_neg e3]
  by_cases e2 : i = b + 2
  · rw [if_pos (by omega), if_pos e2]
  rw [if_neg (by omega), if_neg e2]
  by_cases e1 : i = b + 1
  · rw [if_pos (by omega), if_pos e1]
  rw [if_neg (by omega), if_neg e1]
  by_cases e0 : i = b + 0
  · rw [if_pos (by omega), if_pos e0]
  rw [if_neg (by omega), if_neg e0]
theorem e_save {N : Nat} {k0 n0 r : Nat} (hk : 41 ≤ k0) (hr : 38 * r + 38 ≤ n0) (hn : n0 ≤ 100000) (μ : sw_M) : f_days_save N k0 n0 μ (ic r) = some (wrR μ k0 (svF μ (μ k0) (38 * r))) := by
  have hy : ic r * 38 = ic (38 * r) := by rw [mul_lit, Nat.mul_comm]
  generalize 38 * r = b at hr hy
  have g1 : 0 ≤ ic b ∧ ic b ≤ Int32.ofNat n0 - 38 := by
    rw [ic_0le (by omega), show Int32.ofNat n0 - 38 = ic (n0 - 38) from ic_sub (a := n0) (b := 38) (by omega), ic_le (by omega) (by omega)]
    exact ⟨trivial, by omega⟩
  have nr : ∀ (m : sw_M) (g : Nat → Int32) (a : Nat), 35 ≤ a → a ≤ 40 → (wrR m k0 g) a = m a := fun m g a h1 h2 => wrR_nr (by omega)
  have q0 : (0 : Int32).toNatClampNeg = 0 := rfl
  unfold f_days_save
  rw [hy, ib_e, within_e, ob_e, b2_p g1, if_neg o1]
  simp (disch := omega) only [wr_up, wrR_r, wrR_wrR, nr, wb_e, ib_e, inb_e, add_lit, ic_n, n_lit, q0, cpc_1]
  rw [← sv_core]
/-- a row kept -/
theorem RW.sv {μ : sw_M} {W T P : Nat} {S : Nat → Int32} (hW : W ≤ 12) (hT : T ≤ 6) (hP : P ≤ 5) (h : DR μ 35 W T P S) (g : Nat → Int32) (b : Nat) : RW W T P (fun j => svF μ g b (b + j)) S := by
  refine ⟨⟨?_, ?_, ?_, ?_⟩, ?_, ?_, ?_, ?_, ?_⟩
  · rw [← h.1.1]; unfold svF; simp (disch := omega) only [if_neg, if_pos, if_true]
  · rw [← h.1.2.1]; unfold svF; simp (disch := omega) only [if_neg, if_pos, if_true]
  · rw [← h.1.2.2.1]; unfold svF; simp (disch := omega) only [if_neg, if_pos, if_true]
  · rw [← h.1.2.2.2]; unfold svF; simp (disch := omega) only [if_neg, if_pos, if_true]
  · intro w hw; rw [← h.2.1 w hw]; show svF μ g b (b + (4 + w)) = μ 36 w; unfold svF
    rw [if_neg (by omega), if_neg (by omega), if_neg (by omega), if_neg (by omega), if_pos (by omega)]; congr 1; omega
  · intro t ht; rw [← h.2.2.1 t ht]; show svF μ g b (b + (22 + t)) = μ 38 t; unfold svF
    rw [if_neg (by omega), if_neg (by omega), if_pos (by omega)]; congr 1; omega
  · intro t ht e; rw [← h.2.2.2.1 t ht e]; show svF μ g b (b + (16 + t)) = μ 37 t; unfold svF
    rw [if_neg (by omega), if_neg (by omega), if_neg (by omega), if_pos (by omega)]; congr 1; omega
  · intro p hp; rw [← h.2.2.2.2.1 p hp]; show svF μ g b (b + (28 + p)) = μ 39 p; unfold svF
    rw [if_neg (by omega), if_pos (by omega)]; congr 1; omega
  · intro p hp; rw [← h.2.2.2.2.2 p hp]; show svF μ g b (b + (33 + p)) = μ 40 p; unfold svF
    rw [if_pos (by omega)]; congr 1; omega
theorem sv_out {μ : sw_M} {g : Nat → Int32} {b i : Nat} (h : i < b ∨ b + 38 ≤ i) : svF μ g b i = g i := by
  unfold svF; simp (disch := omega) only [if_neg]
theorem e_load_days {N : Nat} {k0 n0 r : Nat} (hk : k0 < 35 ∨ 41 ≤ k0) (hr : 38 * r + 38 ≤ n0) (hn : n0 ≤ 100000) (μ : sw_M) : ∃ μ', f_days_load N k0 n0 μ (ic r) = some μ' ∧ (∀ a, (a < 35 ∨ 40 < a) → μ' a = μ a) ∧ (∀ (W T P : Nat) (S : Nat → Int32), W ≤ 12 → T ≤ 6 → P ≤ 5 → RW W T P (fun j => μ k0 (38 * r + j)) S → DR μ' 35 W T P S) := by
  have hy : ic r * 38 = ic (38 * r) := by rw [mul_lit, Nat.mul_comm]
  generalize 38 * r = b at hr hy
  have g1 : 0 ≤ ic b ∧ ic b ≤ Int32.ofNat n0 - 38 := by
    rw [ic_0le (by omega), show Int32.ofNat n0 - 38 = ic (n0 - 38) from ic_sub (a := n0) (b := 38) (by omega), ic_le (by omega) (by omega)]
    exact ⟨trivial, by omega⟩
  have nr : ∀ (m : sw_M) (g : Nat → Int32) (a : Nat), 35 ≤ a → a ≤ 40 → (wrR m a g) k0 = m k0 := fun m g a h1 h2 => wrR_nr (by omega)
  have nq : ∀ (m : sw_M) (j a : Nat) (v : Int32), 35 ≤ a → a ≤ 40 → (wr m a j v) k0 = m k0 := fun m j a v h1 h2 => wr_nr (by omega)
  have q0 : (0 : Int32).toNatClampNeg = 0 := rfl
  refine ⟨wrR (wrR (wrR (wrR (wrR (wr (wr (wr (wr μ 35 2 (μ k0 b)) 35 3 (μ k0 (b + 1))) 35 4 (μ k0 (b + 2))) 35 5 (μ k0 (b + 3))) 36 (va_cpy (μ k0) (μ 36) (b + 4) 0 12)) 37 (va_cpy (μ k0) (μ 37) (b + 16) 0 6)) 38 (va_cpy (μ k0) (μ 38) (b + 22) 0 6)) 39 (va_cpy (μ k0) (μ 39) (b + 28) 0 5)) 40 (va_cpy (μ k0) (μ 40) (b + 33) 0 5), ?_, ?_, ?_⟩
  · unfold f_days_load
    rw [hy, ib_e, within_e, ob_e, b2_p g1, if_neg o1]
    simp (disch := omega) only [nr, nq, wb_e, ib_e, inb_e, add_lit, ic_n, n_lit, q0, cpc_2]
    rfl
  · intro a ha
    rw [wrR_nr (by omega), wrR_nr (by omega), wrR_nr (by omega), wrR_nr (by omega), wrR_nr (by omega), wr_nr (by omega), wr_nr (by omega), wr_nr (by omega), wr_nr (by omega)]
  · intro W T P S hW hT hP h
    refine ⟨⟨h.1.1, h.1.2.1, h.1.2.2.1, h.1.2.2.2⟩, ?_, ?_, ?_, ?_, ?_⟩
    · intro w hw; rw [← h.2.1 w hw]; show va_cpy (μ k0) (μ 36) (b + 4) 0 12 w = μ k0 (b + (4 + w)); unfold va_cpy; rw [if_pos (by omega)]; congr 1; omega
    · intro t ht; rw [← h.2.2.1 t ht]; show va_cpy (μ k0) (μ 38) (b + 22) 0 6 t = μ k0 (b + (22 + t)); unfold va_cpy; rw [if_pos (by omega)]; congr 1; omega
    · intro t ht e; rw [← h.2.2.2.1 t ht e]; show va_cpy (μ k0) (μ 37) (b + 16) 0 6 t = μ k0 (b + (16 + t)); unfold va_cpy; rw [if_pos (by omega)]; congr 1; omega
    · intro p hp; rw [← h.2.2.2.2.1 p hp]; show va_cpy (μ k0) (μ 39) (b + 28) 0 5 p = μ k0 (b + (28 + p)); unfold va_cpy; rw [if_pos (by omega)]; congr 1; omega
    · intro p hp; rw [← h.2.2.2.2.2 p hp]; show va_cpy (μ k0) (μ 40) (b + 33) 0 5 p = μ k0 (b + (33 + p)); unfold va_cpy; rw [if_pos (by omega)]; congr 1; omega
theorem e_load_dream {N : Nat} {k0 n0 r : Nat} (hk : k0 < 57 ∨ 63 ≤ k0) (hr : 38 * r + 38 ≤ n0) (hn : n0 ≤ 100000) (μ : sw_M) : ∃ μ', f_dream_load N k0 n0 μ (ic r) = some μ' ∧ (∀ a, (a < 57 ∨ 62 < a) → μ' a = μ a) ∧ (∀ (W T P : Nat) (S : Nat → Int32), W ≤ 12 → T ≤ 6 → P ≤ 5 → RW W T P (fun j => μ k0 (38 * r + j)) S → DR μ' 57 W T P S) := by
  have hy : ic r * 38 = ic (38 * r) := by rw [mul_lit, Nat.mul_comm]
  generalize 38 * r = b at hr hy
  have g1 : 0 ≤ ic b ∧ ic b ≤ Int32.ofNat n0 - 38 := by
    rw [ic_0le (by omega), show Int32.ofNat n0 - 38 = ic (n0 - 38) from ic_sub (a := n0) (b := 38) (by omega), ic_le (by omega) (by omega)]
    exact ⟨trivial, by omega⟩
  have nr : ∀ (m : sw_M) (g : Nat → Int32) (a : Nat), 57 ≤ a → a ≤ 62 → (wrR m a g) k0 = m k0 := fun m g a h1 h2 => wrR_nr (by omega)
  have nq : ∀ (m : sw_M) (j a : Nat) (v : Int32), 57 ≤ a → a ≤ 62 → (wr m a j v) k0 = m k0 := fun m j a v h1 h2 => wr_nr (by omega)
  have q0 : (0 : Int32).toNatClampNeg = 0 := rfl
  refine ⟨wrR (wrR (wrR (wrR (wrR (wr (wr (wr (wr μ 57 2 (μ k0 b)) 57 3 (μ k0 (b + 1))) 57 4 (μ k0 (b + 2))) 57 5 (μ k0 (b + 3))) 58 (va_cpy (μ k0) (μ 58) (b + 4) 0 12)) 59 (va_cpy (μ k0) (μ 59) (b + 16) 0 6)) 60 (va_cpy (μ k0) (μ 60) (b + 22) 0 6)) 61 (va_cpy (μ k0) (μ 61) (b + 28) 0 5)) 62 (va_cpy (μ k0) (μ 62) (b + 33) 0 5), ?_, ?_, ?_⟩
  · unfold f_dream_load
    rw [hy, ib_e, within_e, ob_e, b2_p g1, if_neg o1]
    simp (disch := omega) only [nr, nq, wb_e, ib_e, inb_e, add_lit, ic_n, n_lit, q0, cpc_2]
    rfl
  · intro a ha
    rw [wrR_nr (by omega), wrR_nr (by omega), wrR_nr (by omega), wrR_nr (by omega), wrR_nr (by omega), wr_nr (by omega), wr_nr (by omega), wr_nr (by omega), wr_nr (by omega)]
  · intro W T P S hW hT hP h
    refine ⟨⟨h.1.1, h.1.2.1, h.1.2.2.1, h.1.2.2.2⟩, ?_, ?_, ?_, ?_, ?_⟩
    · intro w hw; rw [← h.2.1 w hw]; show va_cpy (μ k0) (μ 58) (b + 4) 0 12 w = μ k0 (b + (4 + w)); unfold va_cpy; rw [if_pos (by omega)]; congr 1; omega
    · intro t ht; rw [← h.2.2.1 t ht]; show va_cpy (μ k0) (μ 60) (b + 22) 0 6 t = μ k0 (b + (22 + t)); unfold va_cpy; rw [if_pos (by omega)]; congr 1; omega
    · intro t ht e; rw [← h.2.2.2.1 t ht e]; show va_cpy (μ k0) (μ 59) (b + 16) 0 6 t = μ k0 (b + (16 + t)); unfold va_cpy; rw [if_pos (by omega)]; congr 1; omega
    · intro p hp; rw [← h.2.2.2.2.1 p hp]; show va_cpy (μ k0) (μ 61) (b + 28) 0 5 p = μ k0 (b + (28 + p)); unfold va_cpy; rw [if_pos (by omega)]; congr 1; omega
    · intro p hp; rw [← h.2.2.2.2.2 p hp]; show va_cpy (μ k0) (μ 62) (b + 33) 0 5 p = μ k0 (b + (33 + p)); unfold va_cpy; rw [if_pos (by omega)]; congr 1; omega
