/-- how many bits are set -/
theorem bc_k : ∀ x y : Fin 64, f_jd_bitCount 0 (fun _ _ => 0) (ic (64 * x.val + y.val)) = some (fo (fun i a => if (64 * x.val + y.val).testBit i = true then a + 1 else a) 0 12 0) := by decide +kernel
theorem bc_n {n : Nat} (hn : n < 4096) (N : Nat) (μ : sw_M) : f_jd_bitCount N μ (ic n) = some (fo (fun i a => if n.testBit i = true then a + 1 else a) 0 12 0) := by
  have := bc_k ⟨n / 64, by omega⟩ ⟨n % 64, by omega⟩
  simp only [show 64 * (n / 64) + n % 64 = n by omega] at this
  exact this
theorem fo_tail (p : Nat → Prop) [DecidablePred p] : ∀ (i W : Nat), fo (fun w (a : Int32) => if w < W ∧ p w then a + 1 else a) 0 (W + i) 0 = fo (fun w (a : Int32) => if p w then a + 1 else a) 0 W 0
  | 0, W => fo_cg W 0 0 (fun i _ h b => by simp [show i < W by omega])
  | i + 1, W => by
    rw [show W + (i + 1) = (W + i) + 1 by omega, fo_e, fo_tail p i W, if_neg (by omega)]
theorem bc_e {W : Nat} (hW : W ≤ 12) (p : Nat → Prop) [DecidablePred p] (N : Nat) (μ : sw_M) : f_jd_bitCount N μ (fo (fun w a => if p w then a ||| sh w else a) 0 W 0) = some (fo (fun w a => if p w then a + 1 else a) 0 W 0) := by
  have hb := b_fo0 p (W := W) (by omega)
  generalize fo (fun w a => if p w then a ||| sh w else a) 0 W 0 = x at hb
  have hx : x = ic x.toBitVec.toNat := by
    refine Int32.toBitVec_inj.mp ?_
    show _ = BitVec.ofNat 32 x.toBitVec.toNat
    simp
  have hn : x.toBitVec.toNat < 4096 := by
    refine Nat.lt_pow_two_of_testBit (n := 12) _ (fun i hi => ?_)
    have := hb i
    unfold bt BitVec.getLsbD at this
    rw [this]; simp; omega
  rw [hx, bc_n hn N μ, ← fo_tail p (12 - W) W, show W + (12 - W) = 12 by omega]
  congr 1
  refine fo_cg 12 0 0 (fun i _ _ b => ?_)
  have := hb i
  unfold bt BitVec.getLsbD at this
  simp only [this, decide_eq_true_eq]
