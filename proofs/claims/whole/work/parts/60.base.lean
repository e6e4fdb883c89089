/-! ===== numbers, folds, memory: what the mathematics of both programs rests on ===== -/
def ic (k : Nat) : Int32 := Int32.ofNat k
theorem ic_toInt {k : Nat} (h : k < 2147483648) : (ic k).toInt = (k : Int) := Int32.toInt_ofNat_of_lt (by simpa using h)
theorem ic_n {k : Nat} (h : k < 2147483648) : (ic k).toNatClampNeg = k := Int32.toNatClampNeg_ofNat_of_lt (by simpa using h)
theorem ic_le {a b : Nat} (ha : a < 2147483648) (hb : b < 2147483648) : (ic a ≤ ic b) = (a ≤ b) := propext (Int32.ofNat_le_iff_le (by simpa using ha) (by simpa using hb))
theorem ic_lt {a b : Nat} (ha : a < 2147483648) (hb : b < 2147483648) : (ic a < ic b) = (a < b) := propext (Int32.ofNat_lt_iff_lt (by simpa using ha) (by simpa using hb))
theorem ic_eq {a b : Nat} (ha : a < 2147483648) (hb : b < 2147483648) : (ic a = ic b) = (a = b) := by
  refine propext ⟨fun h => ?_, fun h => by rw [h]⟩
  have := congrArg Int32.toNatClampNeg h
  rwa [ic_n ha, ic_n hb] at this
theorem ic_add (a b : Nat) : ic a + ic b = ic (a + b) := (Int32.ofNat_add a b).symm
theorem ic_mul (a b : Nat) : ic a * ic b = ic (a * b) := (Int32.ofNat_mul a b).symm
theorem ic_sub {a b : Nat} (h : b ≤ a) : ic a - ic b = ic (a - b) := (Int32.ofNat_sub a b h).symm
theorem ic_1 (a : Nat) : ic a + 1 = ic (a + 1) := ic_add a 1
theorem ic_lit (m : Nat) : (OfNat.ofNat m : Int32) = ic (OfNat.ofNat m) := rfl
theorem ic_p1 (a : Nat) : ic (a + 1) + (-1) = ic a := by
  rw [← ic_1]; show ic a + 1 + -1 = ic a
  rw [Int32.add_assoc]; exact Int32.add_zero _
theorem ic_s1 (a : Nat) : ic (a + 1) - 1 = ic a := ic_sub (a := a + 1) (b := 1) (by omega)
theorem lit_add (m a : Nat) : (no_index (OfNat.ofNat m) : Int32) + ic a = ic (OfNat.ofNat m + a) := ic_add m a
theorem add_lit (m a : Nat) : ic a + (no_index (OfNat.ofNat m) : Int32) = ic (a + OfNat.ofNat m) := ic_add a m
theorem lit_mul (m a : Nat) : (no_index (OfNat.ofNat m) : Int32) * ic a = ic (OfNat.ofNat m * a) := ic_mul m a
theorem mul_lit (m a : Nat) : ic a * (no_index (OfNat.ofNat m) : Int32) = ic (a * OfNat.ofNat m) := ic_mul a m
theorem lit_le {m a : Nat} (hm : (OfNat.ofNat m : Nat) < 2147483648) (ha : a < 2147483648) : ((no_index (OfNat.ofNat m) : Int32) ≤ ic a) = ((OfNat.ofNat m : Nat) ≤ a) := ic_le hm ha
theorem le_lit {m a : Nat} (hm : (OfNat.ofNat m : Nat) < 2147483648) (ha : a < 2147483648) : (ic a ≤ (no_index (OfNat.ofNat m) : Int32)) = (a ≤ (OfNat.ofNat m : Nat)) := ic_le ha hm
theorem lit_lt {m a : Nat} (hm : (OfNat.ofNat m : Nat) < 2147483648) (ha : a < 2147483648) : ((no_index (OfNat.ofNat m) : Int32) < ic a) = ((OfNat.ofNat m : Nat) < a) := ic_lt hm ha
theorem lt_lit {m a : Nat} (hm : (OfNat.ofNat m : Nat) < 2147483648) (ha : a < 2147483648) : (ic a < (no_index (OfNat.ofNat m) : Int32)) = (a < (OfNat.ofNat m : Nat)) := ic_lt ha hm
theorem eq_lit {m a : Nat} (hm : (OfNat.ofNat m : Nat) < 2147483648) (ha : a < 2147483648) : (ic a = (no_index (OfNat.ofNat m) : Int32)) = (a = (OfNat.ofNat m : Nat)) := ic_eq ha hm
theorem lit_eq {m a : Nat} (hm : (OfNat.ofNat m : Nat) < 2147483648) (ha : a < 2147483648) : ((no_index (OfNat.ofNat m) : Int32) = ic a) = ((OfNat.ofNat m : Nat) = a) := ic_eq hm ha
theorem n_lit {m : Nat} (hm : (OfNat.ofNat m : Nat) < 2147483648) : (no_index (OfNat.ofNat m) : Int32).toNatClampNeg = OfNat.ofNat m := ic_n hm
theorem ic_m1 {a : Nat} (ha : a < 2147483648) : (ic a = -1) = False := by
  refine propext ⟨fun h => ?_, False.elim⟩
  have := congrArg Int32.toInt h
  rw [ic_toInt ha] at this
  have h2 : (-1 : Int32).toInt = -1 := by decide
  omega
theorem m1_ic {a : Nat} (ha : a < 2147483648) : ((-1 : Int32) = ic a) = False := by rw [show ((-1 : Int32) = ic a) = (ic a = -1) from propext ⟨Eq.symm, Eq.symm⟩, ic_m1 ha]
theorem ic_lt0 {a : Nat} (ha : a < 2147483648) : (ic a < 0) = False := by
  rw [show (0 : Int32) = ic 0 from rfl, ic_lt ha (by decide)]; simp
theorem ic_0le {a : Nat} (ha : a < 2147483648) : (0 ≤ ic a) = True := by
  rw [show (0 : Int32) = ic 0 from rfl, ic_le (by decide) ha]; simp
theorem ic_of {x : Int32} (h : 0 ≤ x) : ∃ k, k < 2147483648 ∧ x = ic k := by
  refine ⟨x.toNatClampNeg, ?_, (Int32.ofNat_toNatClampNeg x h).symm⟩
  have := x.toNatClampNeg_lt; simpa using this
/-- between two bounds -/
theorem ic_bd {x : Int32} {n : Nat} (h : 0 ≤ x) (h2 : x ≤ ic n) (hn : n < 2147483648) : ∃ k, k ≤ n ∧ x = ic k := by
  obtain ⟨k, hk, rfl⟩ := ic_of h
  rw [ic_le hk hn] at h2
  exact ⟨k, h2, rfl⟩
theorem ic_dc (x : Int32) : (∃ k, k < 2147483648 ∧ x = ic k) ∨ x < 0 := by
  by_cases h : 0 ≤ x
  · exact Or.inl (ic_of h)
  · exact Or.inr (by grind)
theorem wb_e {α : Type} (m : sw_M) (f : sw_M → Option α) : wb m f = f m := Eq.trans rfl rfl
theorem ib_e {α : Type} (x : Int32) (f : Int32 → Option α) : ib x f = f x := Eq.trans rfl rfl
theorem ibL_e {α : Type} (x : Int64) (f : Int64 → Option α) : ibL x f = f x := Eq.trans rfl rfl
theorem inb_e {α : Type} {a n : Nat} (h : a < n) (hn : n < 2147483648) (k : Option α) : inb (ic a) n k = k := by
  unfold inb
  rw [if_neg]
  rw [ic_lt0 (by omega), ic_n (by omega)]; simp; omega
theorem inb_lit {α : Type} {m n : Nat} (h : (OfNat.ofNat m : Nat) < n) (hn : n < 2147483648) (k : Option α) : inb (no_index (OfNat.ofNat m)) n k = k := inb_e h hn k
theorem ob_e {α β : Type} (a : α) (f : α → Option β) : Option.bind (some a) f = f a := Eq.trans rfl rfl
theorem nz_e {α : Type} {y : Int32} (h : y ≠ 0) (k : Option α) : nz y k = k := if_neg h
theorem nzL_e {α : Type} {y : Int64} (h : y ≠ 0) (k : Option α) : nzL y k = k := if_neg h
theorem nz4 {α : Type} (k : Option α) : nz 4 k = k := nz_e (by decide) k
def b2 (p : Prop) [Decidable p] : Int32 := if p then 1 else 0
theorem b2_0 (p : Prop) [Decidable p] : (b2 p = 0) = ¬ p := by unfold b2; split <;> simp_all
theorem b2_1 (p : Prop) [Decidable p] : (b2 p = 1) = p := by unfold b2; split <;> simp_all
theorem b2_bl {α : Type} (p : Prop) [Decidable p] (k : Option α) : bl (b2 p) k = k := by unfold bl b2; split <;> simp
theorem b2_t : b2 True = 1 := rfl
theorem b2_f : b2 False = 0 := rfl
theorem b2_cg {p q : Prop} [Decidable p] [Decidable q] (h : p ↔ q) : b2 p = b2 q := by
  unfold b2; simp only [h]
theorem b2_ite (p : Prop) [Decidable p] : (if p then some (1 : Int32) else some 0) = some (b2 p) := by unfold b2; split <;> rfl
theorem b2_itn (p : Prop) [Decidable p] : (if p then some (0 : Int32) else some 1) = some (b2 (¬ p)) := by unfold b2; split <;> simp_all
theorem bl_0 {α : Type} (k : Option α) : bl 0 k = k := Eq.trans rfl rfl
theorem bl_1 {α : Type} (k : Option α) : bl 1 k = k := Eq.trans rfl rfl
theorem wr_ap (μ : sw_M) (k j : Nat) (v : Int32) (a b : Nat) : wr μ k j v a b = if a = k then (if b = j then v else μ a b) else μ a b := rfl
theorem wrR_ap (μ : sw_M) (k : Nat) (f : Nat → Int32) (a b : Nat) : wrR μ k f a b = if a = k then f b else μ a b := rfl
theorem wr_nr {μ : sw_M} {k j : Nat} {v : Int32} {a : Nat} (h : a ≠ k) : wr μ k j v a = μ a := by funext b; rw [wr_ap, if_neg h]
theorem wrR_nr {μ : sw_M} {k : Nat} {f : Nat → Int32} {a : Nat} (h : a ≠ k) : wrR μ k f a = μ a := by funext b; rw [wrR_ap, if_neg h]
theorem wrR_r (μ : sw_M) (k : Nat) (f : Nat → Int32) : wrR μ k f k = f := by funext b; rw [wrR_ap, if_pos rfl]
/-- a row with one number changed -/
def up (f : Nat → Int32) (j : Nat) (v : Int32) : Nat → Int32 := fun b => if b = j then v else f b
theorem up_ap (f : Nat → Int32) (j : Nat) (v : Int32) (b : Nat) : up f j v b = if b = j then v else f b := rfl
theorem up_s (f : Nat → Int32) (j : Nat) (v : Int32) : up f j v j = v := if_pos rfl
theorem up_n {f : Nat → Int32} {j : Nat} {v : Int32} {b : Nat} (h : b ≠ j) : up f j v b = f b := if_neg h
theorem wr_up (μ : sw_M) (k j : Nat) (v : Int32) : wr μ k j v = wrR μ k (up (μ k) j v) := by
  funext a b; rw [wr_ap, wrR_ap, up_ap]; split
  · next h => subst h; rfl
  · rfl
theorem wrR_wrR (μ : sw_M) (k : Nat) (f g : Nat → Int32) : wrR (wrR μ k f) k g = wrR μ k g := by
  funext a b; simp only [wrR_ap]; split <;> rfl
theorem wrR_self (μ : sw_M) (k : Nat) : wrR μ k (μ k) = μ := by
  funext a b; rw [wrR_ap]; split
  · next h => subst h; rfl
  · rfl
theorem wrR_cm (μ : sw_M) {k l : Nat} (h : k ≠ l) (f g : Nat → Int32) : wrR (wrR μ k f) l g = wrR (wrR μ l g) k f := by
  funext a b; simp only [wrR_ap]; split
  · next e => subst e; rw [if_neg (Ne.symm h)]
  · rfl
/-- a fold over k, k+1 .. k+j-1 -/
def fo {α : Type} (g : Nat → α → α) : Nat → Nat → α → α
  | _, 0, a => a
  | k, j + 1, a => fo g (k + 1) j (g k a)
theorem fo_0 {α : Type} (g : Nat → α → α) (k : Nat) (a : α) : fo g k 0 a = a := rfl
theorem fo_s {α : Type} (g : Nat → α → α) (k j : Nat) (a : α) : fo g k (j + 1) a = fo g (k + 1) j (g k a) := rfl
theorem fo_e {α : Type} (g : Nat → α → α) : ∀ (j k : Nat) (a : α), fo g k (j + 1) a = g (k + j) (fo g k j a)
  | 0, _, _ => rfl
  | j + 1, k, a => by
    rw [fo_s, fo_e g j (k + 1), fo_s]; congr 1; omega
theorem fo_cg {α : Type} {g h : Nat → α → α} : ∀ (j k : Nat) (a : α), (∀ i, k ≤ i → i < k + j → ∀ b, g i b = h i b) → fo g k j a = fo h k j a
  | 0, _, _, _ => rfl
  | j + 1, k, a, H => by
    rw [fo_s, fo_s, H k (by omega) (by omega), fo_cg j (k + 1) _ (fun i h1 h2 b => H i (by omega) (by omega) b)]
/-- an invariant along a fold -/
theorem fo_inv {α : Type} {g : Nat → α → α} (P : Nat → α → Prop) : ∀ (j k : Nat) (a : α), P k a → (∀ i b, k ≤ i → i < k + j → P i b → P (i + 1) (g i b)) → P (k + j) (fo g k j a)
  | 0, _, _, h, _ => h
  | j + 1, k, a, h, H => by
    rw [fo_s]
    have := fo_inv P j (k + 1) (g k a) (H k a (by omega) (by omega) h) (fun i b h1 h2 => H i b (by omega) (by omega))
    rwa [show k + (j + 1) = k + 1 + j by omega]
theorem fu_s {n : Nat} (h : 0 < n) : ∃ m, n = m + 1 := ⟨n - 1, by omega⟩
/-! bits (the first rows began as BITS.to-paste's) -/
def bt (x : Int32) (i : Nat) : Bool := x.toBitVec.getLsbD i
theorem b_ext {x y : Int32} (h : ∀ i, i < 32 → bt x i = bt y i) : x = y := Int32.toBitVec_inj.mp (BitVec.eq_of_getLsbD_eq (fun i hi => h i hi))
theorem b_or (x y : Int32) (i : Nat) : bt (x ||| y) i = (bt x i || bt y i) := by unfold bt; rw [Int32.toBitVec_or, BitVec.getLsbD_or]
theorem b_and (x y : Int32) (i : Nat) : bt (x &&& y) i = (bt x i && bt y i) := by unfold bt; rw [Int32.toBitVec_and, BitVec.getLsbD_and]
theorem b_xor (x y : Int32) (i : Nat) : bt (x ^^^ y) i = (bt x i ^^ bt y i) := by unfold bt; rw [Int32.toBitVec_xor, BitVec.getLsbD_xor]
theorem b_big {x : Int32} {i : Nat} (h : 32 ≤ i) : bt x i = false := BitVec.getLsbD_of_ge _ _ h
theorem b_m1 : ∀ i, i < 32 → bt (-1) i = true := by decide +kernel
theorem b_0 (i : Nat) : bt 0 i = false := BitVec.getLsbD_zero
theorem s_l : ∀ n, n < 32 → ((ic n &&& 31).toBitVec.smod 32).toNat = n := by decide +kernel
theorem b_shl (n : Nat) (hn : n < 32) (x : Int32) {i : Nat} (hi : i < 32) : bt (x <<< (ic n &&& 31)) i = (decide (n ≤ i) && bt x (i - n)) := by
  unfold bt
  rw [Int32.toBitVec_shiftLeft, BitVec.shiftLeft_eq', s_l n hn, BitVec.getLsbD_shiftLeft]
  simp [hi]
  by_cases h : i < n <;> simp [h] <;> omega
theorem b_sshr (n : Nat) (hn : n < 32) (x : Int32) {i : Nat} (hi : i < 32) : bt (x >>> (ic n &&& 31)) i = if n + i < 32 then bt x (n + i) else bt x 31 := by
  unfold bt
  rw [Int32.toBitVec_shiftRight, BitVec.sshiftRight_eq', s_l n hn, BitVec.getLsbD_sshiftRight]
  have : ¬ 32 ≤ i := by omega
  simp [this]
  split
  · rfl
  · rw [BitVec.msb_eq_getLsbD_last]; first | rfl | simp
/-- the bit k -/
def sh (k : Nat) : Int32 := 1 <<< (ic k &&& 31)
theorem sh_e (k : Nat) : (1 : Int32) <<< (ic k &&& 31) = sh k := Eq.trans rfl rfl
theorem b_sh : ∀ k, k < 32 → ∀ i, i < 32 → bt (sh k) i = decide (i = k) := by decide +kernel
theorem b_sh' {k : Nat} (hk : k < 32) (i : Nat) : bt (sh k) i = decide (i = k) := by
  by_cases hi : i < 32
  · exact b_sh k hk i hi
  · rw [b_big (by omega)]; simp; omega
theorem bit_v (x : Int32) {k : Nat} (hk : k < 32) : (x >>> (ic k &&& 31)) &&& 1 = if bt x k then 1 else 0 := by
  refine b_ext (fun i hi => ?_)
  rw [b_and, b_sshr k hk x hi]
  have h1 : ∀ i, i < 32 → bt 1 i = decide (i = 0) := by decide +kernel
  rw [h1 i hi]
  by_cases h0 : i = 0
  · subst h0
    rw [if_pos (by omega)]
    cases hb : bt x k <;> simp [hb, b_0]
    decide
  · simp [h0]
    split
    · rw [h1 i hi]; simp [h0]
    · rw [b_0]
theorem bit_0 (x : Int32) {k : Nat} (hk : k < 32) : ((x >>> (ic k &&& 31)) &&& 1 = 0) = (bt x k = false) := by
  rw [bit_v x hk]; cases bt x k <;> simp
theorem bit_1 (x : Int32) {k : Nat} (hk : k < 32) : ((x >>> (ic k &&& 31)) &&& 1 = 1) = (bt x k = true) := by
  rw [bit_v x hk]; cases bt x k <;> simp
