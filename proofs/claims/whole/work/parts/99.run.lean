/-! ===== one step of a work, gone by both ===== -/
section
variable {N : Nat} {μ ν c : sw_M} {F W T P : Nat} {K O : Nat → Int32} {nl : Nat}
theorem fs_w (ν : sw_M) (j : Nat) (v : Int32) : FrS ν (wr ν 81 j v) := fun a _ _ q => wr_nr q
theorem fs_r (ν : sw_M) (g : Nat → Int32) : FrS ν (wrR ν 81 g) := fun a _ _ q => wrR_nr q
theorem bl_b {α : Type} (p : Prop) [Decidable p] (k : Option α) : bl (b2 p) k = k := b2_bl p k
/-- both go one step: the same answer, the days alike after it -/
theorem run_step (hN : 5000 ≤ N) (hC : CW c F W T P) (hX : XR μ c) (hM : MR ν c F W T P) (hS : OKS F W T P (ν 81)) (hD : DR μ 35 W T P (ν 81)) (hL : XL μ K O nl) (hL2 : ML ν K O nl) {i k a b : Nat} (hi : i < 150) (h42 : μ 42 i = ic k) (h43 : μ 43 i = ic a) (h44 : μ 44 i = ic b) (hA : SA W T P k a b) :
    ∃ r μ' ν', f_work_runStep N μ (ic i) = some (r, μ') ∧ f_m_isDone N ν (ic k) (ic a) (ic b) = some (r, ν') ∧ FrD 35 μ μ' ∧ FrS ν ν' ∧ OKS F W T P (ν' 81) ∧ DR μ' 35 W T P (ν' 81) := by
  obtain ⟨hS1, h, hh, h48⟩ := hS
  have hW := hC.w12; have hT := hC.t6; have hP := hC.p5
  have e0 : f_work_runStep N μ (ic i) = if ic k = 0 then Option.bind (f_days_lift N μ (ic a) (ic b)) (fun r7 => bl r7.1 (some (r7.1, r7.2))) else if ic k = 1 then Option.bind (f_days_setDown N μ (ic a) (ic b)) (fun r9 => bl r9.1 (some (r9.1, r9.2))) else if ic k = 2 then Option.bind (f_days_cross N μ (ic a) (ic b)) (fun r11 => bl r11.1 (some (r11.1, r11.2))) else if ic k = 3 then Option.bind (f_days_move N μ (ic a) (ic b)) (fun r13 => bl r13.1 (some (r13.1, r13.2))) else if ic k = 4 then Option.bind (f_days_cut N μ (ic a)) (fun r15 => bl r15.1 (some (r15.1, r15.2))) else Option.bind (f_days_hourStep N μ) (fun r17 => bl r17.1 (some (r17.1, r17.2))) := by
    unfold f_work_runStep
    rw [at_e hi (by decide), ob_e, at_e hi (by decide), ob_e, at_e hi (by decide), ob_e, h42, h43, h44]
  rw [e0]
  rcases hA with ⟨rfl, ha, hb⟩ | ⟨rfl, ha, hb⟩ | ⟨rfl, ha, hb⟩ | ⟨rfl, ha, hb, hb2⟩ | ⟨rfl, ha⟩ | rfl
  · obtain ⟨μ', d1, d2, d3⟩ := s_days_lift hN hC hX hS1 hD ha hb
    have m1 := s_m_lifts hN hC hM hS1 ha hb
    have e81 : (if lfC T c (ν 81) a b then wr ν 81 (30 + b) (ic a) else ν) 81 = if lfC T c (ν 81) a b then up (ν 81) (30 + b) (ic a) else ν 81 := by
      by_cases z : lfC T c (ν 81) a b
      · rw [if_pos z, if_pos z, wr_up, wrR_r]
      · rw [if_neg z, if_neg z]
    refine ⟨b2 (lfC T c (ν 81) a b), μ', if lfC T c (ν 81) a b then wr ν 81 (30 + b) (ic a) else ν, by rw [if_pos (by decide), d1, ob_e, bl_b], by unfold f_m_isDone; rw [if_pos (by decide), m1, ob_e, bl_b], d2, ?_, ?_, by rw [e81]; exact d3⟩
    · by_cases z : lfC T c (ν 81) a b
      · rw [if_pos z]; exact fs_w _ _ _
      · rw [if_neg z]; exact FrS.rf ν
    · rw [e81]
      by_cases z : lfC T c (ν 81) a b
      · rw [if_pos z]; exact ⟨ws_by hC hS1 hb _ (Or.inr ⟨a, ha, rfl, z.2.1⟩), h, hh, by rw [up_n (by omega)]; exact h48⟩
      · rw [if_neg z]; exact ⟨hS1, h, hh, h48⟩
  · obtain ⟨μ', d1, d2, d3⟩ := s_days_setDown hN hC hX hS1 hD ha hb
    have m1 : f_m_isDone N ν (ic 1) (ic a) (ic b) = some (b2 (ν 81 (30 + b) = ic a), if ν 81 (30 + b) = ic a then wr ν 81 (30 + b) (-1) else ν) := by
      unfold f_m_isDone
      rw [if_neg (by decide), if_neg (by decide), if_neg (by decide), if_neg (by decide), if_pos (by decide), show (30 : Int32) + ic b = ic (30 + b) from ic_add 30 b, inb_e (by omega) (by decide), ic_n (by omega), inb_e (by omega) (by decide), wb_e]
      by_cases z : ν 81 (30 + b) = ic a
      · rw [if_pos z, if_pos z, b2_p z]
      · rw [if_neg z, if_neg z, b2_n z]
    have e81 : (if ν 81 (30 + b) = ic a then wr ν 81 (30 + b) (-1) else ν) 81 = if ν 81 (30 + b) = ic a then up (ν 81) (30 + b) (-1) else ν 81 := by
      by_cases z : ν 81 (30 + b) = ic a
      · rw [if_pos z, if_pos z, wr_up, wrR_r]
      · rw [if_neg z, if_neg z]
    refine ⟨_, μ', _, by rw [if_neg (by decide), if_pos (by decide), d1, ob_e, bl_b], m1, d2, ?_, ?_, by rw [e81]; exact d3⟩
    · by_cases z : ν 81 (30 + b) = ic a
      · rw [if_pos z]; exact fs_w _ _ _
      · rw [if_neg z]; exact FrS.rf ν
    · rw [e81]
      by_cases z : ν 81 (30 + b) = ic a
      · rw [if_pos z]; exact ⟨ws_by hC hS1 hb _ (Or.inl rfl), h, hh, by rw [up_n (by omega)]; exact h48⟩
      · rw [if_neg z]; exact ⟨hS1, h, hh, h48⟩
  · obtain ⟨μ', d1, d2, d3⟩ := s_days_cross hN hC hX hS1 hD hL ha hb
    obtain ⟨ν', m1, m2, m3⟩ := s_m_crosses hN hC hM hS1 hL2 ha hb
    refine ⟨_, μ', ν', by rw [if_neg (by decide), if_neg (by decide), if_pos (by decide), d1, ob_e, bl_b], by unfold f_m_isDone; rw [if_neg (by decide), if_pos (by decide), m1, ob_e, bl_b], d2, m2, ?_, by rw [m3]; exact d3⟩
    rw [m3]
    by_cases z : canS W T c (ν 81) K O nl a b
    · rw [if_pos z]; exact ⟨ws_cr hC hS1 ha hb z, h, hh, by rw [crS_48 (by omega) hT]; exact h48⟩
    · rw [if_neg z]; exact ⟨hS1, h, hh, h48⟩
  · obtain ⟨μ', d1, d2, d3⟩ := s_days_move hN hC hX hS1 hD ha (show b ≤ 1000 by omega)
    have m1 := s_m_moves hN hC hM hS1 ha (ic b)
    have e81 : (if mvC (ν 81) a then wrR ν 81 (mvS (ν 81) a (ic b)) else ν) 81 = if mvC (ν 81) a then mvS (ν 81) a (ic b) else ν 81 := by
      by_cases z : mvC (ν 81) a
      · rw [if_pos z, if_pos z, wrR_r]
      · rw [if_neg z, if_neg z]
    refine ⟨b2 (mvC (ν 81) a), μ', if mvC (ν 81) a then wrR ν 81 (mvS (ν 81) a (ic b)) else ν, by rw [if_neg (by decide), if_neg (by decide), if_neg (by decide), if_pos (by decide), d1, ob_e, bl_b], by unfold f_m_isDone; rw [if_neg (by decide), if_neg (by decide), if_pos (by decide), m1, ob_e, bl_b], d2, ?_, ?_, by rw [e81]; exact d3⟩
    · by_cases z : mvC (ν 81) a
      · rw [if_pos z]; exact fs_r _ _
      · rw [if_neg z]; exact FrS.rf ν
    · rw [e81]
      by_cases z : mvC (ν 81) a
      · rw [if_pos z]; exact ⟨ws_mv hC hS1 ha (by omega), h, hh, by unfold mvS; rw [up_n (by omega)]; exact h48⟩
      · rw [if_neg z]; exact ⟨hS1, h, hh, h48⟩
  · obtain ⟨μ', d1, d2, d3⟩ := s_days_cut hN hC hX hS1 hD ha
    have m1 := s_m_clips hN hC hM hS1 ha
    have e81 : (if ctC (ν 81) a then wrR ν 81 (ctS (ν 81) a) else ν) 81 = if ctC (ν 81) a then ctS (ν 81) a else ν 81 := by
      by_cases z : ctC (ν 81) a
      · rw [if_pos z, if_pos z, wrR_r]
      · rw [if_neg z, if_neg z]
    refine ⟨b2 (ctC (ν 81) a), μ', if ctC (ν 81) a then wrR ν 81 (ctS (ν 81) a) else ν, by rw [if_neg (by decide), if_neg (by decide), if_neg (by decide), if_neg (by decide), if_pos (by decide), d1, ob_e, bl_b], by unfold f_m_isDone; rw [if_neg (by decide), if_neg (by decide), if_neg (by decide), if_pos (by decide), m1, ob_e, bl_b], d2, ?_, ?_, by rw [e81]; exact d3⟩
    · by_cases z : ctC (ν 81) a
      · rw [if_pos z]; exact fs_r _ _
      · rw [if_neg z]; exact FrS.rf ν
    · rw [e81]
      by_cases z : ctC (ν 81) a
      · rw [if_pos z]; exact ⟨ws_ct hC hS1 ha z.2, h, hh, by unfold ctS; rw [up_n (by omega), up_n (by omega)]; exact h48⟩
      · rw [if_neg z]; exact ⟨hS1, h, hh, h48⟩
  · obtain ⟨μ', d1, d2, d3⟩ := s_days_hourStep hN hC hX hS1 hD
    have m1 := s_m_goesOn hN hC hM hS1
    have hlt : (ν 81 48 < 400) ↔ ¬ h = 400 := by rw [h48, lt_lit (by decide) (by omega)]; show h < 400 ↔ _; omega
    have heq : (ν 81 48 = 400) ↔ h = 400 := by rw [h48, eq_lit (by decide) (by omega)]
    have e0' : f_m_isDone N ν (ic 5) (ic a) (ic b) = if ν 81 48 = 400 then some (0, ν) else some (1, wrR ν 81 (hrS P (ν 81))) := by
      unfold f_m_isDone
      rw [if_neg (by decide), if_neg (by decide), if_neg (by decide), if_neg (by decide), if_neg (by decide), m1, ob_e]; rfl
    have m2 : f_m_isDone N ν (ic 5) (ic a) (ic b) = some (b2 (ν 81 48 < 400), if ν 81 48 < 400 then wrR ν 81 (hrS P (ν 81)) else ν) := by
      rw [e0']
      by_cases z : h = 400
      · rw [if_pos (heq.mpr z), b2_n (fun y => hlt.mp y z), if_neg (fun y => hlt.mp y z)]
      · rw [if_neg (fun y => z (heq.mp y)), b2_p (hlt.mpr z), if_pos (hlt.mpr z)]
    have e81 : (if ν 81 48 < 400 then wrR ν 81 (hrS P (ν 81)) else ν) 81 = if ν 81 48 < 400 then hrS P (ν 81) else ν 81 := by
      by_cases z : ν 81 48 < 400
      · rw [if_pos z, if_pos z, wrR_r]
      · rw [if_neg z, if_neg z]
    refine ⟨_, μ', _, by rw [if_neg (by decide), if_neg (by decide), if_neg (by decide), if_neg (by decide), if_neg (by decide), d1, ob_e, bl_b], m2, d2, ?_, ?_, by rw [e81]; exact d3⟩
    · by_cases z : ν 81 48 < 400
      · rw [if_pos z]; exact fs_r _ _
      · rw [if_neg z]; exact FrS.rf ν
    · rw [e81]
      by_cases z : ν 81 48 < 400
      · rw [if_pos z]; exact ⟨ws_hr hC hS1 ⟨h, by omega, h48⟩, h + 1, by have := hlt.mp z; omega, by rw [hrS_48 hP, h48, ic_1]⟩
      · rw [if_neg z]; exact ⟨hS1, h, hh, h48⟩
end
