/-! ===== by program (wip/whole/gen51.py): the law's methods that catch ===== -/
theorem leafN {G : sw_G} {L : sw_L} {ν : sw_N} {μ : sw_M} {mc ms : Nat} {P : (Nat → Nat) → Prop} {e : Int32} {r : Int32 × sw_M × sw_N} (h : some (e, μ, ν) = some r) (ho : sw_out G mc ms P (.inl (some (.int r.1))) L r.2.1 r.2.2) : sw_out G mc ms P (.inl (some (.int e))) L μ ν := by cases h; exact ho
def f_L_country (N : Nat) (μ : sw_M) (ν : sw_N) (a1 : Int32) : Option (Int32 × sw_M × sw_N) :=
  match f_x_country N μ a1 with
  | none => none
  | some (.inl r) => some (0, r.2, wrL ν 87 0 r.1.toInt64)
  | some (.inr e) => if e.1 = "java/lang/IllegalArgumentException" then some (1, e.2, ν) else none
theorem cat_L_country_0 : sw_cat9 "DeadWiresLaw" [(0, 9, 12, 13)] 4 12 "java/lang/IllegalArgumentException" := ⟨[], ⟨0, 9, 12, 13⟩, [], "java/lang/IllegalArgumentException", rfl, (fun z hz => nomatch hz), by decide, by decide, rfl, (gtb_of (tbm_3 (List.mem_of_getElem? (i := 128) rfl)) rfl), (tbm_3 (List.mem_of_getElem? (i := 145) rfl))⟩
set_option maxRecDepth 100000 in
set_option maxHeartbeats 4000000 in
theorem mw_f_L_country (l : Launch) (D : va_G) (cI cL : ClassId) (ad : Nat → Nat) (ν : sw_N) (N : Nat) (μ : sw_M) (a1 : Int32) (o : Int32 × sw_M × sw_N) (h : f_L_country N μ ν a1 = some o) : MetW l D cI cL yL_country cL_country 4 (some .int) [(0, 9, 12, 13)] 11 1 6 ad [.ref 0, .int a1, .ref 87] lay0 μ ν (some (.int o.1)) lay0 o.2.1 o.2.2 := by
  refine MetW.of (n := 1) rfl (Nat.le_of_ble_eq_true rfl) (fun G g ho hm htab => ?_)
  unfold f_L_country at h
  refine SW.aload_n (pc := 0) g (dt dt_L_country 0 rfl) rfl ?_
  refine SW.iconst (pc := 1) (v := 0) g (dt dt_L_country 1 rfl) ki_0 ?_
  refine SW.aload_n (pc := 2) g (dt dt_L_country 2 rfl) rfl ?_
  refine SW.iload_n (pc := 3) g (dt dt_L_country 3 rfl) rfl ?_
  rcases hf : f_x_country N μ a1 with _ | r | e
  · rw [hf] at h; cases h
  · rw [hf] at h
    simp only [] at h
    refine SW.callXr (pc := 4) (r := some (.int r.1)) g (dt dt_L_country 4 rfl) (mtx_f_x_country _ _ _ _ ad ν N μ a1 (.inl r) hf) me_X10_country mv_X10_country (gtb_of (tbm_3 (List.mem_of_getElem? (i := 129) rfl)) rfl) cell_0 rfl rfl (Nat.le_of_ble_eq_true rfl) (Nat.le_of_ble_eq_true rfl) (Nat.le_of_ble_eq_true rfl) (Nat.le_of_ble_eq_true rfl) rfl rfl ?_
    refine SW.i2l (pc := 7) g (dt dt_L_country 5 rfl) ?_
    refine SW.lastore (pc := 8) g (dt dt_L_country 6 rfl) cell_87 (by decide) ?_
    refine SW.goto (pc := 9) (t := 15) g (dt dt_L_country 7 rfl) rfl ?_
    refine SW.iconst (pc := 15) (v := 0) g (dt dt_L_country 11 rfl) ki_0 ?_
    exact SW.ireturn (pc := 16) g (leafN h ho) rfl (Nat.le_of_ble_eq_true rfl) (Nat.le_of_ble_eq_true rfl) (dt dt_L_country 12 rfl)
  · rw [hf] at h
    simp only [] at h
    by_cases hE : e.1 = "java/lang/IllegalArgumentException"
    · have h := iteT hE h
      refine SW.callXc (pc := 4) (hpc := 12) g (dt dt_L_country 4 rfl) htab (by rw [hE]; exact cat_L_country_0) (mtx_f_x_country _ _ _ _ ad ν N μ a1 (.inr e) hf) me_X10_country mv_X10_country (gtb_of (tbm_3 (List.mem_of_getElem? (i := 129) rfl)) rfl) cell_0 rfl rfl (Nat.le_of_ble_eq_true rfl) (Nat.le_of_ble_eq_true rfl) (Nat.le_of_ble_eq_true rfl) (Nat.le_of_ble_eq_true rfl) rfl rfl rfl (Nat.le_of_ble_eq_true rfl) (fun ad1 hag => ?_)
      refine SW.astore_n (pc := 12) (sw_ok_ag g hag) (dt dt_L_country 8 rfl) (sw_ltm hm (Nat.le_of_ble_eq_true rfl)) rfl ?_
      refine SW.msk [false, false, false, false] ?_
      refine SW.back hag rfl rfl rfl (Nat.le_of_ble_eq_true rfl) ?_
      refine SW.iconst (pc := 13) (v := 1) g (dt dt_L_country 9 rfl) ki_1 ?_
      exact SW.ireturn (pc := 14) g (leafN h ho) rfl (Nat.le_of_ble_eq_true rfl) (Nat.le_of_ble_eq_true rfl) (dt dt_L_country 10 rfl)
    · have h := iteF hE h
      cases h
theorem cw_L_country : Cond.codeWith yL_country cL_country 4 (some .int) [(0, 9, 12, 13)] ∈ gtb := (gtb_of (tbm_3 (List.mem_of_getElem? (i := 127) rfl)) rfl)
theorem cs_L_country : Cond.static yL_country ∈ gtb := (gtb_of (tbm_3 (List.mem_of_getElem? (i := 126) rfl)) rfl)
def f_L_law (N : Nat) (μ : sw_M) (ν : sw_N) (a1 : Int32) : Option (Int32 × sw_M × sw_N) :=
  match f_x_law N μ a1 with
  | none => none
  | some (.inl r) => some (0, r.2, wrL ν 87 0 r.1.toInt64)
  | some (.inr e) => if e.1 = "java/lang/IllegalArgumentException" then some (1, e.2, ν) else none
theorem cat_L_law_0 : sw_cat9 "DeadWiresLaw" [(0, 9, 12, 13)] 4 12 "java/lang/IllegalArgumentException" := ⟨[], ⟨0, 9, 12, 13⟩, [], "java/lang/IllegalArgumentException", rfl, (fun z hz => nomatch hz), by decide, by decide, rfl, (gtb_of (tbm_3 (List.mem_of_getElem? (i := 128) rfl)) rfl), (tbm_3 (List.mem_of_getElem? (i := 145) rfl))⟩
set_option maxRecDepth 100000 in
set_option maxHeartbeats 4000000 in
theorem mw_f_L_law (l : Launch) (D : va_G) (cI cL : ClassId) (ad : Nat → Nat) (ν : sw_N) (N : Nat) (μ : sw_M) (a1 : Int32) (o : Int32 × sw_M × sw_N) (h : f_L_law N μ ν a1 = some o) : MetW l D cI cL yL_law cL_law 4 (some .int) [(0, 9, 12, 13)] 50 1 6 ad [.ref 0, .int a1, .ref 87] lay0 μ ν (some (.int o.1)) lay0 o.2.1 o.2.2 := by
  refine MetW.of (n := 1) rfl (Nat.le_of_ble_eq_true rfl) (fun G g ho hm htab => ?_)
  unfold f_L_law at h
  refine SW.aload_n (pc := 0) g (dt dt_L_law 0 rfl) rfl ?_
  refine SW.iconst (pc := 1) (v := 0) g (dt dt_L_law 1 rfl) ki_0 ?_
  refine SW.aload_n (pc := 2) g (dt dt_L_law 2 rfl) rfl ?_
  refine SW.iload_n (pc := 3) g (dt dt_L_law 3 rfl) rfl ?_
  rcases hf : f_x_law N μ a1 with _ | r | e
  · rw [hf] at h; cases h
  · rw [hf] at h
    simp only [] at h
    refine SW.callXr (pc := 4) (r := some (.int r.1)) g (dt dt_L_law 4 rfl) (mtx_f_x_law _ _ _ _ ad ν N μ a1 (.inl r) hf) me_X10_law mv_X10_law (gtb_of (tbm_4 (List.mem_of_getElem? (i := 108) rfl)) rfl) cell_0 rfl rfl (Nat.le_of_ble_eq_true rfl) (Nat.le_of_ble_eq_true rfl) (Nat.le_of_ble_eq_true rfl) (Nat.le_of_ble_eq_true rfl) rfl rfl ?_
    refine SW.i2l (pc := 7) g (dt dt_L_law 5 rfl) ?_
    refine SW.lastore (pc := 8) g (dt dt_L_law 6 rfl) cell_87 (by decide) ?_
    refine SW.goto (pc := 9) (t := 15) g (dt dt_L_law 7 rfl) rfl ?_
    refine SW.iconst (pc := 15) (v := 0) g (dt dt_L_law 11 rfl) ki_0 ?_
    exact SW.ireturn (pc := 16) g (leafN h ho) rfl (Nat.le_of_ble_eq_true rfl) (Nat.le_of_ble_eq_true rfl) (dt dt_L_law 12 rfl)
  · rw [hf] at h
    simp only [] at h
    by_cases hE : e.1 = "java/lang/IllegalArgumentException"
    · have h := iteT hE h
      refine SW.callXc (pc := 4) (hpc := 12) g (dt dt_L_law 4 rfl) htab (by rw [hE]; exact cat_L_law_0) (mtx_f_x_law _ _ _ _ ad ν N μ a1 (.inr e) hf) me_X10_law mv_X10_law (gtb_of (tbm_4 (List.mem_of_getElem? (i := 108) rfl)) rfl) cell_0 rfl rfl (Nat.le_of_ble_eq_true rfl) (Nat.le_of_ble_eq_true rfl) (Nat.le_of_ble_eq_true rfl) (Nat.le_of_ble_eq_true rfl) rfl rfl rfl (Nat.le_of_ble_eq_true rfl) (fun ad1 hag => ?_)
      refine SW.astore_n (pc := 12) (sw_ok_ag g hag) (dt dt_L_law 8 rfl) (sw_ltm hm (Nat.le_of_ble_eq_true rfl)) rfl ?_
      refine SW.msk [false, false, false, false] ?_
      refine SW.back hag rfl rfl rfl (Nat.le_of_ble_eq_true rfl) ?_
      refine SW.iconst (pc := 13) (v := 1) g (dt dt_L_law 9 rfl) ki_1 ?_
      exact SW.ireturn (pc := 14) g (leafN h ho) rfl (Nat.le_of_ble_eq_true rfl) (Nat.le_of_ble_eq_true rfl) (dt dt_L_law 10 rfl)
    · have h := iteF hE h
      cases h
theorem cw_L_law : Cond.codeWith yL_law cL_law 4 (some .int) [(0, 9, 12, 13)] ∈ gtb := (gtb_of (tbm_4 (List.mem_of_getElem? (i := 107) rfl)) rfl)
theorem cs_L_law : Cond.static yL_law ∈ gtb := (gtb_of (tbm_4 (List.mem_of_getElem? (i := 106) rfl)) rfl)
def f_L_work (N : Nat) (μ : sw_M) (ν : sw_N) (a1 : Int32) : Option (Int32 × sw_M × sw_N) :=
  match f_x_work N μ a1 with
  | none => none
  | some (.inl r) => some (0, r.2, wrL ν 87 0 r.1.toInt64)
  | some (.inr e) => if e.1 = "java/lang/IllegalArgumentException" then some (1, e.2, ν) else none
theorem cat_L_work_0 : sw_cat9 "DeadWiresLaw" [(0, 9, 12, 13)] 4 12 "java/lang/IllegalArgumentException" := ⟨[], ⟨0, 9, 12, 13⟩, [], "java/lang/IllegalArgumentException", rfl, (fun z hz => nomatch hz), by decide, by decide, rfl, (gtb_of (tbm_3 (List.mem_of_getElem? (i := 128) rfl)) rfl), (tbm_3 (List.mem_of_getElem? (i := 145) rfl))⟩
set_option maxRecDepth 100000 in
set_option maxHeartbeats 4000000 in
theorem mw_f_L_work (l : Launch) (D : va_G) (cI cL : ClassId) (ad : Nat → Nat) (ν : sw_N) (N : Nat) (μ : sw_M) (a1 : Int32) (o : Int32 × sw_M × sw_N) (h : f_L_work N μ ν a1 = some o) : MetW l D cI cL yL_work cL_work 4 (some .int) [(0, 9, 12, 13)] 49 1 6 ad [.ref 0, .int a1, .ref 87] lay0 μ ν (some (.int o.1)) lay0 o.2.1 o.2.2 := by
  refine MetW.of (n := 1) rfl (Nat.le_of_ble_eq_true rfl) (fun G g ho hm htab => ?_)
  unfold f_L_work at h
  refine SW.aload_n (pc := 0) g (dt dt_L_work 0 rfl) rfl ?_
  refine SW.iconst (pc := 1) (v := 0) g (dt dt_L_work 1 rfl) ki_0 ?_
  refine SW.aload_n (pc := 2) g (dt dt_L_work 2 rfl) rfl ?_
  refine SW.iload_n (pc := 3) g (dt dt_L_work 3 rfl) rfl ?_
  rcases hf : f_x_work N μ a1 with _ | r | e
  · rw [hf] at h; cases h
  · rw [hf] at h
    simp only [] at h
    refine SW.callXr (pc := 4) (r := some (.int r.1)) g (dt dt_L_work 4 rfl) (mtx_f_x_work _ _ _ _ ad ν N μ a1 (.inl r) hf) me_X10_work mv_X10_work (gtb_of (tbm_4 (List.mem_of_getElem? (i := 158) rfl)) rfl) cell_0 rfl rfl (Nat.le_of_ble_eq_true rfl) (Nat.le_of_ble_eq_true rfl) (Nat.le_of_ble_eq_true rfl) (Nat.le_of_ble_eq_true rfl) rfl rfl ?_
    refine SW.i2l (pc := 7) g (dt dt_L_work 5 rfl) ?_
    refine SW.lastore (pc := 8) g (dt dt_L_work 6 rfl) cell_87 (by decide) ?_
    refine SW.goto (pc := 9) (t := 15) g (dt dt_L_work 7 rfl) rfl ?_
    refine SW.iconst (pc := 15) (v := 0) g (dt dt_L_work 11 rfl) ki_0 ?_
    exact SW.ireturn (pc := 16) g (leafN h ho) rfl (Nat.le_of_ble_eq_true rfl) (Nat.le_of_ble_eq_true rfl) (dt dt_L_work 12 rfl)
  · rw [hf] at h
    simp only [] at h
    by_cases hE : e.1 = "java/lang/IllegalArgumentException"
    · have h := iteT hE h
      refine SW.callXc (pc := 4) (hpc := 12) g (dt dt_L_work 4 rfl) htab (by rw [hE]; exact cat_L_work_0) (mtx_f_x_work _ _ _ _ ad ν N μ a1 (.inr e) hf) me_X10_work mv_X10_work (gtb_of (tbm_4 (List.mem_of_getElem? (i := 158) rfl)) rfl) cell_0 rfl rfl (Nat.le_of_ble_eq_true rfl) (Nat.le_of_ble_eq_true rfl) (Nat.le_of_ble_eq_true rfl) (Nat.le_of_ble_eq_true rfl) rfl rfl rfl (Nat.le_of_ble_eq_true rfl) (fun ad1 hag => ?_)
      refine SW.astore_n (pc := 12) (sw_ok_ag g hag) (dt dt_L_work 8 rfl) (sw_ltm hm (Nat.le_of_ble_eq_true rfl)) rfl ?_
      refine SW.msk [false, false, false, false] ?_
      refine SW.back hag rfl rfl rfl (Nat.le_of_ble_eq_true rfl) ?_
      refine SW.iconst (pc := 13) (v := 1) g (dt dt_L_work 9 rfl) ki_1 ?_
      exact SW.ireturn (pc := 14) g (leafN h ho) rfl (Nat.le_of_ble_eq_true rfl) (Nat.le_of_ble_eq_true rfl) (dt dt_L_work 10 rfl)
    · have h := iteF hE h
      cases h
theorem cw_L_work : Cond.codeWith yL_work cL_work 4 (some .int) [(0, 9, 12, 13)] ∈ gtb := (gtb_of (tbm_4 (List.mem_of_getElem? (i := 157) rfl)) rfl)
theorem cs_L_work : Cond.static yL_work ∈ gtb := (gtb_of (tbm_4 (List.mem_of_getElem? (i := 156) rfl)) rfl)
def f_L_book (N : Nat) (μ : sw_M) (ν : sw_N) (a1 : Int32) : Option (Int32 × sw_M × sw_N) :=
  match f_x_book N μ a1 with
  | none => none
  | some (.inl r) => some (0, r.2, wrL ν 87 0 r.1.toInt64)
  | some (.inr e) => if e.1 = "java/lang/IllegalArgumentException" then some (1, e.2, ν) else none
theorem cat_L_book_0 : sw_cat9 "DeadWiresLaw" [(0, 9, 12, 13)] 4 12 "java/lang/IllegalArgumentException" := ⟨[], ⟨0, 9, 12, 13⟩, [], "java/lang/IllegalArgumentException", rfl, (fun z hz => nomatch hz), by decide, by decide, rfl, (gtb_of (tbm_3 (List.mem_of_getElem? (i := 128) rfl)) rfl), (tbm_3 (List.mem_of_getElem? (i := 145) rfl))⟩
set_option maxRecDepth 100000 in
set_option maxHeartbeats 4000000 in
theorem mw_f_L_book (l : Launch) (D : va_G) (cI cL : ClassId) (ad : Nat → Nat) (ν : sw_N) (N : Nat) (μ : sw_M) (a1 : Int32) (o : Int32 × sw_M × sw_N) (h : f_L_book N μ ν a1 = some o) : MetW l D cI cL yL_book cL_book 4 (some .int) [(0, 9, 12, 13)] 11 1 6 ad [.ref 0, .int a1, .ref 87] lay0 μ ν (some (.int o.1)) lay0 o.2.1 o.2.2 := by
  refine MetW.of (n := 1) rfl (Nat.le_of_ble_eq_true rfl) (fun G g ho hm htab => ?_)
  unfold f_L_book at h
  refine SW.aload_n (pc := 0) g (dt dt_L_book 0 rfl) rfl ?_
  refine SW.iconst (pc := 1) (v := 0) g (dt dt_L_book 1 rfl) ki_0 ?_
  refine SW.aload_n (pc := 2) g (dt dt_L_book 2 rfl) rfl ?_
  refine SW.iload_n (pc := 3) g (dt dt_L_book 3 rfl) rfl ?_
  rcases hf : f_x_book N μ a1 with _ | r | e
  · rw [hf] at h; cases h
  · rw [hf] at h
    simp only [] at h
    refine SW.callXr (pc := 4) (r := some (.int r.1)) g (dt dt_L_book 4 rfl) (mtx_f_x_book _ _ _ _ ad ν N μ a1 (.inl r) hf) me_X10_book mv_X10_book (gtb_of (tbm_5 (List.mem_of_getElem? (i := 31) rfl)) rfl) cell_0 rfl rfl (Nat.le_of_ble_eq_true rfl) (Nat.le_of_ble_eq_true rfl) (Nat.le_of_ble_eq_true rfl) (Nat.le_of_ble_eq_true rfl) rfl rfl ?_
    refine SW.i2l (pc := 7) g (dt dt_L_book 5 rfl) ?_
    refine SW.lastore (pc := 8) g (dt dt_L_book 6 rfl) cell_87 (by decide) ?_
    refine SW.goto (pc := 9) (t := 15) g (dt dt_L_book 7 rfl) rfl ?_
    refine SW.iconst (pc := 15) (v := 0) g (dt dt_L_book 11 rfl) ki_0 ?_
    exact SW.ireturn (pc := 16) g (leafN h ho) rfl (Nat.le_of_ble_eq_true rfl) (Nat.le_of_ble_eq_true rfl) (dt dt_L_book 12 rfl)
  · rw [hf] at h
    simp only [] at h
    by_cases hE : e.1 = "java/lang/IllegalArgumentException"
    · have h := iteT hE h
      refine SW.callXc (pc := 4) (hpc := 12) g (dt dt_L_book 4 rfl) htab (by rw [hE]; exact cat_L_book_0) (mtx_f_x_book _ _ _ _ ad ν N μ a1 (.inr e) hf) me_X10_book mv_X10_book (gtb_of (tbm_5 (List.mem_of_getElem? (i := 31) rfl)) rfl) cell_0 rfl rfl (Nat.le_of_ble_eq_true rfl) (Nat.le_of_ble_eq_true rfl) (Nat.le_of_ble_eq_true rfl) (Nat.le_of_ble_eq_true rfl) rfl rfl rfl (Nat.le_of_ble_eq_true rfl) (fun ad1 hag => ?_)
      refine SW.astore_n (pc := 12) (sw_ok_ag g hag) (dt dt_L_book 8 rfl) (sw_ltm hm (Nat.le_of_ble_eq_true rfl)) rfl ?_
      refine SW.msk [false, false, false, false] ?_
      refine SW.back hag rfl rfl rfl (Nat.le_of_ble_eq_true rfl) ?_
      refine SW.iconst (pc := 13) (v := 1) g (dt dt_L_book 9 rfl) ki_1 ?_
      exact SW.ireturn (pc := 14) g (leafN h ho) rfl (Nat.le_of_ble_eq_true rfl) (Nat.le_of_ble_eq_true rfl) (dt dt_L_book 10 rfl)
    · have h := iteF hE h
      cases h
theorem cw_L_book : Cond.codeWith yL_book cL_book 4 (some .int) [(0, 9, 12, 13)] ∈ gtb := (gtb_of (tbm_5 (List.mem_of_getElem? (i := 30) rfl)) rfl)
theorem cs_L_book : Cond.static yL_book ∈ gtb := (gtb_of (tbm_5 (List.mem_of_getElem? (i := 29) rfl)) rfl)
def f_L_told (N : Nat) (μ : sw_M) (ν : sw_N) (a1 : Int32) : Option (Int32 × sw_M × sw_N) :=
  match f_x_told N μ a1 with
  | none => none
  | some (.inl r) => some (0, r.2, wrL ν 87 0 r.1.toInt64)
  | some (.inr e) => if e.1 = "java/lang/IllegalArgumentException" then some (1, e.2, ν) else none
theorem cat_L_told_0 : sw_cat9 "DeadWiresLaw" [(0, 9, 12, 13)] 4 12 "java/lang/IllegalArgumentException" := ⟨[], ⟨0, 9, 12, 13⟩, [], "java/lang/IllegalArgumentException", rfl, (fun z hz => nomatch hz), by decide, by decide, rfl, (gtb_of (tbm_3 (List.mem_of_getElem? (i := 128) rfl)) rfl), (tbm_3 (List.mem_of_getElem? (i := 145) rfl))⟩
set_option maxRecDepth 100000 in
set_option maxHeartbeats 4000000 in
theorem mw_f_L_told (l : Launch) (D : va_G) (cI cL : ClassId) (ad : Nat → Nat) (ν : sw_N) (N : Nat) (μ : sw_M) (a1 : Int32) (o : Int32 × sw_M × sw_N) (h : f_L_told N μ ν a1 = some o) : MetW l D cI cL yL_told cL_told 4 (some .int) [(0, 9, 12, 13)] 11 1 6 ad [.ref 0, .int a1, .ref 87] lay0 μ ν (some (.int o.1)) lay0 o.2.1 o.2.2 := by
  refine MetW.of (n := 1) rfl (Nat.le_of_ble_eq_true rfl) (fun G g ho hm htab => ?_)
  unfold f_L_told at h
  refine SW.aload_n (pc := 0) g (dt dt_L_told 0 rfl) rfl ?_
  refine SW.iconst (pc := 1) (v := 0) g (dt dt_L_told 1 rfl) ki_0 ?_
  refine SW.aload_n (pc := 2) g (dt dt_L_told 2 rfl) rfl ?_
  refine SW.iload_n (pc := 3) g (dt dt_L_told 3 rfl) rfl ?_
  rcases hf : f_x_told N μ a1 with _ | r | e
  · rw [hf] at h; cases h
  · rw [hf] at h
    simp only [] at h
    refine SW.callXr (pc := 4) (r := some (.int r.1)) g (dt dt_L_told 4 rfl) (mtx_f_x_told _ _ _ _ ad ν N μ a1 (.inl r) hf) me_X10_told mv_X10_told (gtb_of (tbm_5 (List.mem_of_getElem? (i := 59) rfl)) rfl) cell_0 rfl rfl (Nat.le_of_ble_eq_true rfl) (Nat.le_of_ble_eq_true rfl) (Nat.le_of_ble_eq_true rfl) (Nat.le_of_ble_eq_true rfl) rfl rfl ?_
    refine SW.i2l (pc := 7) g (dt dt_L_told 5 rfl) ?_
    refine SW.lastore (pc := 8) g (dt dt_L_told 6 rfl) cell_87 (by decide) ?_
    refine SW.goto (pc := 9) (t := 15) g (dt dt_L_told 7 rfl) rfl ?_
    refine SW.iconst (pc := 15) (v := 0) g (dt dt_L_told 11 rfl) ki_0 ?_
    exact SW.ireturn (pc := 16) g (leafN h ho) rfl (Nat.le_of_ble_eq_true rfl) (Nat.le_of_ble_eq_true rfl) (dt dt_L_told 12 rfl)
  · rw [hf] at h
    simp only [] at h
    by_cases hE : e.1 = "java/lang/IllegalArgumentException"
    · have h := iteT hE h
      refine SW.callXc (pc := 4) (hpc := 12) g (dt dt_L_told 4 rfl) htab (by rw [hE]; exact cat_L_told_0) (mtx_f_x_told _ _ _ _ ad ν N μ a1 (.inr e) hf) me_X10_told mv_X10_told (gtb_of (tbm_5 (List.mem_of_getElem? (i := 59) rfl)) rfl) cell_0 rfl rfl (Nat.le_of_ble_eq_true rfl) (Nat.le_of_ble_eq_true rfl) (Nat.le_of_ble_eq_true rfl) (Nat.le_of_ble_eq_true rfl) rfl rfl rfl (Nat.le_of_ble_eq_true rfl) (fun ad1 hag => ?_)
      refine SW.astore_n (pc := 12) (sw_ok_ag g hag) (dt dt_L_told 8 rfl) (sw_ltm hm (Nat.le_of_ble_eq_true rfl)) rfl ?_
      refine SW.msk [false, false, false, false] ?_
      refine SW.back hag rfl rfl rfl (Nat.le_of_ble_eq_true rfl) ?_
      refine SW.iconst (pc := 13) (v := 1) g (dt dt_L_told 9 rfl) ki_1 ?_
      exact SW.ireturn (pc := 14) g (leafN h ho) rfl (Nat.le_of_ble_eq_true rfl) (Nat.le_of_ble_eq_true rfl) (dt dt_L_told 10 rfl)
    · have h := iteF hE h
      cases h
theorem cw_L_told : Cond.codeWith yL_told cL_told 4 (some .int) [(0, 9, 12, 13)] ∈ gtb := (gtb_of (tbm_5 (List.mem_of_getElem? (i := 58) rfl)) rfl)
theorem cs_L_told : Cond.static yL_told ∈ gtb := (gtb_of (tbm_5 (List.mem_of_getElem? (i := 57) rfl)) rfl)
def f_L_field (N : Nat) (μ : sw_M) (ν : sw_N) (a1 : Int32) (a2 : Int32) : Option (Int32 × sw_M × sw_N) :=
  match f_x_field N μ a1 a2 with
  | none => none
  | some (.inl r) => some (0, r.2, wrL ν 87 0 r.1.toInt64)
  | some (.inr e) => if e.1 = "java/util/NoSuchElementException" then some (1, e.2, ν) else if e.1 = "java/lang/IllegalArgumentException" then some (2, e.2, ν) else none
theorem cat_L_field_0 : sw_cat9 "DeadWiresLaw" [(0, 10, 13, 31), (0, 10, 17, 13)] 5 13 "java/util/NoSuchElementException" := ⟨[], ⟨0, 10, 13, 31⟩, [⟨0, 10, 17, 13⟩], "java/util/NoSuchElementException", rfl, (fun z hz => nomatch hz), by decide, by decide, rfl, (gtb_of (tbm_5 (List.mem_of_getElem? (i := 78) rfl)) rfl), (tbm_5 (List.mem_of_getElem? (i := 93) rfl))⟩
theorem cat_L_field_1 : sw_cat9 "DeadWiresLaw" [(0, 10, 13, 31), (0, 10, 17, 13)] 5 17 "java/lang/IllegalArgumentException" := ⟨[⟨0, 10, 13, 31⟩], ⟨0, 10, 17, 13⟩, [], "java/lang/IllegalArgumentException", rfl, (fun z hz => Or.inr (by rcases List.mem_singleton.mp hz with rfl; exact ⟨by decide, rfl, (gtb_of (tbm_5 (List.mem_of_getElem? (i := 78) rfl)) rfl)⟩)), by decide, by decide, rfl, (gtb_of (tbm_3 (List.mem_of_getElem? (i := 128) rfl)) rfl), (tbm_3 (List.mem_of_getElem? (i := 145) rfl))⟩
set_option maxRecDepth 100000 in
set_option maxHeartbeats 4000000 in
theorem mw_f_L_field (l : Launch) (D : va_G) (cI cL : ClassId) (ad : Nat → Nat) (ν : sw_N) (N : Nat) (μ : sw_M) (a1 : Int32) (a2 : Int32) (o : Int32 × sw_M × sw_N) (h : f_L_field N μ ν a1 a2 = some o) : MetW l D cI cL yL_field cL_field 5 (some .int) [(0, 10, 13, 31), (0, 10, 17, 13)] 11 2 12 ad [.ref 0, .int a1, .int a2, .ref 87] lay0 μ ν (some (.int o.1)) lay0 o.2.1 o.2.2 := by
  refine MetW.of (n := 1) rfl (Nat.le_of_ble_eq_true rfl) (fun G g ho hm htab => ?_)
  unfold f_L_field at h
  refine SW.aload_n (pc := 0) g (dt dt_L_field 0 rfl) rfl ?_
  refine SW.iconst (pc := 1) (v := 0) g (dt dt_L_field 1 rfl) ki_0 ?_
  refine SW.aload_n (pc := 2) g (dt dt_L_field 2 rfl) rfl ?_
  refine SW.iload_n (pc := 3) g (dt dt_L_field 3 rfl) rfl ?_
  refine SW.iload_n (pc := 4) g (dt dt_L_field 4 rfl) rfl ?_
  rcases hf : f_x_field N μ a1 a2 with _ | r | e
  · rw [hf] at h; cases h
  · rw [hf] at h
    simp only [] at h
    refine SW.callXr (pc := 5) (r := some (.int r.1)) g (dt dt_L_field 5 rfl) (mtx_f_x_field _ _ _ _ ad ν N μ a1 a2 (.inl r) hf) me_X10_field mv_X10_field (gtb_of (tbm_5 (List.mem_of_getElem? (i := 79) rfl)) rfl) cell_0 rfl rfl (Nat.le_of_ble_eq_true rfl) (Nat.le_of_ble_eq_true rfl) (Nat.le_of_ble_eq_true rfl) (Nat.le_of_ble_eq_true rfl) rfl rfl ?_
    refine SW.i2l (pc := 8) g (dt dt_L_field 6 rfl) ?_
    refine SW.lastore (pc := 9) g (dt dt_L_field 7 rfl) cell_87 (by decide) ?_
    refine SW.goto (pc := 10) (t := 21) g (dt dt_L_field 8 rfl) rfl ?_
    refine SW.iconst (pc := 21) (v := 0) g (dt dt_L_field 15 rfl) ki_0 ?_
    exact SW.ireturn (pc := 22) g (leafN h ho) rfl (Nat.le_of_ble_eq_true rfl) (Nat.le_of_ble_eq_true rfl) (dt dt_L_field 16 rfl)
  · rw [hf] at h
    simp only [] at h
    by_cases hE : e.1 = "java/util/NoSuchElementException"
    · have h := iteT hE h
      refine SW.callXc (pc := 5) (hpc := 13) g (dt dt_L_field 5 rfl) htab (by rw [hE]; exact cat_L_field_0) (mtx_f_x_field _ _ _ _ ad ν N μ a1 a2 (.inr e) hf) me_X10_field mv_X10_field (gtb_of (tbm_5 (List.mem_of_getElem? (i := 79) rfl)) rfl) cell_0 rfl rfl (Nat.le_of_ble_eq_true rfl) (Nat.le_of_ble_eq_true rfl) (Nat.le_of_ble_eq_true rfl) (Nat.le_of_ble_eq_true rfl) rfl rfl rfl (Nat.le_of_ble_eq_true rfl) (fun ad1 hag => ?_)
      refine SW.astore (pc := 13) (sw_ok_ag g hag) (dt dt_L_field 9 rfl) (sw_ltm hm (Nat.le_of_ble_eq_true rfl)) rfl ?_
      refine SW.msk [false, false, false, false, false] ?_
      refine SW.back hag rfl rfl rfl (Nat.le_of_ble_eq_true rfl) ?_
      refine SW.iconst (pc := 15) (v := 1) g (dt dt_L_field 10 rfl) ki_1 ?_
      exact SW.ireturn (pc := 16) g (leafN h ho) rfl (Nat.le_of_ble_eq_true rfl) (Nat.le_of_ble_eq_true rfl) (dt dt_L_field 11 rfl)
    · have h := iteF hE h
      by_cases hE : e.1 = "java/lang/IllegalArgumentException"
      · have h := iteT hE h
        refine SW.callXc (pc := 5) (hpc := 17) g (dt dt_L_field 5 rfl) htab (by rw [hE]; exact cat_L_field_1) (mtx_f_x_field _ _ _ _ ad ν N μ a1 a2 (.inr e) hf) me_X10_field mv_X10_field (gtb_of (tbm_5 (List.mem_of_getElem? (i := 79) rfl)) rfl) cell_0 rfl rfl (Nat.le_of_ble_eq_true rfl) (Nat.le_of_ble_eq_true rfl) (Nat.le_of_ble_eq_true rfl) (Nat.le_of_ble_eq_true rfl) rfl rfl rfl (Nat.le_of_ble_eq_true rfl) (fun ad1 hag => ?_)
        refine SW.astore (pc := 17) (sw_ok_ag g hag) (dt dt_L_field 12 rfl) (sw_ltm hm (Nat.le_of_ble_eq_true rfl)) rfl ?_
        refine SW.msk [false, false, false, false, false] ?_
        refine SW.back hag rfl rfl rfl (Nat.le_of_ble_eq_true rfl) ?_
        refine SW.iconst (pc := 19) (v := 2) g (dt dt_L_field 13 rfl) ki_2 ?_
        exact SW.ireturn (pc := 20) g (leafN h ho) rfl (Nat.le_of_ble_eq_true rfl) (Nat.le_of_ble_eq_true rfl) (dt dt_L_field 14 rfl)
      · have h := iteF hE h
        cases h
theorem cw_L_field : Cond.codeWith yL_field cL_field 5 (some .int) [(0, 10, 13, 31), (0, 10, 17, 13)] ∈ gtb := (gtb_of (tbm_5 (List.mem_of_getElem? (i := 77) rfl)) rfl)
theorem cs_L_field : Cond.static yL_field ∈ gtb := (gtb_of (tbm_5 (List.mem_of_getElem? (i := 76) rfl)) rfl)
def f_L_wire (N : Nat) (μ : sw_M) (ν : sw_N) (a1 : Int32) (a2 : Int32) : Option (Int32 × sw_M × sw_N) :=
  match f_x_wire N μ a1 a2 with
  | none => none
  | some (.inl r) => some (0, r.2, wrL ν 87 0 r.1.toInt64)
  | some (.inr e) => if e.1 = "java/util/NoSuchElementException" then some (1, e.2, ν) else if e.1 = "java/lang/IllegalArgumentException" then some (2, e.2, ν) else none
theorem cat_L_wire_0 : sw_cat9 "DeadWiresLaw" [(0, 10, 13, 31), (0, 10, 17, 13)] 5 13 "java/util/NoSuchElementException" := ⟨[], ⟨0, 10, 13, 31⟩, [⟨0, 10, 17, 13⟩], "java/util/NoSuchElementException", rfl, (fun z hz => nomatch hz), by decide, by decide, rfl, (gtb_of (tbm_5 (List.mem_of_getElem? (i := 78) rfl)) rfl), (tbm_5 (List.mem_of_getElem? (i := 93) rfl))⟩
theorem cat_L_wire_1 : sw_cat9 "DeadWiresLaw" [(0, 10, 13, 31), (0, 10, 17, 13)] 5 17 "java/lang/IllegalArgumentException" := ⟨[⟨0, 10, 13, 31⟩], ⟨0, 10, 17, 13⟩, [], "java/lang/IllegalArgumentException", rfl, (fun z hz => Or.inr (by rcases List.mem_singleton.mp hz with rfl; exact ⟨by decide, rfl, (gtb_of (tbm_5 (List.mem_of_getElem? (i := 78) rfl)) rfl)⟩)), by decide, by decide, rfl, (gtb_of (tbm_3 (List.mem_of_getElem? (i := 128) rfl)) rfl), (tbm_3 (List.mem_of_getElem? (i := 145) rfl))⟩
set_option maxRecDepth 100000 in
set_option maxHeartbeats 4000000 in
theorem mw_f_L_wire (l : Launch) (D : va_G) (cI cL : ClassId) (ad : Nat → Nat) (ν : sw_N) (N : Nat) (μ : sw_M) (a1 : Int32) (a2 : Int32) (o : Int32 × sw_M × sw_N) (h : f_L_wire N μ ν a1 a2 = some o) : MetW l D cI cL yL_wire cL_wire 5 (some .int) [(0, 10, 13, 31), (0, 10, 17, 13)] 11 2 12 ad [.ref 0, .int a1, .int a2, .ref 87] lay0 μ ν (some (.int o.1)) lay0 o.2.1 o.2.2 := by
  refine MetW.of (n := 1) rfl (Nat.le_of_ble_eq_true rfl) (fun G g ho hm htab => ?_)
  unfold f_L_wire at h
  refine SW.aload_n (pc := 0) g (dt dt_L_wire 0 rfl) rfl ?_
  refine SW.iconst (pc := 1) (v := 0) g (dt dt_L_wire 1 rfl) ki_0 ?_
  refine SW.aload_n (pc := 2) g (dt dt_L_wire 2 rfl) rfl ?_
  refine SW.iload_n (pc := 3) g (dt dt_L_wire 3 rfl) rfl ?_
  refine SW.iload_n (pc := 4) g (dt dt_L_wire 4 rfl) rfl ?_
  rcases hf : f_x_wire N μ a1 a2 with _ | r | e
  · rw [hf] at h; cases h
  · rw [hf] at h
    simp only [] at h
    refine SW.callXr (pc := 5) (r := some (.int r.1)) g (dt dt_L_wire 5 rfl) (mtx_f_x_wire _ _ _ _ ad ν N μ a1 a2 (.inl r) hf) me_X10_wire mv_X10_wire (gtb_of (tbm_5 (List.mem_of_getElem? (i := 121) rfl)) rfl) cell_0 rfl rfl (Nat.le_of_ble_eq_true rfl) (Nat.le_of_ble_eq_true rfl) (Nat.le_of_ble_eq_true rfl) (Nat.le_of_ble_eq_true rfl) rfl rfl ?_
    refine SW.i2l (pc := 8) g (dt dt_L_wire 6 rfl) ?_
    refine SW.lastore (pc := 9) g (dt dt_L_wire 7 rfl) cell_87 (by decide) ?_
    refine SW.goto (pc := 10) (t := 21) g (dt dt_L_wire 8 rfl) rfl ?_
    refine SW.iconst (pc := 21) (v := 0) g (dt dt_L_wire 15 rfl) ki_0 ?_
    exact SW.ireturn (pc := 22) g (leafN h ho) rfl (Nat.le_of_ble_eq_true rfl) (Nat.le_of_ble_eq_true rfl) (dt dt_L_wire 16 rfl)
  · rw [hf] at h
    simp only [] at h
    by_cases hE : e.1 = "java/util/NoSuchElementException"
    · have h := iteT hE h
      refine SW.callXc (pc := 5) (hpc := 13) g (dt dt_L_wire 5 rfl) htab (by rw [hE]; exact cat_L_wire_0) (mtx_f_x_wire _ _ _ _ ad ν N μ a1 a2 (.inr e) hf) me_X10_wire mv_X10_wire (gtb_of (tbm_5 (List.mem_of_getElem? (i := 121) rfl)) rfl) cell_0 rfl rfl (Nat.le_of_ble_eq_true rfl) (Nat.le_of_ble_eq_true rfl) (Nat.le_of_ble_eq_true rfl) (Nat.le_of_ble_eq_true rfl) rfl rfl rfl (Nat.le_of_ble_eq_true rfl) (fun ad1 hag => ?_)
      refine SW.astore (pc := 13) (sw_ok_ag g hag) (dt dt_L_wire 9 rfl) (sw_ltm hm (Nat.le_of_ble_eq_true rfl)) rfl ?_
      refine SW.msk [false, false, false, false, false] ?_
      refine SW.back hag rfl rfl rfl (Nat.le_of_ble_eq_true rfl) ?_
      refine SW.iconst (pc := 15) (v := 1) g (dt dt_L_wire 10 rfl) ki_1 ?_
      exact SW.ireturn (pc := 16) g (leafN h ho) rfl (Nat.le_of_ble_eq_true rfl) (Nat.le_of_ble_eq_true rfl) (dt dt_L_wire 11 rfl)
    · have h := iteF hE h
      by_cases hE : e.1 = "java/lang/IllegalArgumentException"
      · have h := iteT hE h
        refine SW.callXc (pc := 5) (hpc := 17) g (dt dt_L_wire 5 rfl) htab (by rw [hE]; exact cat_L_wire_1) (mtx_f_x_wire _ _ _ _ ad ν N μ a1 a2 (.inr e) hf) me_X10_wire mv_X10_wire (gtb_of (tbm_5 (List.mem_of_getElem? (i := 121) rfl)) rfl) cell_0 rfl rfl (Nat.le_of_ble_eq_true rfl) (Nat.le_of_ble_eq_true rfl) (Nat.le_of_ble_eq_true rfl) (Nat.le_of_ble_eq_true rfl) rfl rfl rfl (Nat.le_of_ble_eq_true rfl) (fun ad1 hag => ?_)
        refine SW.astore (pc := 17) (sw_ok_ag g hag) (dt dt_L_wire 12 rfl) (sw_ltm hm (Nat.le_of_ble_eq_true rfl)) rfl ?_
        refine SW.msk [false, false, false, false, false] ?_
        refine SW.back hag rfl rfl rfl (Nat.le_of_ble_eq_true rfl) ?_
        refine SW.iconst (pc := 19) (v := 2) g (dt dt_L_wire 13 rfl) ki_2 ?_
        exact SW.ireturn (pc := 20) g (leafN h ho) rfl (Nat.le_of_ble_eq_true rfl) (Nat.le_of_ble_eq_true rfl) (dt dt_L_wire 14 rfl)
      · have h := iteF hE h
        cases h
theorem cw_L_wire : Cond.codeWith yL_wire cL_wire 5 (some .int) [(0, 10, 13, 31), (0, 10, 17, 13)] ∈ gtb := (gtb_of (tbm_5 (List.mem_of_getElem? (i := 120) rfl)) rfl)
theorem cs_L_wire : Cond.static yL_wire ∈ gtb := (gtb_of (tbm_5 (List.mem_of_getElem? (i := 119) rfl)) rfl)
def f_L_thing (N : Nat) (μ : sw_M) (ν : sw_N) (a1 : Int32) (a2 : Int32) : Option (Int32 × sw_M × sw_N) :=
  match f_x_thing N μ a1 a2 with
  | none => none
  | some (.inl r) => some (0, r.2, wrL ν 87 0 r.1.toInt64)
  | some (.inr e) => if e.1 = "java/util/NoSuchElementException" then some (1, e.2, ν) else if e.1 = "java/lang/IllegalArgumentException" then some (2, e.2, ν) else none
theorem cat_L_thing_0 : sw_cat9 "DeadWiresLaw" [(0, 10, 13, 31), (0, 10, 17, 13)] 5 13 "java/util/NoSuchElementException" := ⟨[], ⟨0, 10, 13, 31⟩, [⟨0, 10, 17, 13⟩], "java/util/NoSuchElementException", rfl, (fun z hz => nomatch hz), by decide, by decide, rfl, (gtb_of (tbm_5 (List.mem_of_getElem? (i := 78) rfl)) rfl), (tbm_5 (List.mem_of_getElem? (i := 93) rfl))⟩
theorem cat_L_thing_1 : sw_cat9 "DeadWiresLaw" [(0, 10, 13, 31), (0, 10, 17, 13)] 5 17 "java/lang/IllegalArgumentException" := ⟨[⟨0, 10, 13, 31⟩], ⟨0, 10, 17, 13⟩, [], "java/lang/IllegalArgumentException", rfl, (fun z hz => Or.inr (by rcases List.mem_singleton.mp hz with rfl; exact ⟨by decide, rfl, (gtb_of (tbm_5 (List.mem_of_getElem? (i := 78) rfl)) rfl)⟩)), by decide, by decide, rfl, (gtb_of (tbm_3 (List.mem_of_getElem? (i := 128) rfl)) rfl), (tbm_3 (List.mem_of_getElem? (i := 145) rfl))⟩
set_option maxRecDepth 100000 in
set_option maxHeartbeats 4000000 in
theorem mw_f_L_thing (l : Launch) (D : va_G) (cI cL : ClassId) (ad : Nat → Nat) (ν : sw_N) (N : Nat) (μ : sw_M) (a1 : Int32) (a2 : Int32) (o : Int32 × sw_M × sw_N) (h : f_L_thing N μ ν a1 a2 = some o) : MetW l D cI cL yL_thing cL_thing 5 (some .int) [(0, 10, 13, 31), (0, 10, 17, 13)] 11 2 12 ad [.ref 0, .int a1, .int a2, .ref 87] lay0 μ ν (some (.int o.1)) lay0 o.2.1 o.2.2 := by
  refine MetW.of (n := 1) rfl (Nat.le_of_ble_eq_true rfl) (fun G g ho hm htab => ?_)
  unfold f_L_thing at h
  refine SW.aload_n (pc := 0) g (dt dt_L_thing 0 rfl) rfl ?_
  refine SW.iconst (pc := 1) (v := 0) g (dt dt_L_thing 1 rfl) ki_0 ?_
  refine SW.aload_n (pc := 2) g (dt dt_L_thing 2 rfl) rfl ?_
  refine SW.iload_n (pc := 3) g (dt dt_L_thing 3 rfl) rfl ?_
  refine SW.iload_n (pc := 4) g (dt dt_L_thing 4 rfl) rfl ?_
  rcases hf : f_x_thing N μ a1 a2 with _ | r | e
  · rw [hf] at h; cases h
  · rw [hf] at h
    simp only [] at h
    refine SW.callXr (pc := 5) (r := some (.int r.1)) g (dt dt_L_thing 5 rfl) (mtx_f_x_thing _ _ _ _ ad ν N μ a1 a2 (.inl r) hf) me_X10_thing mv_X10_thing (gtb_of (tbm_5 (List.mem_of_getElem? (i := 136) rfl)) rfl) cell_0 rfl rfl (Nat.le_of_ble_eq_true rfl) (Nat.le_of_ble_eq_true rfl) (Nat.le_of_ble_eq_true rfl) (Nat.le_of_ble_eq_true rfl) rfl rfl ?_
    refine SW.i2l (pc := 8) g (dt dt_L_thing 6 rfl) ?_
    refine SW.lastore (pc := 9) g (dt dt_L_thing 7 rfl) cell_87 (by decide) ?_
    refine SW.goto (pc := 10) (t := 21) g (dt dt_L_thing 8 rfl) rfl ?_
    refine SW.iconst (pc := 21) (v := 0) g (dt dt_L_thing 15 rfl) ki_0 ?_
    exact SW.ireturn (pc := 22) g (leafN h ho) rfl (Nat.le_of_ble_eq_true rfl) (Nat.le_of_ble_eq_true rfl) (dt dt_L_thing 16 rfl)
  · rw [hf] at h
    simp only [] at h
    by_cases hE : e.1 = "java/util/NoSuchElementException"
    · have h := iteT hE h
      refine SW.callXc (pc := 5) (hpc := 13) g (dt dt_L_thing 5 rfl) htab (by rw [hE]; exact cat_L_thing_0) (mtx_f_x_thing _ _ _ _ ad ν N μ a1 a2 (.inr e) hf) me_X10_thing mv_X10_thing (gtb_of (tbm_5 (List.mem_of_getElem? (i := 136) rfl)) rfl) cell_0 rfl rfl (Nat.le_of_ble_eq_true rfl) (Nat.le_of_ble_eq_true rfl) (Nat.le_of_ble_eq_true rfl) (Nat.le_of_ble_eq_true rfl) rfl rfl rfl (Nat.le_of_ble_eq_true rfl) (fun ad1 hag => ?_)
      refine SW.astore (pc := 13) (sw_ok_ag g hag) (dt dt_L_thing 9 rfl) (sw_ltm hm (Nat.le_of_ble_eq_true rfl)) rfl ?_
      refine SW.msk [false, false, false, false, false] ?_
      refine SW.back hag rfl rfl rfl (Nat.le_of_ble_eq_true rfl) ?_
      refine SW.iconst (pc := 15) (v := 1) g (dt dt_L_thing 10 rfl) ki_1 ?_
      exact SW.ireturn (pc := 16) g (leafN h ho) rfl (Nat.le_of_ble_eq_true rfl) (Nat.le_of_ble_eq_true rfl) (dt dt_L_thing 11 rfl)
    · have h := iteF hE h
      by_cases hE : e.1 = "java/lang/IllegalArgumentException"
      · have h := iteT hE h
        refine SW.callXc (pc := 5) (hpc := 17) g (dt dt_L_thing 5 rfl) htab (by rw [hE]; exact cat_L_thing_1) (mtx_f_x_thing _ _ _ _ ad ν N μ a1 a2 (.inr e) hf) me_X10_thing mv_X10_thing (gtb_of (tbm_5 (List.mem_of_getElem? (i := 136) rfl)) rfl) cell_0 rfl rfl (Nat.le_of_ble_eq_true rfl) (Nat.le_of_ble_eq_true rfl) (Nat.le_of_ble_eq_true rfl) (Nat.le_of_ble_eq_true rfl) rfl rfl rfl (Nat.le_of_ble_eq_true rfl) (fun ad1 hag => ?_)
        refine SW.astore (pc := 17) (sw_ok_ag g hag) (dt dt_L_thing 12 rfl) (sw_ltm hm (Nat.le_of_ble_eq_true rfl)) rfl ?_
        refine SW.msk [false, false, false, false, false] ?_
        refine SW.back hag rfl rfl rfl (Nat.le_of_ble_eq_true rfl) ?_
        refine SW.iconst (pc := 19) (v := 2) g (dt dt_L_thing 13 rfl) ki_2 ?_
        exact SW.ireturn (pc := 20) g (leafN h ho) rfl (Nat.le_of_ble_eq_true rfl) (Nat.le_of_ble_eq_true rfl) (dt dt_L_thing 14 rfl)
      · have h := iteF hE h
        cases h
theorem cw_L_thing : Cond.codeWith yL_thing cL_thing 5 (some .int) [(0, 10, 13, 31), (0, 10, 17, 13)] ∈ gtb := (gtb_of (tbm_5 (List.mem_of_getElem? (i := 135) rfl)) rfl)
theorem cs_L_thing : Cond.static yL_thing ∈ gtb := (gtb_of (tbm_5 (List.mem_of_getElem? (i := 134) rfl)) rfl)
def f_L_person (N : Nat) (μ : sw_M) (ν : sw_N) (a1 : Int32) (a2 : Int32) : Option (Int32 × sw_M × sw_N) :=
  match f_x_person N μ a1 a2 with
  | none => none
  | some (.inl r) => some (0, r.2, wrL ν 87 0 r.1.toInt64)
  | some (.inr e) => if e.1 = "java/util/NoSuchElementException" then some (1, e.2, ν) else if e.1 = "java/lang/IllegalArgumentException" then some (2, e.2, ν) else none
theorem cat_L_person_0 : sw_cat9 "DeadWiresLaw" [(0, 10, 13, 31), (0, 10, 17, 13)] 5 13 "java/util/NoSuchElementException" := ⟨[], ⟨0, 10, 13, 31⟩, [⟨0, 10, 17, 13⟩], "java/util/NoSuchElementException", rfl, (fun z hz => nomatch hz), by decide, by decide, rfl, (gtb_of (tbm_5 (List.mem_of_getElem? (i := 78) rfl)) rfl), (tbm_5 (List.mem_of_getElem? (i := 93) rfl))⟩
theorem cat_L_person_1 : sw_cat9 "DeadWiresLaw" [(0, 10, 13, 31), (0, 10, 17, 13)] 5 17 "java/lang/IllegalArgumentException" := ⟨[⟨0, 10, 13, 31⟩], ⟨0, 10, 17, 13⟩, [], "java/lang/IllegalArgumentException", rfl, (fun z hz => Or.inr (by rcases List.mem_singleton.mp hz with rfl; exact ⟨by decide, rfl, (gtb_of (tbm_5 (List.mem_of_getElem? (i := 78) rfl)) rfl)⟩)), by decide, by decide, rfl, (gtb_of (tbm_3 (List.mem_of_getElem? (i := 128) rfl)) rfl), (tbm_3 (List.mem_of_getElem? (i := 145) rfl))⟩
set_option maxRecDepth 100000 in
set_option maxHeartbeats 4000000 in
theorem mw_f_L_person (l : Launch) (D : va_G) (cI cL : ClassId) (ad : Nat → Nat) (ν : sw_N) (N : Nat) (μ : sw_M) (a1 : Int32) (a2 : Int32) (o : Int32 × sw_M × sw_N) (h : f_L_person N μ ν a1 a2 = some o) : MetW l D cI cL yL_person cL_person 5 (some .int) [(0, 10, 13, 31), (0, 10, 17, 13)] 11 2 12 ad [.ref 0, .int a1, .int a2, .ref 87] lay0 μ ν (some (.int o.1)) lay0 o.2.1 o.2.2 := by
  refine MetW.of (n := 1) rfl (Nat.le_of_ble_eq_true rfl) (fun G g ho hm htab => ?_)
  unfold f_L_person at h
  refine SW.aload_n (pc := 0) g (dt dt_L_person 0 rfl) rfl ?_
  refine SW.iconst (pc := 1) (v := 0) g (dt dt_L_person 1 rfl) ki_0 ?_
  refine SW.aload_n (pc := 2) g (dt dt_L_person 2 rfl) rfl ?_
  refine SW.iload_n (pc := 3) g (dt dt_L_person 3 rfl) rfl ?_
  refine SW.iload_n (pc := 4) g (dt dt_L_person 4 rfl) rfl ?_
  rcases hf : f_x_person N μ a1 a2 with _ | r | e
  · rw [hf] at h; cases h
  · rw [hf] at h
    simp only [] at h
    refine SW.callXr (pc := 5) (r := some (.int r.1)) g (dt dt_L_person 5 rfl) (mtx_f_x_person _ _ _ _ ad ν N μ a1 a2 (.inl r) hf) me_X10_person mv_X10_person (gtb_of (tbm_5 (List.mem_of_getElem? (i := 147) rfl)) rfl) cell_0 rfl rfl (Nat.le_of_ble_eq_true rfl) (Nat.le_of_ble_eq_true rfl) (Nat.le_of_ble_eq_true rfl) (Nat.le_of_ble_eq_true rfl) rfl rfl ?_
    refine SW.i2l (pc := 8) g (dt dt_L_person 6 rfl) ?_
    refine SW.lastore (pc := 9) g (dt dt_L_person 7 rfl) cell_87 (by decide) ?_
    refine SW.goto (pc := 10) (t := 21) g (dt dt_L_person 8 rfl) rfl ?_
    refine SW.iconst (pc := 21) (v := 0) g (dt dt_L_person 15 rfl) ki_0 ?_
    exact SW.ireturn (pc := 22) g (leafN h ho) rfl (Nat.le_of_ble_eq_true rfl) (Nat.le_of_ble_eq_true rfl) (dt dt_L_person 16 rfl)
  · rw [hf] at h
    simp only [] at h
    by_cases hE : e.1 = "java/util/NoSuchElementException"
    · have h := iteT hE h
      refine SW.callXc (pc := 5) (hpc := 13) g (dt dt_L_person 5 rfl) htab (by rw [hE]; exact cat_L_person_0) (mtx_f_x_person _ _ _ _ ad ν N μ a1 a2 (.inr e) hf) me_X10_person mv_X10_person (gtb_of (tbm_5 (List.mem_of_getElem? (i := 147) rfl)) rfl) cell_0 rfl rfl (Nat.le_of_ble_eq_true rfl) (Nat.le_of_ble_eq_true rfl) (Nat.le_of_ble_eq_true rfl) (Nat.le_of_ble_eq_true rfl) rfl rfl rfl (Nat.le_of_ble_eq_true rfl) (fun ad1 hag => ?_)
      refine SW.astore (pc := 13) (sw_ok_ag g hag) (dt dt_L_person 9 rfl) (sw_ltm hm (Nat.le_of_ble_eq_true rfl)) rfl ?_
      refine SW.msk [false, false, false, false, false] ?_
      refine SW.back hag rfl rfl rfl (Nat.le_of_ble_eq_true rfl) ?_
      refine SW.iconst (pc := 15) (v := 1) g (dt dt_L_person 10 rfl) ki_1 ?_
      exact SW.ireturn (pc := 16) g (leafN h ho) rfl (Nat.le_of_ble_eq_true rfl) (Nat.le_of_ble_eq_true rfl) (dt dt_L_person 11 rfl)
    · have h := iteF hE h
      by_cases hE : e.1 = "java/lang/IllegalArgumentException"
      · have h := iteT hE h
        refine SW.callXc (pc := 5) (hpc := 17) g (dt dt_L_person 5 rfl) htab (by rw [hE]; exact cat_L_person_1) (mtx_f_x_person _ _ _ _ ad ν N μ a1 a2 (.inr e) hf) me_X10_person mv_X10_person (gtb_of (tbm_5 (List.mem_of_getElem? (i := 147) rfl)) rfl) cell_0 rfl rfl (Nat.le_of_ble_eq_true rfl) (Nat.le_of_ble_eq_true rfl) (Nat.le_of_ble_eq_true rfl) (Nat.le_of_ble_eq_true rfl) rfl rfl rfl (Nat.le_of_ble_eq_true rfl) (fun ad1 hag => ?_)
        refine SW.astore (pc := 17) (sw_ok_ag g hag) (dt dt_L_person 12 rfl) (sw_ltm hm (Nat.le_of_ble_eq_true rfl)) rfl ?_
        refine SW.msk [false, false, false, false, false] ?_
        refine SW.back hag rfl rfl rfl (Nat.le_of_ble_eq_true rfl) ?_
        refine SW.iconst (pc := 19) (v := 2) g (dt dt_L_person 13 rfl) ki_2 ?_
        exact SW.ireturn (pc := 20) g (leafN h ho) rfl (Nat.le_of_ble_eq_true rfl) (Nat.le_of_ble_eq_true rfl) (dt dt_L_person 14 rfl)
      · have h := iteF hE h
        cases h
theorem cw_L_person : Cond.codeWith yL_person cL_person 5 (some .int) [(0, 10, 13, 31), (0, 10, 17, 13)] ∈ gtb := (gtb_of (tbm_5 (List.mem_of_getElem? (i := 146) rfl)) rfl)
theorem cs_L_person : Cond.static yL_person ∈ gtb := (gtb_of (tbm_5 (List.mem_of_getElem? (i := 145) rfl)) rfl)
def f_L_toll (N : Nat) (μ : sw_M) (ν : sw_N) (a1 : Int32) (a2 : Int32) : Option (Int32 × sw_M × sw_N) :=
  match f_x_toll N μ a1 a2 with
  | none => none
  | some (.inl r) => some (0, r.2, wrL ν 87 0 r.1.toInt64)
  | some (.inr e) => if e.1 = "java/util/NoSuchElementException" then some (1, e.2, ν) else none
theorem cat_L_toll_0 : sw_cat9 "DeadWiresLaw" [(0, 10, 13, 31)] 5 13 "java/util/NoSuchElementException" := ⟨[], ⟨0, 10, 13, 31⟩, [], "java/util/NoSuchElementException", rfl, (fun z hz => nomatch hz), by decide, by decide, rfl, (gtb_of (tbm_5 (List.mem_of_getElem? (i := 78) rfl)) rfl), (tbm_5 (List.mem_of_getElem? (i := 93) rfl))⟩
set_option maxRecDepth 100000 in
set_option maxHeartbeats 4000000 in
theorem mw_f_L_toll (l : Launch) (D : va_G) (cI cL : ClassId) (ad : Nat → Nat) (ν : sw_N) (N : Nat) (μ : sw_M) (a1 : Int32) (a2 : Int32) (o : Int32 × sw_M × sw_N) (h : f_L_toll N μ ν a1 a2 = some o) : MetW l D cI cL yL_toll cL_toll 5 (some .int) [(0, 10, 13, 31)] 11 2 12 ad [.ref 0, .int a1, .int a2, .ref 87] lay0 μ ν (some (.int o.1)) lay0 o.2.1 o.2.2 := by
  refine MetW.of (n := 1) rfl (Nat.le_of_ble_eq_true rfl) (fun G g ho hm htab => ?_)
  unfold f_L_toll at h
  refine SW.aload_n (pc := 0) g (dt dt_L_toll 0 rfl) rfl ?_
  refine SW.iconst (pc := 1) (v := 0) g (dt dt_L_toll 1 rfl) ki_0 ?_
  refine SW.aload_n (pc := 2) g (dt dt_L_toll 2 rfl) rfl ?_
  refine SW.iload_n (pc := 3) g (dt dt_L_toll 3 rfl) rfl ?_
  refine SW.iload_n (pc := 4) g (dt dt_L_toll 4 rfl) rfl ?_
  rcases hf : f_x_toll N μ a1 a2 with _ | r | e
  · rw [hf] at h; cases h
  · rw [hf] at h
    simp only [] at h
    refine SW.callXr (pc := 5) (r := some (.int r.1)) g (dt dt_L_toll 5 rfl) (mtx_f_x_toll _ _ _ _ ad ν N μ a1 a2 (.inl r) hf) me_X10_toll mv_X10_toll (gtb_of (tbm_5 (List.mem_of_getElem? (i := 163) rfl)) rfl) cell_0 rfl rfl (Nat.le_of_ble_eq_true rfl) (Nat.le_of_ble_eq_true rfl) (Nat.le_of_ble_eq_true rfl) (Nat.le_of_ble_eq_true rfl) rfl rfl ?_
    refine SW.i2l (pc := 8) g (dt dt_L_toll 6 rfl) ?_
    refine SW.lastore (pc := 9) g (dt dt_L_toll 7 rfl) cell_87 (by decide) ?_
    refine SW.goto (pc := 10) (t := 17) g (dt dt_L_toll 8 rfl) rfl ?_
    refine SW.iconst (pc := 17) (v := 0) g (dt dt_L_toll 12 rfl) ki_0 ?_
    exact SW.ireturn (pc := 18) g (leafN h ho) rfl (Nat.le_of_ble_eq_true rfl) (Nat.le_of_ble_eq_true rfl) (dt dt_L_toll 13 rfl)
  · rw [hf] at h
    simp only [] at h
    by_cases hE : e.1 = "java/util/NoSuchElementException"
    · have h := iteT hE h
      refine SW.callXc (pc := 5) (hpc := 13) g (dt dt_L_toll 5 rfl) htab (by rw [hE]; exact cat_L_toll_0) (mtx_f_x_toll _ _ _ _ ad ν N μ a1 a2 (.inr e) hf) me_X10_toll mv_X10_toll (gtb_of (tbm_5 (List.mem_of_getElem? (i := 163) rfl)) rfl) cell_0 rfl rfl (Nat.le_of_ble_eq_true rfl) (Nat.le_of_ble_eq_true rfl) (Nat.le_of_ble_eq_true rfl) (Nat.le_of_ble_eq_true rfl) rfl rfl rfl (Nat.le_of_ble_eq_true rfl) (fun ad1 hag => ?_)
      refine SW.astore (pc := 13) (sw_ok_ag g hag) (dt dt_L_toll 9 rfl) (sw_ltm hm (Nat.le_of_ble_eq_true rfl)) rfl ?_
      refine SW.msk [false, false, false, false, false] ?_
      refine SW.back hag rfl rfl rfl (Nat.le_of_ble_eq_true rfl) ?_
      refine SW.iconst (pc := 15) (v := 1) g (dt dt_L_toll 10 rfl) ki_1 ?_
      exact SW.ireturn (pc := 16) g (leafN h ho) rfl (Nat.le_of_ble_eq_true rfl) (Nat.le_of_ble_eq_true rfl) (dt dt_L_toll 11 rfl)
    · have h := iteF hE h
      cases h
theorem cw_L_toll : Cond.codeWith yL_toll cL_toll 5 (some .int) [(0, 10, 13, 31)] ∈ gtb := (gtb_of (tbm_5 (List.mem_of_getElem? (i := 162) rfl)) rfl)
theorem cs_L_toll : Cond.static yL_toll ∈ gtb := (gtb_of (tbm_5 (List.mem_of_getElem? (i := 161) rfl)) rfl)
def f_L_would (N : Nat) (μ : sw_M) (ν : sw_N) (a1 : Int32) (a2 : Int32) (a3 : Int32) (a4 : Int32) (a5 : Int32) (a6 : Int32) (a7 : Int32) : Option (Int32 × sw_M × sw_N) :=
  match f_x_would N μ a1 a2 a3 a4 a5 a6 a7 with
  | none => none
  | some (.inl r) => some (0, r.2, wrL ν 87 0 r.1.toInt64)
  | some (.inr e) => if e.1 = "java/lang/IllegalArgumentException" then some (1, e.2, ν) else none
theorem cat_L_would_0 : sw_cat9 "DeadWiresLaw" [(0, 20, 23, 13)] 15 23 "java/lang/IllegalArgumentException" := ⟨[], ⟨0, 20, 23, 13⟩, [], "java/lang/IllegalArgumentException", rfl, (fun z hz => nomatch hz), by decide, by decide, rfl, (gtb_of (tbm_3 (List.mem_of_getElem? (i := 128) rfl)) rfl), (tbm_3 (List.mem_of_getElem? (i := 145) rfl))⟩
set_option maxRecDepth 100000 in
set_option maxHeartbeats 4000000 in
theorem mw_f_L_would (l : Launch) (D : va_G) (cI cL : ClassId) (ad : Nat → Nat) (ν : sw_N) (N : Nat) (μ : sw_M) (a1 : Int32) (a2 : Int32) (a3 : Int32) (a4 : Int32) (a5 : Int32) (a6 : Int32) (a7 : Int32) (o : Int32 × sw_M × sw_N) (h : f_L_would N μ ν a1 a2 a3 a4 a5 a6 a7 = some o) : MetW l D cI cL yL_would cL_would 10 (some .int) [(0, 20, 23, 13)] 10 3 18 ad [.ref 0, .int a1, .int a2, .int a3, .int a4, .int a5, .int a6, .int a7, .ref 87] lay0 μ ν (some (.int o.1)) lay0 o.2.1 o.2.2 := by
  refine MetW.of (n := 1) rfl (Nat.le_of_ble_eq_true rfl) (fun G g ho hm htab => ?_)
  unfold f_L_would at h
  refine SW.aload (pc := 0) g (dt dt_L_would 0 rfl) rfl ?_
  refine SW.iconst (pc := 2) (v := 0) g (dt dt_L_would 1 rfl) ki_0 ?_
  refine SW.aload_n (pc := 3) g (dt dt_L_would 2 rfl) rfl ?_
  refine SW.iload_n (pc := 4) g (dt dt_L_would 3 rfl) rfl ?_
  refine SW.iload_n (pc := 5) g (dt dt_L_would 4 rfl) rfl ?_
  refine SW.iload_n (pc := 6) g (dt dt_L_would 5 rfl) rfl ?_
  refine SW.iload (pc := 7) g (dt dt_L_would 6 rfl) rfl ?_
  refine SW.iload (pc := 9) g (dt dt_L_would 7 rfl) rfl ?_
  refine SW.iload (pc := 11) g (dt dt_L_would 8 rfl) rfl ?_
  refine SW.iload (pc := 13) g (dt dt_L_would 9 rfl) rfl ?_
  rcases hf : f_x_would N μ a1 a2 a3 a4 a5 a6 a7 with _ | r | e
  · rw [hf] at h; cases h
  · rw [hf] at h
    simp only [] at h
    refine SW.callXr (pc := 15) (r := some (.int r.1)) g (dt dt_L_would 10 rfl) (mtx_f_x_would _ _ _ _ ad ν N μ a1 a2 a3 a4 a5 a6 a7 (.inl r) hf) me_X10_would mv_X10_would (gtb_of (tbm_5 (List.mem_of_getElem? (i := 171) rfl)) rfl) cell_0 rfl rfl (Nat.le_of_ble_eq_true rfl) (Nat.le_of_ble_eq_true rfl) (Nat.le_of_ble_eq_true rfl) (Nat.le_of_ble_eq_true rfl) rfl rfl ?_
    refine SW.i2l (pc := 18) g (dt dt_L_would 11 rfl) ?_
    refine SW.lastore (pc := 19) g (dt dt_L_would 12 rfl) cell_87 (by decide) ?_
    refine SW.goto (pc := 20) (t := 27) g (dt dt_L_would 13 rfl) rfl ?_
    refine SW.iconst (pc := 27) (v := 0) g (dt dt_L_would 17 rfl) ki_0 ?_
    exact SW.ireturn (pc := 28) g (leafN h ho) rfl (Nat.le_of_ble_eq_true rfl) (Nat.le_of_ble_eq_true rfl) (dt dt_L_would 18 rfl)
  · rw [hf] at h
    simp only [] at h
    by_cases hE : e.1 = "java/lang/IllegalArgumentException"
    · have h := iteT hE h
      refine SW.callXc (pc := 15) (hpc := 23) g (dt dt_L_would 10 rfl) htab (by rw [hE]; exact cat_L_would_0) (mtx_f_x_would _ _ _ _ ad ν N μ a1 a2 a3 a4 a5 a6 a7 (.inr e) hf) me_X10_would mv_X10_would (gtb_of (tbm_5 (List.mem_of_getElem? (i := 171) rfl)) rfl) cell_0 rfl rfl (Nat.le_of_ble_eq_true rfl) (Nat.le_of_ble_eq_true rfl) (Nat.le_of_ble_eq_true rfl) (Nat.le_of_ble_eq_true rfl) rfl rfl rfl (Nat.le_of_ble_eq_true rfl) (fun ad1 hag => ?_)
      refine SW.astore (pc := 23) (sw_ok_ag g hag) (dt dt_L_would 14 rfl) (sw_ltm hm (Nat.le_of_ble_eq_true rfl)) rfl ?_
      refine SW.msk [false, false, false, false, false, false, false, false, false, false] ?_
      refine SW.back hag rfl rfl rfl (Nat.le_of_ble_eq_true rfl) ?_
      refine SW.iconst (pc := 25) (v := 1) g (dt dt_L_would 15 rfl) ki_1 ?_
      exact SW.ireturn (pc := 26) g (leafN h ho) rfl (Nat.le_of_ble_eq_true rfl) (Nat.le_of_ble_eq_true rfl) (dt dt_L_would 16 rfl)
    · have h := iteF hE h
      cases h
theorem cw_L_would : Cond.codeWith yL_would cL_would 10 (some .int) [(0, 20, 23, 13)] ∈ gtb := (gtb_of (tbm_5 (List.mem_of_getElem? (i := 170) rfl)) rfl)
theorem cs_L_would : Cond.static yL_would ∈ gtb := (gtb_of (tbm_5 (List.mem_of_getElem? (i := 169) rfl)) rfl)
def f_L_can (N : Nat) (μ : sw_M) (ν : sw_N) (a1 : Int32) (a2 : Int32) : Option (Int32 × sw_M × sw_N) :=
  match f_x_can N μ a1 a2 with
  | none => none
  | some (.inl r) => some (0, r.2, wrL ν 87 0 (if r.1 = 0 then 0 else 1))
  | some (.inr e) => if e.1 = "java/util/NoSuchElementException" then some (1, e.2, ν) else none
theorem cat_L_can_0 : sw_cat9 "DeadWiresLaw" [(0, 17, 20, 31)] 5 20 "java/util/NoSuchElementException" := ⟨[], ⟨0, 17, 20, 31⟩, [], "java/util/NoSuchElementException", rfl, (fun z hz => nomatch hz), by decide, by decide, rfl, (gtb_of (tbm_5 (List.mem_of_getElem? (i := 78) rfl)) rfl), (tbm_5 (List.mem_of_getElem? (i := 93) rfl))⟩
set_option maxRecDepth 100000 in
set_option maxHeartbeats 4000000 in
theorem mw_f_L_can (l : Launch) (D : va_G) (cI cL : ClassId) (ad : Nat → Nat) (ν : sw_N) (N : Nat) (μ : sw_M) (a1 : Int32) (a2 : Int32) (o : Int32 × sw_M × sw_N) (h : f_L_can N μ ν a1 a2 = some o) : MetW l D cI cL yL_can cL_can 5 (some .int) [(0, 17, 20, 31)] 11 2 12 ad [.ref 0, .int a1, .int a2, .ref 87] lay0 μ ν (some (.int o.1)) lay0 o.2.1 o.2.2 := by
  refine MetW.of (n := 1) rfl (Nat.le_of_ble_eq_true rfl) (fun G g ho hm htab => ?_)
  unfold f_L_can at h
  refine SW.aload_n (pc := 0) g (dt dt_L_can 0 rfl) rfl ?_
  refine SW.iconst (pc := 1) (v := 0) g (dt dt_L_can 1 rfl) ki_0 ?_
  refine SW.aload_n (pc := 2) g (dt dt_L_can 2 rfl) rfl ?_
  refine SW.iload_n (pc := 3) g (dt dt_L_can 3 rfl) rfl ?_
  refine SW.iload_n (pc := 4) g (dt dt_L_can 4 rfl) rfl ?_
  rcases hf : f_x_can N μ a1 a2 with _ | r | e
  · rw [hf] at h; cases h
  · rw [hf] at h
    simp only [] at h
    refine SW.callXr (pc := 5) (r := some (.int r.1)) g (dt dt_L_can 5 rfl) (mtx_f_x_can _ _ _ _ ad ν N μ a1 a2 (.inl r) hf) me_X10_can mv_X10_can (gtb_of (tbm_5 (List.mem_of_getElem? (i := 180) rfl)) rfl) cell_0 rfl rfl (Nat.le_of_ble_eq_true rfl) (Nat.le_of_ble_eq_true rfl) (Nat.le_of_ble_eq_true rfl) (Nat.le_of_ble_eq_true rfl) rfl rfl ?_
    refine SW.if_eq (pc := 8) (t := 15) g (dt dt_L_can 6 rfl) rfl (fun hc => ?_) (fun hc => ?_)
    · rw [if_pos hc] at h
      refine SW.lconst (pc := 15) (v := 0) g (dt dt_L_can 9 rfl) rfl ?_
      refine SW.lastore (pc := 16) g (dt dt_L_can 10 rfl) cell_87 (by decide) ?_
      refine SW.goto (pc := 17) (t := 24) g (dt dt_L_can 11 rfl) rfl ?_
      refine SW.iconst (pc := 24) (v := 0) g (dt dt_L_can 15 rfl) ki_0 ?_
      exact SW.ireturn (pc := 25) g (leafN h ho) rfl (Nat.le_of_ble_eq_true rfl) (Nat.le_of_ble_eq_true rfl) (dt dt_L_can 16 rfl)
    · rw [if_neg hc] at h
      refine SW.lconst (pc := 11) (v := 1) g (dt dt_L_can 7 rfl) rfl ?_
      refine SW.goto (pc := 12) (t := 16) g (dt dt_L_can 8 rfl) rfl ?_
      refine SW.lastore (pc := 16) g (dt dt_L_can 10 rfl) cell_87 (by decide) ?_
      refine SW.goto (pc := 17) (t := 24) g (dt dt_L_can 11 rfl) rfl ?_
      refine SW.iconst (pc := 24) (v := 0) g (dt dt_L_can 15 rfl) ki_0 ?_
      exact SW.ireturn (pc := 25) g (leafN h ho) rfl (Nat.le_of_ble_eq_true rfl) (Nat.le_of_ble_eq_true rfl) (dt dt_L_can 16 rfl)
  · rw [hf] at h
    simp only [] at h
    by_cases hE : e.1 = "java/util/NoSuchElementException"
    · have h := iteT hE h
      refine SW.callXc (pc := 5) (hpc := 20) g (dt dt_L_can 5 rfl) htab (by rw [hE]; exact cat_L_can_0) (mtx_f_x_can _ _ _ _ ad ν N μ a1 a2 (.inr e) hf) me_X10_can mv_X10_can (gtb_of (tbm_5 (List.mem_of_getElem? (i := 180) rfl)) rfl) cell_0 rfl rfl (Nat.le_of_ble_eq_true rfl) (Nat.le_of_ble_eq_true rfl) (Nat.le_of_ble_eq_true rfl) (Nat.le_of_ble_eq_true rfl) rfl rfl rfl (Nat.le_of_ble_eq_true rfl) (fun ad1 hag => ?_)
      refine SW.astore (pc := 20) (sw_ok_ag g hag) (dt dt_L_can 12 rfl) (sw_ltm hm (Nat.le_of_ble_eq_true rfl)) rfl ?_
      refine SW.msk [false, false, false, false, false] ?_
      refine SW.back hag rfl rfl rfl (Nat.le_of_ble_eq_true rfl) ?_
      refine SW.iconst (pc := 22) (v := 1) g (dt dt_L_can 13 rfl) ki_1 ?_
      exact SW.ireturn (pc := 23) g (leafN h ho) rfl (Nat.le_of_ble_eq_true rfl) (Nat.le_of_ble_eq_true rfl) (dt dt_L_can 14 rfl)
    · have h := iteF hE h
      cases h
theorem cw_L_can : Cond.codeWith yL_can cL_can 5 (some .int) [(0, 17, 20, 31)] ∈ gtb := (gtb_of (tbm_5 (List.mem_of_getElem? (i := 179) rfl)) rfl)
theorem cs_L_can : Cond.static yL_can ∈ gtb := (gtb_of (tbm_5 (List.mem_of_getElem? (i := 178) rfl)) rfl)
def f_L_ahead (N : Nat) (μ : sw_M) (ν : sw_N) (a1 : Int32) (a2 : Int32) : Option (Int32 × sw_M × sw_N) :=
  match f_x_ahead N μ a1 a2 with
  | none => none
  | some (.inl r) => some (0, r.2, wrL ν 87 0 r.1.toInt64)
  | some (.inr e) => if e.1 = "java/lang/IllegalArgumentException" then some (1, e.2, ν) else none
theorem cat_L_ahead_0 : sw_cat9 "DeadWiresLaw" [(0, 10, 13, 13)] 5 13 "java/lang/IllegalArgumentException" := ⟨[], ⟨0, 10, 13, 13⟩, [], "java/lang/IllegalArgumentException", rfl, (fun z hz => nomatch hz), by decide, by decide, rfl, (gtb_of (tbm_3 (List.mem_of_getElem? (i := 128) rfl)) rfl), (tbm_3 (List.mem_of_getElem? (i := 145) rfl))⟩
set_option maxRecDepth 100000 in
set_option maxHeartbeats 4000000 in
theorem mw_f_L_ahead (l : Launch) (D : va_G) (cI cL : ClassId) (ad : Nat → Nat) (ν : sw_N) (N : Nat) (μ : sw_M) (a1 : Int32) (a2 : Int32) (o : Int32 × sw_M × sw_N) (h : f_L_ahead N μ ν a1 a2 = some o) : MetW l D cI cL yL_ahead cL_ahead 5 (some .int) [(0, 10, 13, 13)] 11 2 12 ad [.ref 0, .int a1, .int a2, .ref 87] lay0 μ ν (some (.int o.1)) lay0 o.2.1 o.2.2 := by
  refine MetW.of (n := 1) rfl (Nat.le_of_ble_eq_true rfl) (fun G g ho hm htab => ?_)
  unfold f_L_ahead at h
  refine SW.aload_n (pc := 0) g (dt dt_L_ahead 0 rfl) rfl ?_
  refine SW.iconst (pc := 1) (v := 0) g (dt dt_L_ahead 1 rfl) ki_0 ?_
  refine SW.aload_n (pc := 2) g (dt dt_L_ahead 2 rfl) rfl ?_
  refine SW.iload_n (pc := 3) g (dt dt_L_ahead 3 rfl) rfl ?_
  refine SW.iload_n (pc := 4) g (dt dt_L_ahead 4 rfl) rfl ?_
  rcases hf : f_x_ahead N μ a1 a2 with _ | r | e
  · rw [hf] at h; cases h
  · rw [hf] at h
    simp only [] at h
    refine SW.callXr (pc := 5) (r := some (.int r.1)) g (dt dt_L_ahead 5 rfl) (mtx_f_x_ahead _ _ _ _ ad ν N μ a1 a2 (.inl r) hf) me_X10_ahead mv_X10_ahead (gtb_of (tbm_5 (List.mem_of_getElem? (i := 188) rfl)) rfl) cell_0 rfl rfl (Nat.le_of_ble_eq_true rfl) (Nat.le_of_ble_eq_true rfl) (Nat.le_of_ble_eq_true rfl) (Nat.le_of_ble_eq_true rfl) rfl rfl ?_
    refine SW.i2l (pc := 8) g (dt dt_L_ahead 6 rfl) ?_
    refine SW.lastore (pc := 9) g (dt dt_L_ahead 7 rfl) cell_87 (by decide) ?_
    refine SW.goto (pc := 10) (t := 17) g (dt dt_L_ahead 8 rfl) rfl ?_
    refine SW.iconst (pc := 17) (v := 0) g (dt dt_L_ahead 12 rfl) ki_0 ?_
    exact SW.ireturn (pc := 18) g (leafN h ho) rfl (Nat.le_of_ble_eq_true rfl) (Nat.le_of_ble_eq_true rfl) (dt dt_L_ahead 13 rfl)
  · rw [hf] at h
    simp only [] at h
    by_cases hE : e.1 = "java/lang/IllegalArgumentException"
    · have h := iteT hE h
      refine SW.callXc (pc := 5) (hpc := 13) g (dt dt_L_ahead 5 rfl) htab (by rw [hE]; exact cat_L_ahead_0) (mtx_f_x_ahead _ _ _ _ ad ν N μ a1 a2 (.inr e) hf) me_X10_ahead mv_X10_ahead (gtb_of (tbm_5 (List.mem_of_getElem? (i := 188) rfl)) rfl) cell_0 rfl rfl (Nat.le_of_ble_eq_true rfl) (Nat.le_of_ble_eq_true rfl) (Nat.le_of_ble_eq_true rfl) (Nat.le_of_ble_eq_true rfl) rfl rfl rfl (Nat.le_of_ble_eq_true rfl) (fun ad1 hag => ?_)
      refine SW.astore (pc := 13) (sw_ok_ag g hag) (dt dt_L_ahead 9 rfl) (sw_ltm hm (Nat.le_of_ble_eq_true rfl)) rfl ?_
      refine SW.msk [false, false, false, false, false] ?_
      refine SW.back hag rfl rfl rfl (Nat.le_of_ble_eq_true rfl) ?_
      refine SW.iconst (pc := 15) (v := 1) g (dt dt_L_ahead 10 rfl) ki_1 ?_
      exact SW.ireturn (pc := 16) g (leafN h ho) rfl (Nat.le_of_ble_eq_true rfl) (Nat.le_of_ble_eq_true rfl) (dt dt_L_ahead 11 rfl)
    · have h := iteF hE h
      cases h
theorem cw_L_ahead : Cond.codeWith yL_ahead cL_ahead 5 (some .int) [(0, 10, 13, 13)] ∈ gtb := (gtb_of (tbm_5 (List.mem_of_getElem? (i := 187) rfl)) rfl)
theorem cs_L_ahead : Cond.static yL_ahead ∈ gtb := (gtb_of (tbm_5 (List.mem_of_getElem? (i := 186) rfl)) rfl)
def f_L_arrives (N : Nat) (μ : sw_M) (ν : sw_N) (a1 : Int32) (a2 : Int32) : Option (Int32 × sw_M × sw_N) :=
  match f_x_arrives N μ a1 a2 with
  | none => none
  | some (.inl r) => some (0, r.2, wrL ν 87 0 r.1.toInt64)
  | some (.inr e) => if e.1 = "java/util/NoSuchElementException" then some (1, e.2, ν) else none
theorem cat_L_arrives_0 : sw_cat9 "DeadWiresLaw" [(0, 10, 13, 31)] 5 13 "java/util/NoSuchElementException" := ⟨[], ⟨0, 10, 13, 31⟩, [], "java/util/NoSuchElementException", rfl, (fun z hz => nomatch hz), by decide, by decide, rfl, (gtb_of (tbm_5 (List.mem_of_getElem? (i := 78) rfl)) rfl), (tbm_5 (List.mem_of_getElem? (i := 93) rfl))⟩
set_option maxRecDepth 100000 in
set_option maxHeartbeats 4000000 in
theorem mw_f_L_arrives (l : Launch) (D : va_G) (cI cL : ClassId) (ad : Nat → Nat) (ν : sw_N) (N : Nat) (μ : sw_M) (a1 : Int32) (a2 : Int32) (o : Int32 × sw_M × sw_N) (h : f_L_arrives N μ ν a1 a2 = some o) : MetW l D cI cL yL_arrives cL_arrives 5 (some .int) [(0, 10, 13, 31)] 11 2 12 ad [.ref 0, .int a1, .int a2, .ref 87] lay0 μ ν (some (.int o.1)) lay0 o.2.1 o.2.2 := by
  refine MetW.of (n := 1) rfl (Nat.le_of_ble_eq_true rfl) (fun G g ho hm htab => ?_)
  unfold f_L_arrives at h
  refine SW.aload_n (pc := 0) g (dt dt_L_arrives 0 rfl) rfl ?_
  refine SW.iconst (pc := 1) (v := 0) g (dt dt_L_arrives 1 rfl) ki_0 ?_
  refine SW.aload_n (pc := 2) g (dt dt_L_arrives 2 rfl) rfl ?_
  refine SW.iload_n (pc := 3) g (dt dt_L_arrives 3 rfl) rfl ?_
  refine SW.iload_n (pc := 4) g (dt dt_L_arrives 4 rfl) rfl ?_
  rcases hf : f_x_arrives N μ a1 a2 with _ | r | e
  · rw [hf] at h; cases h
  · rw [hf] at h
    simp only [] at h
    refine SW.callXr (pc := 5) (r := some (.int r.1)) g (dt dt_L_arrives 5 rfl) (mtx_f_x_arrives _ _ _ _ ad ν N μ a1 a2 (.inl r) hf) me_X10_arrives mv_X10_arrives (gtb_of (tbm_5 (List.mem_of_getElem? (i := 203) rfl)) rfl) cell_0 rfl rfl (Nat.le_of_ble_eq_true rfl) (Nat.le_of_ble_eq_true rfl) (Nat.le_of_ble_eq_true rfl) (Nat.le_of_ble_eq_true rfl) rfl rfl ?_
    refine SW.i2l (pc := 8) g (dt dt_L_arrives 6 rfl) ?_
    refine SW.lastore (pc := 9) g (dt dt_L_arrives 7 rfl) cell_87 (by decide) ?_
    refine SW.goto (pc := 10) (t := 17) g (dt dt_L_arrives 8 rfl) rfl ?_
    refine SW.iconst (pc := 17) (v := 0) g (dt dt_L_arrives 12 rfl) ki_0 ?_
    exact SW.ireturn (pc := 18) g (leafN h ho) rfl (Nat.le_of_ble_eq_true rfl) (Nat.le_of_ble_eq_true rfl) (dt dt_L_arrives 13 rfl)
  · rw [hf] at h
    simp only [] at h
    by_cases hE : e.1 = "java/util/NoSuchElementException"
    · have h := iteT hE h
      refine SW.callXc (pc := 5) (hpc := 13) g (dt dt_L_arrives 5 rfl) htab (by rw [hE]; exact cat_L_arrives_0) (mtx_f_x_arrives _ _ _ _ ad ν N μ a1 a2 (.inr e) hf) me_X10_arrives mv_X10_arrives (gtb_of (tbm_5 (List.mem_of_getElem? (i := 203) rfl)) rfl) cell_0 rfl rfl (Nat.le_of_ble_eq_true rfl) (Nat.le_of_ble_eq_true rfl) (Nat.le_of_ble_eq_true rfl) (Nat.le_of_ble_eq_true rfl) rfl rfl rfl (Nat.le_of_ble_eq_true rfl) (fun ad1 hag => ?_)
      refine SW.astore (pc := 13) (sw_ok_ag g hag) (dt dt_L_arrives 9 rfl) (sw_ltm hm (Nat.le_of_ble_eq_true rfl)) rfl ?_
      refine SW.msk [false, false, false, false, false] ?_
      refine SW.back hag rfl rfl rfl (Nat.le_of_ble_eq_true rfl) ?_
      refine SW.iconst (pc := 15) (v := 1) g (dt dt_L_arrives 10 rfl) ki_1 ?_
      exact SW.ireturn (pc := 16) g (leafN h ho) rfl (Nat.le_of_ble_eq_true rfl) (Nat.le_of_ble_eq_true rfl) (dt dt_L_arrives 11 rfl)
    · have h := iteF hE h
      cases h
theorem cw_L_arrives : Cond.codeWith yL_arrives cL_arrives 5 (some .int) [(0, 10, 13, 31)] ∈ gtb := (gtb_of (tbm_5 (List.mem_of_getElem? (i := 202) rfl)) rfl)
theorem cs_L_arrives : Cond.static yL_arrives ∈ gtb := (gtb_of (tbm_5 (List.mem_of_getElem? (i := 201) rfl)) rfl)
def f_L_waits (N : Nat) (μ : sw_M) (ν : sw_N) (a1 : Int32) (a2 : Int32) : Option (Int32 × sw_M × sw_N) :=
  match f_x_waits N μ a1 a2 with
  | none => none
  | some (.inl r) => some (0, r.2, wrL ν 87 0 r.1.toInt64)
  | some (.inr e) => if e.1 = "java/util/NoSuchElementException" then some (1, e.2, ν) else none
theorem cat_L_waits_0 : sw_cat9 "DeadWiresLaw" [(0, 10, 13, 31)] 5 13 "java/util/NoSuchElementException" := ⟨[], ⟨0, 10, 13, 31⟩, [], "java/util/NoSuchElementException", rfl, (fun z hz => nomatch hz), by decide, by decide, rfl, (gtb_of (tbm_5 (List.mem_of_getElem? (i := 78) rfl)) rfl), (tbm_5 (List.mem_of_getElem? (i := 93) rfl))⟩
set_option maxRecDepth 100000 in
set_option maxHeartbeats 4000000 in
theorem mw_f_L_waits (l : Launch) (D : va_G) (cI cL : ClassId) (ad : Nat → Nat) (ν : sw_N) (N : Nat) (μ : sw_M) (a1 : Int32) (a2 : Int32) (o : Int32 × sw_M × sw_N) (h : f_L_waits N μ ν a1 a2 = some o) : MetW l D cI cL yL_waits cL_waits 5 (some .int) [(0, 10, 13, 31)] 11 2 12 ad [.ref 0, .int a1, .int a2, .ref 87] lay0 μ ν (some (.int o.1)) lay0 o.2.1 o.2.2 := by
  refine MetW.of (n := 1) rfl (Nat.le_of_ble_eq_true rfl) (fun G g ho hm htab => ?_)
  unfold f_L_waits at h
  refine SW.aload_n (pc := 0) g (dt dt_L_waits 0 rfl) rfl ?_
  refine SW.iconst (pc := 1) (v := 0) g (dt dt_L_waits 1 rfl) ki_0 ?_
  refine SW.aload_n (pc := 2) g (dt dt_L_waits 2 rfl) rfl ?_
  refine SW.iload_n (pc := 3) g (dt dt_L_waits 3 rfl) rfl ?_
  refine SW.iload_n (pc := 4) g (dt dt_L_waits 4 rfl) rfl ?_
  rcases hf : f_x_waits N μ a1 a2 with _ | r | e
  · rw [hf] at h; cases h
  · rw [hf] at h
    simp only [] at h
    refine SW.callXr (pc := 5) (r := some (.int r.1)) g (dt dt_L_waits 5 rfl) (mtx_f_x_waits _ _ _ _ ad ν N μ a1 a2 (.inl r) hf) me_X10_waits mv_X10_waits (gtb_of (tbm_5 (List.mem_of_getElem? (i := 215) rfl)) rfl) cell_0 rfl rfl (Nat.le_of_ble_eq_true rfl) (Nat.le_of_ble_eq_true rfl) (Nat.le_of_ble_eq_true rfl) (Nat.le_of_ble_eq_true rfl) rfl rfl ?_
    refine SW.i2l (pc := 8) g (dt dt_L_waits 6 rfl) ?_
    refine SW.lastore (pc := 9) g (dt dt_L_waits 7 rfl) cell_87 (by decide) ?_
    refine SW.goto (pc := 10) (t := 17) g (dt dt_L_waits 8 rfl) rfl ?_
    refine SW.iconst (pc := 17) (v := 0) g (dt dt_L_waits 12 rfl) ki_0 ?_
    exact SW.ireturn (pc := 18) g (leafN h ho) rfl (Nat.le_of_ble_eq_true rfl) (Nat.le_of_ble_eq_true rfl) (dt dt_L_waits 13 rfl)
  · rw [hf] at h
    simp only [] at h
    by_cases hE : e.1 = "java/util/NoSuchElementException"
    · have h := iteT hE h
      refine SW.callXc (pc := 5) (hpc := 13) g (dt dt_L_waits 5 rfl) htab (by rw [hE]; exact cat_L_waits_0) (mtx_f_x_waits _ _ _ _ ad ν N μ a1 a2 (.inr e) hf) me_X10_waits mv_X10_waits (gtb_of (tbm_5 (List.mem_of_getElem? (i := 215) rfl)) rfl) cell_0 rfl rfl (Nat.le_of_ble_eq_true rfl) (Nat.le_of_ble_eq_true rfl) (Nat.le_of_ble_eq_true rfl) (Nat.le_of_ble_eq_true rfl) rfl rfl rfl (Nat.le_of_ble_eq_true rfl) (fun ad1 hag => ?_)
      refine SW.astore (pc := 13) (sw_ok_ag g hag) (dt dt_L_waits 9 rfl) (sw_ltm hm (Nat.le_of_ble_eq_true rfl)) rfl ?_
      refine SW.msk [false, false, false, false, false] ?_
      refine SW.back hag rfl rfl rfl (Nat.le_of_ble_eq_true rfl) ?_
      refine SW.iconst (pc := 15) (v := 1) g (dt dt_L_waits 10 rfl) ki_1 ?_
      exact SW.ireturn (pc := 16) g (leafN h ho) rfl (Nat.le_of_ble_eq_true rfl) (Nat.le_of_ble_eq_true rfl) (dt dt_L_waits 11 rfl)
    · have h := iteF hE h
      cases h
theorem cw_L_waits : Cond.codeWith yL_waits cL_waits 5 (some .int) [(0, 10, 13, 31)] ∈ gtb := (gtb_of (tbm_5 (List.mem_of_getElem? (i := 214) rfl)) rfl)
theorem cs_L_waits : Cond.static yL_waits ∈ gtb := (gtb_of (tbm_5 (List.mem_of_getElem? (i := 213) rfl)) rfl)
def f_L_grant (N : Nat) (μ : sw_M) (ν : sw_N) (a1 : Int32) (a2 : Int32) : Option (Int32 × sw_M × sw_N) :=
  match f_x_grant N μ a1 a2 with
  | none => none
  | some (.inl r) => some (0, r.2, wrL ν 87 0 r.1.toInt64)
  | some (.inr e) => if e.1 = "java/util/NoSuchElementException" then some (1, e.2, ν) else none
theorem cat_L_grant_0 : sw_cat9 "DeadWiresLaw" [(0, 10, 13, 31)] 5 13 "java/util/NoSuchElementException" := ⟨[], ⟨0, 10, 13, 31⟩, [], "java/util/NoSuchElementException", rfl, (fun z hz => nomatch hz), by decide, by decide, rfl, (gtb_of (tbm_5 (List.mem_of_getElem? (i := 78) rfl)) rfl), (tbm_5 (List.mem_of_getElem? (i := 93) rfl))⟩
set_option maxRecDepth 100000 in
set_option maxHeartbeats 4000000 in
theorem mw_f_L_grant (l : Launch) (D : va_G) (cI cL : ClassId) (ad : Nat → Nat) (ν : sw_N) (N : Nat) (μ : sw_M) (a1 : Int32) (a2 : Int32) (o : Int32 × sw_M × sw_N) (h : f_L_grant N μ ν a1 a2 = some o) : MetW l D cI cL yL_grant cL_grant 5 (some .int) [(0, 10, 13, 31)] 11 2 12 ad [.ref 0, .int a1, .int a2, .ref 87] lay0 μ ν (some (.int o.1)) lay0 o.2.1 o.2.2 := by
  refine MetW.of (n := 1) rfl (Nat.le_of_ble_eq_true rfl) (fun G g ho hm htab => ?_)
  unfold f_L_grant at h
  refine SW.aload_n (pc := 0) g (dt dt_L_grant 0 rfl) rfl ?_
  refine SW.iconst (pc := 1) (v := 0) g (dt dt_L_grant 1 rfl) ki_0 ?_
  refine SW.aload_n (pc := 2) g (dt dt_L_grant 2 rfl) rfl ?_
  refine SW.iload_n (pc := 3) g (dt dt_L_grant 3 rfl) rfl ?_
  refine SW.iload_n (pc := 4) g (dt dt_L_grant 4 rfl) rfl ?_
  rcases hf : f_x_grant N μ a1 a2 with _ | r | e
  · rw [hf] at h; cases h
  · rw [hf] at h
    simp only [] at h
    refine SW.callXr (pc := 5) (r := some (.int r.1)) g (dt dt_L_grant 5 rfl) (mtx_f_x_grant _ _ _ _ ad ν N μ a1 a2 (.inl r) hf) me_X10_grant mv_X10_grant (gtb_of (tbm_5 (List.mem_of_getElem? (i := 227) rfl)) rfl) cell_0 rfl rfl (Nat.le_of_ble_eq_true rfl) (Nat.le_of_ble_eq_true rfl) (Nat.le_of_ble_eq_true rfl) (Nat.le_of_ble_eq_true rfl) rfl rfl ?_
    refine SW.i2l (pc := 8) g (dt dt_L_grant 6 rfl) ?_
    refine SW.lastore (pc := 9) g (dt dt_L_grant 7 rfl) cell_87 (by decide) ?_
    refine SW.goto (pc := 10) (t := 17) g (dt dt_L_grant 8 rfl) rfl ?_
    refine SW.iconst (pc := 17) (v := 0) g (dt dt_L_grant 12 rfl) ki_0 ?_
    exact SW.ireturn (pc := 18) g (leafN h ho) rfl (Nat.le_of_ble_eq_true rfl) (Nat.le_of_ble_eq_true rfl) (dt dt_L_grant 13 rfl)
  · rw [hf] at h
    simp only [] at h
    by_cases hE : e.1 = "java/util/NoSuchElementException"
    · have h := iteT hE h
      refine SW.callXc (pc := 5) (hpc := 13) g (dt dt_L_grant 5 rfl) htab (by rw [hE]; exact cat_L_grant_0) (mtx_f_x_grant _ _ _ _ ad ν N μ a1 a2 (.inr e) hf) me_X10_grant mv_X10_grant (gtb_of (tbm_5 (List.mem_of_getElem? (i := 227) rfl)) rfl) cell_0 rfl rfl (Nat.le_of_ble_eq_true rfl) (Nat.le_of_ble_eq_true rfl) (Nat.le_of_ble_eq_true rfl) (Nat.le_of_ble_eq_true rfl) rfl rfl rfl (Nat.le_of_ble_eq_true rfl) (fun ad1 hag => ?_)
      refine SW.astore (pc := 13) (sw_ok_ag g hag) (dt dt_L_grant 9 rfl) (sw_ltm hm (Nat.le_of_ble_eq_true rfl)) rfl ?_
      refine SW.msk [false, false, false, false, false] ?_
      refine SW.back hag rfl rfl rfl (Nat.le_of_ble_eq_true rfl) ?_
      refine SW.iconst (pc := 15) (v := 1) g (dt dt_L_grant 10 rfl) ki_1 ?_
      exact SW.ireturn (pc := 16) g (leafN h ho) rfl (Nat.le_of_ble_eq_true rfl) (Nat.le_of_ble_eq_true rfl) (dt dt_L_grant 11 rfl)
    · have h := iteF hE h
      cases h
theorem cw_L_grant : Cond.codeWith yL_grant cL_grant 5 (some .int) [(0, 10, 13, 31)] ∈ gtb := (gtb_of (tbm_5 (List.mem_of_getElem? (i := 226) rfl)) rfl)
theorem cs_L_grant : Cond.static yL_grant ∈ gtb := (gtb_of (tbm_5 (List.mem_of_getElem? (i := 225) rfl)) rfl)
def f_L_pliers (N : Nat) (μ : sw_M) (ν : sw_N) (a1 : Int32) (a2 : Int32) : Option (Int32 × sw_M × sw_N) :=
  match f_x_pliers N μ a1 a2 with
  | none => none
  | some (.inl r) => some (0, r.2, wrL ν 87 0 r.1.toInt64)
  | some (.inr e) => if e.1 = "java/util/NoSuchElementException" then some (1, e.2, ν) else none
theorem cat_L_pliers_0 : sw_cat9 "DeadWiresLaw" [(0, 10, 13, 31)] 5 13 "java/util/NoSuchElementException" := ⟨[], ⟨0, 10, 13, 31⟩, [], "java/util/NoSuchElementException", rfl, (fun z hz => nomatch hz), by decide, by decide, rfl, (gtb_of (tbm_5 (List.mem_of_getElem? (i := 78) rfl)) rfl), (tbm_5 (List.mem_of_getElem? (i := 93) rfl))⟩
set_option maxRecDepth 100000 in
set_option maxHeartbeats 4000000 in
theorem mw_f_L_pliers (l : Launch) (D : va_G) (cI cL : ClassId) (ad : Nat → Nat) (ν : sw_N) (N : Nat) (μ : sw_M) (a1 : Int32) (a2 : Int32) (o : Int32 × sw_M × sw_N) (h : f_L_pliers N μ ν a1 a2 = some o) : MetW l D cI cL yL_pliers cL_pliers 5 (some .int) [(0, 10, 13, 31)] 11 2 12 ad [.ref 0, .int a1, .int a2, .ref 87] lay0 μ ν (some (.int o.1)) lay0 o.2.1 o.2.2 := by
  refine MetW.of (n := 1) rfl (Nat.le_of_ble_eq_true rfl) (fun G g ho hm htab => ?_)
  unfold f_L_pliers at h
  refine SW.aload_n (pc := 0) g (dt dt_L_pliers 0 rfl) rfl ?_
  refine SW.iconst (pc := 1) (v := 0) g (dt dt_L_pliers 1 rfl) ki_0 ?_
  refine SW.aload_n (pc := 2) g (dt dt_L_pliers 2 rfl) rfl ?_
  refine SW.iload_n (pc := 3) g (dt dt_L_pliers 3 rfl) rfl ?_
  refine SW.iload_n (pc := 4) g (dt dt_L_pliers 4 rfl) rfl ?_
  rcases hf : f_x_pliers N μ a1 a2 with _ | r | e
  · rw [hf] at h; cases h
  · rw [hf] at h
    simp only [] at h
    refine SW.callXr (pc := 5) (r := some (.int r.1)) g (dt dt_L_pliers 5 rfl) (mtx_f_x_pliers _ _ _ _ ad ν N μ a1 a2 (.inl r) hf) me_X10_pliers mv_X10_pliers (gtb_of (tbm_5 (List.mem_of_getElem? (i := 238) rfl)) rfl) cell_0 rfl rfl (Nat.le_of_ble_eq_true rfl) (Nat.le_of_ble_eq_true rfl) (Nat.le_of_ble_eq_true rfl) (Nat.le_of_ble_eq_true rfl) rfl rfl ?_
    refine SW.i2l (pc := 8) g (dt dt_L_pliers 6 rfl) ?_
    refine SW.lastore (pc := 9) g (dt dt_L_pliers 7 rfl) cell_87 (by decide) ?_
    refine SW.goto (pc := 10) (t := 17) g (dt dt_L_pliers 8 rfl) rfl ?_
    refine SW.iconst (pc := 17) (v := 0) g (dt dt_L_pliers 12 rfl) ki_0 ?_
    exact SW.ireturn (pc := 18) g (leafN h ho) rfl (Nat.le_of_ble_eq_true rfl) (Nat.le_of_ble_eq_true rfl) (dt dt_L_pliers 13 rfl)
  · rw [hf] at h
    simp only [] at h
    by_cases hE : e.1 = "java/util/NoSuchElementException"
    · have h := iteT hE h
      refine SW.callXc (pc := 5) (hpc := 13) g (dt dt_L_pliers 5 rfl) htab (by rw [hE]; exact cat_L_pliers_0) (mtx_f_x_pliers _ _ _ _ ad ν N μ a1 a2 (.inr e) hf) me_X10_pliers mv_X10_pliers (gtb_of (tbm_5 (List.mem_of_getElem? (i := 238) rfl)) rfl) cell_0 rfl rfl (Nat.le_of_ble_eq_true rfl) (Nat.le_of_ble_eq_true rfl) (Nat.le_of_ble_eq_true rfl) (Nat.le_of_ble_eq_true rfl) rfl rfl rfl (Nat.le_of_ble_eq_true rfl) (fun ad1 hag => ?_)
      refine SW.astore (pc := 13) (sw_ok_ag g hag) (dt dt_L_pliers 9 rfl) (sw_ltm hm (Nat.le_of_ble_eq_true rfl)) rfl ?_
      refine SW.msk [false, false, false, false, false] ?_
      refine SW.back hag rfl rfl rfl (Nat.le_of_ble_eq_true rfl) ?_
      refine SW.iconst (pc := 15) (v := 1) g (dt dt_L_pliers 10 rfl) ki_1 ?_
      exact SW.ireturn (pc := 16) g (leafN h ho) rfl (Nat.le_of_ble_eq_true rfl) (Nat.le_of_ble_eq_true rfl) (dt dt_L_pliers 11 rfl)
    · have h := iteF hE h
      cases h
theorem cw_L_pliers : Cond.codeWith yL_pliers cL_pliers 5 (some .int) [(0, 10, 13, 31)] ∈ gtb := (gtb_of (tbm_5 (List.mem_of_getElem? (i := 237) rfl)) rfl)
theorem cs_L_pliers : Cond.static yL_pliers ∈ gtb := (gtb_of (tbm_5 (List.mem_of_getElem? (i := 236) rfl)) rfl)
def f_L_haul (N : Nat) (μ : sw_M) (ν : sw_N) (a1 : Int32) (a2 : Int32) : Option (Int32 × sw_M × sw_N) :=
  match f_x_haul N μ a1 a2 with
  | none => none
  | some (.inl r) => some (0, r.2, wrL ν 87 0 r.1.toInt64)
  | some (.inr e) => if e.1 = "java/util/NoSuchElementException" then some (1, e.2, ν) else if e.1 = "java/lang/IllegalArgumentException" then some (2, e.2, ν) else none
theorem cat_L_haul_0 : sw_cat9 "DeadWiresLaw" [(0, 10, 13, 31), (0, 10, 17, 13)] 5 13 "java/util/NoSuchElementException" := ⟨[], ⟨0, 10, 13, 31⟩, [⟨0, 10, 17, 13⟩], "java/util/NoSuchElementException", rfl, (fun z hz => nomatch hz), by decide, by decide, rfl, (gtb_of (tbm_5 (List.mem_of_getElem? (i := 78) rfl)) rfl), (tbm_5 (List.mem_of_getElem? (i := 93) rfl))⟩
theorem cat_L_haul_1 : sw_cat9 "DeadWiresLaw" [(0, 10, 13, 31), (0, 10, 17, 13)] 5 17 "java/lang/IllegalArgumentException" := ⟨[⟨0, 10, 13, 31⟩], ⟨0, 10, 17, 13⟩, [], "java/lang/IllegalArgumentException", rfl, (fun z hz => Or.inr (by rcases List.mem_singleton.mp hz with rfl; exact ⟨by decide, rfl, (gtb_of (tbm_5 (List.mem_of_getElem? (i := 78) rfl)) rfl)⟩)), by decide, by decide, rfl, (gtb_of (tbm_3 (List.mem_of_getElem? (i := 128) rfl)) rfl), (tbm_3 (List.mem_of_getElem? (i := 145) rfl))⟩
set_option maxRecDepth 100000 in
set_option maxHeartbeats 4000000 in
theorem mw_f_L_haul (l : Launch) (D : va_G) (cI cL : ClassId) (ad : Nat → Nat) (ν : sw_N) (N : Nat) (μ : sw_M) (a1 : Int32) (a2 : Int32) (o : Int32 × sw_M × sw_N) (h : f_L_haul N μ ν a1 a2 = some o) : MetW l D cI cL yL_haul cL_haul 5 (some .int) [(0, 10, 13, 31), (0, 10, 17, 13)] 11 2 12 ad [.ref 0, .int a1, .int a2, .ref 87] lay0 μ ν (some (.int o.1)) lay0 o.2.1 o.2.2 := by
  refine MetW.of (n := 1) rfl (Nat.le_of_ble_eq_true rfl) (fun G g ho hm htab => ?_)
  unfold f_L_haul at h
  refine SW.aload_n (pc := 0) g (dt dt_L_haul 0 rfl) rfl ?_
  refine SW.iconst (pc := 1) (v := 0) g (dt dt_L_haul 1 rfl) ki_0 ?_
  refine SW.aload_n (pc := 2) g (dt dt_L_haul 2 rfl) rfl ?_
  refine SW.iload_n (pc := 3) g (dt dt_L_haul 3 rfl) rfl ?_
  refine SW.iload_n (pc := 4) g (dt dt_L_haul 4 rfl) rfl ?_
  rcases hf : f_x_haul N μ a1 a2 with _ | r | e
  · rw [hf] at h; cases h
  · rw [hf] at h
    simp only [] at h
    refine SW.callXr (pc := 5) (r := some (.int r.1)) g (dt dt_L_haul 5 rfl) (mtx_f_x_haul _ _ _ _ ad ν N μ a1 a2 (.inl r) hf) me_X10_haul mv_X10_haul (gtb_of (tbm_6 (List.mem_of_getElem? (i := 17) rfl)) rfl) cell_0 rfl rfl (Nat.le_of_ble_eq_true rfl) (Nat.le_of_ble_eq_true rfl) (Nat.le_of_ble_eq_true rfl) (Nat.le_of_ble_eq_true rfl) rfl rfl ?_
    refine SW.i2l (pc := 8) g (dt dt_L_haul 6 rfl) ?_
    refine SW.lastore (pc := 9) g (dt dt_L_haul 7 rfl) cell_87 (by decide) ?_
    refine SW.goto (pc := 10) (t := 21) g (dt dt_L_haul 8 rfl) rfl ?_
    refine SW.iconst (pc := 21) (v := 0) g (dt dt_L_haul 15 rfl) ki_0 ?_
    exact SW.ireturn (pc := 22) g (leafN h ho) rfl (Nat.le_of_ble_eq_true rfl) (Nat.le_of_ble_eq_true rfl) (dt dt_L_haul 16 rfl)
  · rw [hf] at h
    simp only [] at h
    by_cases hE : e.1 = "java/util/NoSuchElementException"
    · have h := iteT hE h
      refine SW.callXc (pc := 5) (hpc := 13) g (dt dt_L_haul 5 rfl) htab (by rw [hE]; exact cat_L_haul_0) (mtx_f_x_haul _ _ _ _ ad ν N μ a1 a2 (.inr e) hf) me_X10_haul mv_X10_haul (gtb_of (tbm_6 (List.mem_of_getElem? (i := 17) rfl)) rfl) cell_0 rfl rfl (Nat.le_of_ble_eq_true rfl) (Nat.le_of_ble_eq_true rfl) (Nat.le_of_ble_eq_true rfl) (Nat.le_of_ble_eq_true rfl) rfl rfl rfl (Nat.le_of_ble_eq_true rfl) (fun ad1 hag => ?_)
      refine SW.astore (pc := 13) (sw_ok_ag g hag) (dt dt_L_haul 9 rfl) (sw_ltm hm (Nat.le_of_ble_eq_true rfl)) rfl ?_
      refine SW.msk [false, false, false, false, false] ?_
      refine SW.back hag rfl rfl rfl (Nat.le_of_ble_eq_true rfl) ?_
      refine SW.iconst (pc := 15) (v := 1) g (dt dt_L_haul 10 rfl) ki_1 ?_
      exact SW.ireturn (pc := 16) g (leafN h ho) rfl (Nat.le_of_ble_eq_true rfl) (Nat.le_of_ble_eq_true rfl) (dt dt_L_haul 11 rfl)
    · have h := iteF hE h
      by_cases hE : e.1 = "java/lang/IllegalArgumentException"
      · have h := iteT hE h
        refine SW.callXc (pc := 5) (hpc := 17) g (dt dt_L_haul 5 rfl) htab (by rw [hE]; exact cat_L_haul_1) (mtx_f_x_haul _ _ _ _ ad ν N μ a1 a2 (.inr e) hf) me_X10_haul mv_X10_haul (gtb_of (tbm_6 (List.mem_of_getElem? (i := 17) rfl)) rfl) cell_0 rfl rfl (Nat.le_of_ble_eq_true rfl) (Nat.le_of_ble_eq_true rfl) (Nat.le_of_ble_eq_true rfl) (Nat.le_of_ble_eq_true rfl) rfl rfl rfl (Nat.le_of_ble_eq_true rfl) (fun ad1 hag => ?_)
        refine SW.astore (pc := 17) (sw_ok_ag g hag) (dt dt_L_haul 12 rfl) (sw_ltm hm (Nat.le_of_ble_eq_true rfl)) rfl ?_
        refine SW.msk [false, false, false, false, false] ?_
        refine SW.back hag rfl rfl rfl (Nat.le_of_ble_eq_true rfl) ?_
        refine SW.iconst (pc := 19) (v := 2) g (dt dt_L_haul 13 rfl) ki_2 ?_
        exact SW.ireturn (pc := 20) g (leafN h ho) rfl (Nat.le_of_ble_eq_true rfl) (Nat.le_of_ble_eq_true rfl) (dt dt_L_haul 14 rfl)
      · have h := iteF hE h
        cases h
theorem cw_L_haul : Cond.codeWith yL_haul cL_haul 5 (some .int) [(0, 10, 13, 31), (0, 10, 17, 13)] ∈ gtb := (gtb_of (tbm_6 (List.mem_of_getElem? (i := 16) rfl)) rfl)
theorem cs_L_haul : Cond.static yL_haul ∈ gtb := (gtb_of (tbm_6 (List.mem_of_getElem? (i := 15) rfl)) rfl)
def f_L_fits (N : Nat) (μ : sw_M) (ν : sw_N) (a1 : Int32) : Option (Int32 × sw_M × sw_N) :=
  match f_x_fits N μ a1 with
  | none => none
  | some (.inl r) => some (0, r.2, wrL ν 87 0 r.1.toInt64)
  | some (.inr e) => if e.1 = "java/lang/IllegalArgumentException" then some (1, e.2, ν) else none
theorem cat_L_fits_0 : sw_cat9 "DeadWiresLaw" [(0, 9, 12, 13)] 4 12 "java/lang/IllegalArgumentException" := ⟨[], ⟨0, 9, 12, 13⟩, [], "java/lang/IllegalArgumentException", rfl, (fun z hz => nomatch hz), by decide, by decide, rfl, (gtb_of (tbm_3 (List.mem_of_getElem? (i := 128) rfl)) rfl), (tbm_3 (List.mem_of_getElem? (i := 145) rfl))⟩
set_option maxRecDepth 100000 in
set_option maxHeartbeats 4000000 in
theorem mw_f_L_fits (l : Launch) (D : va_G) (cI cL : ClassId) (ad : Nat → Nat) (ν : sw_N) (N : Nat) (μ : sw_M) (a1 : Int32) (o : Int32 × sw_M × sw_N) (h : f_L_fits N μ ν a1 = some o) : MetW l D cI cL yL_fits cL_fits 4 (some .int) [(0, 9, 12, 13)] 11 1 6 ad [.ref 0, .int a1, .ref 87] lay0 μ ν (some (.int o.1)) lay0 o.2.1 o.2.2 := by
  refine MetW.of (n := 1) rfl (Nat.le_of_ble_eq_true rfl) (fun G g ho hm htab => ?_)
  unfold f_L_fits at h
  refine SW.aload_n (pc := 0) g (dt dt_L_fits 0 rfl) rfl ?_
  refine SW.iconst (pc := 1) (v := 0) g (dt dt_L_fits 1 rfl) ki_0 ?_
  refine SW.aload_n (pc := 2) g (dt dt_L_fits 2 rfl) rfl ?_
  refine SW.iload_n (pc := 3) g (dt dt_L_fits 3 rfl) rfl ?_
  rcases hf : f_x_fits N μ a1 with _ | r | e
  · rw [hf] at h; cases h
  · rw [hf] at h
    simp only [] at h
    refine SW.callXr (pc := 4) (r := some (.int r.1)) g (dt dt_L_fits 4 rfl) (mtx_f_x_fits _ _ _ _ ad ν N μ a1 (.inl r) hf) me_X10_fits mv_X10_fits (gtb_of (tbm_6 (List.mem_of_getElem? (i := 34) rfl)) rfl) cell_0 rfl rfl (Nat.le_of_ble_eq_true rfl) (Nat.le_of_ble_eq_true rfl) (Nat.le_of_ble_eq_true rfl) (Nat.le_of_ble_eq_true rfl) rfl rfl ?_
    refine SW.i2l (pc := 7) g (dt dt_L_fits 5 rfl) ?_
    refine SW.lastore (pc := 8) g (dt dt_L_fits 6 rfl) cell_87 (by decide) ?_
    refine SW.goto (pc := 9) (t := 15) g (dt dt_L_fits 7 rfl) rfl ?_
    refine SW.iconst (pc := 15) (v := 0) g (dt dt_L_fits 11 rfl) ki_0 ?_
    exact SW.ireturn (pc := 16) g (leafN h ho) rfl (Nat.le_of_ble_eq_true rfl) (Nat.le_of_ble_eq_true rfl) (dt dt_L_fits 12 rfl)
  · rw [hf] at h
    simp only [] at h
    by_cases hE : e.1 = "java/lang/IllegalArgumentException"
    · have h := iteT hE h
      refine SW.callXc (pc := 4) (hpc := 12) g (dt dt_L_fits 4 rfl) htab (by rw [hE]; exact cat_L_fits_0) (mtx_f_x_fits _ _ _ _ ad ν N μ a1 (.inr e) hf) me_X10_fits mv_X10_fits (gtb_of (tbm_6 (List.mem_of_getElem? (i := 34) rfl)) rfl) cell_0 rfl rfl (Nat.le_of_ble_eq_true rfl) (Nat.le_of_ble_eq_true rfl) (Nat.le_of_ble_eq_true rfl) (Nat.le_of_ble_eq_true rfl) rfl rfl rfl (Nat.le_of_ble_eq_true rfl) (fun ad1 hag => ?_)
      refine SW.astore_n (pc := 12) (sw_ok_ag g hag) (dt dt_L_fits 8 rfl) (sw_ltm hm (Nat.le_of_ble_eq_true rfl)) rfl ?_
      refine SW.msk [false, false, false, false] ?_
      refine SW.back hag rfl rfl rfl (Nat.le_of_ble_eq_true rfl) ?_
      refine SW.iconst (pc := 13) (v := 1) g (dt dt_L_fits 9 rfl) ki_1 ?_
      exact SW.ireturn (pc := 14) g (leafN h ho) rfl (Nat.le_of_ble_eq_true rfl) (Nat.le_of_ble_eq_true rfl) (dt dt_L_fits 10 rfl)
    · have h := iteF hE h
      cases h
theorem cw_L_fits : Cond.codeWith yL_fits cL_fits 4 (some .int) [(0, 9, 12, 13)] ∈ gtb := (gtb_of (tbm_6 (List.mem_of_getElem? (i := 33) rfl)) rfl)
theorem cs_L_fits : Cond.static yL_fits ∈ gtb := (gtb_of (tbm_6 (List.mem_of_getElem? (i := 32) rfl)) rfl)
def f_L_look (N : Nat) (μ : sw_M) (ν : sw_N) (a1 : Int32) : Option (Int32 × sw_M × sw_N) :=
  match f_x_look N μ a1 with
  | none => none
  | some (.inl r) => some (0, r.2, wrL ν 87 0 r.1.toInt64)
  | some (.inr e) => if e.1 = "java/lang/IllegalArgumentException" then some (1, e.2, ν) else none
theorem cat_L_look_0 : sw_cat9 "DeadWiresLaw" [(0, 9, 12, 13)] 4 12 "java/lang/IllegalArgumentException" := ⟨[], ⟨0, 9, 12, 13⟩, [], "java/lang/IllegalArgumentException", rfl, (fun z hz => nomatch hz), by decide, by decide, rfl, (gtb_of (tbm_3 (List.mem_of_getElem? (i := 128) rfl)) rfl), (tbm_3 (List.mem_of_getElem? (i := 145) rfl))⟩
set_option maxRecDepth 100000 in
set_option maxHeartbeats 4000000 in
theorem mw_f_L_look (l : Launch) (D : va_G) (cI cL : ClassId) (ad : Nat → Nat) (ν : sw_N) (N : Nat) (μ : sw_M) (a1 : Int32) (o : Int32 × sw_M × sw_N) (h : f_L_look N μ ν a1 = some o) : MetW l D cI cL yL_look cL_look 4 (some .int) [(0, 9, 12, 13)] 11 1 6 ad [.ref 0, .int a1, .ref 87] lay0 μ ν (some (.int o.1)) lay0 o.2.1 o.2.2 := by
  refine MetW.of (n := 1) rfl (Nat.le_of_ble_eq_true rfl) (fun G g ho hm htab => ?_)
  unfold f_L_look at h
  refine SW.aload_n (pc := 0) g (dt dt_L_look 0 rfl) rfl ?_
  refine SW.iconst (pc := 1) (v := 0) g (dt dt_L_look 1 rfl) ki_0 ?_
  refine SW.aload_n (pc := 2) g (dt dt_L_look 2 rfl) rfl ?_
  refine SW.iload_n (pc := 3) g (dt dt_L_look 3 rfl) rfl ?_
  rcases hf : f_x_look N μ a1 with _ | r | e
  · rw [hf] at h; cases h
  · rw [hf] at h
    simp only [] at h
    refine SW.callXr (pc := 4) (r := some (.int r.1)) g (dt dt_L_look 4 rfl) (mtx_f_x_look _ _ _ _ ad ν N μ a1 (.inl r) hf) me_X10_look mv_X10_look (gtb_of (tbm_6 (List.mem_of_getElem? (i := 61) rfl)) rfl) cell_0 rfl rfl (Nat.le_of_ble_eq_true rfl) (Nat.le_of_ble_eq_true rfl) (Nat.le_of_ble_eq_true rfl) (Nat.le_of_ble_eq_true rfl) rfl rfl ?_
    refine SW.i2l (pc := 7) g (dt dt_L_look 5 rfl) ?_
    refine SW.lastore (pc := 8) g (dt dt_L_look 6 rfl) cell_87 (by decide) ?_
    refine SW.goto (pc := 9) (t := 15) g (dt dt_L_look 7 rfl) rfl ?_
    refine SW.iconst (pc := 15) (v := 0) g (dt dt_L_look 11 rfl) ki_0 ?_
    exact SW.ireturn (pc := 16) g (leafN h ho) rfl (Nat.le_of_ble_eq_true rfl) (Nat.le_of_ble_eq_true rfl) (dt dt_L_look 12 rfl)
  · rw [hf] at h
    simp only [] at h
    by_cases hE : e.1 = "java/lang/IllegalArgumentException"
    · have h := iteT hE h
      refine SW.callXc (pc := 4) (hpc := 12) g (dt dt_L_look 4 rfl) htab (by rw [hE]; exact cat_L_look_0) (mtx_f_x_look _ _ _ _ ad ν N μ a1 (.inr e) hf) me_X10_look mv_X10_look (gtb_of (tbm_6 (List.mem_of_getElem? (i := 61) rfl)) rfl) cell_0 rfl rfl (Nat.le_of_ble_eq_true rfl) (Nat.le_of_ble_eq_true rfl) (Nat.le_of_ble_eq_true rfl) (Nat.le_of_ble_eq_true rfl) rfl rfl rfl (Nat.le_of_ble_eq_true rfl) (fun ad1 hag => ?_)
      refine SW.astore_n (pc := 12) (sw_ok_ag g hag) (dt dt_L_look 8 rfl) (sw_ltm hm (Nat.le_of_ble_eq_true rfl)) rfl ?_
      refine SW.msk [false, false, false, false] ?_
      refine SW.back hag rfl rfl rfl (Nat.le_of_ble_eq_true rfl) ?_
      refine SW.iconst (pc := 13) (v := 1) g (dt dt_L_look 9 rfl) ki_1 ?_
      exact SW.ireturn (pc := 14) g (leafN h ho) rfl (Nat.le_of_ble_eq_true rfl) (Nat.le_of_ble_eq_true rfl) (dt dt_L_look 10 rfl)
    · have h := iteF hE h
      cases h
theorem cw_L_look : Cond.codeWith yL_look cL_look 4 (some .int) [(0, 9, 12, 13)] ∈ gtb := (gtb_of (tbm_6 (List.mem_of_getElem? (i := 60) rfl)) rfl)
theorem cs_L_look : Cond.static yL_look ∈ gtb := (gtb_of (tbm_6 (List.mem_of_getElem? (i := 59) rfl)) rfl)
def f_L_parts (N : Nat) (μ : sw_M) (ν : sw_N) (a1 : Int32) : Option (Int32 × sw_M × sw_N) :=
  match f_x_parts N μ a1 with
  | none => none
  | some (.inl r) => some (0, r.2, wrL ν 87 0 r.1.toInt64)
  | some (.inr e) => if e.1 = "java/lang/IllegalArgumentException" then some (1, e.2, ν) else none
theorem cat_L_parts_0 : sw_cat9 "DeadWiresLaw" [(0, 9, 12, 13)] 4 12 "java/lang/IllegalArgumentException" := ⟨[], ⟨0, 9, 12, 13⟩, [], "java/lang/IllegalArgumentException", rfl, (fun z hz => nomatch hz), by decide, by decide, rfl, (gtb_of (tbm_3 (List.mem_of_getElem? (i := 128) rfl)) rfl), (tbm_3 (List.mem_of_getElem? (i := 145) rfl))⟩
set_option maxRecDepth 100000 in
set_option maxHeartbeats 4000000 in
theorem mw_f_L_parts (l : Launch) (D : va_G) (cI cL : ClassId) (ad : Nat → Nat) (ν : sw_N) (N : Nat) (μ : sw_M) (a1 : Int32) (o : Int32 × sw_M × sw_N) (h : f_L_parts N μ ν a1 = some o) : MetW l D cI cL yL_parts cL_parts 4 (some .int) [(0, 9, 12, 13)] 10 1 6 ad [.ref 0, .int a1, .ref 87] lay0 μ ν (some (.int o.1)) lay0 o.2.1 o.2.2 := by
  refine MetW.of (n := 1) rfl (Nat.le_of_ble_eq_true rfl) (fun G g ho hm htab => ?_)
  unfold f_L_parts at h
  refine SW.aload_n (pc := 0) g (dt dt_L_parts 0 rfl) rfl ?_
  refine SW.iconst (pc := 1) (v := 0) g (dt dt_L_parts 1 rfl) ki_0 ?_
  refine SW.aload_n (pc := 2) g (dt dt_L_parts 2 rfl) rfl ?_
  refine SW.iload_n (pc := 3) g (dt dt_L_parts 3 rfl) rfl ?_
  rcases hf : f_x_parts N μ a1 with _ | r | e
  · rw [hf] at h; cases h
  · rw [hf] at h
    simp only [] at h
    refine SW.callXr (pc := 4) (r := some (.int r.1)) g (dt dt_L_parts 4 rfl) (mtx_f_x_parts _ _ _ _ ad ν N μ a1 (.inl r) hf) me_X10_parts mv_X10_parts (gtb_of (tbm_6 (List.mem_of_getElem? (i := 78) rfl)) rfl) cell_0 rfl rfl (Nat.le_of_ble_eq_true rfl) (Nat.le_of_ble_eq_true rfl) (Nat.le_of_ble_eq_true rfl) (Nat.le_of_ble_eq_true rfl) rfl rfl ?_
    refine SW.i2l (pc := 7) g (dt dt_L_parts 5 rfl) ?_
    refine SW.lastore (pc := 8) g (dt dt_L_parts 6 rfl) cell_87 (by decide) ?_
    refine SW.goto (pc := 9) (t := 15) g (dt dt_L_parts 7 rfl) rfl ?_
    refine SW.iconst (pc := 15) (v := 0) g (dt dt_L_parts 11 rfl) ki_0 ?_
    exact SW.ireturn (pc := 16) g (leafN h ho) rfl (Nat.le_of_ble_eq_true rfl) (Nat.le_of_ble_eq_true rfl) (dt dt_L_parts 12 rfl)
  · rw [hf] at h
    simp only [] at h
    by_cases hE : e.1 = "java/lang/IllegalArgumentException"
    · have h := iteT hE h
      refine SW.callXc (pc := 4) (hpc := 12) g (dt dt_L_parts 4 rfl) htab (by rw [hE]; exact cat_L_parts_0) (mtx_f_x_parts _ _ _ _ ad ν N μ a1 (.inr e) hf) me_X10_parts mv_X10_parts (gtb_of (tbm_6 (List.mem_of_getElem? (i := 78) rfl)) rfl) cell_0 rfl rfl (Nat.le_of_ble_eq_true rfl) (Nat.le_of_ble_eq_true rfl) (Nat.le_of_ble_eq_true rfl) (Nat.le_of_ble_eq_true rfl) rfl rfl rfl (Nat.le_of_ble_eq_true rfl) (fun ad1 hag => ?_)
      refine SW.astore_n (pc := 12) (sw_ok_ag g hag) (dt dt_L_parts 8 rfl) (sw_ltm hm (Nat.le_of_ble_eq_true rfl)) rfl ?_
      refine SW.msk [false, false, false, false] ?_
      refine SW.back hag rfl rfl rfl (Nat.le_of_ble_eq_true rfl) ?_
      refine SW.iconst (pc := 13) (v := 1) g (dt dt_L_parts 9 rfl) ki_1 ?_
      exact SW.ireturn (pc := 14) g (leafN h ho) rfl (Nat.le_of_ble_eq_true rfl) (Nat.le_of_ble_eq_true rfl) (dt dt_L_parts 10 rfl)
    · have h := iteF hE h
      cases h
theorem cw_L_parts : Cond.codeWith yL_parts cL_parts 4 (some .int) [(0, 9, 12, 13)] ∈ gtb := (gtb_of (tbm_6 (List.mem_of_getElem? (i := 77) rfl)) rfl)
theorem cs_L_parts : Cond.static yL_parts ∈ gtb := (gtb_of (tbm_6 (List.mem_of_getElem? (i := 76) rfl)) rfl)
def f_L_tingle (N : Nat) (μ : sw_M) (ν : sw_N) (a1 : Int32) (a2 : Int32) (a3 : Int32) : Option (Int32 × sw_M × sw_N) :=
  match f_x_tingle N μ a1 a2 a3 with
  | none => none
  | some (.inl r) => some (0, r.2, wrL ν 87 0 r.1)
  | some (.inr e) => if e.1 = "java/lang/IllegalArgumentException" then some (1, e.2, ν) else none
theorem cat_L_tingle_0 : sw_cat9 "DeadWiresLaw" [(0, 11, 14, 13)] 7 14 "java/lang/IllegalArgumentException" := ⟨[], ⟨0, 11, 14, 13⟩, [], "java/lang/IllegalArgumentException", rfl, (fun z hz => nomatch hz), by decide, by decide, rfl, (gtb_of (tbm_3 (List.mem_of_getElem? (i := 128) rfl)) rfl), (tbm_3 (List.mem_of_getElem? (i := 145) rfl))⟩
set_option maxRecDepth 100000 in
set_option maxHeartbeats 4000000 in
theorem mw_f_L_tingle (l : Launch) (D : va_G) (cI cL : ClassId) (ad : Nat → Nat) (ν : sw_N) (N : Nat) (μ : sw_M) (a1 : Int32) (a2 : Int32) (a3 : Int32) (o : Int32 × sw_M × sw_N) (h : f_L_tingle N μ ν a1 a2 a3 = some o) : MetW l D cI cL yL_tingle cL_tingle 6 (some .int) [(0, 11, 14, 13)] 11 2 12 ad [.ref 0, .int a1, .int a2, .int a3, .ref 87] lay0 μ ν (some (.int o.1)) lay0 o.2.1 o.2.2 := by
  refine MetW.of (n := 1) rfl (Nat.le_of_ble_eq_true rfl) (fun G g ho hm htab => ?_)
  unfold f_L_tingle at h
  refine SW.aload (pc := 0) g (dt dt_L_tingle 0 rfl) rfl ?_
  refine SW.iconst (pc := 2) (v := 0) g (dt dt_L_tingle 1 rfl) ki_0 ?_
  refine SW.aload_n (pc := 3) g (dt dt_L_tingle 2 rfl) rfl ?_
  refine SW.iload_n (pc := 4) g (dt dt_L_tingle 3 rfl) rfl ?_
  refine SW.iload_n (pc := 5) g (dt dt_L_tingle 4 rfl) rfl ?_
  refine SW.iload_n (pc := 6) g (dt dt_L_tingle 5 rfl) rfl ?_
  rcases hf : f_x_tingle N μ a1 a2 a3 with _ | r | e
  · rw [hf] at h; cases h
  · rw [hf] at h
    simp only [] at h
    refine SW.callXr (pc := 7) (r := some (.long r.1)) g (dt dt_L_tingle 6 rfl) (mtx_f_x_tingle _ _ _ _ ad ν N μ a1 a2 a3 (.inl r) hf) me_X10_tingle mv_X10_tingle (gtb_of (tbm_6 (List.mem_of_getElem? (i := 93) rfl)) rfl) cell_0 rfl rfl (Nat.le_of_ble_eq_true rfl) (Nat.le_of_ble_eq_true rfl) (Nat.le_of_ble_eq_true rfl) (Nat.le_of_ble_eq_true rfl) rfl rfl ?_
    refine SW.lastore (pc := 10) g (dt dt_L_tingle 7 rfl) cell_87 (by decide) ?_
    refine SW.goto (pc := 11) (t := 18) g (dt dt_L_tingle 8 rfl) rfl ?_
    refine SW.iconst (pc := 18) (v := 0) g (dt dt_L_tingle 12 rfl) ki_0 ?_
    exact SW.ireturn (pc := 19) g (leafN h ho) rfl (Nat.le_of_ble_eq_true rfl) (Nat.le_of_ble_eq_true rfl) (dt dt_L_tingle 13 rfl)
  · rw [hf] at h
    simp only [] at h
    by_cases hE : e.1 = "java/lang/IllegalArgumentException"
    · have h := iteT hE h
      refine SW.callXc (pc := 7) (hpc := 14) g (dt dt_L_tingle 6 rfl) htab (by rw [hE]; exact cat_L_tingle_0) (mtx_f_x_tingle _ _ _ _ ad ν N μ a1 a2 a3 (.inr e) hf) me_X10_tingle mv_X10_tingle (gtb_of (tbm_6 (List.mem_of_getElem? (i := 93) rfl)) rfl) cell_0 rfl rfl (Nat.le_of_ble_eq_true rfl) (Nat.le_of_ble_eq_true rfl) (Nat.le_of_ble_eq_true rfl) (Nat.le_of_ble_eq_true rfl) rfl rfl rfl (Nat.le_of_ble_eq_true rfl) (fun ad1 hag => ?_)
      refine SW.astore (pc := 14) (sw_ok_ag g hag) (dt dt_L_tingle 9 rfl) (sw_ltm hm (Nat.le_of_ble_eq_true rfl)) rfl ?_
      refine SW.msk [false, false, false, false, false, false] ?_
      refine SW.back hag rfl rfl rfl (Nat.le_of_ble_eq_true rfl) ?_
      refine SW.iconst (pc := 16) (v := 1) g (dt dt_L_tingle 10 rfl) ki_1 ?_
      exact SW.ireturn (pc := 17) g (leafN h ho) rfl (Nat.le_of_ble_eq_true rfl) (Nat.le_of_ble_eq_true rfl) (dt dt_L_tingle 11 rfl)
    · have h := iteF hE h
      cases h
theorem cw_L_tingle : Cond.codeWith yL_tingle cL_tingle 6 (some .int) [(0, 11, 14, 13)] ∈ gtb := (gtb_of (tbm_6 (List.mem_of_getElem? (i := 92) rfl)) rfl)
theorem cs_L_tingle : Cond.static yL_tingle ∈ gtb := (gtb_of (tbm_6 (List.mem_of_getElem? (i := 91) rfl)) rfl)
def f_L_lean (N : Nat) (μ : sw_M) (ν : sw_N) (a1 : Int32) (a2 : Int32) (a3 : Int32) : Option (Int32 × sw_M × sw_N) :=
  match f_x_lean N μ a1 a2 a3 with
  | none => none
  | some (.inl r) => some (0, r.2, wrL ν 87 0 r.1.toInt64)
  | some (.inr e) => if e.1 = "java/lang/IllegalArgumentException" then some (1, e.2, ν) else none
theorem cat_L_lean_0 : sw_cat9 "DeadWiresLaw" [(0, 12, 15, 13)] 7 15 "java/lang/IllegalArgumentException" := ⟨[], ⟨0, 12, 15, 13⟩, [], "java/lang/IllegalArgumentException", rfl, (fun z hz => nomatch hz), by decide, by decide, rfl, (gtb_of (tbm_3 (List.mem_of_getElem? (i := 128) rfl)) rfl), (tbm_3 (List.mem_of_getElem? (i := 145) rfl))⟩
set_option maxRecDepth 100000 in
set_option maxHeartbeats 4000000 in
theorem mw_f_L_lean (l : Launch) (D : va_G) (cI cL : ClassId) (ad : Nat → Nat) (ν : sw_N) (N : Nat) (μ : sw_M) (a1 : Int32) (a2 : Int32) (a3 : Int32) (o : Int32 × sw_M × sw_N) (h : f_L_lean N μ ν a1 a2 a3 = some o) : MetW l D cI cL yL_lean cL_lean 6 (some .int) [(0, 12, 15, 13)] 11 2 12 ad [.ref 0, .int a1, .int a2, .int a3, .ref 87] lay0 μ ν (some (.int o.1)) lay0 o.2.1 o.2.2 := by
  refine MetW.of (n := 1) rfl (Nat.le_of_ble_eq_true rfl) (fun G g ho hm htab => ?_)
  unfold f_L_lean at h
  refine SW.aload (pc := 0) g (dt dt_L_lean 0 rfl) rfl ?_
  refine SW.iconst (pc := 2) (v := 0) g (dt dt_L_lean 1 rfl) ki_0 ?_
  refine SW.aload_n (pc := 3) g (dt dt_L_lean 2 rfl) rfl ?_
  refine SW.iload_n (pc := 4) g (dt dt_L_lean 3 rfl) rfl ?_
  refine SW.iload_n (pc := 5) g (dt dt_L_lean 4 rfl) rfl ?_
  refine SW.iload_n (pc := 6) g (dt dt_L_lean 5 rfl) rfl ?_
  rcases hf : f_x_lean N μ a1 a2 a3 with _ | r | e
  · rw [hf] at h; cases h
  · rw [hf] at h
    simp only [] at h
    refine SW.callXr (pc := 7) (r := some (.int r.1)) g (dt dt_L_lean 6 rfl) (mtx_f_x_lean _ _ _ _ ad ν N μ a1 a2 a3 (.inl r) hf) me_X10_lean mv_X10_lean (gtb_of (tbm_6 (List.mem_of_getElem? (i := 106) rfl)) rfl) cell_0 rfl rfl (Nat.le_of_ble_eq_true rfl) (Nat.le_of_ble_eq_true rfl) (Nat.le_of_ble_eq_true rfl) (Nat.le_of_ble_eq_true rfl) rfl rfl ?_
    refine SW.i2l (pc := 10) g (dt dt_L_lean 7 rfl) ?_
    refine SW.lastore (pc := 11) g (dt dt_L_lean 8 rfl) cell_87 (by decide) ?_
    refine SW.goto (pc := 12) (t := 19) g (dt dt_L_lean 9 rfl) rfl ?_
    refine SW.iconst (pc := 19) (v := 0) g (dt dt_L_lean 13 rfl) ki_0 ?_
    exact SW.ireturn (pc := 20) g (leafN h ho) rfl (Nat.le_of_ble_eq_true rfl) (Nat.le_of_ble_eq_true rfl) (dt dt_L_lean 14 rfl)
  · rw [hf] at h
    simp only [] at h
    by_cases hE : e.1 = "java/lang/IllegalArgumentException"
    · have h := iteT hE h
      refine SW.callXc (pc := 7) (hpc := 15) g (dt dt_L_lean 6 rfl) htab (by rw [hE]; exact cat_L_lean_0) (mtx_f_x_lean _ _ _ _ ad ν N μ a1 a2 a3 (.inr e) hf) me_X10_lean mv_X10_lean (gtb_of (tbm_6 (List.mem_of_getElem? (i := 106) rfl)) rfl) cell_0 rfl rfl (Nat.le_of_ble_eq_true rfl) (Nat.le_of_ble_eq_true rfl) (Nat.le_of_ble_eq_true rfl) (Nat.le_of_ble_eq_true rfl) rfl rfl rfl (Nat.le_of_ble_eq_true rfl) (fun ad1 hag => ?_)
      refine SW.astore (pc := 15) (sw_ok_ag g hag) (dt dt_L_lean 10 rfl) (sw_ltm hm (Nat.le_of_ble_eq_true rfl)) rfl ?_
      refine SW.msk [false, false, false, false, false, false] ?_
      refine SW.back hag rfl rfl rfl (Nat.le_of_ble_eq_true rfl) ?_
      refine SW.iconst (pc := 17) (v := 1) g (dt dt_L_lean 11 rfl) ki_1 ?_
      exact SW.ireturn (pc := 18) g (leafN h ho) rfl (Nat.le_of_ble_eq_true rfl) (Nat.le_of_ble_eq_true rfl) (dt dt_L_lean 12 rfl)
    · have h := iteF hE h
      cases h
theorem cw_L_lean : Cond.codeWith yL_lean cL_lean 6 (some .int) [(0, 12, 15, 13)] ∈ gtb := (gtb_of (tbm_6 (List.mem_of_getElem? (i := 105) rfl)) rfl)
theorem cs_L_lean : Cond.static yL_lean ∈ gtb := (gtb_of (tbm_6 (List.mem_of_getElem? (i := 104) rfl)) rfl)
def f_L_grace (N : Nat) (μ : sw_M) (ν : sw_N) (a1 : Int32) (a2 : Int32) (a3 : Int32) : Option (Int32 × sw_M × sw_N) :=
  match f_x_grace N μ a1 a2 a3 with
  | none => none
  | some (.inl r) => some (0, r.2, wrL ν 87 0 r.1.toInt64)
  | some (.inr e) => if e.1 = "java/util/NoSuchElementException" then some (1, e.2, ν) else if e.1 = "java/lang/IllegalArgumentException" then some (2, e.2, ν) else none
theorem cat_L_grace_0 : sw_cat9 "DeadWiresLaw" [(0, 12, 15, 31), (0, 12, 19, 13)] 7 15 "java/util/NoSuchElementException" := ⟨[], ⟨0, 12, 15, 31⟩, [⟨0, 12, 19, 13⟩], "java/util/NoSuchElementException", rfl, (fun z hz => nomatch hz), by decide, by decide, rfl, (gtb_of (tbm_5 (List.mem_of_getElem? (i := 78) rfl)) rfl), (tbm_5 (List.mem_of_getElem? (i := 93) rfl))⟩
theorem cat_L_grace_1 : sw_cat9 "DeadWiresLaw" [(0, 12, 15, 31), (0, 12, 19, 13)] 7 19 "java/lang/IllegalArgumentException" := ⟨[⟨0, 12, 15, 31⟩], ⟨0, 12, 19, 13⟩, [], "java/lang/IllegalArgumentException", rfl, (fun z hz => Or.inr (by rcases List.mem_singleton.mp hz with rfl; exact ⟨by decide, rfl, (gtb_of (tbm_5 (List.mem_of_getElem? (i := 78) rfl)) rfl)⟩)), by decide, by decide, rfl, (gtb_of (tbm_3 (List.mem_of_getElem? (i := 128) rfl)) rfl), (tbm_3 (List.mem_of_getElem? (i := 145) rfl))⟩
set_option maxRecDepth 100000 in
set_option maxHeartbeats 4000000 in
theorem mw_f_L_grace (l : Launch) (D : va_G) (cI cL : ClassId) (ad : Nat → Nat) (ν : sw_N) (N : Nat) (μ : sw_M) (a1 : Int32) (a2 : Int32) (a3 : Int32) (o : Int32 × sw_M × sw_N) (h : f_L_grace N μ ν a1 a2 a3 = some o) : MetW l D cI cL yL_grace cL_grace 6 (some .int) [(0, 12, 15, 31), (0, 12, 19, 13)] 11 2 12 ad [.ref 0, .int a1, .int a2, .int a3, .ref 87] lay0 μ ν (some (.int o.1)) lay0 o.2.1 o.2.2 := by
  refine MetW.of (n := 1) rfl (Nat.le_of_ble_eq_true rfl) (fun G g ho hm htab => ?_)
  unfold f_L_grace at h
  refine SW.aload (pc := 0) g (dt dt_L_grace 0 rfl) rfl ?_
  refine SW.iconst (pc := 2) (v := 0) g (dt dt_L_grace 1 rfl) ki_0 ?_
  refine SW.aload_n (pc := 3) g (dt dt_L_grace 2 rfl) rfl ?_
  refine SW.iload_n (pc := 4) g (dt dt_L_grace 3 rfl) rfl ?_
  refine SW.iload_n (pc := 5) g (dt dt_L_grace 4 rfl) rfl ?_
  refine SW.iload_n (pc := 6) g (dt dt_L_grace 5 rfl) rfl ?_
  rcases hf : f_x_grace N μ a1 a2 a3 with _ | r | e
  · rw [hf] at h; cases h
  · rw [hf] at h
    simp only [] at h
    refine SW.callXr (pc := 7) (r := some (.int r.1)) g (dt dt_L_grace 6 rfl) (mtx_f_x_grace _ _ _ _ ad ν N μ a1 a2 a3 (.inl r) hf) me_X10_grace mv_X10_grace (gtb_of (tbm_6 (List.mem_of_getElem? (i := 119) rfl)) rfl) cell_0 rfl rfl (Nat.le_of_ble_eq_true rfl) (Nat.le_of_ble_eq_true rfl) (Nat.le_of_ble_eq_true rfl) (Nat.le_of_ble_eq_true rfl) rfl rfl ?_
    refine SW.i2l (pc := 10) g (dt dt_L_grace 7 rfl) ?_
    refine SW.lastore (pc := 11) g (dt dt_L_grace 8 rfl) cell_87 (by decide) ?_
    refine SW.goto (pc := 12) (t := 23) g (dt dt_L_grace 9 rfl) rfl ?_
    refine SW.iconst (pc := 23) (v := 0) g (dt dt_L_grace 16 rfl) ki_0 ?_
    exact SW.ireturn (pc := 24) g (leafN h ho) rfl (Nat.le_of_ble_eq_true rfl) (Nat.le_of_ble_eq_true rfl) (dt dt_L_grace 17 rfl)
  · rw [hf] at h
    simp only [] at h
    by_cases hE : e.1 = "java/util/NoSuchElementException"
    · have h := iteT hE h
      refine SW.callXc (pc := 7) (hpc := 15) g (dt dt_L_grace 6 rfl) htab (by rw [hE]; exact cat_L_grace_0) (mtx_f_x_grace _ _ _ _ ad ν N μ a1 a2 a3 (.inr e) hf) me_X10_grace mv_X10_grace (gtb_of (tbm_6 (List.mem_of_getElem? (i := 119) rfl)) rfl) cell_0 rfl rfl (Nat.le_of_ble_eq_true rfl) (Nat.le_of_ble_eq_true rfl) (Nat.le_of_ble_eq_true rfl) (Nat.le_of_ble_eq_true rfl) rfl rfl rfl (Nat.le_of_ble_eq_true rfl) (fun ad1 hag => ?_)
      refine SW.astore (pc := 15) (sw_ok_ag g hag) (dt dt_L_grace 10 rfl) (sw_ltm hm (Nat.le_of_ble_eq_true rfl)) rfl ?_
      refine SW.msk [false, false, false, false, false, false] ?_
      refine SW.back hag rfl rfl rfl (Nat.le_of_ble_eq_true rfl) ?_
      refine SW.iconst (pc := 17) (v := 1) g (dt dt_L_grace 11 rfl) ki_1 ?_
      exact SW.ireturn (pc := 18) g (leafN h ho) rfl (Nat.le_of_ble_eq_true rfl) (Nat.le_of_ble_eq_true rfl) (dt dt_L_grace 12 rfl)
    · have h := iteF hE h
      by_cases hE : e.1 = "java/lang/IllegalArgumentException"
      · have h := iteT hE h
        refine SW.callXc (pc := 7) (hpc := 19) g (dt dt_L_grace 6 rfl) htab (by rw [hE]; exact cat_L_grace_1) (mtx_f_x_grace _ _ _ _ ad ν N μ a1 a2 a3 (.inr e) hf) me_X10_grace mv_X10_grace (gtb_of (tbm_6 (List.mem_of_getElem? (i := 119) rfl)) rfl) cell_0 rfl rfl (Nat.le_of_ble_eq_true rfl) (Nat.le_of_ble_eq_true rfl) (Nat.le_of_ble_eq_true rfl) (Nat.le_of_ble_eq_true rfl) rfl rfl rfl (Nat.le_of_ble_eq_true rfl) (fun ad1 hag => ?_)
        refine SW.astore (pc := 19) (sw_ok_ag g hag) (dt dt_L_grace 13 rfl) (sw_ltm hm (Nat.le_of_ble_eq_true rfl)) rfl ?_
        refine SW.msk [false, false, false, false, false, false] ?_
        refine SW.back hag rfl rfl rfl (Nat.le_of_ble_eq_true rfl) ?_
        refine SW.iconst (pc := 21) (v := 2) g (dt dt_L_grace 14 rfl) ki_2 ?_
        exact SW.ireturn (pc := 22) g (leafN h ho) rfl (Nat.le_of_ble_eq_true rfl) (Nat.le_of_ble_eq_true rfl) (dt dt_L_grace 15 rfl)
      · have h := iteF hE h
        cases h
theorem cw_L_grace : Cond.codeWith yL_grace cL_grace 6 (some .int) [(0, 12, 15, 31), (0, 12, 19, 13)] ∈ gtb := (gtb_of (tbm_6 (List.mem_of_getElem? (i := 118) rfl)) rfl)
theorem cs_L_grace : Cond.static yL_grace ∈ gtb := (gtb_of (tbm_6 (List.mem_of_getElem? (i := 117) rfl)) rfl)
def f_L_next (N : Nat) (μ : sw_M) (ν : sw_N) (a1 : Int32) : Option (Int32 × sw_M × sw_N) :=
  match f_x_next N μ a1 with
  | none => none
  | some (.inl r) => some (0, r.2, wrL ν 87 0 r.1.toInt64)
  | some (.inr e) => if e.1 = "java/lang/IllegalArgumentException" then some (1, e.2, ν) else none
theorem cat_L_next_0 : sw_cat9 "DeadWiresLaw" [(0, 9, 12, 13)] 4 12 "java/lang/IllegalArgumentException" := ⟨[], ⟨0, 9, 12, 13⟩, [], "java/lang/IllegalArgumentException", rfl, (fun z hz => nomatch hz), by decide, by decide, rfl, (gtb_of (tbm_3 (List.mem_of_getElem? (i := 128) rfl)) rfl), (tbm_3 (List.mem_of_getElem? (i := 145) rfl))⟩
set_option maxRecDepth 100000 in
set_option maxHeartbeats 4000000 in
theorem mw_f_L_next (l : Launch) (D : va_G) (cI cL : ClassId) (ad : Nat → Nat) (ν : sw_N) (N : Nat) (μ : sw_M) (a1 : Int32) (o : Int32 × sw_M × sw_N) (h : f_L_next N μ ν a1 = some o) : MetW l D cI cL yL_next cL_next 4 (some .int) [(0, 9, 12, 13)] 11 1 6 ad [.ref 0, .int a1, .ref 87] lay0 μ ν (some (.int o.1)) lay0 o.2.1 o.2.2 := by
  refine MetW.of (n := 1) rfl (Nat.le_of_ble_eq_true rfl) (fun G g ho hm htab => ?_)
  unfold f_L_next at h
  refine SW.aload_n (pc := 0) g (dt dt_L_next 0 rfl) rfl ?_
  refine SW.iconst (pc := 1) (v := 0) g (dt dt_L_next 1 rfl) ki_0 ?_
  refine SW.aload_n (pc := 2) g (dt dt_L_next 2 rfl) rfl ?_
  refine SW.iload_n (pc := 3) g (dt dt_L_next 3 rfl) rfl ?_
  rcases hf : f_x_next N μ a1 with _ | r | e
  · rw [hf] at h; cases h
  · rw [hf] at h
    simp only [] at h
    refine SW.callXr (pc := 4) (r := some (.int r.1)) g (dt dt_L_next 4 rfl) (mtx_f_x_next _ _ _ _ ad ν N μ a1 (.inl r) hf) me_X10_next mv_X10_next (gtb_of (tbm_6 (List.mem_of_getElem? (i := 135) rfl)) rfl) cell_0 rfl rfl (Nat.le_of_ble_eq_true rfl) (Nat.le_of_ble_eq_true rfl) (Nat.le_of_ble_eq_true rfl) (Nat.le_of_ble_eq_true rfl) rfl rfl ?_
    refine SW.i2l (pc := 7) g (dt dt_L_next 5 rfl) ?_
    refine SW.lastore (pc := 8) g (dt dt_L_next 6 rfl) cell_87 (by decide) ?_
    refine SW.goto (pc := 9) (t := 15) g (dt dt_L_next 7 rfl) rfl ?_
    refine SW.iconst (pc := 15) (v := 0) g (dt dt_L_next 11 rfl) ki_0 ?_
    exact SW.ireturn (pc := 16) g (leafN h ho) rfl (Nat.le_of_ble_eq_true rfl) (Nat.le_of_ble_eq_true rfl) (dt dt_L_next 12 rfl)
  · rw [hf] at h
    simp only [] at h
    by_cases hE : e.1 = "java/lang/IllegalArgumentException"
    · have h := iteT hE h
      refine SW.callXc (pc := 4) (hpc := 12) g (dt dt_L_next 4 rfl) htab (by rw [hE]; exact cat_L_next_0) (mtx_f_x_next _ _ _ _ ad ν N μ a1 (.inr e) hf) me_X10_next mv_X10_next (gtb_of (tbm_6 (List.mem_of_getElem? (i := 135) rfl)) rfl) cell_0 rfl rfl (Nat.le_of_ble_eq_true rfl) (Nat.le_of_ble_eq_true rfl) (Nat.le_of_ble_eq_true rfl) (Nat.le_of_ble_eq_true rfl) rfl rfl rfl (Nat.le_of_ble_eq_true rfl) (fun ad1 hag => ?_)
      refine SW.astore_n (pc := 12) (sw_ok_ag g hag) (dt dt_L_next 8 rfl) (sw_ltm hm (Nat.le_of_ble_eq_true rfl)) rfl ?_
      refine SW.msk [false, false, false, false] ?_
      refine SW.back hag rfl rfl rfl (Nat.le_of_ble_eq_true rfl) ?_
      refine SW.iconst (pc := 13) (v := 1) g (dt dt_L_next 9 rfl) ki_1 ?_
      exact SW.ireturn (pc := 14) g (leafN h ho) rfl (Nat.le_of_ble_eq_true rfl) (Nat.le_of_ble_eq_true rfl) (dt dt_L_next 10 rfl)
    · have h := iteF hE h
      cases h
theorem cw_L_next : Cond.codeWith yL_next cL_next 4 (some .int) [(0, 9, 12, 13)] ∈ gtb := (gtb_of (tbm_6 (List.mem_of_getElem? (i := 134) rfl)) rfl)
theorem cs_L_next : Cond.static yL_next ∈ gtb := (gtb_of (tbm_6 (List.mem_of_getElem? (i := 133) rfl)) rfl)
def f_L_harp (N : Nat) (μ : sw_M) (ν : sw_N) (a1 : Int32) : Option (Int32 × sw_M × sw_N) :=
  match f_x_harp N μ a1 with
  | none => none
  | some (.inl r) => some (0, r.2, wrL ν 87 0 r.1.toInt64)
  | some (.inr e) => if e.1 = "java/lang/IllegalArgumentException" then some (1, e.2, ν) else none
theorem cat_L_harp_0 : sw_cat9 "DeadWiresLaw" [(0, 9, 12, 13)] 4 12 "java/lang/IllegalArgumentException" := ⟨[], ⟨0, 9, 12, 13⟩, [], "java/lang/IllegalArgumentException", rfl, (fun z hz => nomatch hz), by decide, by decide, rfl, (gtb_of (tbm_3 (List.mem_of_getElem? (i := 128) rfl)) rfl), (tbm_3 (List.mem_of_getElem? (i := 145) rfl))⟩
set_option maxRecDepth 100000 in
set_option maxHeartbeats 4000000 in
theorem mw_f_L_harp (l : Launch) (D : va_G) (cI cL : ClassId) (ad : Nat → Nat) (ν : sw_N) (N : Nat) (μ : sw_M) (a1 : Int32) (o : Int32 × sw_M × sw_N) (h : f_L_harp N μ ν a1 = some o) : MetW l D cI cL yL_harp cL_harp 4 (some .int) [(0, 9, 12, 13)] 11 1 6 ad [.ref 0, .int a1, .ref 87] lay0 μ ν (some (.int o.1)) lay0 o.2.1 o.2.2 := by
  refine MetW.of (n := 1) rfl (Nat.le_of_ble_eq_true rfl) (fun G g ho hm htab => ?_)
  unfold f_L_harp at h
  refine SW.aload_n (pc := 0) g (dt dt_L_harp 0 rfl) rfl ?_
  refine SW.iconst (pc := 1) (v := 0) g (dt dt_L_harp 1 rfl) ki_0 ?_
  refine SW.aload_n (pc := 2) g (dt dt_L_harp 2 rfl) rfl ?_
  refine SW.iload_n (pc := 3) g (dt dt_L_harp 3 rfl) rfl ?_
  rcases hf : f_x_harp N μ a1 with _ | r | e
  · rw [hf] at h; cases h
  · rw [hf] at h
    simp only [] at h
    refine SW.callXr (pc := 4) (r := some (.int r.1)) g (dt dt_L_harp 4 rfl) (mtx_f_x_harp _ _ _ _ ad ν N μ a1 (.inl r) hf) me_X10_harp mv_X10_harp (gtb_of (tbm_6 (List.mem_of_getElem? (i := 146) rfl)) rfl) cell_0 rfl rfl (Nat.le_of_ble_eq_true rfl) (Nat.le_of_ble_eq_true rfl) (Nat.le_of_ble_eq_true rfl) (Nat.le_of_ble_eq_true rfl) rfl rfl ?_
    refine SW.i2l (pc := 7) g (dt dt_L_harp 5 rfl) ?_
    refine SW.lastore (pc := 8) g (dt dt_L_harp 6 rfl) cell_87 (by decide) ?_
    refine SW.goto (pc := 9) (t := 15) g (dt dt_L_harp 7 rfl) rfl ?_
    refine SW.iconst (pc := 15) (v := 0) g (dt dt_L_harp 11 rfl) ki_0 ?_
    exact SW.ireturn (pc := 16) g (leafN h ho) rfl (Nat.le_of_ble_eq_true rfl) (Nat.le_of_ble_eq_true rfl) (dt dt_L_harp 12 rfl)
  · rw [hf] at h
    simp only [] at h
    by_cases hE : e.1 = "java/lang/IllegalArgumentException"
    · have h := iteT hE h
      refine SW.callXc (pc := 4) (hpc := 12) g (dt dt_L_harp 4 rfl) htab (by rw [hE]; exact cat_L_harp_0) (mtx_f_x_harp _ _ _ _ ad ν N μ a1 (.inr e) hf) me_X10_harp mv_X10_harp (gtb_of (tbm_6 (List.mem_of_getElem? (i := 146) rfl)) rfl) cell_0 rfl rfl (Nat.le_of_ble_eq_true rfl) (Nat.le_of_ble_eq_true rfl) (Nat.le_of_ble_eq_true rfl) (Nat.le_of_ble_eq_true rfl) rfl rfl rfl (Nat.le_of_ble_eq_true rfl) (fun ad1 hag => ?_)
      refine SW.astore_n (pc := 12) (sw_ok_ag g hag) (dt dt_L_harp 8 rfl) (sw_ltm hm (Nat.le_of_ble_eq_true rfl)) rfl ?_
      refine SW.msk [false, false, false, false] ?_
      refine SW.back hag rfl rfl rfl (Nat.le_of_ble_eq_true rfl) ?_
      refine SW.iconst (pc := 13) (v := 1) g (dt dt_L_harp 9 rfl) ki_1 ?_
      exact SW.ireturn (pc := 14) g (leafN h ho) rfl (Nat.le_of_ble_eq_true rfl) (Nat.le_of_ble_eq_true rfl) (dt dt_L_harp 10 rfl)
    · have h := iteF hE h
      cases h
theorem cw_L_harp : Cond.codeWith yL_harp cL_harp 4 (some .int) [(0, 9, 12, 13)] ∈ gtb := (gtb_of (tbm_6 (List.mem_of_getElem? (i := 145) rfl)) rfl)
theorem cs_L_harp : Cond.static yL_harp ∈ gtb := (gtb_of (tbm_6 (List.mem_of_getElem? (i := 144) rfl)) rfl)
def f_L_gates (N : Nat) (μ : sw_M) (ν : sw_N) (a1 : Int32) (a2 : Int32) : Option (Int32 × sw_M × sw_N) :=
  match f_x_gates N μ a1 a2 with
  | none => none
  | some (.inl r) => some (0, r.2, wrL ν 87 0 r.1.toInt64)
  | some (.inr e) => if e.1 = "java/util/NoSuchElementException" then some (1, e.2, ν) else if e.1 = "java/lang/IllegalArgumentException" then some (2, e.2, ν) else none
theorem cat_L_gates_0 : sw_cat9 "DeadWiresLaw" [(0, 10, 13, 31), (0, 10, 17, 13)] 5 13 "java/util/NoSuchElementException" := ⟨[], ⟨0, 10, 13, 31⟩, [⟨0, 10, 17, 13⟩], "java/util/NoSuchElementException", rfl, (fun z hz => nomatch hz), by decide, by decide, rfl, (gtb_of (tbm_5 (List.mem_of_getElem? (i := 78) rfl)) rfl), (tbm_5 (List.mem_of_getElem? (i := 93) rfl))⟩
theorem cat_L_gates_1 : sw_cat9 "DeadWiresLaw" [(0, 10, 13, 31), (0, 10, 17, 13)] 5 17 "java/lang/IllegalArgumentException" := ⟨[⟨0, 10, 13, 31⟩], ⟨0, 10, 17, 13⟩, [], "java/lang/IllegalArgumentException", rfl, (fun z hz => Or.inr (by rcases List.mem_singleton.mp hz with rfl; exact ⟨by decide, rfl, (gtb_of (tbm_5 (List.mem_of_getElem? (i := 78) rfl)) rfl)⟩)), by decide, by decide, rfl, (gtb_of (tbm_3 (List.mem_of_getElem? (i := 128) rfl)) rfl), (tbm_3 (List.mem_of_getElem? (i := 145) rfl))⟩
set_option maxRecDepth 100000 in
set_option maxHeartbeats 4000000 in
theorem mw_f_L_gates (l : Launch) (D : va_G) (cI cL : ClassId) (ad : Nat → Nat) (ν : sw_N) (N : Nat) (μ : sw_M) (a1 : Int32) (a2 : Int32) (o : Int32 × sw_M × sw_N) (h : f_L_gates N μ ν a1 a2 = some o) : MetW l D cI cL yL_gates cL_gates 5 (some .int) [(0, 10, 13, 31), (0, 10, 17, 13)] 11 2 12 ad [.ref 0, .int a1, .int a2, .ref 87] lay0 μ ν (some (.int o.1)) lay0 o.2.1 o.2.2 := by
  refine MetW.of (n := 1) rfl (Nat.le_of_ble_eq_true rfl) (fun G g ho hm htab => ?_)
  unfold f_L_gates at h
  refine SW.aload_n (pc := 0) g (dt dt_L_gates 0 rfl) rfl ?_
  refine SW.iconst (pc := 1) (v := 0) g (dt dt_L_gates 1 rfl) ki_0 ?_
  refine SW.aload_n (pc := 2) g (dt dt_L_gates 2 rfl) rfl ?_
  refine SW.iload_n (pc := 3) g (dt dt_L_gates 3 rfl) rfl ?_
  refine SW.iload_n (pc := 4) g (dt dt_L_gates 4 rfl) rfl ?_
  rcases hf : f_x_gates N μ a1 a2 with _ | r | e
  · rw [hf] at h; cases h
  · rw [hf] at h
    simp only [] at h
    refine SW.callXr (pc := 5) (r := some (.int r.1)) g (dt dt_L_gates 5 rfl) (mtx_f_x_gates _ _ _ _ ad ν N μ a1 a2 (.inl r) hf) me_X10_gates mv_X10_gates (gtb_of (tbm_6 (List.mem_of_getElem? (i := 153) rfl)) rfl) cell_0 rfl rfl (Nat.le_of_ble_eq_true rfl) (Nat.le_of_ble_eq_true rfl) (Nat.le_of_ble_eq_true rfl) (Nat.le_of_ble_eq_true rfl) rfl rfl ?_
    refine SW.i2l (pc := 8) g (dt dt_L_gates 6 rfl) ?_
    refine SW.lastore (pc := 9) g (dt dt_L_gates 7 rfl) cell_87 (by decide) ?_
    refine SW.goto (pc := 10) (t := 21) g (dt dt_L_gates 8 rfl) rfl ?_
    refine SW.iconst (pc := 21) (v := 0) g (dt dt_L_gates 15 rfl) ki_0 ?_
    exact SW.ireturn (pc := 22) g (leafN h ho) rfl (Nat.le_of_ble_eq_true rfl) (Nat.le_of_ble_eq_true rfl) (dt dt_L_gates 16 rfl)
  · rw [hf] at h
    simp only [] at h
    by_cases hE : e.1 = "java/util/NoSuchElementException"
    · have h := iteT hE h
      refine SW.callXc (pc := 5) (hpc := 13) g (dt dt_L_gates 5 rfl) htab (by rw [hE]; exact cat_L_gates_0) (mtx_f_x_gates _ _ _ _ ad ν N μ a1 a2 (.inr e) hf) me_X10_gates mv_X10_gates (gtb_of (tbm_6 (List.mem_of_getElem? (i := 153) rfl)) rfl) cell_0 rfl rfl (Nat.le_of_ble_eq_true rfl) (Nat.le_of_ble_eq_true rfl) (Nat.le_of_ble_eq_true rfl) (Nat.le_of_ble_eq_true rfl) rfl rfl rfl (Nat.le_of_ble_eq_true rfl) (fun ad1 hag => ?_)
      refine SW.astore (pc := 13) (sw_ok_ag g hag) (dt dt_L_gates 9 rfl) (sw_ltm hm (Nat.le_of_ble_eq_true rfl)) rfl ?_
      refine SW.msk [false, false, false, false, false] ?_
      refine SW.back hag rfl rfl rfl (Nat.le_of_ble_eq_true rfl) ?_
      refine SW.iconst (pc := 15) (v := 1) g (dt dt_L_gates 10 rfl) ki_1 ?_
      exact SW.ireturn (pc := 16) g (leafN h ho) rfl (Nat.le_of_ble_eq_true rfl) (Nat.le_of_ble_eq_true rfl) (dt dt_L_gates 11 rfl)
    · have h := iteF hE h
      by_cases hE : e.1 = "java/lang/IllegalArgumentException"
      · have h := iteT hE h
        refine SW.callXc (pc := 5) (hpc := 17) g (dt dt_L_gates 5 rfl) htab (by rw [hE]; exact cat_L_gates_1) (mtx_f_x_gates _ _ _ _ ad ν N μ a1 a2 (.inr e) hf) me_X10_gates mv_X10_gates (gtb_of (tbm_6 (List.mem_of_getElem? (i := 153) rfl)) rfl) cell_0 rfl rfl (Nat.le_of_ble_eq_true rfl) (Nat.le_of_ble_eq_true rfl) (Nat.le_of_ble_eq_true rfl) (Nat.le_of_ble_eq_true rfl) rfl rfl rfl (Nat.le_of_ble_eq_true rfl) (fun ad1 hag => ?_)
        refine SW.astore (pc := 17) (sw_ok_ag g hag) (dt dt_L_gates 12 rfl) (sw_ltm hm (Nat.le_of_ble_eq_true rfl)) rfl ?_
        refine SW.msk [false, false, false, false, false] ?_
        refine SW.back hag rfl rfl rfl (Nat.le_of_ble_eq_true rfl) ?_
        refine SW.iconst (pc := 19) (v := 2) g (dt dt_L_gates 13 rfl) ki_2 ?_
        exact SW.ireturn (pc := 20) g (leafN h ho) rfl (Nat.le_of_ble_eq_true rfl) (Nat.le_of_ble_eq_true rfl) (dt dt_L_gates 14 rfl)
      · have h := iteF hE h
        cases h
theorem cw_L_gates : Cond.codeWith yL_gates cL_gates 5 (some .int) [(0, 10, 13, 31), (0, 10, 17, 13)] ∈ gtb := (gtb_of (tbm_6 (List.mem_of_getElem? (i := 152) rfl)) rfl)
theorem cs_L_gates : Cond.static yL_gates ∈ gtb := (gtb_of (tbm_6 (List.mem_of_getElem? (i := 151) rfl)) rfl)
def f_L_ground (N : Nat) (μ : sw_M) (ν : sw_N) (a1 : Int32) (a2 : Int32) : Option (Int32 × sw_M × sw_N) :=
  match f_x_ground N μ a1 a2 with
  | none => none
  | some (.inl r) => some (0, r.2, wrL ν 87 0 r.1.toInt64)
  | some (.inr e) => if e.1 = "java/util/NoSuchElementException" then some (1, e.2, ν) else if e.1 = "java/lang/IllegalArgumentException" then some (2, e.2, ν) else none
theorem cat_L_ground_0 : sw_cat9 "DeadWiresLaw" [(0, 10, 13, 31), (0, 10, 17, 13)] 5 13 "java/util/NoSuchElementException" := ⟨[], ⟨0, 10, 13, 31⟩, [⟨0, 10, 17, 13⟩], "java/util/NoSuchElementException", rfl, (fun z hz => nomatch hz), by decide, by decide, rfl, (gtb_of (tbm_5 (List.mem_of_getElem? (i := 78) rfl)) rfl), (tbm_5 (List.mem_of_getElem? (i := 93) rfl))⟩
theorem cat_L_ground_1 : sw_cat9 "DeadWiresLaw" [(0, 10, 13, 31), (0, 10, 17, 13)] 5 17 "java/lang/IllegalArgumentException" := ⟨[⟨0, 10, 13, 31⟩], ⟨0, 10, 17, 13⟩, [], "java/lang/IllegalArgumentException", rfl, (fun z hz => Or.inr (by rcases List.mem_singleton.mp hz with rfl; exact ⟨by decide, rfl, (gtb_of (tbm_5 (List.mem_of_getElem? (i := 78) rfl)) rfl)⟩)), by decide, by decide, rfl, (gtb_of (tbm_3 (List.mem_of_getElem? (i := 128) rfl)) rfl), (tbm_3 (List.mem_of_getElem? (i := 145) rfl))⟩
set_option maxRecDepth 100000 in
set_option maxHeartbeats 4000000 in
theorem mw_f_L_ground (l : Launch) (D : va_G) (cI cL : ClassId) (ad : Nat → Nat) (ν : sw_N) (N : Nat) (μ : sw_M) (a1 : Int32) (a2 : Int32) (o : Int32 × sw_M × sw_N) (h : f_L_ground N μ ν a1 a2 = some o) : MetW l D cI cL yL_ground cL_ground 5 (some .int) [(0, 10, 13, 31), (0, 10, 17, 13)] 11 2 12 ad [.ref 0, .int a1, .int a2, .ref 87] lay0 μ ν (some (.int o.1)) lay0 o.2.1 o.2.2 := by
  refine MetW.of (n := 1) rfl (Nat.le_of_ble_eq_true rfl) (fun G g ho hm htab => ?_)
  unfold f_L_ground at h
  refine SW.aload_n (pc := 0) g (dt dt_L_ground 0 rfl) rfl ?_
  refine SW.iconst (pc := 1) (v := 0) g (dt dt_L_ground 1 rfl) ki_0 ?_
  refine SW.aload_n (pc := 2) g (dt dt_L_ground 2 rfl) rfl ?_
  refine SW.iload_n (pc := 3) g (dt dt_L_ground 3 rfl) rfl ?_
  refine SW.iload_n (pc := 4) g (dt dt_L_ground 4 rfl) rfl ?_
  rcases hf : f_x_ground N μ a1 a2 with _ | r | e
  · rw [hf] at h; cases h
  · rw [hf] at h
    simp only [] at h
    refine SW.callXr (pc := 5) (r := some (.int r.1)) g (dt dt_L_ground 5 rfl) (mtx_f_x_ground _ _ _ _ ad ν N μ a1 a2 (.inl r) hf) me_X10_ground mv_X10_ground (gtb_of (tbm_6 (List.mem_of_getElem? (i := 161) rfl)) rfl) cell_0 rfl rfl (Nat.le_of_ble_eq_true rfl) (Nat.le_of_ble_eq_true rfl) (Nat.le_of_ble_eq_true rfl) (Nat.le_of_ble_eq_true rfl) rfl rfl ?_
    refine SW.i2l (pc := 8) g (dt dt_L_ground 6 rfl) ?_
    refine SW.lastore (pc := 9) g (dt dt_L_ground 7 rfl) cell_87 (by decide) ?_
    refine SW.goto (pc := 10) (t := 21) g (dt dt_L_ground 8 rfl) rfl ?_
    refine SW.iconst (pc := 21) (v := 0) g (dt dt_L_ground 15 rfl) ki_0 ?_
    exact SW.ireturn (pc := 22) g (leafN h ho) rfl (Nat.le_of_ble_eq_true rfl) (Nat.le_of_ble_eq_true rfl) (dt dt_L_ground 16 rfl)
  · rw [hf] at h
    simp only [] at h
    by_cases hE : e.1 = "java/util/NoSuchElementException"
    · have h := iteT hE h
      refine SW.callXc (pc := 5) (hpc := 13) g (dt dt_L_ground 5 rfl) htab (by rw [hE]; exact cat_L_ground_0) (mtx_f_x_ground _ _ _ _ ad ν N μ a1 a2 (.inr e) hf) me_X10_ground mv_X10_ground (gtb_of (tbm_6 (List.mem_of_getElem? (i := 161) rfl)) rfl) cell_0 rfl rfl (Nat.le_of_ble_eq_true rfl) (Nat.le_of_ble_eq_true rfl) (Nat.le_of_ble_eq_true rfl) (Nat.le_of_ble_eq_true rfl) rfl rfl rfl (Nat.le_of_ble_eq_true rfl) (fun ad1 hag => ?_)
      refine SW.astore (pc := 13) (sw_ok_ag g hag) (dt dt_L_ground 9 rfl) (sw_ltm hm (Nat.le_of_ble_eq_true rfl)) rfl ?_
      refine SW.msk [false, false, false, false, false] ?_
      refine SW.back hag rfl rfl rfl (Nat.le_of_ble_eq_true rfl) ?_
      refine SW.iconst (pc := 15) (v := 1) g (dt dt_L_ground 10 rfl) ki_1 ?_
      exact SW.ireturn (pc := 16) g (leafN h ho) rfl (Nat.le_of_ble_eq_true rfl) (Nat.le_of_ble_eq_true rfl) (dt dt_L_ground 11 rfl)
    · have h := iteF hE h
      by_cases hE : e.1 = "java/lang/IllegalArgumentException"
      · have h := iteT hE h
        refine SW.callXc (pc := 5) (hpc := 17) g (dt dt_L_ground 5 rfl) htab (by rw [hE]; exact cat_L_ground_1) (mtx_f_x_ground _ _ _ _ ad ν N μ a1 a2 (.inr e) hf) me_X10_ground mv_X10_ground (gtb_of (tbm_6 (List.mem_of_getElem? (i := 161) rfl)) rfl) cell_0 rfl rfl (Nat.le_of_ble_eq_true rfl) (Nat.le_of_ble_eq_true rfl) (Nat.le_of_ble_eq_true rfl) (Nat.le_of_ble_eq_true rfl) rfl rfl rfl (Nat.le_of_ble_eq_true rfl) (fun ad1 hag => ?_)
        refine SW.astore (pc := 17) (sw_ok_ag g hag) (dt dt_L_ground 12 rfl) (sw_ltm hm (Nat.le_of_ble_eq_true rfl)) rfl ?_
        refine SW.msk [false, false, false, false, false] ?_
        refine SW.back hag rfl rfl rfl (Nat.le_of_ble_eq_true rfl) ?_
        refine SW.iconst (pc := 19) (v := 2) g (dt dt_L_ground 13 rfl) ki_2 ?_
        exact SW.ireturn (pc := 20) g (leafN h ho) rfl (Nat.le_of_ble_eq_true rfl) (Nat.le_of_ble_eq_true rfl) (dt dt_L_ground 14 rfl)
      · have h := iteF hE h
        cases h
theorem cw_L_ground : Cond.codeWith yL_ground cL_ground 5 (some .int) [(0, 10, 13, 31), (0, 10, 17, 13)] ∈ gtb := (gtb_of (tbm_6 (List.mem_of_getElem? (i := 160) rfl)) rfl)
theorem cs_L_ground : Cond.static yL_ground ∈ gtb := (gtb_of (tbm_6 (List.mem_of_getElem? (i := 159) rfl)) rfl)
def f_L_freest (N : Nat) (μ : sw_M) (ν : sw_N) (a1 : Int32) : Option (Int32 × sw_M × sw_N) :=
  match f_x_freest N μ a1 with
  | none => none
  | some (.inl r) => some (0, r.2, wrL ν 87 0 r.1.toInt64)
  | some (.inr e) => if e.1 = "java/lang/IllegalArgumentException" then some (1, e.2, ν) else none
theorem cat_L_freest_0 : sw_cat9 "DeadWiresLaw" [(0, 9, 12, 13)] 4 12 "java/lang/IllegalArgumentException" := ⟨[], ⟨0, 9, 12, 13⟩, [], "java/lang/IllegalArgumentException", rfl, (fun z hz => nomatch hz), by decide, by decide, rfl, (gtb_of (tbm_3 (List.mem_of_getElem? (i := 128) rfl)) rfl), (tbm_3 (List.mem_of_getElem? (i := 145) rfl))⟩
set_option maxRecDepth 100000 in
set_option maxHeartbeats 4000000 in
theorem mw_f_L_freest (l : Launch) (D : va_G) (cI cL : ClassId) (ad : Nat → Nat) (ν : sw_N) (N : Nat) (μ : sw_M) (a1 : Int32) (o : Int32 × sw_M × sw_N) (h : f_L_freest N μ ν a1 = some o) : MetW l D cI cL yL_freest cL_freest 4 (some .int) [(0, 9, 12, 13)] 11 1 6 ad [.ref 0, .int a1, .ref 87] lay0 μ ν (some (.int o.1)) lay0 o.2.1 o.2.2 := by
  refine MetW.of (n := 1) rfl (Nat.le_of_ble_eq_true rfl) (fun G g ho hm htab => ?_)
  unfold f_L_freest at h
  refine SW.aload_n (pc := 0) g (dt dt_L_freest 0 rfl) rfl ?_
  refine SW.iconst (pc := 1) (v := 0) g (dt dt_L_freest 1 rfl) ki_0 ?_
  refine SW.aload_n (pc := 2) g (dt dt_L_freest 2 rfl) rfl ?_
  refine SW.iload_n (pc := 3) g (dt dt_L_freest 3 rfl) rfl ?_
  rcases hf : f_x_freest N μ a1 with _ | r | e
  · rw [hf] at h; cases h
  · rw [hf] at h
    simp only [] at h
    refine SW.callXr (pc := 4) (r := some (.int r.1)) g (dt dt_L_freest 4 rfl) (mtx_f_x_freest _ _ _ _ ad ν N μ a1 (.inl r) hf) me_X10_freest mv_X10_freest (gtb_of (tbm_6 (List.mem_of_getElem? (i := 172) rfl)) rfl) cell_0 rfl rfl (Nat.le_of_ble_eq_true rfl) (Nat.le_of_ble_eq_true rfl) (Nat.le_of_ble_eq_true rfl) (Nat.le_of_ble_eq_true rfl) rfl rfl ?_
    refine SW.i2l (pc := 7) g (dt dt_L_freest 5 rfl) ?_
    refine SW.lastore (pc := 8) g (dt dt_L_freest 6 rfl) cell_87 (by decide) ?_
    refine SW.goto (pc := 9) (t := 15) g (dt dt_L_freest 7 rfl) rfl ?_
    refine SW.iconst (pc := 15) (v := 0) g (dt dt_L_freest 11 rfl) ki_0 ?_
    exact SW.ireturn (pc := 16) g (leafN h ho) rfl (Nat.le_of_ble_eq_true rfl) (Nat.le_of_ble_eq_true rfl) (dt dt_L_freest 12 rfl)
  · rw [hf] at h
    simp only [] at h
    by_cases hE : e.1 = "java/lang/IllegalArgumentException"
    · have h := iteT hE h
      refine SW.callXc (pc := 4) (hpc := 12) g (dt dt_L_freest 4 rfl) htab (by rw [hE]; exact cat_L_freest_0) (mtx_f_x_freest _ _ _ _ ad ν N μ a1 (.inr e) hf) me_X10_freest mv_X10_freest (gtb_of (tbm_6 (List.mem_of_getElem? (i := 172) rfl)) rfl) cell_0 rfl rfl (Nat.le_of_ble_eq_true rfl) (Nat.le_of_ble_eq_true rfl) (Nat.le_of_ble_eq_true rfl) (Nat.le_of_ble_eq_true rfl) rfl rfl rfl (Nat.le_of_ble_eq_true rfl) (fun ad1 hag => ?_)
      refine SW.astore_n (pc := 12) (sw_ok_ag g hag) (dt dt_L_freest 8 rfl) (sw_ltm hm (Nat.le_of_ble_eq_true rfl)) rfl ?_
      refine SW.msk [false, false, false, false] ?_
      refine SW.back hag rfl rfl rfl (Nat.le_of_ble_eq_true rfl) ?_
      refine SW.iconst (pc := 13) (v := 1) g (dt dt_L_freest 9 rfl) ki_1 ?_
      exact SW.ireturn (pc := 14) g (leafN h ho) rfl (Nat.le_of_ble_eq_true rfl) (Nat.le_of_ble_eq_true rfl) (dt dt_L_freest 10 rfl)
    · have h := iteF hE h
      cases h
theorem cw_L_freest : Cond.codeWith yL_freest cL_freest 4 (some .int) [(0, 9, 12, 13)] ∈ gtb := (gtb_of (tbm_6 (List.mem_of_getElem? (i := 171) rfl)) rfl)
theorem cs_L_freest : Cond.static yL_freest ∈ gtb := (gtb_of (tbm_6 (List.mem_of_getElem? (i := 170) rfl)) rfl)
def f_L_autumn (N : Nat) (μ : sw_M) (ν : sw_N) (a1 : Int32) (a2 : Int32) (a3 : Int32) (a4 : Int32) : Option (Int32 × sw_M × sw_N) :=
  match f_x_autumn N μ a1 a2 a3 a4 with
  | none => none
  | some (.inl r) => some (0, r.2, wrL ν 87 0 r.1.toInt64)
  | some (.inr e) => if e.1 = "java/lang/IllegalArgumentException" then some (1, e.2, ν) else none
theorem cat_L_autumn_0 : sw_cat9 "DeadWiresLaw" [(0, 14, 17, 13)] 9 17 "java/lang/IllegalArgumentException" := ⟨[], ⟨0, 14, 17, 13⟩, [], "java/lang/IllegalArgumentException", rfl, (fun z hz => nomatch hz), by decide, by decide, rfl, (gtb_of (tbm_3 (List.mem_of_getElem? (i := 128) rfl)) rfl), (tbm_3 (List.mem_of_getElem? (i := 145) rfl))⟩
set_option maxRecDepth 100000 in
set_option maxHeartbeats 4000000 in
theorem mw_f_L_autumn (l : Launch) (D : va_G) (cI cL : ClassId) (ad : Nat → Nat) (ν : sw_N) (N : Nat) (μ : sw_M) (a1 : Int32) (a2 : Int32) (a3 : Int32) (a4 : Int32) (o : Int32 × sw_M × sw_N) (h : f_L_autumn N μ ν a1 a2 a3 a4 = some o) : MetW l D cI cL yL_autumn cL_autumn 7 (some .int) [(0, 14, 17, 13)] 11 2 12 ad [.ref 0, .int a1, .int a2, .int a3, .int a4, .ref 87] lay0 μ ν (some (.int o.1)) lay0 o.2.1 o.2.2 := by
  refine MetW.of (n := 1) rfl (Nat.le_of_ble_eq_true rfl) (fun G g ho hm htab => ?_)
  unfold f_L_autumn at h
  refine SW.aload (pc := 0) g (dt dt_L_autumn 0 rfl) rfl ?_
  refine SW.iconst (pc := 2) (v := 0) g (dt dt_L_autumn 1 rfl) ki_0 ?_
  refine SW.aload_n (pc := 3) g (dt dt_L_autumn 2 rfl) rfl ?_
  refine SW.iload_n (pc := 4) g (dt dt_L_autumn 3 rfl) rfl ?_
  refine SW.iload_n (pc := 5) g (dt dt_L_autumn 4 rfl) rfl ?_
  refine SW.iload_n (pc := 6) g (dt dt_L_autumn 5 rfl) rfl ?_
  refine SW.iload (pc := 7) g (dt dt_L_autumn 6 rfl) rfl ?_
  rcases hf : f_x_autumn N μ a1 a2 a3 a4 with _ | r | e
  · rw [hf] at h; cases h
  · rw [hf] at h
    simp only [] at h
    refine SW.callXr (pc := 9) (r := some (.int r.1)) g (dt dt_L_autumn 7 rfl) (mtx_f_x_autumn _ _ _ _ ad ν N μ a1 a2 a3 a4 (.inl r) hf) me_X10_autumn mv_X10_autumn (gtb_of (tbm_6 (List.mem_of_getElem? (i := 180) rfl)) rfl) cell_0 rfl rfl (Nat.le_of_ble_eq_true rfl) (Nat.le_of_ble_eq_true rfl) (Nat.le_of_ble_eq_true rfl) (Nat.le_of_ble_eq_true rfl) rfl rfl ?_
    refine SW.i2l (pc := 12) g (dt dt_L_autumn 8 rfl) ?_
    refine SW.lastore (pc := 13) g (dt dt_L_autumn 9 rfl) cell_87 (by decide) ?_
    refine SW.goto (pc := 14) (t := 21) g (dt dt_L_autumn 10 rfl) rfl ?_
    refine SW.iconst (pc := 21) (v := 0) g (dt dt_L_autumn 14 rfl) ki_0 ?_
    exact SW.ireturn (pc := 22) g (leafN h ho) rfl (Nat.le_of_ble_eq_true rfl) (Nat.le_of_ble_eq_true rfl) (dt dt_L_autumn 15 rfl)
  · rw [hf] at h
    simp only [] at h
    by_cases hE : e.1 = "java/lang/IllegalArgumentException"
    · have h := iteT hE h
      refine SW.callXc (pc := 9) (hpc := 17) g (dt dt_L_autumn 7 rfl) htab (by rw [hE]; exact cat_L_autumn_0) (mtx_f_x_autumn _ _ _ _ ad ν N μ a1 a2 a3 a4 (.inr e) hf) me_X10_autumn mv_X10_autumn (gtb_of (tbm_6 (List.mem_of_getElem? (i := 180) rfl)) rfl) cell_0 rfl rfl (Nat.le_of_ble_eq_true rfl) (Nat.le_of_ble_eq_true rfl) (Nat.le_of_ble_eq_true rfl) (Nat.le_of_ble_eq_true rfl) rfl rfl rfl (Nat.le_of_ble_eq_true rfl) (fun ad1 hag => ?_)
      refine SW.astore (pc := 17) (sw_ok_ag g hag) (dt dt_L_autumn 11 rfl) (sw_ltm hm (Nat.le_of_ble_eq_true rfl)) rfl ?_
      refine SW.msk [false, false, false, false, false, false, false] ?_
      refine SW.back hag rfl rfl rfl (Nat.le_of_ble_eq_true rfl) ?_
      refine SW.iconst (pc := 19) (v := 1) g (dt dt_L_autumn 12 rfl) ki_1 ?_
      exact SW.ireturn (pc := 20) g (leafN h ho) rfl (Nat.le_of_ble_eq_true rfl) (Nat.le_of_ble_eq_true rfl) (dt dt_L_autumn 13 rfl)
    · have h := iteF hE h
      cases h
theorem cw_L_autumn : Cond.codeWith yL_autumn cL_autumn 7 (some .int) [(0, 14, 17, 13)] ∈ gtb := (gtb_of (tbm_6 (List.mem_of_getElem? (i := 179) rfl)) rfl)
theorem cs_L_autumn : Cond.static yL_autumn ∈ gtb := (gtb_of (tbm_6 (List.mem_of_getElem? (i := 178) rfl)) rfl)
def f_L_span (N : Nat) (μ : sw_M) (ν : sw_N) (a1 : Int32) (a2 : Int32) (a3 : Int32) (a4 : Int32) (a5 : Int32) (a6 : Int32) : Option (Int32 × sw_M × sw_N) :=
  match f_x_span N μ a1 a2 a3 a4 a5 a6 with
  | none => none
  | some (.inl r) => some (0, r.2, wrL ν 87 0 r.1.toInt64)
  | some (.inr e) => if e.1 = "java/lang/IllegalArgumentException" then some (1, e.2, ν) else none
theorem cat_L_span_0 : sw_cat9 "DeadWiresLaw" [(0, 18, 21, 13)] 13 21 "java/lang/IllegalArgumentException" := ⟨[], ⟨0, 18, 21, 13⟩, [], "java/lang/IllegalArgumentException", rfl, (fun z hz => nomatch hz), by decide, by decide, rfl, (gtb_of (tbm_3 (List.mem_of_getElem? (i := 128) rfl)) rfl), (tbm_3 (List.mem_of_getElem? (i := 145) rfl))⟩
set_option maxRecDepth 100000 in
set_option maxHeartbeats 4000000 in
theorem mw_f_L_span (l : Launch) (D : va_G) (cI cL : ClassId) (ad : Nat → Nat) (ν : sw_N) (N : Nat) (μ : sw_M) (a1 : Int32) (a2 : Int32) (a3 : Int32) (a4 : Int32) (a5 : Int32) (a6 : Int32) (o : Int32 × sw_M × sw_N) (h : f_L_span N μ ν a1 a2 a3 a4 a5 a6 = some o) : MetW l D cI cL yL_span cL_span 9 (some .int) [(0, 18, 21, 13)] 11 3 18 ad [.ref 0, .int a1, .int a2, .int a3, .int a4, .int a5, .int a6, .ref 87] lay0 μ ν (some (.int o.1)) lay0 o.2.1 o.2.2 := by
  refine MetW.of (n := 1) rfl (Nat.le_of_ble_eq_true rfl) (fun G g ho hm htab => ?_)
  unfold f_L_span at h
  refine SW.aload (pc := 0) g (dt dt_L_span 0 rfl) rfl ?_
  refine SW.iconst (pc := 2) (v := 0) g (dt dt_L_span 1 rfl) ki_0 ?_
  refine SW.aload_n (pc := 3) g (dt dt_L_span 2 rfl) rfl ?_
  refine SW.iload_n (pc := 4) g (dt dt_L_span 3 rfl) rfl ?_
  refine SW.iload_n (pc := 5) g (dt dt_L_span 4 rfl) rfl ?_
  refine SW.iload_n (pc := 6) g (dt dt_L_span 5 rfl) rfl ?_
  refine SW.iload (pc := 7) g (dt dt_L_span 6 rfl) rfl ?_
  refine SW.iload (pc := 9) g (dt dt_L_span 7 rfl) rfl ?_
  refine SW.iload (pc := 11) g (dt dt_L_span 8 rfl) rfl ?_
  rcases hf : f_x_span N μ a1 a2 a3 a4 a5 a6 with _ | r | e
  · rw [hf] at h; cases h
  · rw [hf] at h
    simp only [] at h
    refine SW.callXr (pc := 13) (r := some (.int r.1)) g (dt dt_L_span 9 rfl) (mtx_f_x_span _ _ _ _ ad ν N μ a1 a2 a3 a4 a5 a6 (.inl r) hf) me_X10_span mv_X10_span (gtb_of (tbm_6 (List.mem_of_getElem? (i := 210) rfl)) rfl) cell_0 rfl rfl (Nat.le_of_ble_eq_true rfl) (Nat.le_of_ble_eq_true rfl) (Nat.le_of_ble_eq_true rfl) (Nat.le_of_ble_eq_true rfl) rfl rfl ?_
    refine SW.i2l (pc := 16) g (dt dt_L_span 10 rfl) ?_
    refine SW.lastore (pc := 17) g (dt dt_L_span 11 rfl) cell_87 (by decide) ?_
    refine SW.goto (pc := 18) (t := 25) g (dt dt_L_span 12 rfl) rfl ?_
    refine SW.iconst (pc := 25) (v := 0) g (dt dt_L_span 16 rfl) ki_0 ?_
    exact SW.ireturn (pc := 26) g (leafN h ho) rfl (Nat.le_of_ble_eq_true rfl) (Nat.le_of_ble_eq_true rfl) (dt dt_L_span 17 rfl)
  · rw [hf] at h
    simp only [] at h
    by_cases hE : e.1 = "java/lang/IllegalArgumentException"
    · have h := iteT hE h
      refine SW.callXc (pc := 13) (hpc := 21) g (dt dt_L_span 9 rfl) htab (by rw [hE]; exact cat_L_span_0) (mtx_f_x_span _ _ _ _ ad ν N μ a1 a2 a3 a4 a5 a6 (.inr e) hf) me_X10_span mv_X10_span (gtb_of (tbm_6 (List.mem_of_getElem? (i := 210) rfl)) rfl) cell_0 rfl rfl (Nat.le_of_ble_eq_true rfl) (Nat.le_of_ble_eq_true rfl) (Nat.le_of_ble_eq_true rfl) (Nat.le_of_ble_eq_true rfl) rfl rfl rfl (Nat.le_of_ble_eq_true rfl) (fun ad1 hag => ?_)
      refine SW.astore (pc := 21) (sw_ok_ag g hag) (dt dt_L_span 13 rfl) (sw_ltm hm (Nat.le_of_ble_eq_true rfl)) rfl ?_
      refine SW.msk [false, false, false, false, false, false, false, false, false] ?_
      refine SW.back hag rfl rfl rfl (Nat.le_of_ble_eq_true rfl) ?_
      refine SW.iconst (pc := 23) (v := 1) g (dt dt_L_span 14 rfl) ki_1 ?_
      exact SW.ireturn (pc := 24) g (leafN h ho) rfl (Nat.le_of_ble_eq_true rfl) (Nat.le_of_ble_eq_true rfl) (dt dt_L_span 15 rfl)
    · have h := iteF hE h
      cases h
theorem cw_L_span : Cond.codeWith yL_span cL_span 9 (some .int) [(0, 18, 21, 13)] ∈ gtb := (gtb_of (tbm_6 (List.mem_of_getElem? (i := 209) rfl)) rfl)
theorem cs_L_span : Cond.static yL_span ∈ gtb := (gtb_of (tbm_6 (List.mem_of_getElem? (i := 208) rfl)) rfl)
