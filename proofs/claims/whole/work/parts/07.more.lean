/-! ===== switches, String constants, statics ===== -/
/-- a choice by a number -/
def sw_sw (x : Int32) : List (Int32 × Prop) → Prop → Prop
  | [], D => D
  | (c, P) :: r, D => (x = c → P) ∧ (¬ x = c → sw_sw x r D)
theorem sw_cons {x c : Int32} {P D : Prop} {r : List (Int32 × Prop)} (a : x = c → P) (b : ¬ x = c → sw_sw x r D) : sw_sw x ((c, P) :: r) D := ⟨a, b⟩
def sw_tt (pc lo : Int) : List Int → List (Int32 × Nat)
  | [] => []
  | o :: r => (Int32.ofInt lo, (pc + o).toNat) :: sw_tt pc (lo + 1) r
theorem sw_ofInt_inj {x : Int32} {z : Int} (h1 : -2147483648 ≤ z) (h2 : z < 2147483648) (h : ¬ x = Int32.ofInt z) : x.toInt ≠ z := by
  intro e
  apply h
  rw [← e]
  exact (Int32.ofInt_toInt x).symm
theorem sw_ofInt_eq {x : Int32} {z : Int} (h : x.toInt = z) : x = Int32.ofInt z := by
  rw [← h]
  exact (Int32.ofInt_toInt x).symm
section SWS
variable {F : Nat → Prop} {x : Int32}
theorem sw_tt_in : ∀ (os : List Int) (pc lo : Int) (D : Prop) (j : Nat) (o : Int), -2147483648 ≤ lo → lo + os.length < 2147483648 → sw_sw x ((sw_tt pc lo os).map (fun q => (q.1, F q.2))) D → x.toInt = lo + j → os[j]? = some o → F (pc + o).toNat
  | [], _, _, _, _, _, _, _, _, _, h => by simp at h
  | a :: r, pc, lo, D, 0, o, h1, h2, hs, hx, h => by
    simp at h; subst h
    exact hs.1 (sw_ofInt_eq (by simpa using hx))
  | a :: r, pc, lo, D, j + 1, o, h1, h2, hs, hx, h => by
    simp only [List.length_cons] at h2
    have hne : ¬ x = Int32.ofInt lo := by
      intro e
      have e2 : x.toInt = lo := by rw [e, Int32.toInt_ofInt_of_le h1 (by omega)]
      omega
    exact sw_tt_in r pc (lo + 1) D j o (by omega) (by omega) (hs.2 hne) (by omega) (by simpa using h)
theorem sw_tt_out : ∀ (os : List Int) (pc lo : Int) (D : Prop), -2147483648 ≤ lo → lo + os.length < 2147483648 → sw_sw x ((sw_tt pc lo os).map (fun q => (q.1, F q.2))) D → (x.toInt < lo ∨ lo + os.length ≤ x.toInt) → D
  | [], _, _, _, _, _, hs, _ => hs
  | a :: r, pc, lo, D, h1, h2, hs, hx => by
    simp only [List.length_cons] at h2 hx
    have hne : ¬ x = Int32.ofInt lo := by
      intro e
      have e2 : x.toInt = lo := by rw [e, Int32.toInt_ofInt_of_le h1 (by omega)]
      omega
    exact sw_tt_out r pc (lo + 1) D (by omega) (by omega) (hs.2 hne) (by omega)
def sw_lt (pc : Int) : List (Int × Int) → List (Int32 × Nat)
  | [] => []
  | (c, o) :: r => (Int32.ofInt c, (pc + o).toNat) :: sw_lt pc r
end SWS
section SWM
variable {G : sw_G} {ad : Nat → Nat} {L : sw_L} {ν : sw_N} {cs sl pc : Nat} {lv : List (Option Value)} {st st0 : List Value} {μ : sw_M} {cc : ByteArray} {own : String} {ret : Option FieldType} {d mc ms : Nat} {ad0 : Nat → Nat}
theorem SW.tsw {x : Int32} {dflt lo hi : Int} {offs : Array Int} {len dn : Nat} {tb : List (Int32 × Nat)} (g : sw_ok G cc own ret d mc ms ad0) (hd : decode cc pc = .ok (.tableswitch dflt lo hi offs, len))
    (hok : (sw_tt pc lo offs.toList = tb ∧ (pc : Int) + dflt = (dn : Int) ∧ hi + 1 = lo + offs.toList.length ∧ -2147483648 ≤ lo ∧ hi + 1 < 2147483648) ∧ offs.toList.all (fun o => decide (0 ≤ (pc : Int) + o)) = true)
    (k : sw_sw x (tb.map (fun q => (q.1, SW G ad L ν cs sl q.2 lv st μ))) (SW G ad L ν cs sl dn lv st μ)) : SW G ad L ν cs sl pc lv (.int x :: st) μ := by
  obtain ⟨⟨rfl, hdn, hhi, h1, h2⟩, hall⟩ := hok
  intro H locs ls hl hP hD hS
  by_cases hx : x.toInt < lo ∨ hi < x.toInt
  · have kd := sw_tt_out (F := fun t => SW G ad L ν cs sl t lv st μ) offs.toList pc lo _ h1 (by omega) k (by omega)
    exact lv_tableOut g.1 g.2.1 hd hx hdn (kd H locs ls hl hP hD hS)
  · have hj : (x.toInt - lo).toNat < offs.toList.length := by omega
    have ho : offs.toList[(x.toInt - lo).toNat]? = some (offs.toList[(x.toInt - lo).toNat]) := List.getElem?_eq_getElem hj
    have ho2 : offs[(x.toInt - lo).toNat]? = some (offs.toList[(x.toInt - lo).toNat]) := by rw [← Array.getElem?_toList]; exact ho
    have kd := sw_tt_in (F := fun t => SW G ad L ν cs sl t lv st μ) offs.toList pc lo _ _ _ h1 (by omega) k (by omega) ho
    have hp : 0 ≤ (pc : Int) + offs.toList[(x.toInt - lo).toNat] := by
      have := List.all_eq_true.mp hall _ (List.getElem_mem hj)
      simpa using this
    exact lv_tableIn g.1 g.2.1 hd (by omega) (by omega) ho2 (by omega) (kd H locs ls hl hP hD hS)
theorem sw_lsw_at {x : Int32} {F : Nat → Prop} : ∀ (ps : List (Int × Int)) (pc dflt : Int) (dn : Nat), (∀ q ∈ ps, -2147483648 ≤ q.1 ∧ q.1 < 2147483648) → pc + dflt = (dn : Int) → sw_sw x ((sw_lt pc ps).map (fun q => (q.1, F q.2))) (F dn) → F (pc + Op.lookupswitch.offset ps dflt x.toInt).toNat
  | [], pc, dflt, dn, _, hdn, hs => by
    have e : Op.lookupswitch.offset [] dflt x.toInt = dflt := by first | rfl | simp [Op.lookupswitch.offset]
    rw [e, hdn]
    exact hs
  | (c, o) :: r, pc, dflt, dn, hr, hdn, hs => by
    have hc := hr (c, o) List.mem_cons_self
    by_cases hx : x = Int32.ofInt c
    · have e2 : x.toInt = c := by rw [hx, Int32.toInt_ofInt_of_le hc.1 hc.2]
      have e : Op.lookupswitch.offset ((c, o) :: r) dflt x.toInt = o := by simp [Op.lookupswitch.offset, e2]
      rw [e]
      exact hs.1 hx
    · rw [lv_osw hx (by rw [Int32.toInt_ofInt_of_le hc.1 hc.2])]
      exact sw_lsw_at r pc dflt dn (fun q hq => hr q (List.mem_cons_of_mem _ hq)) hdn (hs.2 hx)
theorem SW.lsw {x : Int32} {dflt : Int} {ps : Array (Int × Int)} {len dn : Nat} {tb : List (Int32 × Nat)} (g : sw_ok G cc own ret d mc ms ad0) (hd : decode cc pc = .ok (.lookupswitch dflt ps, len))
    (hok : sw_lt pc ps.toList = tb ∧ (pc : Int) + dflt = (dn : Int)) (hp : (ps.toList.zip (ps.toList.drop 1)).all (fun (a, next) => a.1 < next.1) = true) (hr : ∀ q ∈ ps.toList, -2147483648 ≤ q.1 ∧ q.1 < 2147483648) (hn : 0 ≤ (pc : Int) + Op.lookupswitch.offset ps.toList dflt x.toInt)
    (k : sw_sw x (tb.map (fun q => (q.1, SW G ad L ν cs sl q.2 lv st μ))) (SW G ad L ν cs sl dn lv st μ)) : SW G ad L ν cs sl pc lv (.int x :: st) μ := by
  obtain ⟨rfl, hdn⟩ := hok
  intro H locs ls hl hP hD hS
  have kd := sw_lsw_at (F := fun t => SW G ad L ν cs sl t lv st μ) ps.toList pc dflt dn hr hdn k
  exact lv_lookup g.1 g.2.1 hd hp rfl (tgt := ((pc : Int) + Op.lookupswitch.offset ps.toList dflt x.toInt).toNat) (by omega) (kd H locs ls hl hP hD hS)
/-! String constants -/
theorem SW.ldcS {n j : Nat} {tx : String} (g : sw_ok G cc own ret d mc ms ad) (hd : decode cc pc = .ok (.ldc n, 2)) (hs : Cond.stringRef own n tx ∈ tables_1) (hj : strT[j]? = some tx) (k : SW G ad L ν cs sl (pc + 2) lv (.ref (1000 + j) :: st) μ) : SW G ad L ν cs sl pc lv st μ :=
  fun H locs ls hl hP hD hS => va_ldcS g.1 g.2.1 g.2.2.2.2.1 (g.2.2.2.2.2.2.2.2.2.1.2.2.2.2.2.2.1 own n tx j hs hj) hd (k H locs ls hl hP hD hS)
theorem SW.getSV {idx j : Nat} (g : sw_ok G cc own ret d mc ms ad) (hd : decode cc pc = .ok (.getfield idx, 3)) (hl : Cond.fieldLink own idx "java/lang/String" "value" "[B" ∈ gtb) (hj : j < strT.length) (k : SW G ad L ν cs sl (pc + 3) lv (.ref (2000 + j) :: st) μ) : SW G ad L ν cs sl pc lv (.ref (1000 + j) :: st) μ :=
  fun H locs ls hlv hP hD hS => vk_getf g.1 g.2.1 ((g.2.2.2.2.2.2.2.2.2.1.2.2.2.1.1 j hj).2.2.1) hS g.2.2.2.2.1 (g.2.2.2.2.2.1 _ hl) (fun _ h => h) hd (k H locs ls hlv hP hD hS)
theorem SW.getSC {idx j : Nat} (g : sw_ok G cc own ret d mc ms ad) (hd : decode cc pc = .ok (.getfield idx, 3)) (hl : Cond.fieldLink own idx "java/lang/String" "coder" "B" ∈ gtb) (hj : j < strT.length) (k : SW G ad L ν cs sl (pc + 3) lv (.int 0 :: st) μ) : SW G ad L ν cs sl pc lv (.ref (1000 + j) :: st) μ :=
  fun H locs ls hlv hP hD hS => vk_getf g.1 g.2.1 ((g.2.2.2.2.2.2.2.2.2.1.2.2.2.1.1 j hj).2.1) hS g.2.2.2.2.1 (g.2.2.2.2.2.1 _ hl) (fun _ h => h) hd (k H locs ls hlv hP hD hS)
theorem SW.getCS {idx : Nat} (g : sw_ok G cc own ret d mc ms ad) (hd : decode cc pc = .ok (.getstatic idx, 3)) (hl : Cond.fieldLink own idx "java/lang/String" "COMPACT_STRINGS" "Z" ∈ gtb) (k : SW G ad L ν cs sl (pc + 3) lv (.int 1 :: st) μ) : SW G ad L ν cs sl pc lv st μ :=
  fun H locs ls hlv hP hD hS => va_gets g.1 g.2.1 (g.2.2.2.2.2.2.2.2.2.1.2.2.2.2.1) hS g.2.2.2.2.1 (g.2.2.2.2.2.1 _ hl) (fun _ h => h) hd (k H locs ls hlv hP hD hS)
theorem SW.getSF {idx : Nat} (g : sw_ok G cc own ret d mc ms ad) (hd : decode cc pc = .ok (.getstatic idx, 3)) (hl : Cond.fieldLink own idx "jdk/internal/util/Preconditions" "SIOOBE_FORMATTER" "Ljava/util/function/BiFunction;" ∈ gtb) (k : ∀ fv : Value, (fv = .null ∨ fv = .ref 3000) → SW G ad L ν cs sl (pc + 3) lv (fv :: st) μ) : SW G ad L ν cs sl pc lv st μ := by
  intro H locs ls hlv hP hD hS
  rcases g.2.2.2.2.2.2.2.2.2.1.2.2.1 with h | h
  · exact va_gets g.1 g.2.1 h hS g.2.2.2.2.1 (g.2.2.2.2.2.1 _ hl) (fun _ h => h) hd (k .null (Or.inl rfl) H locs ls hlv hP hD hS)
  · exact va_gets g.1 g.2.1 h hS g.2.2.2.2.1 (g.2.2.2.2.2.1 _ hl) (fun _ h => h) hd (k (.ref 3000) (Or.inr rfl) H locs ls hlv hP hD hS)
theorem SW.alenB {j : Nat} (g : sw_ok G cc own ret d mc ms ad) (hd : decode cc pc = .ok (.arraylength, 1)) (hj : j < strT.length) (k : SW G ad L ν cs sl (pc + 1) lv (.int (Int32.ofNat ((strB.map List.length).getD j 0)) :: st) μ) : SW G ad L ν cs sl pc lv (.ref (2000 + j) :: st) μ :=
  fun H locs ls hlv hP hD hS => va_tlen g.1 g.2.1 ((g.2.2.2.2.2.2.2.2.2.1.2.2.2.1.1 j hj).2.2.2) hS rfl hd (k H locs ls hlv hP hD hS)
theorem SW.baloadB {j : Nat} {i : Int32} (g : sw_ok G cc own ret d mc ms ad) (hd : decode cc pc = .ok (.baload, 1)) (hj : j < strT.length) (hi : ¬ (i < 0 ∨ (strB.map List.length).getD j 0 ≤ i.toNatClampNeg)) (k : SW G ad L ν cs sl (pc + 1) lv (.int ((strB.getD j []).getD i.toNatClampNeg 0) :: st) μ) : SW G ad L ν cs sl pc lv (.int i :: .ref (2000 + j) :: st) μ :=
  fun H locs ls hlv hP hD hS => va_tb g.1 g.2.1 ((g.2.2.2.2.2.2.2.2.2.1.2.2.2.1.1 j hj).2.2.2) hS hi rfl hd (k H locs ls hlv hP hD hS)
theorem SW.i2c {x v : Int32} (g : sw_ok G cc own ret d mc ms ad0) (hd : decode cc pc = .ok (.i2c, 1)) (hv : (x.toUInt32 % 65536).toInt32 = v) (k : SW G ad L ν cs sl (pc + 1) lv (.int v :: st) μ) : SW G ad L ν cs sl pc lv (.int x :: st) μ :=
  fun H locs ls hl hP hD hS => lv_i2c g.1 g.2.1 hd hv (k H locs ls hl hP hD hS)
/-- the end of a method of a smaller whole number -/
theorem SW.nreturn {v : Int32} {ty : FieldType} {P : (Nat → Nat) → Prop} (g : sw_ok G cc own (some ty) d mc ms ad0) (ho : sw_out G mc ms P (.inl (some (.int v))) L μ ν) (hp : P ad) (hc : cs ≤ mc) (hs : sl ≤ ms) (hv : narrow ty (.int v) = .int v) (hd : decode cc pc = .ok (.ireturn, 1)) : SW G ad L ν cs sl pc lv [.int v] μ := by
  intro H locs ls hlv hP hD hS
  refine W.widen hc hs ?_
  rcases ho with h | h <;> rw [h]
  · exact W.zret g.1 g.2.1 g.2.2.1 hv (sw_end hp hP hD hS) hS.2.2 hd g.2.2.2.1
  · exact vx_ret (W.zret g.1 g.2.1 g.2.2.1 hv (sw_end hp hP hD hS) hS.2.2 hd g.2.2.2.1)
variable {y : MethodName} {bytes : ByteArray} {maxL np d' mc' ms' idx o : Nat} {ret' : Option FieldType} {av : List Value} {r : Option Value} {L' : sw_L} {μ' : sw_M} {ν' : sw_N} {P : (Nat → Nat) → Prop}
/-- a call on a String constant -/
theorem SW.callT {v : Int32} {j : Nat} (g : sw_ok G cc own ret d mc ms ad) (hd : decode cc pc = .ok (.invokevirtual idx, 3))
    (hM : MetR G.1.2.1 G.2.2.2.1 G.2.2.2.2.1 G.2.2.2.2.2 y bytes maxL ret' d' mc' ms' (fun a => a = ad) ad (.ref (1000 + j) :: av) L μ ν (some (.int v)) L μ ν) (hy : sw_me y bytes maxL ret' np) (hv : sw_mV y) (hl : Cond.methodLink own idx y ∈ gtb)
    (hj : j < strT.length) (hcl : y.cls = "java/lang/String") (hn : av.length = np) (hw : (st.map fun v => v.category).sum ≤ 8) (hdd : d' < d) (hc : cs + mc' ≤ mc) (hs : sl + ms' ≤ ms)
    (hst : st0 = av.reverse ++ .ref (1000 + j) :: st) (k : SW G ad L ν (cs + mc') (sl + ms') (pc + 3) lv (.int v :: st) μ) : SW G ad L ν cs sl pc lv st0 μ := by
  subst hst
  intro H locs ls hlv hP hD hS
  have hts := g.2.2.2.2.2.1
  rw [List.map_append, List.map_reverse]
  refine sw_back (va_runV (C := y.cls) (b := ad (1000 + j)) (As := av.map (sw_v ad)) (rest := st.map (sw_v ad)) (n := np) ⟨g.1, g.2.1, rfl, g.2.2.2.2.1, hts⟩ (hM H.size)
    ⟨⟨rfl, rfl, (sw_room (mc' := mc') (ms' := ms') g hdd hy.2.2.2.2).1, (sw_room (mc' := mc') (ms' := ms') g hdd hy.2.2.2.2).2, sw_pay g hy, List.mem_cons_self, hts _ hy.1, hts _ hy.2.1, hy.2.2.1, sw_np hy.2.2.2.1, hts _ hl⟩, hts _ hv.1, hts _ hv.2⟩
    ⟨sw_pre_blind, by rw [hcl]; exact vk_recv (adK := fun j => ad (1000 + j)) g.2.2.2.2.2.2.2.2.2.1.2.2.2.1 hj hS, sw_PreS (av := .ref (1000 + j) :: av) g hP hD hS⟩ rfl (by rw [List.length_map]; exact hn) hlv.1 rfl (lv_room (by rw [sw_catsum]; exact hw)) hd (sw_cells g hc hs)) hS (sw_sub g hD hS) (sw_sub g hD hS) (fun H1 locs1 ad' hp hP1 hD1 hS1 => sw_cont (r := some (.int v)) k rfl H1 locs1 ls ad' hlv hp hP1 hD1 hS1)
theorem SW.callSv (g : sw_ok G cc own ret d mc ms ad) (hd : decode cc pc = .ok (.invokestatic idx, 3))
    (hM : MetR G.1.2.1 G.2.2.2.1 G.2.2.2.2.1 G.2.2.2.2.2 y bytes maxL ret' d' mc' ms' (fun a => a = ad) ad av L μ ν none L μ' ν') (hy : sw_me y bytes maxL ret' np) (hv : Cond.static y ∈ gtb) (hl : Cond.methodLink own idx y ∈ gtb)
    (hn : av.length = np) (hw : (st.map fun v => v.category).sum ≤ 8) (hdd : d' < d) (hc : cs + mc' ≤ mc) (hs : sl + ms' ≤ ms)
    (hst : st0 = av.reverse ++ st) (k : SW G ad L ν' (cs + mc') (sl + ms') (pc + 3) lv st μ') : SW G ad L ν cs sl pc lv st0 μ := by
  subst hst
  exact SW.callS0 g hd hM hy hv hl hn hw hdd hc hs (sw_cont (r := none) k rfl)
end SWM
