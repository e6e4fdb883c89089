/-! ===== new places: what constructors do ===== -/
/-- the places below n, and the fixed ones, stay -/
def sw_ext (n : Nat) (ad : Nat → Nat) : (Nat → Nat) → Prop := fun ad' => ∀ k, (k < n ∨ 1000 ≤ k) → ad' k = ad k
theorem sw_ext_trans {n n1 : Nat} {ad ad1 ad2 : Nat → Nat} (h1 : sw_ext n ad ad1) (h2 : sw_ext n1 ad1 ad2) (hn : n ≤ n1) : sw_ext n ad ad2 := fun k hk => (h2 k (by omega)).trans (h1 k hk)
theorem sw_ext_rf {n : Nat} {ad : Nat → Nat} : sw_ext n ad ad := fun _ _ => rfl
def sw_vr (n : Nat) : Value → Bool
  | .ref k => decide (k < n ∨ 1000 ≤ k)
  | _ => true
theorem sw_v_ext {n : Nat} {ad ad' : Nat → Nat} (h : sw_ext n ad ad') : ∀ {v : Value}, sw_vr n v = true → sw_v ad' v = sw_v ad v := by
  intro v hv
  cases v <;> first | rfl | skip
  rename_i k
  simp only [sw_vr, decide_eq_true_eq] at hv
  simp only [sw_v, h k hv]
def sw_rl (n : Nat) : List (Option Value) → Bool
  | [] => true
  | none :: r => sw_rl n r
  | some v :: r => sw_vr n v && sw_rl n r
def sw_rs (n : Nat) : List Value → Bool
  | [] => true
  | v :: r => sw_vr n v && sw_rs n r
theorem sw_rl_get {n : Nat} : ∀ {lv : List (Option Value)} {i : Nat} {v : Value}, sw_rl n lv = true → lv[i]? = some (some v) → sw_vr n v = true
  | [], i, v, _, h => by simp at h
  | none :: r, 0, v, _, h => by simp at h
  | none :: r, i + 1, v, hr, h => sw_rl_get (lv := r) hr (by simpa using h)
  | some w :: r, 0, v, hr, h => by
    simp at h; subst h
    simp only [sw_rl, Bool.and_eq_true] at hr
    exact hr.1
  | some w :: r, i + 1, v, hr, h => by
    simp only [sw_rl, Bool.and_eq_true] at hr
    exact sw_rl_get (lv := r) hr.2 (by simpa using h)
theorem sw_lv_ext {n nL : Nat} {ad ad' : Nat → Nat} {lv : List (Option Value)} {ls : Array Slot} (h : sw_ext n ad ad') (hr : sw_rl n lv = true) (hl : sw_lv nL ad lv ls) : sw_lv nL ad' lv ls :=
  ⟨hl.1, hl.2.1, fun i v hi => by rw [sw_v_ext h (sw_rl_get hr hi)]; exact hl.2.2 i v hi⟩
theorem sw_st_ext {n : Nat} {ad ad' : Nat → Nat} (h : sw_ext n ad ad') : ∀ {st : List Value}, sw_rs n st = true → st.map (sw_v ad') = st.map (sw_v ad)
  | [], _ => rfl
  | v :: r, hr => by
    simp only [sw_rs, Bool.and_eq_true] at hr
    rw [List.map_cons, List.map_cons, sw_v_ext h hr.1, sw_st_ext h hr.2]
/-- the references of a layout lie below n -/
def sw_wfs (n : Nat) : List (Option (Option Nat)) → Bool
  | [] => true
  | some (some k) :: r => decide (k < n) && sw_wfs n r
  | _ :: r => sw_wfs n r
def sw_wf (n : Nat) : sw_L → Bool
  | [] => true
  | .inl _ :: r => sw_wf n r
  | .inr (_, s) :: r => sw_wfs n s && sw_wf n r
theorem sw_f_ext {n : Nat} {ad ad' : Nat → Nat} {f : Nat → Int32} (h : sw_ext n ad ad') : ∀ {s : List (Option (Option Nat))} {j : Nat}, sw_wfs n s = true → sw_f ad' f j s = sw_f ad f j s
  | [], _, _ => rfl
  | none :: r, j, hw => by simp only [sw_f]; rw [sw_f_ext h (s := r) (by simpa [sw_wfs] using hw)]
  | some none :: r, j, hw => by simp only [sw_f]; rw [sw_f_ext h (s := r) (by simpa [sw_wfs] using hw)]
  | some (some k) :: r, j, hw => by
    simp only [sw_wfs, Bool.and_eq_true, decide_eq_true_eq] at hw
    simp only [sw_f]; rw [sw_f_ext h (s := r) hw.2, h k (Or.inl hw.1)]
theorem sw_w_ext {cI cL : ClassId} {n : Nat} {ad ad' : Nat → Nat} {μ μ' : sw_M} {ν ν' : sw_N} (h : sw_ext n ad ad') (hμ : ∀ a, a < n → μ' a = μ a) (hν : ∀ a, a < n → ν' a = ν a) : ∀ {L : sw_L} {k : Nat}, k + L.length ≤ n → sw_wf n L = true → sw_w cI cL ad' μ' ν' k L = sw_w cI cL ad μ ν k L
  | [], _, _, _ => rfl
  | x :: r, k, hk, hw => by
    simp only [List.length_cons] at hk
    simp only [sw_w]
    have hw2 : sw_wf n r = true := by
      rcases x with x | ⟨ci, s⟩
      · exact hw
      · simp only [sw_wf, Bool.and_eq_true] at hw; exact hw.2
    rw [sw_w_ext h hμ hν (L := r) (k := k + 1) (by omega) hw2, h k (Or.inl (by omega))]
    congr 2
    rcases x with ⟨b, m⟩ | ⟨ci, s⟩
    · cases b
      · simp only [sw_e, hμ k (by omega)]
      · simp only [sw_e, hν k (by omega)]
    · simp only [sw_wf, Bool.and_eq_true] at hw
      simp only [sw_e, hμ k (by omega), sw_f_ext h hw.1]
theorem sw_w_app {cI cL : ClassId} {ad : Nat → Nat} {μ : sw_M} {ν : sw_N} {x : sw_E} : ∀ (L : sw_L) (k : Nat), sw_w cI cL ad μ ν k (L ++ [x]) = sw_w cI cL ad μ ν k L ++ [(ad (k + L.length), sw_e cI cL ad μ ν (k + L.length) x)]
  | [], k => by simp [sw_w]
  | y :: r, k => by
    simp only [List.cons_append, sw_w, sw_w_app r (k + 1), List.length_cons]
    rw [show k + 1 + r.length = k + (r.length + 1) by omega]
theorem sw_SI_ext {ad ad' : Nat → Nat} {A : Nat → Prop} {U : State} {H : Heap} (h : ∀ k, 1000 ≤ k → ad' k = ad k) (hs : sw_SI ad A U H) : sw_SI ad' A U H := by
  have e1 : (fun j => ad' (1000 + j)) = fun j => ad (1000 + j) := funext fun j => h _ (by omega)
  have e2 : (fun j => ad' (2000 + j)) = fun j => ad (2000 + j) := funext fun j => h _ (by omega)
  obtain ⟨h1, h2, h3, h4, h5, h6, h7, h8⟩ := hs
  refine ⟨h1, h2, by rw [h 3000 (by omega)]; exact h3, by rw [e1, e2]; exact h4, h5, h6, fun own k tx j hw hj => by rw [h (1000 + j) (by omega)]; exact h7 own k tx j hw hj, h8⟩
theorem sw_ok_ext {G : sw_G} {cc : ByteArray} {own : String} {ret : Option FieldType} {d mc ms n : Nat} {ad ad' : Nat → Nat} (g : sw_ok G cc own ret d mc ms ad) (h : sw_ext n ad ad') : sw_ok G cc own ret d mc ms ad' := by
  obtain ⟨h1, h2, h3, h4, h5, h6, h7, h8, h9, h10, h11⟩ := g
  exact ⟨h1, h2, h3, h4, h5, h6, h7, h8, h9, sw_SI_ext (fun k hk => h k (Or.inr hk)) h10, h11⟩
def sw_z (s : List (Option (Option Nat))) : Bool := s.all (fun x => match x with | some (some _) => false | _ => true)
theorem sw_f_z {ad ad' : Nat → Nat} {f f' : Nat → Int32} (hf : ∀ j, f j = f' j) : ∀ {s : List (Option (Option Nat))} {j : Nat}, sw_z s = true → sw_f ad f j s = sw_f ad' f' j s
  | [], _, _ => rfl
  | none :: r, j, hw => by simp only [sw_f, hf]; rw [sw_f_z hf (s := r) (by simpa [sw_z] using hw)]
  | some none :: r, j, hw => by simp only [sw_f]; rw [sw_f_z hf (s := r) (by simpa [sw_z] using hw)]
  | some (some k) :: r, j, hw => by simp [sw_z] at hw
theorem sw_f_setR {ad : Nat → Nat} {f : Nat → Int32} {s : List (Option (Option Nat))} {k r : Nat} (hk : k < s.length) : (sw_f ad f 0 s).set k (.ref (ad r)) = sw_f ad f 0 (s.set k (some (some r))) := by
  apply List.ext_getElem?
  intro i
  by_cases hi : k = i
  · subst hi
    rw [List.getElem?_set_self (by rw [sw_f_len]; exact hk), sw_f_get, List.getElem?_set_self hk]
    simp
  · rw [List.getElem?_set_ne hi, sw_f_get, sw_f_get, List.getElem?_set_ne hi]
theorem sw_w_setL {cI cL : ClassId} {ad : Nat → Nat} {μ : sw_M} {ν : sw_N} {L : sw_L} {k : Nat} {x : sw_E} (hk : k < L.length) : (sw_w cI cL ad μ ν 0 L).set k (ad k, sw_e cI cL ad μ ν k x) = sw_w cI cL ad μ ν 0 (L.set k x) := by
  apply List.ext_getElem?
  intro i
  by_cases hi : k = i
  · subst hi
    rw [List.getElem?_set_self (by rw [sw_w_len]; exact hk), sw_w_get, List.getElem?_set_self hk]
    simp
  · rw [List.getElem?_set_ne hi, sw_w_get, sw_w_get, List.getElem?_set_ne hi]
section SWN
variable {G : sw_G} {ad : Nat → Nat} {L : sw_L} {ν : sw_N} {cs sl pc : Nat} {lv : List (Option Value)} {st st0 : List Value} {μ : sw_M} {cc : ByteArray} {own : String} {ret : Option FieldType} {d mc ms : Nat}
theorem sw_grow {q n : Nat} {x : sw_E} {e : va_E} {μ' : sw_M} {ν' : sw_N} (hlen : L.length = n) (hn : n < 1000) (hwf : sw_wf n L = true) (hμ : ∀ a, a < n → μ' a = μ a) (hν : ∀ a, a < n → ν' a = ν a) (he : sw_e G.2.2.2.2.1 G.2.2.2.2.2 (fun k => if k = n then q else ad k) μ' ν' n x = e) :
    sw_ext n ad (fun k => if k = n then q else ad k) ∧ sw_w G.2.2.2.2.1 G.2.2.2.2.2 (fun k => if k = n then q else ad k) μ' ν' 0 (L ++ [x]) = sw_w G.2.2.2.2.1 G.2.2.2.2.2 ad μ ν 0 L ++ [(q, e)] := by
  have hx : sw_ext n ad (fun k => if k = n then q else ad k) := fun k hk => if_neg (by omega)
  refine ⟨hx, ?_⟩
  rw [sw_w_app, sw_w_ext hx hμ hν (by omega) hwf, Nat.zero_add, hlen, he, if_pos rfl]
theorem SW.new {idx ci N n : Nat} {C : String} {T : u_T} {ty : Nat → FieldType} {sls : List (Option (Option Nat))} (g : sw_ok G cc own ret d mc ms ad) (hd : decode cc pc = .ok (.new idx, 3)) (hC : sw_C ci C T N ty) (hk : Cond.classLink own idx C ∈ gtb) (hin : Cond.instantiable C N ∈ gtb) (hini : Cond.initialized C ∈ gtb)
    (hsl : ∀ j, j < N → defaultValue (ty j) = vp_V (sw_f (fun _ => 0) (fun _ => 0) 0 sls) j) (hz : sw_z sls = true) (hlen : L.length = n) (hn : n < 1000) (hwf : sw_wf n L = true) (hrl : sw_rl n lv = true) (hrs : sw_rs n st = true) (hc : cs + 1 ≤ mc) (hs : sl + N ≤ ms)
    (k : ∀ ad' : Nat → Nat, sw_ext n ad ad' → SW G ad' (L ++ [.inr (ci, sls)]) ν (cs + 1) (sl + N) (pc + 3) lv (.ref n :: st) (wrR μ n (fun _ => 0))) : SW G ad L ν cs sl pc lv st μ := by
  intro H locs ls hlv hP hD hS
  have hts := g.2.2.2.2.2.1
  have hR := g.2.2.2.2.2.2.2.2.1
  refine va_new g.1 g.2.1 hts hC.2.1 ty hC.2.2.1 g.2.2.2.2.1 (hts _ hk) (hts _ hin) (hts _ hini) g.2.2.2.2.2.2.1 hP hD hS g.2.2.2.2.2.2.2.1 hC.1 hsl (by omega) (by omega) hd (fun q H1 hP1 hD1 hS1 => ?_)
  obtain ⟨hx, e⟩ := sw_grow (G := G) (ad := ad) (μ := μ) (ν := ν) (q := q) (x := .inr (ci, sls)) (e := .inr (ci, sw_f (fun _ => 0) (fun _ => 0) 0 sls)) (μ' := wrR μ n (fun _ => 0)) (ν' := ν) hlen hn hwf (fun a ha => wrR_ne (by omega)) (fun _ _ => rfl) (by simp only [sw_e, wrR_row]; rw [sw_f_z (ad' := fun _ => 0) (f' := fun _ => 0) (fun _ => rfl) hz])
  rw [← e] at hP1 hD1
  have h := k _ hx H1 locs ls (sw_lv_ext hx hrl hlv) hP1 hD1 hS1
  rw [List.map_cons, sw_st_ext hx hrs] at h
  simp only [sw_v, if_pos] at h
  exact h
theorem SW.newa {n N : Nat} {v : Int32} (g : sw_ok G cc own ret d mc ms ad) (hd : decode cc pc = .ok (.newarray .int, 2)) (harr : Cond.arrayClass .int ∈ gtb) (hv : ¬ v < 0) (hN : v.toNatClampNeg = N) (hb : N ≤ 10000) (hlen : L.length = n) (hn : n < 1000) (hwf : sw_wf n L = true) (hrl : sw_rl n lv = true) (hrs : sw_rs n st = true) (hc : cs + 1 ≤ mc) (hs : sl + N ≤ ms)
    (k : ∀ ad' : Nat → Nat, sw_ext n ad ad' → SW G ad' (L ++ [.inl (false, N)]) ν (cs + 1) (sl + N) (pc + 2) lv (.ref n :: st) (wrR μ n (fun _ => 0))) : SW G ad L ν cs sl pc lv (.int v :: st) μ := by
  intro H locs ls hlv hP hD hS
  have hts := g.2.2.2.2.2.1
  have hR := g.2.2.2.2.2.2.2.2.1
  refine va_newa (atype := .int) (ty := .int) g.1 g.2.1 (hts _ harr) rfl g.2.2.2.2.2.2.1 hP hD hS g.2.2.2.2.2.2.2.1 (a0 := (N, .inl (fun _ => 0))) (fun _ => rfl) hv hN (by simp only [componentBytes]; omega) (by omega) (by omega) hd (fun q cA H1 hK1 hP1 hD1 hS1 => ?_)
  have e1 : G.2.1.1.vm.findClass ("[" ++ FieldType.int.toString) = some cA := (hK1.2 2 (cA, .int) rfl).2
  have e2 : G.2.1.1.vm.findClass ("[" ++ FieldType.int.toString) = some G.2.2.2.2.1 := (g.2.2.2.2.2.2.1.2 0 (G.2.2.2.2.1, .int) rfl).2
  cases Option.some.inj (e1.symm.trans e2)
  obtain ⟨hx, e⟩ := sw_grow (G := G) (ad := ad) (μ := μ) (ν := ν) (q := q) (x := .inl (false, N)) (e := .inl (G.2.2.2.2.1, N, .inl (fun _ => 0))) (μ' := wrR μ n (fun _ => 0)) (ν' := ν) hlen hn hwf (fun a ha => wrR_ne (by omega)) (fun _ _ => rfl) (by simp only [sw_e, wrR_row])
  rw [← e] at hP1 hD1
  have h := k _ hx H1 locs ls (sw_lv_ext hx hrl hlv) hP1 hD1 hS1
  rw [List.map_cons, sw_st_ext hx hrs] at h
  simp only [sw_v, if_pos] at h
  exact h
theorem SW.newL {n N : Nat} {v : Int32} (g : sw_ok G cc own ret d mc ms ad) (hd : decode cc pc = .ok (.newarray .long, 2)) (harr : Cond.arrayClass .long ∈ gtb) (hv : ¬ v < 0) (hN : v.toNatClampNeg = N) (hb : N ≤ 10000) (hlen : L.length = n) (hn : n < 1000) (hwf : sw_wf n L = true) (hrl : sw_rl n lv = true) (hrs : sw_rs n st = true) (hc : cs + 1 ≤ mc) (hs : sl + N ≤ ms)
    (k : ∀ ad' : Nat → Nat, sw_ext n ad ad' → SW G ad' (L ++ [.inl (true, N)]) (fun a b => if a = n then 0 else ν a b) (cs + 1) (sl + N) (pc + 2) lv (.ref n :: st) μ) : SW G ad L ν cs sl pc lv (.int v :: st) μ := by
  intro H locs ls hlv hP hD hS
  have hts := g.2.2.2.2.2.1
  have hR := g.2.2.2.2.2.2.2.2.1
  refine va_newa (atype := .long) (ty := .long) g.1 g.2.1 (hts _ harr) rfl g.2.2.2.2.2.2.1 hP hD hS g.2.2.2.2.2.2.2.1 (a0 := (N, .inr (.inl (fun _ => 0)))) (fun _ => rfl) hv hN (by simp only [componentBytes]; omega) (by omega) (by omega) hd (fun q cA H1 hK1 hP1 hD1 hS1 => ?_)
  have e1 : G.2.1.1.vm.findClass ("[" ++ FieldType.long.toString) = some cA := (hK1.2 2 (cA, .long) rfl).2
  have e2 : G.2.1.1.vm.findClass ("[" ++ FieldType.long.toString) = some G.2.2.2.2.2 := (g.2.2.2.2.2.2.1.2 1 (G.2.2.2.2.2, .long) rfl).2
  cases Option.some.inj (e1.symm.trans e2)
  obtain ⟨hx, e⟩ := sw_grow (G := G) (ad := ad) (μ := μ) (ν := ν) (q := q) (x := .inl (true, N)) (e := .inl (G.2.2.2.2.2, N, .inr (.inl (fun _ => 0)))) (μ' := μ) (ν' := fun a b => if a = n then 0 else ν a b) hlen hn hwf (fun _ _ => rfl) (fun a ha => by funext b; exact if_neg (by omega)) (by simp only [sw_e, if_pos])
  rw [← e] at hP1 hD1
  have h := k _ hx H1 locs ls (sw_lv_ext hx hrl hlv) hP1 hD1 hS1
  rw [List.map_cons, sw_st_ext hx hrs] at h
  simp only [sw_v, if_pos] at h
  exact h
theorem SW.putR {idx ci k o r : Nat} {sls : List (Option (Option Nat))} (g : sw_ok G cc own ret d mc ms ad) (hname : G.2.2.1.1.name = "<init>") (hd : decode cc pc = .ok (.putfield idx, 3)) (hf : sw_F own idx ci k true false) (hown : (vwCl[ci]?).map (fun q => q.1) = some own) (hty : ∀ (C : String) (T : u_T) (N : Nat) (ty : Nat → FieldType), sw_C ci C T N ty → ∀ a, narrow (ty k) (.ref a) = .ref a ∧ fits (ty k) (.ref a) = true)
    (hL : L[o]? = some (.inr (ci, sls))) (hk9 : k < sls.length) (kk : SW G ad (L.set o (.inr (ci, sls.set k (some (some r))))) ν cs sl (pc + 3) lv st μ) : SW G ad L ν cs sl pc lv (.ref r :: .ref o :: st) μ := by
  obtain ⟨C, T, N, ty, hC, hk, hl, hfin, -⟩ := hf
  have hco : C = own := by rw [hC.1] at hown; exact Option.some.inj hown
  intro H locs ls hlv hP hD hS
  have ht := hty C T N ty hC (ad r)
  refine va_putF g.1 g.2.1 g.2.2.2.2.2.1 hC.2.1 ty hC.2.2.1 hC.2.2.2.1 g.2.2.2.2.1 g.2.2.2.2.2.2.1 hP hD hS o (sw_w_at hL) hC.1 k hk (ref := C) (g.2.2.2.2.2.1 _ hl) (fun x h => by rw [hC.2.2.2.2 k hk] at h; exact h) hfin hname ((hC.2.2.2.2 k hk).trans hco) (ty := ty k) (v := .ref (ad r)) (hC.2.2.1 k hk) ht.1 ht.2 (by rw [sw_f_len]; exact hk9) hd (fun H1 locs1 hP1 hD1 hS1 => ?_)
  have hlt : o < L.length := (List.getElem?_eq_some_iff.mp hL).1
  have e : (sw_w G.2.2.2.2.1 G.2.2.2.2.2 ad μ ν 0 L).set o (ad o, .inr (ci, (sw_f ad (μ o) 0 sls).set k (.ref (ad r)))) = sw_w G.2.2.2.2.1 G.2.2.2.2.2 ad μ ν 0 (L.set o (.inr (ci, sls.set k (some (some r))))) := by
    rw [sw_f_setR hk9]
    exact sw_w_setL (x := .inr (ci, sls.set k (some (some r)))) hlt
  rw [e] at hP1 hD1
  exact kk H1 locs1 ls hlv hP1 hD1 hS1
theorem SW.getRN {idx ci k o r N : Nat} {C host : String} {T : u_T} {ty : Nat → FieldType} {sls : List (Option (Option Nat))} (g : sw_ok G cc own ret d mc ms ad) (hd : decode cc pc = .ok (.getfield idx, 3)) (hC : sw_C ci C T N ty) (hk : k < N) (hl : Cond.fieldLinkNest own idx C (T k).2.1 (T k).2.2.1 host ∈ tables_1) (hL : L[o]? = some (.inr (ci, sls))) (hs : sls[k]? = some (some (some r)))
    (kk : SW G ad L ν cs sl (pc + 3) lv (.ref r :: st) μ) : SW G ad L ν cs sl pc lv (.ref o :: st) μ := by
  intro H locs ls hlv hP hD hS
  have hnw : va_Nw (Cond.fieldLinkNest own idx C (T k).2.1 (T k).2.2.1 host) G.2.1.1 := g.2.2.2.2.2.2.2.2.2.1.2.2.2.2.2.1 _ hl rfl
  exact va_getN g.1 g.2.1 g.2.2.2.2.2.1 hC.2.1 g.2.2.2.2.1 g.2.2.2.2.2.2.1 hP o (sw_w_at hL) hC.1 k hk (ref := C) (va_Nw.use rfl hnw) (fun x h => by rw [hC.2.2.2.2 k hk] at h; exact h) (v := .ref (ad r)) (by rw [sw_f_get, hs]; simp) hd (kk H locs ls hlv hP hD hS)
theorem SW.objInit {idx o : Nat} (g : sw_ok G cc own ret d mc ms ad) (hd : decode cc pc = .ok (.invokespecial idx, 3)) (hl : Cond.methodLink own idx Lib.objectInit ∈ gtb) (hi : Cond.instanceMethod Lib.objectInit ∈ gtb) (hc : Cond.code Lib.objectInit ⟨#[0xb1]⟩ 1 none ∈ gtb) (hst : (st.map fun v => v.category).sum ≤ 8) (hdd : 0 < d)
    (kk : SW G ad L ν cs sl (pc + 3) lv st μ) : SW G ad L ν cs sl pc lv (.ref o :: st) μ := by
  intro H locs ls hlv hP hD hS
  have hts := g.2.2.2.2.2.1
  have hR := g.2.2.2.2.2.2.2.2.1
  refine W.objInit g.1 g.2.1 g.2.2.2.2.1 (hts _ hl) (hts _ hi) (hts _ hc) (g := F0 G.2.1.2.1 pc ls (.ref (ad o) :: st.map (sw_v ad))) rfl hlv.1 rfl hd (by omega) ?_ (kk H locs ls hlv hP hD hS)
  have e : (F0 G.2.1.2.1 pc ls (.ref (ad o) :: st.map (sw_v ad))).monitorRoom = 0 := rfl
  rw [e, sw_catsum]
  omega
variable {y : MethodName} {bytes : ByteArray} {maxL np d' mc' ms' idx o n : Nat} {av : List Value} {L' : sw_L} {μ' : sw_M} {ν' : sw_N}
theorem SW.callI (g : sw_ok G cc own ret d mc ms ad) (hd : decode cc pc = .ok (.invokespecial idx, 3))
    (hM : MetR G.1.2.1 G.2.2.2.1 G.2.2.2.2.1 G.2.2.2.2.2 y bytes maxL none d' mc' ms' (sw_ext n ad) ad (.ref o :: av) L μ ν none L' μ' ν') (hy : sw_me y bytes maxL none np) (hv : Cond.instanceMethod y ∈ gtb) (hyn : y.name = "<init>") (hl : Cond.methodLink own idx y ∈ gtb ∨ ∃ host, Cond.methodLinkNest own idx y host ∈ tables_1)
    (hn : av.length = np) (hw : (st.map fun v => v.category).sum ≤ 8) (hdd : d' < d) (hc : cs + mc' ≤ mc) (hs : sl + ms' ≤ ms) (hrl : sw_rl n lv = true) (hrs : sw_rs n st = true)
    (hst : st0 = av.reverse ++ .ref o :: st) (k : ∀ ad' : Nat → Nat, sw_ext n ad ad' → SW G ad' L' ν' (cs + mc') (sl + ms') (pc + 3) lv st μ') : SW G ad L ν cs sl pc lv st0 μ := by
  subst hst
  intro H locs ls hlv hP hD hS
  have hts := g.2.2.2.2.2.1
  rw [List.map_append, List.map_reverse]
  have kk : ∀ (H1 : Heap) (locs1 : List Loc) (ad' : Nat → Nat), sw_ext n ad ad' → va_P G.2.2.2.1 vwCl (sw_w G.2.2.2.2.1 G.2.2.2.2.2 ad' μ' ν' 0 L') H1 → va_D G.2.2.1.2.2.2 (sw_w G.2.2.2.2.1 G.2.2.2.2.2 ad' μ' ν' 0 L') → va_S G.2.2.1.2.2.2 G.2.1.1.heap H1 locs1 →
      W G.1.1 G.1.2.1 G.1.2.2.1 G.1.2.2.2 G.2.1.1 G.2.1.2.1 G.2.1.2.2.1 G.2.1.2.2.2 G.2.2.1.1 G.2.2.1.2.1 H1 locs1 (cs + mc') (sl + ms') G.2.2.1.2.2.1 (F0 G.2.1.2.1 (pc + 3) ls ((none : Option Value).toList ++ st.map (sw_v ad))) := by
    intro H1 locs1 ad' hx hP1 hD1 hS1
    have h := k ad' hx H1 locs1 ls (sw_lv_ext hx hrl hlv) hP1 hD1 hS1
    rw [sw_st_ext hx hrs] at h
    exact h
  rcases hl with hl | ⟨host, hl⟩
  · exact sw_back (va_runI (b := ad o) (As := av.map (sw_v ad)) (rest := st.map (sw_v ad)) (n := np) ⟨g.1, g.2.1, rfl, g.2.2.2.2.1, hts⟩ (hM H.size)
      ⟨⟨rfl, rfl, (sw_room (mc' := mc') (ms' := ms') g hdd hy.2.2.2.2).1, (sw_room (mc' := mc') (ms' := ms') g hdd hy.2.2.2.2).2, sw_pay g hy, List.mem_cons_self, hts _ hy.1, hts _ hy.2.1, hy.2.2.1, sw_np hy.2.2.2.1, hts _ hl⟩, hyn, hts _ hv⟩
      ⟨sw_pre_blind, sw_PreS (av := .ref o :: av) g hP hD hS⟩ rfl (by rw [List.length_map]; exact hn) hlv.1 rfl (lv_room (by rw [sw_catsum]; exact hw)) hd (sw_cells g hc hs)) hS (sw_sub g hD hS) (sw_sub g hD hS) (fun H1 locs1 ad' hp hP1 hD1 hS1 => kk H1 locs1 ad' hp hP1 hD1 hS1)
  · have hnw : va_Nw (Cond.methodLinkNest own idx y host) G.2.1.1 := g.2.2.2.2.2.2.2.2.2.1.2.2.2.2.2.1 _ hl rfl
    exact sw_back (va_runIN (host := host) (b := ad o) (As := av.map (sw_v ad)) (rest := st.map (sw_v ad)) (n := np) ⟨g.1, g.2.1, rfl, g.2.2.2.2.1, hts⟩ (hM H.size)
      ⟨⟨⟨rfl, rfl, (sw_room (mc' := mc') (ms' := ms') g hdd hy.2.2.2.2).1, (sw_room (mc' := mc') (ms' := ms') g hdd hy.2.2.2.2).2, sw_pay g hy, List.mem_cons_self⟩, hts _ hy.1, hts _ hy.2.1, hy.2.2.1, sw_np hy.2.2.2.1, va_Nw.use rfl hnw⟩, hyn, hts _ hv⟩
      ⟨sw_pre_blind, sw_PreS (av := .ref o :: av) g hP hD hS⟩ rfl (by rw [List.length_map]; exact hn) hlv.1 rfl (lv_room (by rw [sw_catsum]; exact hw)) hd (sw_cells g hc hs)) hS (sw_sub g hD hS) (sw_sub g hD hS) (fun H1 locs1 ad' hp hP1 hD1 hS1 => kk H1 locs1 ad' hp hP1 hD1 hS1)
end SWN
set_option maxHeartbeats 4000000 in
theorem MetR.ofI {l : Launch} {D : va_G} {cI cL : ClassId} {y : MethodName} {cc : ByteArray} {nL : Nat} {ret : Option FieldType} {d mc ms n : Nat} {P : (Nat → Nat) → Prop} {ad : Nat → Nat} {av : List Value} {L : sw_L} {μ : sw_M} {ν : sw_N} {o : Option Value} {L' : sw_L} {μ' : sw_M} {ν' : sw_N}
    (hy : plainName y.cls = true) (hlen : (sw_ent av).length ≤ nL)
    (body : ∀ G : sw_G, sw_ok G cc y.cls ret d mc ms ad → sw_out G mc ms P (.inl o) L' μ' ν' → G.2.2.1.2.1.maxLocals = nL → G.2.2.1.1.name = y.name → SW G ad L ν 0 0 0 (sw_ent av ++ List.replicate n none) [] μ) :
    MetR l D cI cL y cc nL ret d mc ms P ad av L μ ν o L' μ' ν' := by
  intro sz
  refine Met.ofW (cc := cc) (maxL := nL) (ret := ret) hy rfl ?_
  intro p e s m args below meth c s₁ B hml hv
  obtain ⟨rfl, hsz, hSI, hP, hK, hD0, hst⟩ := hv
  subst hsz
  have hts : ∀ w ∈ (Cond.code y cc nL ret :: gtb), w.before _ s = true := atoms_spec (ws := .code y cc nL ret :: gtb) B.pre
  have hown : s.vm.findClass y.cls = some m.cls := findClass_of_methodNamed B.named
  have hin : meth.name = y.name := (name_of_methodNamed B.named B.method).1
  rw [lg_entry_eq]
  have hl := sw_ent_lv (ad := ad) (av := av) (n := n) (by rw [sw_ent_len]; exact hlen)
  have key := body ((p, l, e, rmO d mc ms), (s, m, (av.map (sw_v ad)).toArray, below), (meth, c, MQ below (sw_Q D cI cL (va_A (sw_w cI cL ad μ ν 0 L) s.heap.size) P o L' μ' ν') (av.map (sw_v ad)).toArray s mc ms (va_A (sw_w cI cL ad μ ν 0 L) s.heap.size), va_A (sw_w cI cL ad μ ν 0 L) s.heap.size), (D, cI, cL))
    ⟨B.exec, B.bytes, B.returns, B.notSynchronized, hown, fun w hw => hts w (List.mem_cons_of_mem _ hw), hK, fun q h => Or.inr h, ⟨Nat.le_refl _, Nat.le_refl _, Nat.le_refl _, Nat.le_refl _⟩, hSI, hst⟩ (Or.inl rfl) hml hin
  exact key s.heap [] _ (by rw [show (meth, c, MQ below (sw_Q D cI cL (va_A (sw_w cI cL ad μ ν 0 L) s.heap.size) P o L' μ' ν') (av.map (sw_v ad)).toArray s mc ms (va_A (sw_w cI cL ad μ ν 0 L) s.heap.size), va_A (sw_w cI cL ad μ ν 0 L) s.heap.size).2.1.maxLocals = nL from hml]; exact hl) hP hD0.self va_S.rf
