/-! Contracts over the flat memory: entry, returns, calls. -/
def hg_Pc (F : hg_F) (E : hg_Et) (D : va_G) (t : hg_T) (ad : Nat → Nat) (sz : Nat) (vs : List Value) (σ : hg_M) (ρ : hg_R) : Array Value → State → Prop :=
  va_Pc vs (fun U => U.heap.size = sz ∧ va_P D vwCl (hg_ws F t ad σ ρ) U.heap ∧ va_K D vwCl (hg_tys t) U ∧ hg_Dd F ad (fun _ => True) ∧ E (hg_A F ad sz) U U.heap)
abbrev hg_Bq (F : hg_F) (D : va_G) (t : hg_T) (ad : Nat → Nat) : hg_M × hg_R → State → Prop := fun u U => va_P D vwCl (hg_ws F t ad u.1 u.2) U.heap
abbrev hg_Qi (F : hg_F) (D : va_G) (t : hg_T) (ad : Nat → Nat) (sz : Nat) (post : Int32 → hg_M → hg_R → Prop) : Array Value → State → Outcome → State → Prop := va_Qi (S := hg_M × hg_R) (fun r u => post r u.1 u.2) (hg_Bq F D t ad) (hg_A F ad sz)
abbrev hg_Qv (F : hg_F) (D : va_G) (t : hg_T) (ad : Nat → Nat) (sz : Nat) (post : hg_M → hg_R → Prop) : Array Value → State → Outcome → State → Prop := va_Qv (S := hg_M × hg_R) (fun u => post u.1 u.2) (hg_Bq F D t ad) (hg_A F ad sz)
/-- a method that answers an int (or a boolean) -/
def hg_Mi (F : hg_F) (E : hg_Et) (l : Launch) (y : MethodName) (cc : ByteArray) (nL : Nat) (ret : Option FieldType) (d : Nat) (vs : (Nat → Nat) → List Value) (σ : hg_M) (ρ : hg_R) (post : Int32 → hg_M → hg_R → Prop) : Prop :=
  ∀ (D : va_G) (t : hg_T) (ad : Nat → Nat) (sz : Nat), Met l y (Cond.code y cc nL ret :: hg_tbl) (hg_rm d) (hg_Pc F E D t ad sz (vs ad) σ ρ) (hg_Qi F D t ad sz post) 0 0 (hg_A F ad sz)
def hg_Mv (F : hg_F) (E : hg_Et) (l : Launch) (y : MethodName) (cc : ByteArray) (nL : Nat) (d : Nat) (vs : (Nat → Nat) → List Value) (σ : hg_M) (ρ : hg_R) (post : hg_M → hg_R → Prop) : Prop :=
  ∀ (D : va_G) (t : hg_T) (ad : Nat → Nat) (sz : Nat), Met l y (Cond.code y cc nL none :: hg_tbl) (hg_rm d) (hg_Pc F E D t ad sz (vs ad) σ ρ) (hg_Qv F D t ad sz post) 0 0 (hg_A F ad sz)
/-- the end that a walk is to come to -/
def hg_Ri (F : hg_F) (ret : Option FieldType) (post : Int32 → hg_M → hg_R → Prop) (X : hg_X) : Prop := match X with
  | (p, l, e, R, s, m, args, below, meth, c, D, A, cells, slots, Q, ad, t) => A = hg_A F ad s.heap.size ∧ Q = MQ below (hg_Qi F D t ad s.heap.size post) args s 0 0 (hg_A F ad s.heap.size) ∧ meth.sig.returnType = ret
def hg_Rv (F : hg_F) (post : hg_M → hg_R → Prop) (X : hg_X) : Prop := match X with
  | (p, l, e, R, s, m, args, below, meth, c, D, A, cells, slots, Q, ad, t) => A = hg_A F ad s.heap.size ∧ Q = MQ below (hg_Qv F D t ad s.heap.size post) args s 0 0 (hg_A F ad s.heap.size) ∧ meth.sig.returnType = none
theorem hg_blind {F : hg_F} {E : hg_Et} (hE : hg_Eok E) {D : va_G} {t : hg_T} {ad : Nat → Nat} {sz : Nat} {vs : List Value} {σ : hg_M} {ρ : hg_R} : FrameBlind (hg_Pc F E D t ad sz vs σ ρ) := by
  intro a U g mk q
  obtain ⟨q0, q1, qP, qK, qD, qE⟩ := q
  exact ⟨q0, q1, qP, va_K.moved (u := U) (U := U.calling g mk a) (Vm.Alike.refl U.vm) qK, qD, hE.1.1 _ U (U.calling g mk a) _ rfl qE⟩
theorem hg_Dd_self {F : hg_F} {ad : Nat → Nat} {A : Nat → Prop} {sz : Nat} (h : hg_Dd F ad A) : hg_Dd F ad (hg_A F ad sz) := ⟨h.1, fun i hi => Or.inl ⟨i, hi, rfl⟩⟩
section HGC
variable {F : hg_F} {nL d : Nat} {E : hg_Et} {cc : ByteArray} {own : String} {X : hg_X} {pc : Nat} {L : List (Nat × Value)} {st : List Value} {σ : hg_M} {ρ : hg_R}
theorem hg_enter_i {l : Launch} {y : MethodName} {ret : Option FieldType} {vs : (Nat → Nat) → List Value} {post : Int32 → hg_M → hg_R → Prop} (hE : hg_Eok E) (hy : plainName y.cls = true) (hlen : ∀ ad, (lg_sl (vs ad)).length ≤ nL)
    (body : ∀ X : hg_X, hg_C F nL d E cc y.cls X → hg_Ri F ret post X → X.2.1 = l → hg_G F nL X 0 (lv_args 0 (vs (hg_ad X))) [] σ ρ) : hg_Mi F E l y cc nL ret d vs σ ρ post := by
  intro D t ad sz
  refine Met.ofW (cc := cc) (maxL := nL) (ret := ret) hy rfl ?_
  intro p e s m args below meth c s₁ B hml hv
  obtain ⟨rfl, hsz, hP, hK, hD0, hE0⟩ := hv
  have hts := atoms_spec (ws := Cond.code y cc nL ret :: hg_tbl) B.pre
  subst hsz
  rw [lg_entry_eq]
  have hX := body (p, l, e, hg_rm d, s, m, (vs ad).toArray, below, meth, c, D, hg_A F ad s.heap.size, 0, 0, MQ below (hg_Qi F D t ad s.heap.size post) (vs ad).toArray s 0 0 (hg_A F ad s.heap.size), ad, t)
    ⟨⟨B.exec, B.bytes⟩, hml, findClass_of_methodNamed B.named, fun w h => hts w (List.mem_cons_of_mem _ h), hK, hg_Dd_self hD0, fun q h => Or.inr h, B.notSynchronized, ⟨rfl, rfl⟩, ⟨rfl, rfl⟩, hE0, hE⟩ ⟨rfl, rfl, B.returns⟩ rfl
  exact hX s.heap [] _ (lv_entry (vs ad) (hlen ad)) hP va_S.rf
theorem hg_enter_v {l : Launch} {y : MethodName} {vs : (Nat → Nat) → List Value} {post : hg_M → hg_R → Prop} (hE : hg_Eok E) (hy : plainName y.cls = true) (hlen : ∀ ad, (lg_sl (vs ad)).length ≤ nL)
    (body : ∀ X : hg_X, hg_C F nL d E cc y.cls X → hg_Rv F post X → X.2.1 = l → hg_G F nL X 0 (lv_args 0 (vs (hg_ad X))) [] σ ρ) : hg_Mv F E l y cc nL d vs σ ρ post := by
  intro D t ad sz
  refine Met.ofW (cc := cc) (maxL := nL) (ret := none) hy rfl ?_
  intro p e s m args below meth c s₁ B hml hv
  obtain ⟨rfl, hsz, hP, hK, hD0, hE0⟩ := hv
  have hts := atoms_spec (ws := Cond.code y cc nL none :: hg_tbl) B.pre
  subst hsz
  rw [lg_entry_eq]
  have hX := body (p, l, e, hg_rm d, s, m, (vs ad).toArray, below, meth, c, D, hg_A F ad s.heap.size, 0, 0, MQ below (hg_Qv F D t ad s.heap.size post) (vs ad).toArray s 0 0 (hg_A F ad s.heap.size), ad, t)
    ⟨⟨B.exec, B.bytes⟩, hml, findClass_of_methodNamed B.named, fun w h => hts w (List.mem_cons_of_mem _ h), hK, hg_Dd_self hD0, fun q h => Or.inr h, B.notSynchronized, ⟨rfl, rfl⟩, ⟨rfl, rfl⟩, hE0, hE⟩ ⟨rfl, rfl, B.returns⟩ rfl
  exact hX s.heap [] _ (lv_entry (vs ad) (hlen ad)) hP va_S.rf
theorem hg_iret (hC : hg_C F nL d E cc own X) {post : Int32 → hg_M → hg_R → Prop} (hR : hg_Ri F (some .int) post X) {v : Int32} (hd : decode cc pc = .ok (.ireturn, 1)) (h : post v σ ρ) : hg_G F nL X pc L [.int v] σ ρ := by
  obtain ⟨p, l, e, R, s, m, args, below, meth, c, D, A, cells, slots, Q, ad, t⟩ := X
  obtain ⟨⟨hx, hb⟩, hml, hown, hts, hK, hDd, hA, hlk, hRm, ⟨hz1, hz2⟩, hE, hEok⟩ := hC
  obtain ⟨hAe, hQ, hr⟩ := hR
  subst hAe; subst hQ; subst hz1; subst hz2
  intro H locs ls hl hP hS
  exact W.iret (v := v) hx hb hr (fun U hU hW => ⟨⟨v, (σ, ρ), rfl, h, by rw [hg_Bq, hU]; exact hP⟩, hS.F hU⟩) hS.2.2 hd
theorem hg_zret (hC : hg_C F nL d E cc own X) {post : Int32 → hg_M → hg_R → Prop} (hR : hg_Ri F (some .boolean) post X) {v : Int32} (hd : decode cc pc = .ok (.ireturn, 1)) (hv : v = 0 ∨ v = 1) (h : post v σ ρ) : hg_G F nL X pc L [.int v] σ ρ := by
  obtain ⟨p, l, e, R, s, m, args, below, meth, c, D, A, cells, slots, Q, ad, t⟩ := X
  obtain ⟨⟨hx, hb⟩, hml, hown, hts, hK, hDd, hA, hlk, hRm, ⟨hz1, hz2⟩, hE, hEok⟩ := hC
  obtain ⟨hAe, hQ, hr⟩ := hR
  subst hAe; subst hQ; subst hz1; subst hz2
  intro H locs ls hl hP hS
  exact W.zret (v := v) hx hb hr (by rcases hv with rfl | rfl <;> rfl) (fun U hU hW => ⟨⟨v, (σ, ρ), rfl, h, by rw [hg_Bq, hU]; exact hP⟩, hS.F hU⟩) hS.2.2 hd
theorem hg_vret (hC : hg_C F nL d E cc own X) {post : hg_M → hg_R → Prop} (hR : hg_Rv F post X) (hd : decode cc pc = .ok (.return_, 1)) (h : post σ ρ) : hg_G F nL X pc L [] σ ρ := by
  obtain ⟨p, l, e, R, s, m, args, below, meth, c, D, A, cells, slots, Q, ad, t⟩ := X
  obtain ⟨⟨hx, hb⟩, hml, hown, hts, hK, hDd, hA, hlk, hRm, ⟨hz1, hz2⟩, hE, hEok⟩ := hC
  obtain ⟨hAe, hQ, hr⟩ := hR
  subst hAe; subst hQ; subst hz1; subst hz2
  intro H locs ls hl hP hS
  exact W.vret hx hb hr (fun U hU hW => ⟨⟨(σ, ρ), rfl, h, by rw [hg_Bq, hU]; exact hP⟩, hS.F hU⟩) hS.2.2 hd
/-- what the tables say of a call's site -/
def hg_Sv (own : String) (index : Nat) (C : String) (y : MethodName) (bytes : ByteArray) (maxL : Nat) (ret : Option FieldType) (n : Nat) : Prop :=
  Cond.code y bytes maxL ret ∈ hg_tbl ∧ Cond.methodLink own index y ∈ hg_tbl ∧ Cond.instanceMethod y ∈ hg_tbl ∧ Cond.selects C y y ∈ hg_tbl ∧ Cond.initialized C ∈ hg_tbl ∧
  (y.cls = C ∧ y.cls ≠ "java/lang/invoke/MethodHandle" ∧ y.cls ≠ "java/lang/invoke/VarHandle" ∧ (parseMethodDescriptor y.desc).map (fun d => d.parameters.length) = some n) ∧ maxL ≤ 45
def hg_Ss (own : String) (index : Nat) (y : MethodName) (bytes : ByteArray) (maxL : Nat) (ret : Option FieldType) (n : Nat) : Prop :=
  Cond.code y bytes maxL ret ∈ hg_tbl ∧ Cond.methodLink own index y ∈ hg_tbl ∧ Cond.static y ∈ hg_tbl ∧ Cond.initialized y.cls ∈ hg_tbl ∧
  (y.cls ≠ "java/lang/invoke/MethodHandle" ∧ y.cls ≠ "java/lang/invoke/VarHandle" ∧ (parseMethodDescriptor y.desc).map (fun d => d.parameters.length) = some n) ∧ maxL ≤ 45
theorem hg_good {w : Cond} (h : w ∈ hg_tbl) : w ∈ hg_tbl ∧ ((w.onTables && w.keeps) = true ∨ ∃ ty, w = .arrayClass ty) := ⟨h, good_of_word (List.mem_filter.mp h).2⟩
theorem hg_goodW {own C : String} {index maxL n : Nat} {y : MethodName} {bytes : ByteArray} {ret : Option FieldType} (h : hg_Sv own index C y bytes maxL ret n) : GoodIn hg_tbl (wsV own index C y (Cond.code y bytes maxL ret :: hg_tbl)) := by
  obtain ⟨h1, h2, h3, h4, h5, -, -⟩ := h
  intro w hw
  simp only [wsV, List.mem_append, List.mem_cons, List.not_mem_nil, or_false] at hw
  rcases hw with (rfl | rfl | rfl | rfl) | rfl | hw
  · exact hg_good h2
  · exact hg_good h3
  · exact hg_good h4
  · exact hg_good h5
  · exact hg_good h1
  · exact hg_good hw
theorem hg_goodC {maxL : Nat} {y : MethodName} {bytes : ByteArray} {ret : Option FieldType} (h : Cond.code y bytes maxL ret ∈ hg_tbl) : GoodIn hg_tbl (Cond.code y bytes maxL ret :: hg_tbl) := by
  intro w hw
  rcases List.mem_cons.mp hw with rfl | hw
  · exact hg_good h
  · exact hg_good hw
theorem hg_free {ad : Nat → Nat} {A : Nat → Prop} {H0 H : Heap} {locs : List Loc} (hDd : hg_Dd F ad A) (hA : ∀ q, H0.size ≤ q → A q) (hS : va_S A H0 H locs) : ∀ q, hg_A F ad H.size q → A q := by
  rintro q (⟨k, hk, rfl⟩ | h)
  · exact hDd.2 k hk
  · exact hA q (Nat.le_trans hS.1 h)
theorem hg_roomc {R : Room} {d maxL : Nat} (hR : R.frames = d + 1 ∧ R.locals = 64 * (d + 1)) (h : maxL ≤ 45) : (hg_rm d).frames + 1 ≤ R.frames ∧ 8 + (maxL + 11) + (hg_rm d).locals ≤ R.locals := by
  constructor
  · rw [hR.1]; exact Nat.le_refl _
  · rw [hR.2]
    show 8 + (maxL + 11) + 64 * d ≤ 64 * (d + 1)
    omega
theorem hg_pre {s : State} {H : Heap} {D : va_G} {t : hg_T} {ad : Nat → Nat} {A : Nat → Prop} {locs : List Loc} {vs : List Value} (hEok : hg_Eok E) (hDd : hg_Dd F ad A) (hA : ∀ q, s.heap.size ≤ q → A q) (hS : va_S A s.heap H locs) (hK : va_K D vwCl (hg_tys t) s) (hP : va_P D vwCl (hg_ws F t ad σ ρ) H) (hE : E A s s.heap) :
    ∀ U : State, U.heap = H → s.WarmedH U.vm → hg_Pc F E D t ad H.size vs σ ρ vs.toArray U := fun U hU hW =>
  ⟨rfl, by rw [hU], by rw [hU]; exact hP, va_K.moved hW.alike hK, ⟨hDd.1, fun _ _ => trivial⟩, hEok.1.2 _ s U _ hW (by
    rw [hU]
    exact hEok.2.2.1 A _ s H (hEok.2.1 A s s.heap H hE (fun a h1 h2 => hS.2.1 a h1 h2)) (hg_free hDd hA hS))⟩
theorem hg_callVi (hC : hg_C F nL (d + 1) E cc own X) {index N na q ci mL : Nat} {C : String} {T : u_T} {y : MethodName} {bytes : ByteArray} {ret : Option FieldType} {As : (Nat → Nat) → List Value} {post : Int32 → hg_M → hg_R → Prop}
    (hM : hg_Mi F E X.2.1 y bytes mL ret d (fun ad => .ref (ad q) :: As ad) σ ρ post) (hw : hg_Sv own index C y bytes mL ret na) (hd : decode cc pc = .ok (.invokevirtual index, 3)) (hq : q < F.1) (hk : F.2.1 q = (ci + 3, N)) (hc : vwCl[ci]? = some (C, T, N))
    (hna : (As (hg_ad X)).length = na) {rest : List Value} (hst : st = (As (hg_ad X)).reverse ++ .ref (hg_ad X q) :: rest) (hcat : (rest.map fun v => v.category).sum ≤ 8) {n : Nat} (hn : pc + 3 = n)
    (k : ∀ r σ1 ρ1, post r σ1 ρ1 → hg_G F nL X n L (.int r :: rest) σ1 ρ1) : hg_G F nL X pc L st σ ρ := by
  obtain ⟨p, l, e, R, s, m, args, below, meth, c, D, A, cells, slots, Q, ad, t⟩ := X
  obtain ⟨⟨hx, hb⟩, hml, hown, hts, hK, hDd, hA, hlk, hRm, ⟨hz1, hz2⟩, hE, hEok⟩ := hC
  subst hz1; subst hz2; subst hn
  intro H locs ls hl hP hS
  have hfr := hg_free hDd hA hS
  refine va_calli (va_runV (As := As ad) (rest := rest) (C := C) ⟨hx, hb, hml, hown, hts⟩ (hM D t ad H.size) (cwV na hts (hg_goodW hw) rfl rfl rfl hw.2.2.2.2.2.1 (hg_roomc hRm hw.2.2.2.2.2.2)) ⟨hg_blind hEok, va_recv hK hP hc ((hg_at hq).trans (by rw [hg_cell3 hk])), hg_pre hEok hDd hA hS hK hP hE⟩ rfl hna hl.1 hst (lv_room hcat) hd ⟨Nat.zero_le _, Nat.zero_le _⟩) hS (fun q _ h => hfr q h) hfr (fun r u U H1 locs1 hU hvm hw1 hB hz1 hk1 hS1 => ?_)
  exact k r u.1 u.2 hw1 H1 locs1 ls hl (by rw [← hU]; exact hB) hS1
theorem hg_callVv (hC : hg_C F nL (d + 1) E cc own X) {index N na q ci mL : Nat} {C : String} {T : u_T} {y : MethodName} {bytes : ByteArray} {As : (Nat → Nat) → List Value} {post : hg_M → hg_R → Prop}
    (hM : hg_Mv F E X.2.1 y bytes mL d (fun ad => .ref (ad q) :: As ad) σ ρ post) (hw : hg_Sv own index C y bytes mL none na) (hd : decode cc pc = .ok (.invokevirtual index, 3)) (hq : q < F.1) (hk : F.2.1 q = (ci + 3, N)) (hc : vwCl[ci]? = some (C, T, N))
    (hna : (As (hg_ad X)).length = na) {rest : List Value} (hst : st = (As (hg_ad X)).reverse ++ .ref (hg_ad X q) :: rest) (hcat : (rest.map fun v => v.category).sum ≤ 8) {n : Nat} (hn : pc + 3 = n)
    (k : ∀ σ1 ρ1, post σ1 ρ1 → hg_G F nL X n L rest σ1 ρ1) : hg_G F nL X pc L st σ ρ := by
  obtain ⟨p, l, e, R, s, m, args, below, meth, c, D, A, cells, slots, Q, ad, t⟩ := X
  obtain ⟨⟨hx, hb⟩, hml, hown, hts, hK, hDd, hA, hlk, hRm, ⟨hz1, hz2⟩, hE, hEok⟩ := hC
  subst hz1; subst hz2; subst hn
  intro H locs ls hl hP hS
  have hfr := hg_free hDd hA hS
  refine va_callv (va_runV (As := As ad) (rest := rest) (C := C) ⟨hx, hb, hml, hown, hts⟩ (hM D t ad H.size) (cwV na hts (hg_goodW hw) rfl rfl rfl hw.2.2.2.2.2.1 (hg_roomc hRm hw.2.2.2.2.2.2)) ⟨hg_blind hEok, va_recv hK hP hc ((hg_at hq).trans (by rw [hg_cell3 hk])), hg_pre hEok hDd hA hS hK hP hE⟩ rfl hna hl.1 hst (lv_room hcat) hd ⟨Nat.zero_le _, Nat.zero_le _⟩) hS (fun q _ h => hfr q h) hfr (fun u U H1 locs1 hU hvm hw1 hB hz1 hk1 hS1 => ?_)
  exact k u.1 u.2 hw1 H1 locs1 ls hl (by rw [← hU]; exact hB) hS1
theorem hg_callSi (hC : hg_C F nL (d + 1) E cc own X) {index na mL : Nat} {y : MethodName} {bytes : ByteArray} {ret : Option FieldType} {As : (Nat → Nat) → List Value} {post : Int32 → hg_M → hg_R → Prop}
    (hM : hg_Mi F E X.2.1 y bytes mL ret d As σ ρ post) (hw : hg_Ss own index y bytes mL ret na) (hd : decode cc pc = .ok (.invokestatic index, 3))
    (hna : (As (hg_ad X)).length = na) {rest : List Value} (hst : st = (As (hg_ad X)).reverse ++ rest) (hcat : (rest.map fun v => v.category).sum ≤ 8) {n : Nat} (hn : pc + 3 = n)
    (k : ∀ r σ1 ρ1, post r σ1 ρ1 → hg_G F nL X n L (.int r :: rest) σ1 ρ1) : hg_G F nL X pc L st σ ρ := by
  obtain ⟨p, l, e, R, s, m, args, below, meth, c, D, A, cells, slots, Q, ad, t⟩ := X
  obtain ⟨⟨hx, hb⟩, hml, hown, hts, hK, hDd, hA, hlk, hRm, ⟨hz1, hz2⟩, hE, hEok⟩ := hC
  subst hz1; subst hz2; subst hn
  intro H locs ls hl hP hS
  have hfr := hg_free hDd hA hS
  refine va_calli (va_runS (As := As ad) (rest := rest) ⟨hx, hb, hml, hown, hts⟩ (hM D t ad H.size) ⟨callB_of na hts (hg_goodC hw.1) rfl rfl rfl (hts _ hw.2.2.2.1) (hts _ hw.2.1) hw.2.2.2.2.1 (hg_roomc hRm hw.2.2.2.2.2), hts _ hw.2.2.1⟩ ⟨hg_blind hEok, hg_pre hEok hDd hA hS hK hP hE⟩ rfl hna hl.1 hst (lv_room hcat) hd ⟨Nat.zero_le _, Nat.zero_le _⟩) hS (fun q _ h => hfr q h) hfr (fun r u U H1 locs1 hU hvm hw1 hB hz1 hk1 hS1 => ?_)
  exact k r u.1 u.2 hw1 H1 locs1 ls hl (by rw [← hU]; exact hB) hS1
theorem hg_callSv (hC : hg_C F nL (d + 1) E cc own X) {index na mL : Nat} {y : MethodName} {bytes : ByteArray} {As : (Nat → Nat) → List Value} {post : hg_M → hg_R → Prop}
    (hM : hg_Mv F E X.2.1 y bytes mL d As σ ρ post) (hw : hg_Ss own index y bytes mL none na) (hd : decode cc pc = .ok (.invokestatic index, 3))
    (hna : (As (hg_ad X)).length = na) {rest : List Value} (hst : st = (As (hg_ad X)).reverse ++ rest) (hcat : (rest.map fun v => v.category).sum ≤ 8) {n : Nat} (hn : pc + 3 = n)
    (k : ∀ σ1 ρ1, post σ1 ρ1 → hg_G F nL X n L rest σ1 ρ1) : hg_G F nL X pc L st σ ρ := by
  obtain ⟨p, l, e, R, s, m, args, below, meth, c, D, A, cells, slots, Q, ad, t⟩ := X
  obtain ⟨⟨hx, hb⟩, hml, hown, hts, hK, hDd, hA, hlk, hRm, ⟨hz1, hz2⟩, hE, hEok⟩ := hC
  subst hz1; subst hz2; subst hn
  intro H locs ls hl hP hS
  have hfr := hg_free hDd hA hS
  refine va_callv (va_runS (As := As ad) (rest := rest) ⟨hx, hb, hml, hown, hts⟩ (hM D t ad H.size) ⟨callB_of na hts (hg_goodC hw.1) rfl rfl rfl (hts _ hw.2.2.2.1) (hts _ hw.2.1) hw.2.2.2.2.1 (hg_roomc hRm hw.2.2.2.2.2), hts _ hw.2.2.1⟩ ⟨hg_blind hEok, hg_pre hEok hDd hA hS hK hP hE⟩ rfl hna hl.1 hst (lv_room hcat) hd ⟨Nat.zero_le _, Nat.zero_le _⟩) hS (fun q _ h => hfr q h) hfr (fun u U H1 locs1 hU hvm hw1 hB hz1 hk1 hS1 => ?_)
  exact k u.1 u.2 hw1 H1 locs1 ls hl (by rw [← hU]; exact hB) hS1
end HGC
