/-! Contracts whose references stay as they are; the rows that the program writes. -/
def hg_Ni (F : hg_F) (E : hg_Et) (l : Launch) (y : MethodName) (cc : ByteArray) (nL : Nat) (ret : Option FieldType) (d : Nat) (vs : (Nat → Nat) → List Value) (ρ : hg_R) (σ : hg_M) (P : Int32 → hg_M → Prop) : Prop := hg_Mi F E l y cc nL ret d vs σ ρ (fun r σ1 ρ1 => P r σ1 ∧ ρ1 = ρ)
def hg_Nv (F : hg_F) (E : hg_Et) (l : Launch) (y : MethodName) (cc : ByteArray) (nL : Nat) (d : Nat) (vs : (Nat → Nat) → List Value) (ρ : hg_R) (σ : hg_M) (P : hg_M → Prop) : Prop := hg_Mv F E l y cc nL d vs σ ρ (fun σ1 ρ1 => P σ1 ∧ ρ1 = ρ)
abbrev hg_Rni (F : hg_F) (ret : Option FieldType) (ρ : hg_R) (P : Int32 → hg_M → Prop) (X : hg_X) : Prop := hg_Ri F ret (fun r σ1 ρ1 => P r σ1 ∧ ρ1 = ρ) X
abbrev hg_Rnv (F : hg_F) (ρ : hg_R) (P : hg_M → Prop) (X : hg_X) : Prop := hg_Rv F (fun σ1 ρ1 => P σ1 ∧ ρ1 = ρ) X
theorem hg_nz {e : Int32} (h : e = 0 ∨ e = 1) : narrow .boolean (.int e) = .int e := by rcases h with rfl | rfl <;> rfl
theorem hg_fz {e : Int32} (h : e = 0 ∨ e = 1) : fits .boolean (.int e) = true := by rcases h with rfl | rfl <;> rfl
theorem hg_lt {e : Int32} {n : Nat} (h : vp_in e n) : e.toNatClampNeg < n := Nat.not_le.mp fun q => h (Or.inr q)
section HGN
variable {F : hg_F} {nL d : Nat} {E : hg_Et} {cc : ByteArray} {own : String} {X : hg_X} {pc : Nat} {L : List (Nat × Value)} {st : List Value} {σ : hg_M} {ρ : hg_R}
theorem hg_Eof (hC : hg_C F nL d E cc own X) : hg_Eok E := by
  obtain ⟨p, l, e, R, s, m, args, below, meth, c, D, A, cells, slots, Q, ad, t⟩ := X
  exact hC.2.2.2.2.2.2.2.2.2.2.2
theorem hg_ni {l : Launch} {y : MethodName} {ret : Option FieldType} {vs : (Nat → Nat) → List Value} {P : Int32 → hg_M → Prop} (hE : hg_Eok E) (hy : plainName y.cls = true) (hlen : ∀ ad, (lg_sl (vs ad)).length ≤ nL)
    (body : ∀ X : hg_X, hg_C F nL d E cc y.cls X → hg_Rni F ret ρ P X → X.2.1 = l → hg_G F nL X 0 (lv_args 0 (vs (hg_ad X))) [] σ ρ) : hg_Ni F E l y cc nL ret d vs ρ σ P := hg_enter_i hE hy hlen body
theorem hg_nv {l : Launch} {y : MethodName} {vs : (Nat → Nat) → List Value} {P : hg_M → Prop} (hE : hg_Eok E) (hy : plainName y.cls = true) (hlen : ∀ ad, (lg_sl (vs ad)).length ≤ nL)
    (body : ∀ X : hg_X, hg_C F nL d E cc y.cls X → hg_Rnv F ρ P X → X.2.1 = l → hg_G F nL X 0 (lv_args 0 (vs (hg_ad X))) [] σ ρ) : hg_Nv F E l y cc nL d vs ρ σ P := hg_enter_v hE hy hlen body
theorem hg_reti (hC : hg_C F nL d E cc own X) {P : Int32 → hg_M → Prop} (hR : hg_Rni F (some .int) ρ P X) {v : Int32} (hd : decode cc pc = .ok (.ireturn, 1)) (h : P v σ) : hg_G F nL X pc L [.int v] σ ρ := hg_iret hC hR hd ⟨h, rfl⟩
theorem hg_retz (hC : hg_C F nL d E cc own X) {P : Int32 → hg_M → Prop} (hR : hg_Rni F (some .boolean) ρ P X) {v : Int32} (hd : decode cc pc = .ok (.ireturn, 1)) (h : (v = 0 ∨ v = 1) ∧ P v σ) : hg_G F nL X pc L [.int v] σ ρ := hg_zret hC hR hd h.1 ⟨h.2, rfl⟩
theorem hg_retv (hC : hg_C F nL d E cc own X) {P : hg_M → Prop} (hR : hg_Rnv F ρ P X) (hd : decode cc pc = .ok (.return_, 1)) (h : P σ) : hg_G F nL X pc L [] σ ρ := hg_vret hC hR hd ⟨h, rfl⟩
theorem hg_cVi (hC : hg_C F nL (d + 1) E cc own X) {index N na q ci mL : Nat} {C : String} {T : u_T} {y : MethodName} {bytes : ByteArray} {ret : Option FieldType} {As : (Nat → Nat) → List Value} {P : Int32 → hg_M → Prop}
    (hM : hg_Ni F E X.2.1 y bytes mL ret d (fun ad => .ref (ad q) :: As ad) ρ σ P) (hw : hg_Sv own index C y bytes mL ret na) (hd : decode cc pc = .ok (.invokevirtual index, 3)) (hq : q < F.1) (hk : F.2.1 q = (ci + 3, N)) (hc : vwCl[ci]? = some (C, T, N))
    (hna : (As (hg_ad X)).length = na) {rest : List Value} (hst : st = (As (hg_ad X)).reverse ++ .ref (hg_ad X q) :: rest) (hcat : (rest.map fun v => v.category).sum ≤ 8) {n : Nat} (hn : pc + 3 = n)
    (k : ∀ r σ1, P r σ1 → hg_G F nL X n L (.int r :: rest) σ1 ρ) : hg_G F nL X pc L st σ ρ :=
  hg_callVi hC hM hw hd hq hk hc hna hst hcat hn (fun r σ1 ρ1 h => by rw [h.2]; exact k r σ1 h.1)
theorem hg_cVv (hC : hg_C F nL (d + 1) E cc own X) {index N na q ci mL : Nat} {C : String} {T : u_T} {y : MethodName} {bytes : ByteArray} {As : (Nat → Nat) → List Value} {P : hg_M → Prop}
    (hM : hg_Nv F E X.2.1 y bytes mL d (fun ad => .ref (ad q) :: As ad) ρ σ P) (hw : hg_Sv own index C y bytes mL none na) (hd : decode cc pc = .ok (.invokevirtual index, 3)) (hq : q < F.1) (hk : F.2.1 q = (ci + 3, N)) (hc : vwCl[ci]? = some (C, T, N))
    (hna : (As (hg_ad X)).length = na) {rest : List Value} (hst : st = (As (hg_ad X)).reverse ++ .ref (hg_ad X q) :: rest) (hcat : (rest.map fun v => v.category).sum ≤ 8) {n : Nat} (hn : pc + 3 = n)
    (k : ∀ σ1, P σ1 → hg_G F nL X n L rest σ1 ρ) : hg_G F nL X pc L st σ ρ :=
  hg_callVv hC hM hw hd hq hk hc hna hst hcat hn (fun σ1 ρ1 h => by rw [h.2]; exact k σ1 h.1)
theorem hg_cSi (hC : hg_C F nL (d + 1) E cc own X) {index na mL : Nat} {y : MethodName} {bytes : ByteArray} {ret : Option FieldType} {As : (Nat → Nat) → List Value} {P : Int32 → hg_M → Prop}
    (hM : hg_Ni F E X.2.1 y bytes mL ret d As ρ σ P) (hw : hg_Ss own index y bytes mL ret na) (hd : decode cc pc = .ok (.invokestatic index, 3))
    (hna : (As (hg_ad X)).length = na) {rest : List Value} (hst : st = (As (hg_ad X)).reverse ++ rest) (hcat : (rest.map fun v => v.category).sum ≤ 8) {n : Nat} (hn : pc + 3 = n)
    (k : ∀ r σ1, P r σ1 → hg_G F nL X n L (.int r :: rest) σ1 ρ) : hg_G F nL X pc L st σ ρ :=
  hg_callSi hC hM hw hd hna hst hcat hn (fun r σ1 ρ1 h => by rw [h.2]; exact k r σ1 h.1)
theorem hg_cSv (hC : hg_C F nL (d + 1) E cc own X) {index na mL : Nat} {y : MethodName} {bytes : ByteArray} {As : (Nat → Nat) → List Value} {P : hg_M → Prop}
    (hM : hg_Nv F E X.2.1 y bytes mL d As ρ σ P) (hw : hg_Ss own index y bytes mL none na) (hd : decode cc pc = .ok (.invokestatic index, 3))
    (hna : (As (hg_ad X)).length = na) {rest : List Value} (hst : st = (As (hg_ad X)).reverse ++ rest) (hcat : (rest.map fun v => v.category).sum ≤ 8) {n : Nat} (hn : pc + 3 = n)
    (k : ∀ σ1, P σ1 → hg_G F nL X n L rest σ1 ρ) : hg_G F nL X pc L st σ ρ :=
  hg_callSv hC hM hw hd hna hst hcat hn (fun σ1 ρ1 h => by rw [h.2]; exact k σ1 h.1)
/-- a static call of a nest mate's private method -/
def hg_Sn (own : String) (index : Nat) (host : String) (y : MethodName) (bytes : ByteArray) (maxL : Nat) (ret : Option FieldType) (n : Nat) : Prop :=
  Cond.code y bytes maxL ret ∈ hg_tbl ∧ Cond.methodLinkNest own index y host ∈ hg_nws ∧ Cond.static y ∈ hg_tbl ∧ Cond.initialized y.cls ∈ hg_tbl ∧
  (y.cls ≠ "java/lang/invoke/MethodHandle" ∧ y.cls ≠ "java/lang/invoke/VarHandle" ∧ (parseMethodDescriptor y.desc).map (fun d => d.parameters.length) = some n) ∧ maxL ≤ 45
theorem hg_cNi (hC : hg_C F nL (d + 1) E cc own X) {index na mL : Nat} {host : String} {y : MethodName} {bytes : ByteArray} {ret : Option FieldType} {As : (Nat → Nat) → List Value} {P : Int32 → hg_M → Prop}
    (hM : hg_Ni F E X.2.1 y bytes mL ret d As ρ σ P) (hw : hg_Sn own index host y bytes mL ret na) (hd : decode cc pc = .ok (.invokestatic index, 3))
    (hna : (As (hg_ad X)).length = na) {rest : List Value} (hst : st = (As (hg_ad X)).reverse ++ rest) (hcat : (rest.map fun v => v.category).sum ≤ 8) {n : Nat} (hn : pc + 3 = n)
    (k : ∀ r σ1, P r σ1 → hg_G F nL X n L (.int r :: rest) σ1 ρ) : hg_G F nL X pc L st σ ρ := by
  obtain ⟨p, l, e, R, s, m, args, below, meth, c, D, A, cells, slots, Q, ad, t⟩ := X
  obtain ⟨⟨hx, hb⟩, hml, hown, hts, hK, hDd, hA, hlk, hRm, ⟨hz1, hz2⟩, hE, hEok⟩ := hC
  subst hz1; subst hz2; subst hn
  intro H locs ls hl hP hS
  have hfr := hg_free hDd hA hS
  refine va_calli (va_runSN (As := As ad) (rest := rest) (host := host) ⟨hx, hb, hml, hown, hts⟩ (hM D t ad H.size) ⟨va_cnB na hts (hg_goodC hw.1) rfl rfl rfl (hEok.2.2.2.1 A s s.heap hE _ hw.2.1) (hts _ hw.2.2.2.1) hw.2.2.2.2.1 (hg_roomc hRm hw.2.2.2.2.2), hts _ hw.2.2.1, trivial⟩ ⟨hg_blind hEok, hg_pre hEok hDd hA hS hK hP hE⟩ rfl hna hl.1 hst (lv_room hcat) hd ⟨Nat.zero_le _, Nat.zero_le _⟩) hS (fun q _ h => hfr q h) hfr (fun r u U H1 locs1 hU hvm hw1 hB hz1 hk1 hS1 => ?_)
  exact k r u.1 hw1.1 H1 locs1 ls hl (by rw [← hw1.2, ← hU]; exact hB) hS1
theorem hg_tout (hC : hg_C F nL d E cc own X) {dflt lo hi : Int} {offs : Array Int} {len : Nat} {x : Int32} {tg : Nat} (hd : decode cc pc = .ok (.tableswitch dflt lo hi offs, len)) (h : x.toInt < lo ∨ hi < x.toInt) (ht : (pc : Int) + dflt = (tg : Int)) (k : hg_G F nL X tg L st σ ρ) : hg_G F nL X pc L (.int x :: st) σ ρ := by
  obtain ⟨p, l, e, R, s, m, args, below, meth, c, D, A, cells, slots, Q, ad, t⟩ := X
  intro H locs ls hl hP hS
  exact lv_tableOut hC.1.1 hC.1.2 hd h ht (k H locs ls hl hP hS)
theorem hg_tin (hC : hg_C F nL d E cc own X) {dflt lo hi : Int} {offs : Array Int} {len : Nat} {x : Int32} {off z : Int} {tg : Nat} (hd : decode cc pc = .ok (.tableswitch dflt lo hi offs, len)) (h : x.toInt = z) (h1 : ¬ z < lo) (h2 : ¬ hi < z) (ho : offs[(z - lo).toNat]? = some off) (ht : (pc : Int) + off = (tg : Int)) (k : hg_G F nL X tg L st σ ρ) : hg_G F nL X pc L (.int x :: st) σ ρ := by
  obtain ⟨p, l, e, R, s, m, args, below, meth, c, D, A, cells, slots, Q, ad, t⟩ := X
  intro H locs ls hl hP hS
  subst h
  exact lv_tableIn hC.1.1 hC.1.2 hd h1 h2 ho ht (k H locs ls hl hP hS)
theorem hg_lku (hC : hg_C F nL d E cc own X) {dflt : Int} {ps : Array (Int × Int)} {len : Nat} {x : Int32} {off : Int} {tg : Nat} (hd : decode cc pc = .ok (.lookupswitch dflt ps, len)) (hp : (ps.toList.zip (ps.toList.drop 1)).all (fun (a, next) => a.1 < next.1) = true) (ho : Op.lookupswitch.offset ps.toList dflt x.toInt = off) (ht : (pc : Int) + off = (tg : Int)) (k : hg_G F nL X tg L st σ ρ) : hg_G F nL X pc L (.int x :: st) σ ρ := by
  obtain ⟨p, l, e, R, s, m, args, below, meth, c, D, A, cells, slots, Q, ad, t⟩ := X
  intro H locs ls hl hP hS
  exact lv_lookup hC.1.1 hC.1.2 hd hp ho ht (k H locs ls hl hP hS)
/-- a call of a method of a JDK object that stands outside of the family -/
theorem hg_cTi (hC : hg_C F nL (d + 1) E cc own X) {index na mL a : Nat} {C : String} {y : MethodName} {bytes : ByteArray} {ret : Option FieldType} {As : (Nat → Nat) → List Value} {P : Int32 → hg_M → Prop}
    (hz : ∀ A U H, E A U H → va_O C a A U H)
    (hM : hg_Ni F E X.2.1 y bytes mL ret d (fun ad => .ref a :: As ad) ρ σ P) (hw : hg_Sv own index C y bytes mL ret na) (hd : decode cc pc = .ok (.invokevirtual index, 3))
    (hna : (As (hg_ad X)).length = na) {rest : List Value} (hst : st = (As (hg_ad X)).reverse ++ .ref a :: rest) (hcat : (rest.map fun v => v.category).sum ≤ 8) {n : Nat} (hn : pc + 3 = n)
    (k : ∀ r σ1, P r σ1 → hg_G F nL X n L (.int r :: rest) σ1 ρ) : hg_G F nL X pc L st σ ρ := by
  obtain ⟨p, l, e, R, s, m, args, below, meth, c, D, A, cells, slots, Q, ad, t⟩ := X
  obtain ⟨⟨hx, hb⟩, hml, hown, hts, hK, hDd, hA, hlk, hRm, ⟨hz1, hz2⟩, hE, hEok⟩ := hC
  subst hz1; subst hz2; subst hn
  intro H locs ls hl hP hS
  have hfr := hg_free hDd hA hS
  have hrc : ∃ cell : Cell, H[a]? = some cell ∧ cell.vm.isStatics = false ∧ s.vm.findClass C = some cell.cls := by
    obtain ⟨cell, h1, h2, h3, -⟩ := (hz _ _ _ hE).kept hS.2.1
    exact ⟨cell, h1, h2, h3⟩
  refine va_calli (va_runV (As := As ad) (rest := rest) (C := C) ⟨hx, hb, hml, hown, hts⟩ (hM D t ad H.size) (cwV na hts (hg_goodW hw) rfl rfl rfl hw.2.2.2.2.2.1 (hg_roomc hRm hw.2.2.2.2.2.2)) ⟨hg_blind hEok, hrc, hg_pre hEok hDd hA hS hK hP hE⟩ rfl hna hl.1 hst (lv_room hcat) hd ⟨Nat.zero_le _, Nat.zero_le _⟩) hS (fun q _ h => hfr q h) hfr (fun r u U H1 locs1 hU hvm hw1 hB hz1 hk1 hS1 => ?_)
  exact k r u.1 hw1.1 H1 locs1 ls hl (by rw [← hw1.2, ← hU]; exact hB) hS1
theorem hg_rett (hC : hg_C F nL d E cc own X) {ty : FieldType} {P : Int32 → hg_M → Prop} (hR : hg_Rni F (some ty) ρ P X) {v : Int32} (hnw : narrow ty (.int v) = .int v) (hd : decode cc pc = .ok (.ireturn, 1)) (h : P v σ) : hg_G F nL X pc L [.int v] σ ρ := by
  obtain ⟨p, l, e, R, s, m, args, below, meth, c, D, A, cells, slots, Q, ad, t⟩ := X
  obtain ⟨⟨hx, hb⟩, hml, hown, hts, hK, hDd, hA, hlk, hRm, ⟨hz1, hz2⟩, hE, hEok⟩ := hC
  obtain ⟨hAe, hQ, hr⟩ := hR
  subst hAe; subst hQ; subst hz1; subst hz2
  intro H locs ls hl hP hS
  exact W.zret (v := v) hx hb hr hnw (fun U hU hW => ⟨⟨v, (σ, ρ), rfl, ⟨h, rfl⟩, by rw [hg_Bq, hU]; exact hP⟩, hS.F hU⟩) hS.2.2 hd
end HGN
