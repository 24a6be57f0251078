/-! THE LAW'S CALLS: a helper's world is the class's cells and the long[1] 'out'; the law's world has the reference's cells beside. -/
abbrev hj_o (tl : ClassId) (o : Nat) (f : Nat → Int64) : va_W := [(o, .inl (tl, 1, .inr (.inl f)))]
def hj_A (ad : Nat → Nat) (o sz : Nat) : Nat → Prop := fun q => hg_A hg_FC ad sz q ∨ q = o
abbrev hj_tys (t : hg_T) (tl : ClassId) : List (ClassId × FieldType) := hg_tys t ++ [(tl, .long)]
def hj_Pc (E : hg_Et) (D : va_G) (t : hg_T) (tl : ClassId) (ad : Nat → Nat) (o sz : Nat) (vs : List Value) (σ : hg_M) : Array Value → State → Prop :=
  va_Pc vs (fun U => U.heap.size = sz ∧ va_P D vwCl (hg_ws hg_FC t ad σ hg_rC) U.heap ∧ (∃ f, va_P D vwCl (hj_o tl o f) U.heap) ∧ va_K D vwCl (hj_tys t tl) U ∧ hg_Dd hg_FC ad (fun _ => True) ∧ (∀ i, i < hg_FC.1 → ad i ≠ o) ∧ E (hj_A ad o sz) U U.heap)
abbrev hj_Q (D : va_G) (t : hg_T) (tl : ClassId) (ad : Nat → Nat) (o sz : Nat) (post : Int32 → hg_M → Prop) : Array Value → State → Outcome → State → Prop :=
  va_Qi (S := hg_M) post (fun σ U => va_P D vwCl (hg_ws hg_FC t ad σ hg_rC) U.heap ∧ ∃ f, va_P D vwCl (hj_o tl o f) U.heap) (hj_A ad o sz)
/-- a helper's contract -/
def hj_H (E : hg_Et) (l : Launch) (y : MethodName) (cc : ByteArray) (nL : Nat) (hh : List (Nat × Nat × Nat × Nat)) (d : Nat) (vs : Nat → Nat → List Value) (σ : hg_M) (post : Int32 → hg_M → Prop) : Prop :=
  ∀ (D : va_G) (t : hg_T) (tl : ClassId) (ad : Nat → Nat) (o sz : Nat), Met l y (Cond.codeWith y cc nL (some .int) hh :: hg_tbl) (hg_rmx d) (hj_Pc E D t tl ad o sz (vs (ad 0) o) σ) (hj_Q D t tl ad o sz post) 1 6 (hj_A ad o sz)
theorem hj_blind {E : hg_Et} (hE : hg_Eok E) {D : va_G} {t : hg_T} {tl : ClassId} {ad : Nat → Nat} {o sz : Nat} {vs : List Value} {σ : hg_M} : FrameBlind (hj_Pc E D t tl ad o sz vs σ) := by
  intro a U g mk q
  obtain ⟨q0, q1, qP, qO, qK, qD, qn, qE⟩ := q
  exact ⟨q0, q1, qP, qO, va_K.moved (u := U) (U := U.calling g mk a) (Vm.Alike.refl U.vm) qK, qD, qn, hE.1.1 _ U (U.calling g mk a) _ rfl qE⟩
theorem hj_K {D : va_G} {t : hg_T} {tl : ClassId} {U : State} (h : va_K D vwCl (hj_tys t tl) U) : va_K D vwCl (hg_tys t) U := h.sub [0, 1, 2] rfl
/-- a world whose cells lie outside of what was changed stays -/
theorem hj_keep {F : hg_F} {D : va_G} {t : hg_T} {ad : Nat → Nat} {σ : hg_M} {ρ : hg_R} {H H1 : Heap} {A1 : Nat → Prop} (h : va_P D vwCl (hg_ws F t ad σ ρ) H) (hk : ∀ q : Nat, q < H.size → ¬ A1 q → H1[q]? = H[q]?) (hn : ∀ i, i < F.1 → ¬ A1 (ad i)) : va_P D vwCl (hg_ws F t ad σ ρ) H1 := by
  intro k q hq
  by_cases hl : k < F.1
  · rw [hg_at hl] at hq
    cases hq
    have h1 := h k _ (hg_at hl)
    exact h1.kept (hk _ h1.lt (hn k hl))
  · rw [hg_no hl] at hq
    cases hq
theorem hj_keepo {D : va_G} {tl : ClassId} {o : Nat} {f : Nat → Int64} {H H1 : Heap} {A1 : Nat → Prop} (h : va_P D vwCl (hj_o tl o f) H) (hk : ∀ q : Nat, q < H.size → ¬ A1 q → H1[q]? = H[q]?) (hn : ¬ A1 o) : va_P D vwCl (hj_o tl o f) H1 := by
  intro k q hq
  have hz : k < 1 := (List.getElem?_eq_some_iff.mp hq).1
  obtain rfl : k = 0 := by omega
  cases hq
  have h1 := h 0 _ rfl
  exact h1.kept (hk _ h1.lt hn)
theorem hj_adlt {F : hg_F} {D : va_G} {t : hg_T} {ad : Nat → Nat} {σ : hg_M} {ρ : hg_R} {H : Heap} (h : va_P D vwCl (hg_ws F t ad σ ρ) H) {i : Nat} (hi : i < F.1) : ad i < H.size := (h i _ (hg_at hi)).lt
theorem hj_olt {D : va_G} {tl : ClassId} {o : Nat} {f : Nat → Int64} {H : Heap} (h : va_P D vwCl (hj_o tl o f) H) : o < H.size := (h 0 _ rfl).lt
section HJ
variable {p : Program} {l : Launch} {e : Env} {R : Room} {s : State} {m : MethodId} {args : Array Value} {below : List Frame} {meth : Method} {c : Code} {H : Heap} {locs : List Loc} {cells slots : Nat} {Q : State → Prop}
variable {cc : ByteArray} {nL pc : Nat} {ls : Array Slot} {D : va_G} {t : hg_T} {tl : ClassId} {ad : Nat → Nat} {o : Nat} {A : Nat → Prop} {E : hg_Et} {own : String} {σ : hg_M} {rest st0 : List Value}
/-- a helper calls the class's method, which returns an int or throws -/
theorem hj_xi (S : CallFix p m c cc nL s args hg_tbl own) (hK : va_K D vwCl (hg_tys t) s) (hDd : hg_Dd hg_FC ad A) (hA : ∀ q, s.heap.size ≤ q → A q) (hE : E A s s.heap) (hEok : hg_Eok E)
    {index na mL d : Nat} {y : MethodName} {bytes : ByteArray} {As : List Value} {P : Int32 → hg_M → Prop} {PX : String → hg_M → Prop} (hM : hg_Txi hg_FC E l y bytes mL (some .int) d (fun ad => .ref (ad 0) :: As) hg_rC σ P PX)
    (hw : hg_Sv own index RX5 y bytes mL (some .int) na) (hd : decode cc pc = .ok (.invokevirtual index, 3)) (hna : As.length = na) (hst : st0 = As.reverse ++ .ref (ad 0) :: rest) (hcat : (rest.map fun v => v.category).sum ≤ 8) (hsz : ls.size = nL)
    (hR : R.frames = d + 1 ∧ R.locals = 64 * (d + 1)) (hR2 : cells + 1 ≤ R.cells ∧ slots + 6 ≤ R.slots) (hP : va_P D vwCl (hg_ws hg_FC t ad σ hg_rC) H) (hS : va_S A s.heap H locs)
    (kx : ∀ (Ec : String) (ce : Cell) (q9 : Addr) (σ1 : hg_M) (H1 : Heap) (locs1 : List Loc), PX Ec σ1 → va_P D vwCl (hg_ws hg_FC t ad σ1 hg_rC) H1 → (∀ q : Nat, q < H.size → ¬ hg_A hg_FC ad H.size q → H1[q]? = H[q]?) → va_S A s.heap H1 locs1 → H1[q9]? = some ce → ce.vm = .none → s.vm.findClass Ec = some ce.cls → vx_W p l e R s m args below meth c H1 locs1 (cells + 1) (slots + 6) Q (F0 m pc ls rest) q9)
    (kk : ∀ (r : Int32) (σ1 : hg_M) (H1 : Heap) (locs1 : List Loc), P r σ1 → va_P D vwCl (hg_ws hg_FC t ad σ1 hg_rC) H1 → (∀ q : Nat, q < H.size → ¬ hg_A hg_FC ad H.size q → H1[q]? = H[q]?) → va_S A s.heap H1 locs1 → W p l e R s m args below meth c H1 locs1 (cells + 1) (slots + 6) Q (F0 m (pc + 3) ls (.int r :: rest))) : W p l e R s m args below meth c H locs cells slots Q (F0 m pc ls st0) := by
  have hfr := hg_free hDd hA hS
  refine vx_calli (vx_runV (As := As) (rest := rest) (C := RX5) S (hM D t ad H.size) (cwV na S.2.2.2.2 (hg_goodW hw) rfl rfl rfl hw.2.2.2.2.2.1 (hg_roomc hR hw.2.2.2.2.2.2)) ⟨hg_blind hEok, va_recv hK hP c_5 ((hg_at qC_0).trans (by rw [hg_cell3 kC_0])), hg_pre hEok hDd hA hS hK hP hE⟩ rfl hna hsz hst (lv_room hcat) hd hR2) hS (fun q _ h => hfr q h) hfr (fun q _ h => hfr q h) (fun Ec ce q9 u U H1 locs1 hU hvm _ hB hz1 hk1 hS1 h7 h8 h9 => ?_) (fun r u U H1 locs1 hU hvm hw1 hB hz1 hk1 hS1 => ?_)
  · exact kx Ec ce q9 u.1 H1 locs1 hB.1 (by rw [← hB.2.1, ← hU]; exact hB.2.2) hk1 hS1 h7 h8 h9
  · exact kk r u.1 H1 locs1 hw1.1 (by rw [← hw1.2, ← hU]; exact hB) hk1 hS1
theorem hj_xv (S : CallFix p m c cc nL s args hg_tbl own) (hK : va_K D vwCl (hg_tys t) s) (hDd : hg_Dd hg_FC ad A) (hA : ∀ q, s.heap.size ≤ q → A q) (hE : E A s s.heap) (hEok : hg_Eok E)
    {index na mL d : Nat} {y : MethodName} {bytes : ByteArray} {As : List Value} {P : hg_M → Prop} {PX : String → hg_M → Prop} (hM : hg_Txv hg_FC E l y bytes mL d (fun ad => .ref (ad 0) :: As) hg_rC σ P PX)
    (hw : hg_Sv own index RX5 y bytes mL none na) (hd : decode cc pc = .ok (.invokevirtual index, 3)) (hna : As.length = na) (hst : st0 = As.reverse ++ .ref (ad 0) :: rest) (hcat : (rest.map fun v => v.category).sum ≤ 8) (hsz : ls.size = nL)
    (hR : R.frames = d + 1 ∧ R.locals = 64 * (d + 1)) (hR2 : cells + 1 ≤ R.cells ∧ slots + 6 ≤ R.slots) (hP : va_P D vwCl (hg_ws hg_FC t ad σ hg_rC) H) (hS : va_S A s.heap H locs)
    (kx : ∀ (Ec : String) (ce : Cell) (q9 : Addr) (σ1 : hg_M) (H1 : Heap) (locs1 : List Loc), PX Ec σ1 → va_P D vwCl (hg_ws hg_FC t ad σ1 hg_rC) H1 → (∀ q : Nat, q < H.size → ¬ hg_A hg_FC ad H.size q → H1[q]? = H[q]?) → va_S A s.heap H1 locs1 → H1[q9]? = some ce → ce.vm = .none → s.vm.findClass Ec = some ce.cls → vx_W p l e R s m args below meth c H1 locs1 (cells + 1) (slots + 6) Q (F0 m pc ls rest) q9)
    (kk : ∀ (σ1 : hg_M) (H1 : Heap) (locs1 : List Loc), P σ1 → va_P D vwCl (hg_ws hg_FC t ad σ1 hg_rC) H1 → (∀ q : Nat, q < H.size → ¬ hg_A hg_FC ad H.size q → H1[q]? = H[q]?) → va_S A s.heap H1 locs1 → W p l e R s m args below meth c H1 locs1 (cells + 1) (slots + 6) Q (F0 m (pc + 3) ls rest)) : W p l e R s m args below meth c H locs cells slots Q (F0 m pc ls st0) := by
  have hfr := hg_free hDd hA hS
  refine vx_callv (vx_runV (As := As) (rest := rest) (C := RX5) S (hM D t ad H.size) (cwV na S.2.2.2.2 (hg_goodW hw) rfl rfl rfl hw.2.2.2.2.2.1 (hg_roomc hR hw.2.2.2.2.2.2)) ⟨hg_blind hEok, va_recv hK hP c_5 ((hg_at qC_0).trans (by rw [hg_cell3 kC_0])), hg_pre hEok hDd hA hS hK hP hE⟩ rfl hna hsz hst (lv_room hcat) hd hR2) hS (fun q _ h => hfr q h) hfr (fun q _ h => hfr q h) (fun Ec ce q9 u U H1 locs1 hU hvm _ hB hz1 hk1 hS1 h7 h8 h9 => ?_) (fun u U H1 locs1 hU hvm hw1 hB hz1 hk1 hS1 => ?_)
  · exact kx Ec ce q9 u.1 H1 locs1 hB.1 (by rw [← hB.2.1, ← hU]; exact hB.2.2) hk1 hS1 h7 h8 h9
  · exact kk u.1 H1 locs1 hw1.1 (by rw [← hw1.2, ← hU]; exact hB) hk1 hS1
/-- out[0] = x -/
theorem hj_last (hx : p.tables.exec = Jvm.exec) (hb : c.code = cc) (hK : va_K D vwCl (hj_tys t tl) s) (hP : va_P D vwCl (hg_ws hg_FC t ad σ hg_rC) H) {f : Nat → Int64} (hO : va_P D vwCl (hj_o tl o f) H) (hDd : hg_Dd hg_FC ad A) (ho : A o) (hne : ∀ i, i < hg_FC.1 → ad i ≠ o) {H0 : Heap} (hS : va_S A H0 H locs) {x : Int64} (hd : decode cc pc = .ok (.lastore, 1))
    (kk : ∀ (H1 : Heap) (locs1 : List Loc) (f1 : Nat → Int64), va_P D vwCl (hg_ws hg_FC t ad σ hg_rC) H1 → va_P D vwCl (hj_o tl o f1) H1 → va_S A H0 H1 locs1 → W p l e R s m args below meth c H1 locs1 cells slots Q (F0 m (pc + 1) ls rest)) : W p l e R s m args below meth c H locs cells slots Q (F0 m pc ls (.long x :: .int 0 :: .ref o :: rest)) := by
  have hlen : (hg_ws hg_FC t ad σ hg_rC).length = 57 := by unfold hg_ws; rw [List.length_map, List.length_range]; rfl
  have hDo : va_D A (hj_o tl o f) := by
    refine ⟨fun i j x y h1 h2 _ => ?_, fun k q hq => ?_⟩
    · have := (List.getElem?_eq_some_iff.mp h1).1
      have := (List.getElem?_eq_some_iff.mp h2).1
      simp at *
      omega
    · have hz : k < 1 := (List.getElem?_eq_some_iff.mp hq).1
      obtain rfl : k = 0 := by omega
      cases hq
      exact ho
  have hDD : va_D A (hg_ws hg_FC t ad σ hg_rC ++ hj_o tl o f) := by
    refine va_D.app (hDd.va t σ hg_rC) hDo (fun i j x y h1 h2 e9 => ?_)
    have hz : j < 1 := (List.getElem?_eq_some_iff.mp h2).1
    obtain rfl : j = 0 := by omega
    cases h2
    by_cases hl : i < hg_FC.1
    · rw [hg_at hl] at h1
      cases h1
      exact hne i hl e9
    · rw [hg_no hl] at h1
      cases h1
  have ha : (hg_ws hg_FC t ad σ hg_rC ++ hj_o tl o f)[57]? = some (o, .inl (tl, 1, .inr (.inl f))) := by
    rw [List.getElem?_append_right (by omega), hlen]
    rfl
  refine va_last hx hb hK (hP.app hO) hDD hS 57 3 ha rfl (i := 0) (by unfold vp_in; decide) hd (fun H1 locs1 hP1 hD1 hS1 => ?_)
  refine kk H1 locs1 (vp_updL f (Int32.toNatClampNeg 0) x) (fun k q hk => hP1 k q ?_) (fun k q hk => hP1 57 q ?_) hS1
  · have hk9 : k < 57 := by
      have := (List.getElem?_eq_some_iff.mp hk).1
      omega
    rw [List.getElem?_set_ne (by omega), List.getElem?_append_left (by omega)]
    exact hk
  · have hz : k < 1 := (List.getElem?_eq_some_iff.mp hk).1
    obtain rfl : k = 0 := by omega
    cases hk
    rw [List.getElem?_set_self (by simp [hlen])]
end HJ
theorem hj_roomc {R : Room} {d mL : Nat} (hR : d + 1 ≤ R.frames ∧ 64 * (d + 1) ≤ R.locals) (h : mL ≤ 45) : d + 1 ≤ R.frames ∧ 8 + (mL + 11) + 64 * d ≤ R.locals := ⟨hR.1, by have := hR.2; omega⟩
/-- what the tables say of a call of a helper -/
def hj_Sh (own : String) (index : Nat) (y : MethodName) (bytes : ByteArray) (maxL : Nat) (hh : List (Nat × Nat × Nat × Nat)) (n : Nat) : Prop :=
  Cond.codeWith y bytes maxL (some .int) hh ∈ hg_tbl ∧ Cond.methodLink own index y ∈ hg_tbl ∧ Cond.static y ∈ hg_tbl ∧ Cond.initialized y.cls ∈ hg_tbl ∧
  (y.cls ≠ "java/lang/invoke/MethodHandle" ∧ y.cls ≠ "java/lang/invoke/VarHandle" ∧ (parseMethodDescriptor y.desc).map (fun d => d.parameters.length) = some n) ∧ maxL ≤ 45
theorem hj_goodS {own : String} {index maxL n : Nat} {y : MethodName} {bytes : ByteArray} {hh : List (Nat × Nat × Nat × Nat)} (h : hj_Sh own index y bytes maxL hh n) : GoodIn hg_tbl (va_wsS own index y (Cond.codeWith y bytes maxL (some .int) hh :: hg_tbl)) := by
  obtain ⟨h1, h2, h3, h4, -, -⟩ := h
  intro w hw
  simp only [va_wsS, List.mem_append, List.mem_cons, List.not_mem_nil, or_false] at hw
  rcases hw with (rfl | rfl | rfl) | rfl | hw
  · exact hg_good h2
  · exact hg_good h3
  · exact hg_good h4
  · exact hg_good h1
  · exact hg_good hw
section HJL
variable {p : Program} {l : Launch} {e : Env} {R : Room} {s : State} {m : MethodId} {args : Array Value} {below : List Frame} {meth : Method} {c : Code} {H : Heap} {locs : List Loc} {cells slots : Nat} {Q : State → Prop}
variable {cc : ByteArray} {nL pc : Nat} {ls : Array Slot} {D : va_G} {t : hg_T} {tl : ClassId} {ad : Nat → Nat} {o : Nat} {A : Nat → Prop} {E : hg_Et} {own : String} {σ : hg_M} {ρ : hg_R} {F : hg_F} {rest st0 : List Value}
theorem hj_freeo (hDd : hg_Dd hg_FC ad A) (hA : ∀ q, s.heap.size ≤ q → A q) (ho : A o) (hS : va_S A s.heap H locs) : ∀ q, hj_A ad o H.size q → A q := by
  rintro q (h | rfl)
  · exact hg_free hDd hA hS q h
  · exact ho
/-- the law calls a helper -/
theorem hj_callH (S : CallFix p m c cc nL s args hg_tbl own) (hK : va_K D vwCl (hj_tys t tl) s) (hDd : hg_Dd hg_FC ad A) (hA : ∀ q, s.heap.size ≤ q → A q) (hE : E A s s.heap) (hEok : hg_Eok E) (ho : A o) (hne : ∀ i, i < hg_FC.1 → ad i ≠ o)
    {index na mL d : Nat} {y : MethodName} {bytes : ByteArray} {hh : List (Nat × Nat × Nat × Nat)} {vs : Nat → Nat → List Value} {post : Int32 → hg_M → Prop} (hM : hj_H E l y bytes mL hh d vs σ post)
    (hw : hj_Sh own index y bytes mL hh na) (hd : decode cc pc = .ok (.invokestatic index, 3)) (hna : (vs (ad 0) o).length = na) (hst : st0 = (vs (ad 0) o).reverse ++ rest) (hcat : (rest.map fun v => v.category).sum ≤ 8) (hsz : ls.size = nL)
    (hR : d + 1 ≤ R.frames ∧ 64 * (d + 1) ≤ R.locals) (hR2 : cells + 1 ≤ R.cells ∧ slots + 6 ≤ R.slots) (hP : va_P D vwCl (hg_ws hg_FC t ad σ hg_rC) H) (hO : ∃ f, va_P D vwCl (hj_o tl o f) H) (hS : va_S A s.heap H locs)
    (kk : ∀ (r : Int32) (σ1 : hg_M) (H1 : Heap) (locs1 : List Loc), post r σ1 → va_P D vwCl (hg_ws hg_FC t ad σ1 hg_rC) H1 → (∃ f, va_P D vwCl (hj_o tl o f) H1) → (∀ q : Nat, q < H.size → ¬ hj_A ad o H.size q → H1[q]? = H[q]?) → va_S A s.heap H1 locs1 → W p l e R s m args below meth c H1 locs1 (cells + 1) (slots + 6) Q (F0 m (pc + 3) ls (.int r :: rest))) : W p l e R s m args below meth c H locs cells slots Q (F0 m pc ls st0) := by
  have hfr := hj_freeo hDd hA ho hS
  refine va_calli (vx_runSW (As := vs (ad 0) o) (rest := rest) S (hM D t tl ad o H.size) (vx_cwSW na S.2.2.2.2 (hj_goodS hw) rfl rfl rfl hw.2.2.2.2.1 (hj_roomc hR hw.2.2.2.2.2)) ⟨hj_blind hEok, fun U hU hW => ⟨rfl, by rw [hU], by rw [hU]; exact hP, by rw [hU]; exact hO, va_K.moved hW.alike hK, ⟨hDd.1, fun _ _ => trivial⟩, hne, hEok.1.2 _ s U _ hW (by
    rw [hU]
    exact hEok.2.2.1 A _ s H (hEok.2.1 A s s.heap H hE (fun a h1 h2 => hS.2.1 a h1 h2)) hfr)⟩⟩ rfl hna hsz hst (lv_room hcat) hd hR2) hS (fun q _ h => hfr q h) hfr (fun r u U H1 locs1 hU hvm hw1 hB hz1 hk1 hS1 => ?_)
  exact kk r u H1 locs1 hw1 (by rw [← hU]; exact hB.1) (by rw [← hU]; exact hB.2) hk1 hS1
/-- the law calls a method of a family's first object that answers an int -/
theorem hj_callFi (S : CallFix p m c cc nL s args hg_tbl own) (hK : va_K D vwCl (hg_tys t) s) (hDd : hg_Dd F ad A) (hA : ∀ q, s.heap.size ≤ q → A q) (hE : E A s s.heap) (hEok : hg_Eok E)
    {index na mL d ci N : Nat} {C : String} {T : u_T} {y : MethodName} {bytes : ByteArray} {ret : Option FieldType} {As : List Value} {post : Int32 → hg_M → hg_R → Prop} (hM : hg_Mi F E l y bytes mL ret d (fun ad => .ref (ad 0) :: As) σ ρ post)
    (hw : hg_Sv own index C y bytes mL ret na) (hd : decode cc pc = .ok (.invokevirtual index, 3)) (hq : 0 < F.1) (hk : F.2.1 0 = (ci + 3, N)) (hc : vwCl[ci]? = some (C, T, N)) (hna : As.length = na) (hst : st0 = As.reverse ++ .ref (ad 0) :: rest) (hcat : (rest.map fun v => v.category).sum ≤ 8) (hsz : ls.size = nL)
    (hR : d + 1 ≤ R.frames ∧ 64 * (d + 1) ≤ R.locals) (hR2 : cells ≤ R.cells ∧ slots ≤ R.slots) (hP : va_P D vwCl (hg_ws F t ad σ ρ) H) (hS : va_S A s.heap H locs)
    (kk : ∀ (r : Int32) (σ1 : hg_M) (ρ1 : hg_R) (H1 : Heap) (locs1 : List Loc), post r σ1 ρ1 → va_P D vwCl (hg_ws F t ad σ1 ρ1) H1 → (∀ q : Nat, q < H.size → ¬ hg_A F ad H.size q → H1[q]? = H[q]?) → va_S A s.heap H1 locs1 → W p l e R s m args below meth c H1 locs1 cells slots Q (F0 m (pc + 3) ls (.int r :: rest))) : W p l e R s m args below meth c H locs cells slots Q (F0 m pc ls st0) := by
  have hfr := hg_free hDd hA hS
  refine va_calli (va_runV (As := As) (rest := rest) (C := C) S (hM D t ad H.size) (cwV na S.2.2.2.2 (hg_goodW hw) rfl rfl rfl hw.2.2.2.2.2.1 (hj_roomc hR hw.2.2.2.2.2.2)) ⟨hg_blind hEok, va_recv hK hP hc ((hg_at hq).trans (by rw [hg_cell3 hk])), hg_pre hEok hDd hA hS hK hP hE⟩ rfl hna hsz hst (lv_room hcat) hd ⟨hR2.1, hR2.2⟩) hS (fun q _ h => hfr q h) hfr (fun r u U H1 locs1 hU hvm hw1 hB hz1 hk1 hS1 => ?_)
  exact kk r u.1 u.2 H1 locs1 hw1 (by rw [← hU]; exact hB) hk1 hS1
theorem hj_callFv (S : CallFix p m c cc nL s args hg_tbl own) (hK : va_K D vwCl (hg_tys t) s) (hDd : hg_Dd F ad A) (hA : ∀ q, s.heap.size ≤ q → A q) (hE : E A s s.heap) (hEok : hg_Eok E)
    {index na mL d ci N : Nat} {C : String} {T : u_T} {y : MethodName} {bytes : ByteArray} {As : List Value} {post : hg_M → hg_R → Prop} (hM : hg_Mv F E l y bytes mL d (fun ad => .ref (ad 0) :: As) σ ρ post)
    (hw : hg_Sv own index C y bytes mL none na) (hd : decode cc pc = .ok (.invokevirtual index, 3)) (hq : 0 < F.1) (hk : F.2.1 0 = (ci + 3, N)) (hc : vwCl[ci]? = some (C, T, N)) (hna : As.length = na) (hst : st0 = As.reverse ++ .ref (ad 0) :: rest) (hcat : (rest.map fun v => v.category).sum ≤ 8) (hsz : ls.size = nL)
    (hR : d + 1 ≤ R.frames ∧ 64 * (d + 1) ≤ R.locals) (hR2 : cells ≤ R.cells ∧ slots ≤ R.slots) (hP : va_P D vwCl (hg_ws F t ad σ ρ) H) (hS : va_S A s.heap H locs)
    (kk : ∀ (σ1 : hg_M) (ρ1 : hg_R) (H1 : Heap) (locs1 : List Loc), post σ1 ρ1 → va_P D vwCl (hg_ws F t ad σ1 ρ1) H1 → (∀ q : Nat, q < H.size → ¬ hg_A F ad H.size q → H1[q]? = H[q]?) → va_S A s.heap H1 locs1 → W p l e R s m args below meth c H1 locs1 cells slots Q (F0 m (pc + 3) ls rest)) : W p l e R s m args below meth c H locs cells slots Q (F0 m pc ls st0) := by
  have hfr := hg_free hDd hA hS
  refine va_callv (va_runV (As := As) (rest := rest) (C := C) S (hM D t ad H.size) (cwV na S.2.2.2.2 (hg_goodW hw) rfl rfl rfl hw.2.2.2.2.2.1 (hj_roomc hR hw.2.2.2.2.2.2)) ⟨hg_blind hEok, va_recv hK hP hc ((hg_at hq).trans (by rw [hg_cell3 hk])), hg_pre hEok hDd hA hS hK hP hE⟩ rfl hna hsz hst (lv_room hcat) hd ⟨hR2.1, hR2.2⟩) hS (fun q _ h => hfr q h) hfr (fun u U H1 locs1 hU hvm hw1 hB hz1 hk1 hS1 => ?_)
  exact kk u.1 u.2 H1 locs1 hw1 (by rw [← hU]; exact hB) hk1 hS1
end HJL
