/-! CONSTRUCTORS: cells that are made. -/
abbrev hi_I (t : hg_T) (a n : Nat) : Nat × va_E := (a, .inl (t.1, n, .inl (fun _ => 0)))
abbrev hi_Z (t : hg_T) (a n : Nat) : Nat × va_E := (a, .inl (t.2.1, n, .inl (fun _ => 0)))
abbrev hi_R (t : hg_T) (a n : Nat) (r : Nat → Nat) : Nat × va_E := (a, .inl (t.2.2, n, .inr (.inr (.inr (.inr (fun i => some (r i)))))))
def hi_rm (d mc ms : Nat) : Room := { frames := d, cells := mc, slots := ms, locals := 64 * d }
def hi_Pc (D : va_G) (t : hg_T) (h0 sz ci : Nat) (df : List Value) : Array Value → State → Prop := va_Pc [.ref h0] (fun U => U.heap.size = sz ∧ va_P D vwCl [(h0, .inr (ci, df))] U.heap ∧ va_K D vwCl (hg_tys t) U ∧ va_AOA .int U ∧ ∀ w ∈ hg_nws, va_Nw w U)
abbrev hi_Q (D : va_G) (t : hg_T) (h0 sz ci : Nat) (df : List Value) (w : hg_T → (Nat → Nat) → va_W) : Array Value → State → Outcome → State → Prop := va_Qv (S := Nat → Nat) (fun a => a 0 = h0) (fun a U => va_P D vwCl (w t a) U.heap ∧ va_D (va_A [(h0, .inr (ci, df))] sz) (w t a)) (va_A [(h0, .inr (ci, df))] sz)
/-- a constructor's contract -/
def hi_C (l : Launch) (y : MethodName) (cc : ByteArray) (ci : Nat) (df : List Value) (d mc ms : Nat) (w : hg_T → (Nat → Nat) → va_W) : Prop :=
  ∀ (D : va_G) (t : hg_T) (h0 sz : Nat), Met l y (Cond.code y cc 1 none :: hg_tbl) (hi_rm d mc ms) (hi_Pc D t h0 sz ci df) (hi_Q D t h0 sz ci df w) mc ms (va_A [(h0, .inr (ci, df))] sz)
theorem arrV_congr {c : ClassId} {n : Nat} {f g : Nat → Value} (h : ∀ j, j < n → f j = g j) : arrV c n f = arrV c n g := by
  unfold arrV
  congr 2
  funext j
  exact h j.1 j.2
theorem hi_D1 {A : Nat → Prop} {a : Nat} {e : va_E} (h : A a) : va_D A [(a, e)] := by
  refine ⟨fun i j x y h1 h2 _ => ?_, fun k q hq => ?_⟩
  · have a1 := (List.getElem?_eq_some_iff.mp h1).1
    have a2 := (List.getElem?_eq_some_iff.mp h2).1
    simp at a1 a2
    omega
  · have hz : k < 1 := (List.getElem?_eq_some_iff.mp hq).1
    obtain rfl : k = 0 := by omega
    cases hq
    exact h
/-- the two lists say the same of each address -/
theorem hi_conv {D : va_G} {ws ws' : va_W} {H : Heap} (h : va_P D vwCl ws H) (hl : ws'.length = ws.length) (hh : ∀ (k : Nat) (x y : Nat × va_E), ws[k]? = some x → ws'[k]? = some y → va_at D vwCl x H → va_at D vwCl y H) : va_P D vwCl ws' H := by
  intro k y hk
  have hlt : k < ws.length := by rw [← hl]; exact (List.getElem?_eq_some_iff.mp hk).1
  exact hh k _ y (List.getElem?_eq_getElem hlt) hk (h k _ (List.getElem?_eq_getElem hlt))
section HI
variable {p : Program} {l : Launch} {e : Env} {R : Room} {s : State} {m : MethodId} {args : Array Value} {below : List Frame} {meth : Method} {c : Code} {H : Heap} {locs : List Loc} {cells slots : Nat} {Q : State → Prop}
variable {cc : ByteArray} {pc : Nat} {ls : Array Slot} {D : va_G} {t : hg_T} {A : Nat → Prop} {own : String} {rest : List Value} {ws : va_W} {H0 : Heap}
theorem hi_newi (hx : p.tables.exec = Jvm.exec) (hb : c.code = cc) (harr : (Cond.arrayClass .int).before args s = true) (hK : va_K D vwCl (hg_tys t) s) (hP : va_P D vwCl ws H) (hD : va_D A ws) (hS : va_S A H0 H locs) (hA : ∀ q, H0.size ≤ q → A q)
    {n : Int32} {N : Nat} (hn : ¬ n < 0) (hN : n.toNatClampNeg = N) (hby : N * componentBytes .int ≤ 536870912) (hc : cells + 1 ≤ R.cells) (hs : slots + N ≤ R.slots) (hd : decode cc pc = .ok (.newarray .int, 2))
    (kk : ∀ (q : Nat) (H1 : Heap), va_P D vwCl (ws ++ [hi_I t q N]) H1 → va_D A (ws ++ [hi_I t q N]) → va_S A H0 H1 locs → W p l e R s m args below meth c H1 locs (cells + 1) (slots + N) Q (F0 m (pc + 2) ls (.ref q :: rest))) : W p l e R s m args below meth c H locs cells slots Q (F0 m pc ls (.int n :: rest)) := by
  refine va_newa (atype := .int) (ty := .int) (a0 := (N, .inl (fun _ => 0))) hx hb harr rfl hK hP hD hS hA (fun cA => by rw [vp_cell_i]; rfl) hn hN hby hc hs hd (fun q cA H1 hK1 hP1 hD1 hS1 => ?_)
  have h1 : va_RA s cA .int := (hK1.2 3 (cA, .int) rfl).2
  have h2 : va_RA s t.1 .int := (hK.2 0 _ rfl).2
  have e9 : cA = t.1 := Option.some.inj (h1.symm.trans h2)
  subst e9
  exact kk q H1 hP1 hD1 hS1
theorem hi_newz (hx : p.tables.exec = Jvm.exec) (hb : c.code = cc) (harr : (Cond.arrayClass .boolean).before args s = true) (hK : va_K D vwCl (hg_tys t) s) (hP : va_P D vwCl ws H) (hD : va_D A ws) (hS : va_S A H0 H locs) (hA : ∀ q, H0.size ≤ q → A q)
    {n : Int32} {N : Nat} (hn : ¬ n < 0) (hN : n.toNatClampNeg = N) (hby : N * componentBytes .boolean ≤ 536870912) (hc : cells + 1 ≤ R.cells) (hs : slots + N ≤ R.slots) (hd : decode cc pc = .ok (.newarray .boolean, 2))
    (kk : ∀ (q : Nat) (H1 : Heap), va_P D vwCl (ws ++ [hi_Z t q N]) H1 → va_D A (ws ++ [hi_Z t q N]) → va_S A H0 H1 locs → W p l e R s m args below meth c H1 locs (cells + 1) (slots + N) Q (F0 m (pc + 2) ls (.ref q :: rest))) : W p l e R s m args below meth c H locs cells slots Q (F0 m pc ls (.int n :: rest)) := by
  refine va_newa (atype := .boolean) (ty := .boolean) (a0 := (N, .inl (fun _ => 0))) hx hb harr rfl hK hP hD hS hA (fun cA => by rw [vp_cell_i]; rfl) hn hN hby hc hs hd (fun q cA H1 hK1 hP1 hD1 hS1 => ?_)
  have h1 : va_RA s cA .boolean := (hK1.2 3 (cA, .boolean) rfl).2
  have h2 : va_RA s t.2.1 .boolean := (hK.2 1 _ rfl).2
  have e9 : cA = t.2.1 := Option.some.inj (h1.symm.trans h2)
  subst e9
  exact kk q H1 hP1 hD1 hS1
theorem hi_mna (hx : p.tables.exec = Jvm.exec) (hb : c.code = cc) {index : Nat} (hown : s.vm.findClass own = some m.cls) (hcl : (Cond.classLink own index "[[I").before args s = true) (hov : va_AOA .int s) (harr : (Cond.arrayClass .int).before args s = true) (hK : va_K D vwCl (hg_tys t) s) (hP : va_P D vwCl ws H) (hD : va_D A ws) (hS : va_S A H0 H locs) (hA : ∀ q, H0.size ≤ q → A q)
    {k : Int32} {N : Nat} (hk : ¬ k < 0) (hN : k.toNatClampNeg = N) (hby : N * componentBytes .int ≤ 536870912) (hb3 : N ≤ 536870912) (hc : cells + 7 ≤ R.cells) (hs : slots + (6 + 6 * N) ≤ R.slots) (hd : decode cc pc = .ok (.multianewarray index 2, 4))
    (kk : ∀ (q : Nat) (r : Nat → Nat) (H1 : Heap), va_P D vwCl (ws ++ [hi_R t q 6 r, hi_I t (r 0) N, hi_I t (r 1) N, hi_I t (r 2) N, hi_I t (r 3) N, hi_I t (r 4) N, hi_I t (r 5) N]) H1 → va_D A (ws ++ [hi_R t q 6 r, hi_I t (r 0) N, hi_I t (r 1) N, hi_I t (r 2) N, hi_I t (r 3) N, hi_I t (r 4) N, hi_I t (r 5) N]) → va_S A H0 H1 locs →
      W p l e R s m args below meth c H1 locs (cells + 7) (slots + (6 + 6 * N)) Q (F0 m (pc + 4) ls (.ref q :: rest))) : W p l e R s m args below meth c H locs cells slots Q (F0 m pc ls (.int k :: .int 6 :: rest)) := by
  have e0 : ws ++ va_pl [] (fun _ => (.inr (0, []) : va_E)) = ws := by simp [va_pl]
  have h2 : va_RA s t.1 .int := (hK.2 0 _ rfl).2
  refine va_mna (X := ws) (L := []) (f := fun _ => .inr (0, [])) (ty := .int) (cy := t.1) (N' := 6) (K' := N) (z := (N, .inl (fun _ => 0))) hx hb hown hcl hov harr h2 hK (by rw [e0]; exact hP) (by rw [e0]; exact hD) hS hA (by decide) hk (by decide) hN (by decide) hby hb3 rfl rfl hc hs (fun c9 => by rw [vp_cell_i, ← arrV_new]; rfl) hd (fun q r cA H1 hinj _ hK1 hP1 hD1 hS1 => ?_)
  have h1 : va_RA s cA (.array .int) := (hK1.2 3 (cA, .array .int) rfl).2
  have h3 : va_RA s t.2.2 (.array .int) := (hK.2 2 _ rfl).2
  have e9 : cA = t.2.2 := Option.some.inj (h1.symm.trans h3)
  subst e9
  have hin : ∀ i, i < 6 → r i ∈ (List.range 6).map r := fun i hi => List.mem_map.mpr ⟨i, List.mem_range.mpr hi, rfl⟩
  have e1 : va_pl ([] ++ (List.range 6).map r) (vr_up (fun _ => (.inr (0, []) : va_E)) ((List.range 6).map r) (.inl (t.1, N, .inl (fun _ => 0)))) = [hi_I t (r 0) N, hi_I t (r 1) N, hi_I t (r 2) N, hi_I t (r 3) N, hi_I t (r 4) N, hi_I t (r 5) N] := by
    show [(r 0, vr_up _ _ _ (r 0)), (r 1, vr_up _ _ _ (r 1)), (r 2, vr_up _ _ _ (r 2)), (r 3, vr_up _ _ _ (r 3)), (r 4, vr_up _ _ _ (r 4)), (r 5, vr_up _ _ _ (r 5))] = _
    rw [vr_up_in (hin 0 (by decide)), vr_up_in (hin 1 (by decide)), vr_up_in (hin 2 (by decide)), vr_up_in (hin 3 (by decide)), vr_up_in (hin 4 (by decide)), vr_up_in (hin 5 (by decide))]
  rw [e1, List.append_assoc] at hP1 hD1
  have ek : ∀ (k : Nat) (x y : Nat × va_E), (ws ++ ([(q, (.inl (t.2.2, 6, .inr (.inr (.inr (.inr (fun i => if i < 6 then some (r i) else none))))) : va_E))] ++ [hi_I t (r 0) N, hi_I t (r 1) N, hi_I t (r 2) N, hi_I t (r 3) N, hi_I t (r 4) N, hi_I t (r 5) N]))[k]? = some x → (ws ++ [hi_R t q 6 r, hi_I t (r 0) N, hi_I t (r 1) N, hi_I t (r 2) N, hi_I t (r 3) N, hi_I t (r 4) N, hi_I t (r 5) N])[k]? = some y → x.1 = y.1 ∧ (va_at D vwCl x H1 → va_at D vwCl y H1) := by
    intro k x y hk1 hk2
    by_cases hlt : k < ws.length
    · rw [List.getElem?_append_left hlt] at hk1 hk2
      cases hk1.symm.trans hk2
      exact ⟨rfl, id⟩
    · rw [List.getElem?_append_right (by omega)] at hk1 hk2
      generalize k - ws.length = j at hk1 hk2
      cases j with
      | zero =>
        cases hk1
        cases hk2
        refine ⟨rfl, fun h => ?_⟩
        have h9 : H1[q]? = some (vp_cell t.2.2 (6, .inr (.inr (.inr (.inr (fun i => if i < 6 then some (r i) else none)))))) := h
        show H1[q]? = some (vp_cell t.2.2 (6, .inr (.inr (.inr (.inr (fun i => some (r i)))))))
        rw [h9, vp_cell_q, vp_cell_q]
        congr 1
      | succ j =>
        have hk1 : [hi_I t (r 0) N, hi_I t (r 1) N, hi_I t (r 2) N, hi_I t (r 3) N, hi_I t (r 4) N, hi_I t (r 5) N][j]? = some x := hk1
        have hk2 : [hi_I t (r 0) N, hi_I t (r 1) N, hi_I t (r 2) N, hi_I t (r 3) N, hi_I t (r 4) N, hi_I t (r 5) N][j]? = some y := hk2
        cases hk1.symm.trans hk2
        exact ⟨rfl, id⟩
  have el : (ws ++ [hi_R t q 6 r, hi_I t (r 0) N, hi_I t (r 1) N, hi_I t (r 2) N, hi_I t (r 3) N, hi_I t (r 4) N, hi_I t (r 5) N]).length = (ws ++ ([(q, (.inl (t.2.2, 6, .inr (.inr (.inr (.inr (fun i => if i < 6 then some (r i) else none))))) : va_E))] ++ [hi_I t (r 0) N, hi_I t (r 1) N, hi_I t (r 2) N, hi_I t (r 3) N, hi_I t (r 4) N, hi_I t (r 5) N])).length := by
    rw [List.length_append, List.length_append]; rfl
  have hP2 := hi_conv hP1 el (fun k x y a b => (ek k x y a b).2)
  have hD2 : va_D A (ws ++ [hi_R t q 6 r, hi_I t (r 0) N, hi_I t (r 1) N, hi_I t (r 2) N, hi_I t (r 3) N, hi_I t (r 4) N, hi_I t (r 5) N]) := by
    have at1 : ∀ (k : Nat) (y : Nat × va_E), (ws ++ [hi_R t q 6 r, hi_I t (r 0) N, hi_I t (r 1) N, hi_I t (r 2) N, hi_I t (r 3) N, hi_I t (r 4) N, hi_I t (r 5) N])[k]? = some y → ∃ x, (ws ++ ([(q, (.inl (t.2.2, 6, .inr (.inr (.inr (.inr (fun i => if i < 6 then some (r i) else none))))) : va_E))] ++ [hi_I t (r 0) N, hi_I t (r 1) N, hi_I t (r 2) N, hi_I t (r 3) N, hi_I t (r 4) N, hi_I t (r 5) N]))[k]? = some x ∧ x.1 = y.1 := by
      intro k y hk
      have hlt := (List.getElem?_eq_some_iff.mp hk).1
      rw [el] at hlt
      exact ⟨_, List.getElem?_eq_getElem hlt, (ek k _ y (List.getElem?_eq_getElem hlt) hk).1⟩
    refine ⟨fun i j x y hi hj e7 => ?_, fun k y hk => ?_⟩
    · obtain ⟨x1, a1, b1⟩ := at1 i x hi
      obtain ⟨y1, a2, b2⟩ := at1 j y hj
      exact hD1.1 i j x1 y1 a1 a2 (by rw [b1, b2]; exact e7)
    · obtain ⟨x1, a1, b1⟩ := at1 k y hk
      rw [← b1]
      exact hD1.2 k x1 a1
  have e7 : cells + 1 + 6 = cells + 7 := by omega
  have e8 : slots + 6 + 6 * N = slots + (6 + 6 * N) := by omega
  rw [e7, e8]
  exact kk q r H1 hP2 hD2 hS1
end HI
