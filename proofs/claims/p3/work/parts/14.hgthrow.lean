/-! Contracts of methods that return or throw (launches without stack traces). -/
def hg_rmx (d : Nat) : Room := { frames := d, cells := 1, slots := 6, locals := 64 * d }
abbrev hg_Qx (F : hg_F) (D : va_G) (t : hg_T) (ad : Nat → Nat) (sz : Nat) (ρ : hg_R) (PX : String → hg_M → Prop) : String → State → State → Prop := vx_X (S := hg_M × hg_R) (fun _ => True) (fun Ec u U => PX Ec u.1 ∧ u.2 = ρ ∧ hg_Bq F D t ad u U) (hg_A F ad sz)
def hg_Txi (F : hg_F) (E : hg_Et) (l : Launch) (y : MethodName) (cc : ByteArray) (nL : Nat) (ret : Option FieldType) (d : Nat) (vs : (Nat → Nat) → List Value) (ρ : hg_R) (σ : hg_M) (P : Int32 → hg_M → Prop) (PX : String → hg_M → Prop) : Prop :=
  ∀ (D : va_G) (t : hg_T) (ad : Nat → Nat) (sz : Nat), vx_Met l y (Cond.code y cc nL ret :: hg_tbl) (hg_rmx d) (hg_Pc F E D t ad sz (vs ad) σ ρ) (hg_Qi F D t ad sz (fun r σ1 ρ1 => P r σ1 ∧ ρ1 = ρ)) (hg_Qx F D t ad sz ρ PX) 1 6 (hg_A F ad sz)
def hg_Txv (F : hg_F) (E : hg_Et) (l : Launch) (y : MethodName) (cc : ByteArray) (nL : Nat) (d : Nat) (vs : (Nat → Nat) → List Value) (ρ : hg_R) (σ : hg_M) (P : hg_M → Prop) (PX : String → hg_M → Prop) : Prop :=
  ∀ (D : va_G) (t : hg_T) (ad : Nat → Nat) (sz : Nat), vx_Met l y (Cond.code y cc nL none :: hg_tbl) (hg_rmx d) (hg_Pc F E D t ad sz (vs ad) σ ρ) (hg_Qv F D t ad sz (fun σ1 ρ1 => P σ1 ∧ ρ1 = ρ)) (hg_Qx F D t ad sz ρ PX) 1 6 (hg_A F ad sz)
def hg_Rxi (F : hg_F) (ret : Option FieldType) (ρ : hg_R) (P : Int32 → hg_M → Prop) (PX : String → hg_M → Prop) (X : hg_X) : Prop := match X with
  | (p, l, e, R, s, m, args, below, meth, c, D, A, cells, slots, Q, ad, t) => A = hg_A F ad s.heap.size ∧ Q = vx_MQ below (hg_Qi F D t ad s.heap.size (fun r σ1 ρ1 => P r σ1 ∧ ρ1 = ρ)) (hg_Qx F D t ad s.heap.size ρ PX) args s 1 6 (hg_A F ad s.heap.size) ∧ meth.sig.returnType = ret
def hg_Rxv (F : hg_F) (ρ : hg_R) (P : hg_M → Prop) (PX : String → hg_M → Prop) (X : hg_X) : Prop := match X with
  | (p, l, e, R, s, m, args, below, meth, c, D, A, cells, slots, Q, ad, t) => A = hg_A F ad s.heap.size ∧ Q = vx_MQ below (hg_Qv F D t ad s.heap.size (fun σ1 ρ1 => P σ1 ∧ ρ1 = ρ)) (hg_Qx F D t ad s.heap.size ρ PX) args s 1 6 (hg_A F ad s.heap.size) ∧ meth.sig.returnType = none
/-- what a throw needs of the frame: no handlers, room for the exception, a launch without traces; and the end it comes to -/
def hg_Rt (F : hg_F) (ρ : hg_R) (PX : String → hg_M → Prop) (X : hg_X) : Prop := match X with
  | (p, l, e, R, s, m, args, below, meth, c, D, A, cells, slots, Q, ad, t) => A = hg_A F ad s.heap.size ∧ (∃ Qc, Q = vx_MQ below Qc (hg_Qx F D t ad s.heap.size ρ PX) args s 1 6 (hg_A F ad s.heap.size)) ∧ (∀ x ∈ c.exceptionTable.toList, False) ∧ (R.cells = 1 ∧ R.slots = 6) ∧ l.stackTraces = false
abbrev hg_xn : List String := ["java/lang/RuntimeException", "java/lang/Exception"]
def hg_xb (own : String) (ic : Nat) (cls : String) : List Cond := (vx_atS own ic cls hg_xn).filter (fun w => !goodWord w)
def hg_Ex (E : hg_Et) : Prop := ∀ A U H, E A U H → vx_Zq Bundle.tN "UNASSIGNED_STACK" Bundle.steD A U H ∧ vx_Zq Bundle.tN "SUPPRESSED_SENTINEL" Bundle.listD A U H
/-- what the tables say of a throw's site -/
def hg_Sx (own : String) (ik ic : Nat) (cls : String) : Prop := Bundle.fit cls = true ∧ (∀ n ∈ hg_xn, Bundle.fit n = true) ∧ Cond.classLink own ik cls ∈ hg_tbl ∧ Cond.initialized cls ∈ hg_tbl ∧ (∀ w ∈ (vx_atS own ic cls hg_xn).filter goodWord, w ∈ hg_tbl) ∧ (∀ w ∈ Cond.classLink own ik cls :: Cond.initialized cls :: vx_atS own ic cls hg_xn, vx_ot w = true) ∧ (∀ w ∈ hg_xb own ic cls, w.onTables = true)
theorem hg_Pkeep {D : va_G} {cl : List vw_C} {ws : va_W} {H H1 : Heap} (h : va_P D cl ws H) (hq : ∀ q : Nat, q < H.size → H1[q]? = H[q]?) : va_P D cl ws H1 := by
  intro k q hk
  have hlt : q.1 < H.size := (h k q hk).lt
  have h1 := h k q hk
  unfold va_at at h1 ⊢
  cases hq2 : q.2 with
  | inl a => rw [hq2] at h1; dsimp only at h1 ⊢; rw [hq q.1 hlt]; exact h1
  | inr o =>
    rw [hq2] at h1
    dsimp only at h1 ⊢
    obtain ⟨r, h2, h3⟩ := h1
    refine ⟨r, h2, ?_⟩
    unfold t_OB at h3 ⊢
    rw [hq q.1 hlt]
    exact h3
section HGX
variable {F : hg_F} {nL d : Nat} {E : hg_Et} {cc : ByteArray} {own : String} {X : hg_X} {pc : Nat} {L : List (Nat × Value)} {st : List Value} {σ : hg_M} {ρ : hg_R}
theorem hg_throw (hC : hg_C F nL (d + 6) E cc own X) (hX : hg_Ex E) {PX : String → hg_M → Prop} (hR : hg_Rt F ρ PX X) {ik is ic sa : Nat} {cls text : String} (hS9 : hg_Sx own ik ic cls) (hbad : ∀ A U H, E A U H → ∀ w ∈ hg_xb own ic cls, va_Nw w U) (hstr : ∀ A U H, E A U H → vk_R own is text sa U)
    (d0 : decode cc pc = .ok (.new ik, 3)) (d3 : decode cc (pc + 3) = .ok (.dup, 1)) (d4 : decode cc (pc + 4) = .ok (.ldc is, 2)) (d6 : decode cc (pc + 6) = .ok (.invokespecial ic, 3)) (d9 : decode cc (pc + 9) = .ok (.athrow, 1)) (hcat : (st.map fun v => v.category).sum ≤ 8) (h : PX cls σ) : hg_G F nL X pc L st σ ρ := by
  obtain ⟨p, l, e, R, s, m, args, below, meth, c, D, A, cells, slots, Q, ad, t⟩ := X
  obtain ⟨⟨hx, hb⟩, hml, hown, hts, hK, hDd, hA, hlk, ⟨hR1, hR2⟩, ⟨hz1, hz2⟩, hE, hEok⟩ := hC
  obtain ⟨hAe, ⟨Qc, hQ⟩, hno, ⟨hc1, hc2⟩, hlt⟩ := hR
  obtain ⟨s1, s2, s3, s4, s5, s6, s7⟩ := hS9
  subst hAe; subst hQ; subst hz1; subst hz2
  intro H locs ls hl hP hS
  have hf := hX _ _ _ hE
  refine vx_throwS (names := hg_xn) hx hb hlt hown s1 s2 (hts _ s3) (hts _ s4) (hstr _ _ _ hE) (vx_hat (B := hg_xb own ic cls) (fun w hw => hts w (s5 w hw)) (fun w hw => hw) (fun w hw => va_Nw.use (s7 w hw) (hbad _ _ _ hE w hw))) s6 hf.1 hf.2 hS (hl.1.trans hml.symm) d0 d3 d4 d6 d9 (fun x hx => (hno x hx).elim) ?_ ?_ ?_ ?_ hlk (fun U hal hsz hq => ⟨(σ, ρ), trivial, ⟨h, rfl, hg_Pkeep hP hq⟩, Nat.le_trans hS.1 hsz, fun q h1 h2 => (hq q (Nat.lt_of_lt_of_le h1 hS.1)).trans (hS.2.1 q h1 h2)⟩) hS.2.2 (Nat.le_refl _) (Nat.le_refl _)
  · rw [hR1]; show 2 + 3 < d + 6; omega
  · rw [hR2]; show (st.map fun v => v.category).sum + (13 * (2 + 1) + 43) ≤ 64 * (d + 6); omega
  · rw [hc1]; exact Nat.le_refl _
  · rw [hc2]; exact Nat.le_refl _
theorem hg_xreti (hC : hg_C F nL d E cc own X) {P : Int32 → hg_M → Prop} {PX : String → hg_M → Prop} (hR : hg_Rxi F (some .int) ρ P PX X) {v : Int32} (hd : decode cc pc = .ok (.ireturn, 1)) (h : P v σ) : hg_G F nL X pc L [.int v] σ ρ := by
  obtain ⟨p, l, e, R, s, m, args, below, meth, c, D, A, cells, slots, Q, ad, t⟩ := X
  obtain ⟨⟨hx, hb⟩, hml, hown, hts, hK, hDd, hA, hlk, hRm, ⟨hz1, hz2⟩, hE, hEok⟩ := hC
  obtain ⟨hAe, hQ, hr⟩ := hR
  subst hAe; subst hQ; subst hz1; subst hz2
  intro H locs ls hl hP hS
  refine W.widen (k := 1) (n := 6) (Nat.zero_le _) (Nat.zero_le _) (vx_ret ?_)
  exact W.iret (v := v) hx hb hr (fun U hU hW => ⟨⟨v, (σ, ρ), rfl, ⟨h, rfl⟩, by rw [hg_Bq, hU]; exact hP⟩, hS.F hU⟩) hS.2.2 hd
theorem hg_xretv (hC : hg_C F nL d E cc own X) {P : hg_M → Prop} {PX : String → hg_M → Prop} (hR : hg_Rxv F ρ P PX X) (hd : decode cc pc = .ok (.return_, 1)) (h : P σ) : hg_G F nL X pc L [] σ ρ := by
  obtain ⟨p, l, e, R, s, m, args, below, meth, c, D, A, cells, slots, Q, ad, t⟩ := X
  obtain ⟨⟨hx, hb⟩, hml, hown, hts, hK, hDd, hA, hlk, hRm, ⟨hz1, hz2⟩, hE, hEok⟩ := hC
  obtain ⟨hAe, hQ, hr⟩ := hR
  subst hAe; subst hQ; subst hz1; subst hz2
  intro H locs ls hl hP hS
  refine W.widen (k := 1) (n := 6) (Nat.zero_le _) (Nat.zero_le _) (vx_ret ?_)
  exact W.vret hx hb hr (fun U hU hW => ⟨⟨(σ, ρ), rfl, ⟨h, rfl⟩, by rw [hg_Bq, hU]; exact hP⟩, hS.F hU⟩) hS.2.2 hd
theorem hg_txi {l : Launch} {y : MethodName} {ret : Option FieldType} {vs : (Nat → Nat) → List Value} {P : Int32 → hg_M → Prop} {PX : String → hg_M → Prop} (hE : hg_Eok E) (hlt : l.stackTraces = false) (hy : plainName y.cls = true) (hlen : ∀ ad, (lg_sl (vs ad)).length ≤ nL)
    (body : ∀ X : hg_X, hg_C F nL d E cc y.cls X → hg_Rxi F ret ρ P PX X → hg_Rt F ρ PX X → X.2.1 = l → hg_G F nL X 0 (lv_args 0 (vs (hg_ad X))) [] σ ρ) : hg_Txi F E l y cc nL ret d vs ρ σ P PX := by
  intro D t ad sz
  refine vx_ofW (cc := cc) (maxL := nL) (ret := ret) hy rfl ?_
  intro p e s m args below meth c s₁ B hml hno hv
  obtain ⟨rfl, hsz, hP, hK, hD0, hE0⟩ := hv
  have hts := atoms_spec (ws := Cond.code y cc nL ret :: hg_tbl) B.pre
  subst hsz
  rw [lg_entry_eq]
  have hX := body (p, l, e, hg_rmx d, s, m, (vs ad).toArray, below, meth, c, D, hg_A F ad s.heap.size, 0, 0, vx_MQ below (hg_Qi F D t ad s.heap.size (fun r σ1 ρ1 => P r σ1 ∧ ρ1 = ρ)) (hg_Qx F D t ad s.heap.size ρ PX) (vs ad).toArray s 1 6 (hg_A F ad s.heap.size), ad, t)
    ⟨⟨B.exec, B.bytes⟩, hml, findClass_of_methodNamed B.named, fun w h => hts w (List.mem_cons_of_mem _ h), hK, hg_Dd_self hD0, fun q h => Or.inr h, B.notSynchronized, ⟨rfl, rfl⟩, ⟨rfl, rfl⟩, hE0, hE⟩ ⟨rfl, rfl, B.returns⟩ ⟨rfl, ⟨_, rfl⟩, hno, ⟨rfl, rfl⟩, hlt⟩ rfl
  exact hX s.heap [] _ (lv_entry (vs ad) (hlen ad)) hP va_S.rf
theorem hg_txv {l : Launch} {y : MethodName} {vs : (Nat → Nat) → List Value} {P : hg_M → Prop} {PX : String → hg_M → Prop} (hE : hg_Eok E) (hlt : l.stackTraces = false) (hy : plainName y.cls = true) (hlen : ∀ ad, (lg_sl (vs ad)).length ≤ nL)
    (body : ∀ X : hg_X, hg_C F nL d E cc y.cls X → hg_Rxv F ρ P PX X → hg_Rt F ρ PX X → X.2.1 = l → hg_G F nL X 0 (lv_args 0 (vs (hg_ad X))) [] σ ρ) : hg_Txv F E l y cc nL d vs ρ σ P PX := by
  intro D t ad sz
  refine vx_ofW (cc := cc) (maxL := nL) (ret := none) hy rfl ?_
  intro p e s m args below meth c s₁ B hml hno hv
  obtain ⟨rfl, hsz, hP, hK, hD0, hE0⟩ := hv
  have hts := atoms_spec (ws := Cond.code y cc nL none :: hg_tbl) B.pre
  subst hsz
  rw [lg_entry_eq]
  have hX := body (p, l, e, hg_rmx d, s, m, (vs ad).toArray, below, meth, c, D, hg_A F ad s.heap.size, 0, 0, vx_MQ below (hg_Qv F D t ad s.heap.size (fun σ1 ρ1 => P σ1 ∧ ρ1 = ρ)) (hg_Qx F D t ad s.heap.size ρ PX) (vs ad).toArray s 1 6 (hg_A F ad s.heap.size), ad, t)
    ⟨⟨B.exec, B.bytes⟩, hml, findClass_of_methodNamed B.named, fun w h => hts w (List.mem_cons_of_mem _ h), hK, hg_Dd_self hD0, fun q h => Or.inr h, B.notSynchronized, ⟨rfl, rfl⟩, ⟨rfl, rfl⟩, hE0, hE⟩ ⟨rfl, rfl, B.returns⟩ ⟨rfl, ⟨_, rfl⟩, hno, ⟨rfl, rfl⟩, hlt⟩ rfl
  exact hX s.heap [] _ (lv_entry (vs ad) (hlen ad)) hP va_S.rf
end HGX
