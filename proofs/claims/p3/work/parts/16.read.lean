/-! handOver and read: the two texts change places (written by mkR.py) -/
theorem rd_f22 : hg_Fl RX4 22 4 2 9 := ⟨RX4, RX4, TX4, inT_4, (hg_m1 99 (by decide +kernel) rfl), rfl, rfl, by decide⟩
theorem rd_p22 : hg_Fp RX4 22 4 2 9 (.object "GuardedMoves$Text") := ⟨RX4, RX4, TX4, tyX4, inT_4, (hg_m1 99 (by decide +kernel) rfl), rfl, rfl, by decide, tyX4_ok, nmX4, rfl, by decide +kernel⟩
theorem rd_p15 : hg_Fp RX4 15 4 1 9 .int := ⟨RX4, RX4, TX4, tyX4, inT_4, (hg_m1 97 (by decide +kernel) rfl), rfl, rfl, by decide, tyX4_ok, nmX4, rfl, by decide +kernel⟩
theorem rd_f19 : hg_Fl RX5 19 5 2 8 := ⟨RX5, RX5, TX5, inT_5, (hg_m1 231 (by decide +kernel) rfl), rfl, rfl, by decide⟩
theorem rd_f26 : hg_Fl RX5 26 5 3 8 := ⟨RX5, RX5, TX5, inT_5, (hg_m1 232 (by decide +kernel) rfl), rfl, rfl, by decide⟩
theorem rd_p26 : hg_Fp RX5 26 5 3 8 (.object "GuardedMoves$Text") := ⟨RX5, RX5, TX5, tyX5, inT_5, (hg_m1 232 (by decide +kernel) rfl), rfl, rfl, by decide, tyX5_ok, nmX5, rfl, by decide +kernel⟩
theorem rd_p42 : hg_Fp RX5 42 5 6 8 .boolean := ⟨RX5, RX5, TX5, tyX5, inT_5, (hg_m1 235 (by decide +kernel) rfl), rfl, rfl, by decide, tyX5_ok, nmX5, rfl, by decide +kernel⟩
theorem rd_f84 : hg_Fl RX5 84 4 8 9 := ⟨RX4, RX4, TX4, inT_4, (hg_m1 107 (by decide +kernel) rfl), rfl, rfl, by decide⟩
theorem rd_f91 : hg_Fl RX5 91 3 8 9 := ⟨RX3, RX3, TX3, inT_3, (hg_m1 74 (by decide +kernel) rfl), rfl, rfl, by decide⟩
theorem rd_sh : hg_Sv RX5 87 RX4 yX4_handOver cX4_handOver 3 (some (.object "GuardedMoves$Text")) 1 := ⟨(hg_m2 141 (by decide +kernel) rfl), (hg_m2 138 (by decide +kernel) rfl), (hg_m2 139 (by decide +kernel) rfl), (hg_m2 140 (by decide +kernel) rfl), (hg_m1 2 (by decide +kernel) rfl), by decide +kernel, by decide⟩
theorem rd_st : hg_Sv RX5 80 RX4 yX4_takeTape cX4_takeTape 4 (some .boolean) 0 := ⟨(hg_m2 21 (by decide +kernel) rfl), (hg_m2 18 (by decide +kernel) rfl), (hg_m2 19 (by decide +kernel) rfl), (hg_m2 20 (by decide +kernel) rfl), (hg_m1 2 (by decide +kernel) rfl), by decide +kernel, by decide⟩
/-- a method that answers the cell q -/
def hg_Mr (F : hg_F) (E : hg_Et) (l : Launch) (y : MethodName) (cc : ByteArray) (nL : Nat) (ret : Option FieldType) (d : Nat) (vs : (Nat → Nat) → List Value) (σ : hg_M) (ρ : hg_R) (q : Nat) (post : hg_M → hg_R → Prop) : Prop :=
  ∀ (D : va_G) (t : hg_T) (ad : Nat → Nat) (sz : Nat), Met l y (Cond.code y cc nL ret :: hg_tbl) (hg_rm d) (hg_Pc F E D t ad sz (vs ad) σ ρ) (va_Qr (S := hg_M × hg_R) (fun u => post u.1 u.2) (fun u a U => a = ad q ∧ hg_Bq F D t ad u U) (hg_A F ad sz)) 0 0 (hg_A F ad sz)
def hg_Rr (F : hg_F) (ret : Option FieldType) (q : Nat) (post : hg_M → hg_R → Prop) (X : hg_X) : Prop := match X with
  | (p, l, e, R, s, m, args, below, meth, c, D, A, cells, slots, Q, ad, t) => A = hg_A F ad s.heap.size ∧ Q = MQ below (va_Qr (S := hg_M × hg_R) (fun u => post u.1 u.2) (fun u a U => a = ad q ∧ hg_Bq F D t ad u U) (hg_A F ad s.heap.size)) args s 0 0 (hg_A F ad s.heap.size) ∧ meth.sig.returnType = ret
section HGR
variable {F : hg_F} {nL d : Nat} {E : hg_Et} {cc : ByteArray} {own : String} {X : hg_X} {pc : Nat} {L : List (Nat × Value)} {st : List Value} {σ : hg_M} {ρ : hg_R}
theorem hg_enter_r {l : Launch} {y : MethodName} {ret : Option FieldType} {vs : (Nat → Nat) → List Value} {q : Nat} {post : hg_M → hg_R → Prop} (hE : hg_Eok E) (hy : plainName y.cls = true) (hlen : ∀ ad, (lg_sl (vs ad)).length ≤ nL)
    (body : ∀ X : hg_X, hg_C F nL d E cc y.cls X → hg_Rr F ret q post X → X.2.1 = l → hg_G F nL X 0 (lv_args 0 (vs (hg_ad X))) [] σ ρ) : hg_Mr F E l y cc nL ret d vs σ ρ q post := by
  intro D t ad sz
  refine Met.ofW (cc := cc) (maxL := nL) (ret := ret) hy rfl ?_
  intro p e s m args below meth c s₁ B hml hv
  obtain ⟨rfl, hsz, hP, hK, hD0, hE0⟩ := hv
  have hts := atoms_spec (ws := Cond.code y cc nL ret :: hg_tbl) B.pre
  subst hsz
  rw [lg_entry_eq]
  have hX := body (p, l, e, hg_rm d, s, m, (vs ad).toArray, below, meth, c, D, hg_A F ad s.heap.size, 0, 0, MQ below (va_Qr (S := hg_M × hg_R) (fun u => post u.1 u.2) (fun u a U => a = ad q ∧ hg_Bq F D t ad u U) (hg_A F ad s.heap.size)) (vs ad).toArray s 0 0 (hg_A F ad s.heap.size), ad, t)
    ⟨⟨B.exec, B.bytes⟩, hml, findClass_of_methodNamed B.named, fun w h => hts w (List.mem_cons_of_mem _ h), hK, hg_Dd_self hD0, fun q h => Or.inr h, B.notSynchronized, ⟨rfl, rfl⟩, ⟨rfl, rfl⟩, hE0, hE⟩ ⟨rfl, rfl, B.returns⟩ rfl
  exact hX s.heap [] _ (lv_entry (vs ad) (hlen ad)) hP va_S.rf
theorem hg_aret (hC : hg_C F nL d E cc own X) {rt : FieldType} (hrt : (∃ n, rt = .object n) ∨ ∃ t, rt = .array t) {q : Nat} {post : hg_M → hg_R → Prop} (hR : hg_Rr F (some rt) q post X) (hd : decode cc pc = .ok (.areturn, 1)) (h : post σ ρ) : hg_G F nL X pc L [.ref (hg_ad X q)] σ ρ := by
  obtain ⟨p, l, e, R, s, m, args, below, meth, c, D, A, cells, slots, Q, ad, t⟩ := X
  obtain ⟨⟨hx, hb⟩, hml, hown, hts, hK, hDd, hA, hlk, hRm, ⟨hz1, hz2⟩, hE, hEok⟩ := hC
  obtain ⟨hAe, hQ, hr⟩ := hR
  subst hAe; subst hQ; subst hz1; subst hz2
  intro H locs ls hl hP hS
  exact W.aret (v := .ref (ad q)) hx hb hr hrt (Or.inr ⟨_, rfl⟩) (fun U hU hW => ⟨⟨(σ, ρ), ad q, rfl, h, rfl, by rw [hg_Bq, hU]; exact hP⟩, hS.F hU⟩) hS.2.2 hd
theorem hg_callVr (hC : hg_C F nL (d + 1) E cc own X) {index N na q q2 ci mL : Nat} {C : String} {T : u_T} {y : MethodName} {bytes : ByteArray} {ret : Option FieldType} {As : (Nat → Nat) → List Value} {post : hg_M → hg_R → Prop}
    (hM : hg_Mr F E X.2.1 y bytes mL ret d (fun ad => .ref (ad q) :: As ad) σ ρ q2 post) (hw : hg_Sv own index C y bytes mL ret na) (hd : decode cc pc = .ok (.invokevirtual index, 3)) (hq : q < F.1) (hk : F.2.1 q = (ci + 3, N)) (hc : vwCl[ci]? = some (C, T, N))
    (hna : (As (hg_ad X)).length = na) {rest : List Value} (hst : st = (As (hg_ad X)).reverse ++ .ref (hg_ad X q) :: rest) (hcat : (rest.map fun v => v.category).sum ≤ 8) {n : Nat} (hn : pc + 3 = n)
    (k : ∀ σ1 ρ1, post σ1 ρ1 → hg_G F nL X n L (.ref (hg_ad X q2) :: rest) σ1 ρ1) : hg_G F nL X pc L st σ ρ := by
  obtain ⟨p, l, e, R, s, m, args, below, meth, c, D, A, cells, slots, Q, ad, t⟩ := X
  obtain ⟨⟨hx, hb⟩, hml, hown, hts, hK, hDd, hA, hlk, hRm, ⟨hz1, hz2⟩, hE, hEok⟩ := hC
  subst hz1; subst hz2; subst hn
  intro H locs ls hl hP hS
  have hfr := hg_free hDd hA hS
  refine va_callr (va_runV (As := As ad) (rest := rest) (C := C) ⟨hx, hb, hml, hown, hts⟩ (hM D t ad H.size) (cwV na hts (hg_goodW hw) rfl rfl rfl hw.2.2.2.2.2.1 (hg_roomc hRm hw.2.2.2.2.2.2)) ⟨hg_blind hEok, va_recv hK hP hc ((hg_at hq).trans (by rw [hg_cell3 hk])), hg_pre hEok hDd hA hS hK hP hE⟩ rfl hna hl.1 hst (lv_room hcat) hd ⟨Nat.zero_le _, Nat.zero_le _⟩) hS (fun q _ h => hfr q h) hfr (fun u ra U H1 locs1 hU hvm hw1 hB hz1 hk1 hS1 => ?_)
  obtain ⟨rfl, hB⟩ := hB
  exact k u.1 u.2 hw1 H1 locs1 ls hl (by rw [← hU]; exact hB) hS1
end HGR
/-- the references when the texts have changed places -/
def hg_rS1 : hg_R := hg_rset hg_rC 3 2 16
def hg_rS : hg_R := hg_rset hg_rS1 0 3 7
theorem tC_X4_handOver {E : hg_Et} (hE : hg_Eok E) (l : Launch) (d : Nat) (σ : hg_M) (post : hg_M → hg_R → Prop) (hw : ∀ σ1 : hg_M, σ1 = hg_set σ 3 1 0 → post σ1 hg_rS1) : hg_Mr hg_FC E l yX4_handOver cX4_handOver 3 (some (.object "GuardedMoves$Text")) (d + 1) (fun ad => [.ref (ad 3), .ref (ad 16)]) σ hg_rC 7 post := by
  refine hg_enter_r hE (by decide) (fun _ => Nat.le_of_ble_eq_true rfl) (fun X hC hR hl => ?_)
  subst hl
  have hC : hg_C hg_FC 3 (d + 1) E cX4_handOver RX4 X := hC
  show hg_G hg_FC 3 X 0 [(0, .ref (hg_ad X 3)), (1, .ref (hg_ad X 16))] [] σ hg_rC
  refine hg_aload_n hC dX4_handOver_0 rfl 0 rfl (n := 1) rfl ?_
  refine hg_getr hC rd_f22 dX4_handOver_1 qC_3 kC_3 fC_4_2 rC_3_2 (n := 4) rfl ?_
  refine hg_astore_n hC (L1 := [(2, .ref (hg_ad X 7)), (0, .ref (hg_ad X 3)), (1, .ref (hg_ad X 16))]) dX4_handOver_4 rfl (by decide) rfl (n := 5) rfl ?_
  refine hg_aload_n hC dX4_handOver_5 rfl 1 rfl (n := 6) rfl ?_
  refine hg_aload_n hC dX4_handOver_6 rfl 2 rfl (n := 7) rfl ?_
  refine hg_putr hC rd_p22 dX4_handOver_7 qC_3 kC_3 fC_4_2 rfl (fun _ => rfl) (n := 10) rfl (fun ρ1 eρ1 => ?_)
  have eρ1 : ρ1 = hg_rS1 := eρ1
  subst eρ1
  refine hg_aload_n hC dX4_handOver_10 rfl 1 rfl (n := 11) rfl ?_
  refine hg_iconst hC dX4_handOver_11 (show Int32.ofInt 0 = (0 : Int32) by decide) (n := 12) rfl ?_
  refine hg_puti hC rd_p15 dX4_handOver_12 qC_3 kC_3 fC_4_1 rfl rfl (n := 15) rfl (fun σ1 eσ1 => ?_)
  refine hg_aload_n hC dX4_handOver_15 rfl 0 rfl (n := 16) rfl ?_
  exact hg_aret hC (Or.inl ⟨_, rfl⟩) hR dX4_handOver_16 (hw σ1 eσ1)
/-- read(): refused, or the texts change places -/
def wC_X5_read (σ : hg_M) (P0 P1 : Int32 → hg_M → Prop) : Prop := wC_X4_takeTape σ (fun r σ1 => (r ≠ 0 → ∀ σ2 : hg_M, σ2 = hg_set σ1 3 1 0 → ∀ σ3 : hg_M, σ3 = hg_set σ2 0 6 0 → P1 (σ3 7 8) σ3) ∧ (r = 0 → P0 ((-1 : Int32) - σ1 3 8) σ1))
theorem tC_X5_read {E : hg_Et} (hE : hg_Eok E) (l : Launch) (d : Nat) (σ : hg_M) (P0 P1 : Int32 → hg_M → Prop) (hw : wC_X5_read σ P0 P1) : hg_Mi hg_FC E l yX5_read cX5_read 1 (some .int) (d + 9) (fun ad => [.ref (ad 0)]) σ hg_rC (fun r σ1 ρ1 => (P0 r σ1 ∧ ρ1 = hg_rC) ∨ (P1 r σ1 ∧ ρ1 = hg_rS)) := by
  refine hg_enter_i hE (by decide) (fun _ => Nat.le_of_ble_eq_true rfl) (fun X hC hR hl => ?_)
  subst hl
  have hC : hg_C hg_FC 1 (d + 9) E cX5_read RX5 X := hC
  show hg_G hg_FC 1 X 0 [(0, .ref (hg_ad X 0))] [] σ hg_rC
  refine hg_aload_n hC dX5_read_0 rfl 0 rfl (n := 1) rfl ?_
  refine hg_getr hC rd_f19 dX5_read_1 qC_0 kC_0 fC_5_2 rC_0_2 (n := 4) rfl ?_
  refine hg_cVi hC (tC_X4_takeTape (hg_Eof hC) X.2.1 (d + 0) _ _ hw) rd_st dX5_read_4 qC_3 kC_3 c_4 rfl (rest := []) rfl (Nat.le_of_ble_eq_true rfl) (n := 7) rfl (fun r σ1 hw => ?_)
  refine hg_if_ne hC dX5_read_7 (tg := 20) rfl (n := 10) rfl (fun h9 => ?_) (fun h9 => ?_)
  · have hw := hw.1 h9
    refine hg_aload_n hC dX5_read_20 rfl 0 rfl (n := 21) rfl ?_
    refine hg_aload_n hC dX5_read_21 rfl 0 rfl (n := 22) rfl ?_
    refine hg_getr hC rd_f19 dX5_read_22 qC_0 kC_0 fC_5_2 rC_0_2 (n := 25) rfl ?_
    refine hg_aload_n hC dX5_read_25 rfl 0 rfl (n := 26) rfl ?_
    refine hg_getr hC rd_f26 dX5_read_26 qC_0 kC_0 fC_5_3 rC_0_3 (n := 29) rfl ?_
    refine hg_callVr hC (tC_X4_handOver (hg_Eof hC) X.2.1 (d + 7) σ1 (fun σ2 ρ1 => σ2 = hg_set σ1 3 1 0 ∧ ρ1 = hg_rS1) (fun σ2 e => ⟨e, rfl⟩)) rd_sh dX5_read_29 qC_3 kC_3 c_4 rfl (rest := [.ref (hg_ad X 0)]) rfl (Nat.le_of_ble_eq_true rfl) (n := 32) rfl (fun σ2 ρ1 h8 => ?_)
    obtain ⟨eσ2, rfl⟩ := h8
    have hw := hw σ2 eσ2
    refine hg_putr hC rd_p26 dX5_read_32 qC_0 kC_0 fC_5_3 rfl (fun _ => rfl) (n := 35) rfl (fun ρ2 eρ2 => ?_)
    have eρ2 : ρ2 = hg_rS := eρ2
    subst eρ2
    refine hg_aload_n hC dX5_read_35 rfl 0 rfl (n := 36) rfl ?_
    refine hg_iconst hC dX5_read_36 (show Int32.ofInt 0 = (0 : Int32) by decide) (n := 37) rfl ?_
    refine hg_puti hC rd_p42 dX5_read_37 qC_0 kC_0 fC_5_6 rfl rfl (n := 40) rfl (fun σ3 eσ3 => ?_)
    have hw := hw σ3 eσ3
    refine hg_aload_n hC dX5_read_40 rfl 0 rfl (n := 41) rfl ?_
    refine hg_getr hC rd_f26 dX5_read_41 qC_0 kC_0 fC_5_3 (show hg_rS 0 3 = 7 by decide) (n := 44) rfl ?_
    refine hg_geti hC rd_f91 dX5_read_44 qC_7 kC_7 fC_3_8 (n := 47) rfl ?_
    exact hg_iret hC hR dX5_read_47 (Or.inr ⟨hw, rfl⟩)
  · have hw := hw.2 h9
    refine hg_iconst hC dX5_read_10 (show Int32.ofInt (-1) = (-1 : Int32) by decide) (n := 11) rfl ?_
    refine hg_aload_n hC dX5_read_11 rfl 0 rfl (n := 12) rfl ?_
    refine hg_getr hC rd_f19 dX5_read_12 qC_0 kC_0 fC_5_2 rC_0_2 (n := 15) rfl ?_
    refine hg_geti hC rd_f84 dX5_read_15 qC_3 kC_3 fC_4_8 (n := 18) rfl ?_
    refine hg_isub hC dX5_read_18 (n := 19) rfl ?_
    exact hg_iret hC hR dX5_read_19 (Or.inl ⟨hw, rfl⟩)
/-- the cells' numbers when the texts have changed places: seen so, all is as before -/
def hg_sw (q : Nat) : Nat := if 7 ≤ q ∧ q ≤ 15 then q + 9 else if 16 ≤ q ∧ q ≤ 24 then q - 9 else q
