/-! THE LAW FROM ITS ENTRY (written by mkW.py) -/
section HL
variable {D : va_G} {ws ws' : va_W} {H : Heap} {A : Nat → Prop}
theorem hl_left (h : va_P D vwCl (ws ++ ws') H) : va_P D vwCl ws H := fun k q hk => h k q (by rw [List.getElem?_append_left (List.getElem?_eq_some_iff.mp hk).1]; exact hk)
theorem hl_right (h : va_P D vwCl (ws ++ ws') H) : va_P D vwCl ws' H := fun k q hk => h (ws.length + k) q (by rw [List.getElem?_append_right (by omega), show ws.length + k - ws.length = k by omega]; exact hk)
theorem hl_leftD (h : va_D A (ws ++ ws')) : va_D A ws := ⟨fun i j x y hi hj => h.1 i j x y (by rw [List.getElem?_append_left (List.getElem?_eq_some_iff.mp hi).1]; exact hi) (by rw [List.getElem?_append_left (List.getElem?_eq_some_iff.mp hj).1]; exact hj), fun k q hk => h.2 k q (by rw [List.getElem?_append_left (List.getElem?_eq_some_iff.mp hk).1]; exact hk)⟩
theorem hl_r {k : Nat} {q : Nat × va_E} (hk : ws'[k]? = some q) : (ws ++ ws')[ws.length + k]? = some q := by rw [List.getElem?_append_right (by omega), show ws.length + k - ws.length = k by omega]; exact hk
theorem hl_rightD (h : va_D A (ws ++ ws')) : va_D A ws' := ⟨fun i j x y hi hj e => by have := h.1 _ _ x y (hl_r hi) (hl_r hj) e; omega, fun k q hk => h.2 _ q (hl_r hk)⟩
theorem hl_apart (h : va_D A (ws ++ ws')) {i k : Nat} {x y : Nat × va_E} (hi : ws[i]? = some x) (hk : ws'[k]? = some y) : x.1 ≠ y.1 := by
  intro e
  have hlt := (List.getElem?_eq_some_iff.mp hi).1
  have := h.1 i _ x y (by rw [List.getElem?_append_left hlt]; exact hi) (hl_r hk) e
  omega
end HL
theorem hl_iA : iA hi_sC := by
  have z16 : (0 : Int32) ≤ 0 ∧ (0 : Int32) < 16 := by decide
  have z13 : (0 : Int32) ≤ 0 ∧ (0 : Int32) < 13 := by decide
  have z60 : (0 : Int32) ≤ 0 ∧ (0 : Int32) ≤ 60 := by decide
  have z6 : (0 : Int32) ≤ 0 ∧ (0 : Int32) < 60 := by decide
  have z720 : (0 : Int32) ≤ 0 ∧ (0 : Int32) ≤ 720 := by decide
  have zr : rOK 0 0 0 0 0 := by unfold rOK; decide
  refine ⟨by decide, ?_, ?_, ?_, ?_, ?_, ?_, ?_⟩
  · exact fun j _ h => absurd rfl h
  · exact ⟨by decide, by decide, fun k _ => z6⟩
  · exact ⟨by decide, by decide, fun k _ => ⟨z16, z13, z60, z60⟩⟩
  · exact ⟨z60, fun k _ => ⟨z16, z13, z60, z60⟩, fun j _ h => absurd rfl h⟩
  · exact ⟨by decide, by decide, fun k _ => zr⟩
  · exact fun j _ => z720
  · exact z60
theorem hl_e (n : Nat) : eOK (fun _ => 0) n := by
  have h1 : (0 : Int32) ≤ 0 ∧ (0 : Int32) < 16 := by decide
  have h2 : (0 : Int32) ≤ 0 ∧ (0 : Int32) < 13 := by decide
  exact ⟨h1, h2, fun _ => h1, fun _ => h1⟩
theorem hl_iB : iB hi_sM := by
  have e9 : (hi_sM 0 9).toNatClampNeg = 0 := by decide
  have e20 : (hi_sM 0 20).toNatClampNeg = 0 := by decide
  have zr : rg 0 := by unfold rg; decide
  refine ⟨by decide, fun n _ => hl_e n, ?_, ?_, ?_, by decide⟩
  · unfold xOK
    rw [e9]
    exact ⟨⟨by decide, by decide⟩, fun n _ => hl_e n, fun q hq => absurd hq (by omega), fun q s hq => absurd hq (by omega)⟩
  · exact ⟨fun i _ => zr, fun i _ => zr, fun i _ => zr, fun i _ => zr, fun i _ => zr, fun i _ => Or.inl rfl⟩
  · unfold cOK
    rw [e20]
    exact ⟨⟨by decide, by decide⟩, fun i hi => absurd hi (by omega), Nat.zero_le _⟩
set_option maxRecDepth 10000 in
theorem whole_start {p : Program} {e : Env} {s : State} {m : MethodId} {below : List Frame} {meth : Method} {c : Code} (l : Launch) (hlt : l.stackTraces = false) {b L : Nat} {xs : Nat → Int32} (hL : L ≤ 2048) (C0 : lw_At p s m meth c b L xs) : W p l e room_1 s m #[Value.ref b] below meth c s.heap [] 0 0 (lw_Z below #[Value.ref b] s) (entryFrame m ([Value.ref b] : List Value).toArray 7) := by
  obtain ⟨hx, hb, hr, hml, hown, hts0, hX, hbl, hlk, hgv⟩ := id C0
  have hb : c.code = cL_law := hb
  have hown : s.vm.findClass RL = some m.cls := hown
  have hts : ∀ w ∈ hg_tbl, w.before #[Value.ref b] s = true := fun w h => hts0 w (List.mem_filter.mp h).1
  have hA : ∀ q : Nat, s.heap.size ≤ q → hk_A s q := fun _ h => h
  obtain ⟨z, ss, hE⟩ := he_start (A := hk_A s) hts0 hgv (fun a h => Nat.not_le.mpr h)
  obtain ⟨D, t, tl, hK⟩ := he_known hts0
  have hAO : va_AOA .int s := va_AOA.of (hts0 (.arrayOver (.array .int)) (he_w1 _ (by simp)))
  have hN : ∀ w ∈ hg_nws, va_Nw w s := hE.2.1
  have hS : va_S (hk_A s) s.heap s.heap [] := va_S.rf
  have hP : va_P D vwCl [] s.heap := fun k q h => by simp at h
  have hD : va_D (hk_A s) [] := ⟨fun i j p q h => by simp at h, fun k q h => by simp at h⟩
  have hl := lv_entry ([.ref b]) (n := 7) (Nat.le_of_ble_eq_true rfl)
  rw [lg_entry_eq]
  generalize (lg_sl ([.ref b]) ++ List.replicate (7 - (lg_sl ([.ref b])).length) Slot.unset).toArray = ls at hl ⊢
  have hl : lv_has ls 7 [(0, .ref b)] := hl
  refine va_new (ci := 5) (fs := [.null, .null, .null, .null, .null, .null, .int 0, .null]) (C := RX5) (T := TX5) (N := 8) hx hb hts inT_5 tyX5 tyX5_ok hown (hts _ (hg_m1 21 (by decide +kernel) rfl)) (hts _ (hg_m1 22 (by decide +kernel) rfl)) (hts _ (hg_m1 1 (by decide +kernel) rfl)) (hj_K hK) hP hD hS hA rfl (fun j hj => by rcases (show j = 0 ∨ j = 1 ∨ j = 2 ∨ j = 3 ∨ j = 4 ∨ j = 5 ∨ j = 6 ∨ j = 7 by omega) with rfl | rfl | rfl | rfl | rfl | rfl | rfl | rfl <;> rfl) (Nat.le_of_ble_eq_true rfl) (Nat.le_of_ble_eq_true rfl) dL_law_0 (fun q0 H hP hD hS => ?_)
  have hP : va_P D vwCl ([(q0, .inr (5, [.null, .null, .null, .null, .null, .null, .int 0, .null]))]) H := hP
  have hD : va_D (hk_A s) ([(q0, .inr (5, [.null, .null, .null, .null, .null, .null, .int 0, .null]))]) := hD
  refine lv_dup hx hb dL_law_3 rfl ?_
  have hFc := va_free (wc := [(q0, .inr (5, [.null, .null, .null, .null, .null, .null, .int 0, .null]))]) hD hS hA [0] rfl
  have hPc := hP.sub (ws' := [(q0, .inr (5, [.null, .null, .null, .null, .null, .null, .int 0, .null]))]) [0] rfl
  refine va_callv (va_runI (As := []) (rest := [.ref q0]) ⟨hx, hb, hml, hown, hts⟩ (tX5_init l D t q0 H.size) (cwI 0 hts (hg_goodC (hg_m1 25 (by decide +kernel) rfl)) rfl rfl rfl (hts _ (hg_m1 1 (by decide +kernel) rfl)) (hts _ (hg_m1 23 (by decide +kernel) rfl)) (hts _ (hg_m1 24 (by decide +kernel) rfl)) rfl (by decide +kernel) ⟨(Nat.le_of_ble_eq_true rfl), (Nat.le_of_ble_eq_true rfl)⟩) ⟨hi_blind, fun U hU hW => ⟨rfl, by rw [hU], by rw [hU]; exact hPc, va_K.moved hW.alike (hj_K hK), va_AOA.moved hW.alike hAO, hi_nw hW hN⟩⟩ rfl rfl hl.1 rfl (lv_room (Nat.le_of_ble_eq_true rfl)) dL_law_4 ⟨(Nat.le_of_ble_eq_true rfl), (Nat.le_of_ble_eq_true rfl)⟩) hS (fun q _ h => hFc q h) hFc (fun u U9 H1 locs1 ht hvm hw hB hz1 hk1 hS => ?_)
  obtain ⟨hP1, hD1⟩ := hB
  rw [ht] at hP1
  obtain ⟨hPJ, hDJ⟩ := va_join (wr := []) (w1 := hi_w5 t u) hP hD [0] [] rfl rfl (by decide) (by decide) hk1 hFc hP1 hD1
  have hw : u 0 = q0 := hw
  subst hw
  generalize H1 = H at hPJ hS ⊢
  have hP := hPJ
  have hD := hDJ
  have hP : va_P D vwCl (hi_w5 t u) H := hP
  have hD : va_D (hk_A s) (hi_w5 t u) := hD
  refine lv_astore_n (lv' := [(1, .ref (u 0)), (0, .ref b)]) hx hb dL_law_7 rfl hl (by decide) rfl (fun ls hl => ?_)
  refine va_new (ci := 6) (fs := [.int 0, .null, .null, .null, .int 0, .int 0, .int 0, .int 0, .int 0, .int 0, .null, .null, .null, .null, .null, .null, .null, .null, .int 0, .null, .int 0, .int 0, .int 0, .null, .int 0, .null, .int 0, .null, .null, .null, .null, .null, .null, .null, .null, .null, .null, .null, .null, .int 0, .int 0, .int 0, .int 0, .null, .null]) (C := RX6) (T := TX6) (N := 45) hx hb hts inT_6 tyX6 tyX6_ok hown (hts _ (hg_m4 70 (by decide +kernel) rfl)) (hts _ (hg_m4 71 (by decide +kernel) rfl)) (hts _ (hg_m1 7 (by decide +kernel) rfl)) (hj_K hK) hP hD hS hA rfl (fun j hj => by rcases (show j = 0 ∨ j = 1 ∨ j = 2 ∨ j = 3 ∨ j = 4 ∨ j = 5 ∨ j = 6 ∨ j = 7 ∨ j = 8 ∨ j = 9 ∨ j = 10 ∨ j = 11 ∨ j = 12 ∨ j = 13 ∨ j = 14 ∨ j = 15 ∨ j = 16 ∨ j = 17 ∨ j = 18 ∨ j = 19 ∨ j = 20 ∨ j = 21 ∨ j = 22 ∨ j = 23 ∨ j = 24 ∨ j = 25 ∨ j = 26 ∨ j = 27 ∨ j = 28 ∨ j = 29 ∨ j = 30 ∨ j = 31 ∨ j = 32 ∨ j = 33 ∨ j = 34 ∨ j = 35 ∨ j = 36 ∨ j = 37 ∨ j = 38 ∨ j = 39 ∨ j = 40 ∨ j = 41 ∨ j = 42 ∨ j = 43 ∨ j = 44 by omega) with rfl | rfl | rfl | rfl | rfl | rfl | rfl | rfl | rfl | rfl | rfl | rfl | rfl | rfl | rfl | rfl | rfl | rfl | rfl | rfl | rfl | rfl | rfl | rfl | rfl | rfl | rfl | rfl | rfl | rfl | rfl | rfl | rfl | rfl | rfl | rfl | rfl | rfl | rfl | rfl | rfl | rfl | rfl | rfl | rfl <;> rfl) (Nat.le_of_ble_eq_true rfl) (Nat.le_of_ble_eq_true rfl) dL_law_8 (fun q6 H hP hD hS => ?_)
  have hP : va_P D vwCl (hi_w5 t u ++ [(q6, .inr (6, [.int 0, .null, .null, .null, .int 0, .int 0, .int 0, .int 0, .int 0, .int 0, .null, .null, .null, .null, .null, .null, .null, .null, .int 0, .null, .int 0, .int 0, .int 0, .null, .int 0, .null, .int 0, .null, .null, .null, .null, .null, .null, .null, .null, .null, .null, .null, .null, .int 0, .int 0, .int 0, .int 0, .null, .null]))]) H := hP
  have hD : va_D (hk_A s) (hi_w5 t u ++ [(q6, .inr (6, [.int 0, .null, .null, .null, .int 0, .int 0, .int 0, .int 0, .int 0, .int 0, .null, .null, .null, .null, .null, .null, .null, .null, .int 0, .null, .int 0, .int 0, .int 0, .null, .int 0, .null, .int 0, .null, .null, .null, .null, .null, .null, .null, .null, .null, .null, .null, .null, .int 0, .int 0, .int 0, .int 0, .null, .null]))]) := hD
  refine lv_dup hx hb dL_law_11 rfl ?_
  have hFc := va_free (wc := [(q6, .inr (6, [.int 0, .null, .null, .null, .int 0, .int 0, .int 0, .int 0, .int 0, .int 0, .null, .null, .null, .null, .null, .null, .null, .null, .int 0, .null, .int 0, .int 0, .int 0, .null, .int 0, .null, .int 0, .null, .null, .null, .null, .null, .null, .null, .null, .null, .null, .null, .null, .int 0, .int 0, .int 0, .int 0, .null, .null]))]) hD hS hA [57] rfl
  have hPc := hP.sub (ws' := [(q6, .inr (6, [.int 0, .null, .null, .null, .int 0, .int 0, .int 0, .int 0, .int 0, .int 0, .null, .null, .null, .null, .null, .null, .null, .null, .int 0, .null, .int 0, .int 0, .int 0, .null, .int 0, .null, .int 0, .null, .null, .null, .null, .null, .null, .null, .null, .null, .null, .null, .null, .int 0, .int 0, .int 0, .int 0, .null, .null]))]) [57] rfl
  refine va_callv (va_runI (As := []) (rest := [.ref q6]) ⟨hx, hb, hml, hown, hts⟩ (tX6_init l D t q6 H.size) (cwI 0 hts (hg_goodC (hg_m4 74 (by decide +kernel) rfl)) rfl rfl rfl (hts _ (hg_m1 7 (by decide +kernel) rfl)) (hts _ (hg_m4 72 (by decide +kernel) rfl)) (hts _ (hg_m4 73 (by decide +kernel) rfl)) rfl (by decide +kernel) ⟨(Nat.le_of_ble_eq_true rfl), (Nat.le_of_ble_eq_true rfl)⟩) ⟨hi_blind, fun U hU hW => ⟨rfl, by rw [hU], by rw [hU]; exact hPc, va_K.moved hW.alike (hj_K hK), va_AOA.moved hW.alike hAO, hi_nw hW hN⟩⟩ rfl rfl hl.1 rfl (lv_room (Nat.le_of_ble_eq_true rfl)) dL_law_12 ⟨(Nat.le_of_ble_eq_true rfl), (Nat.le_of_ble_eq_true rfl)⟩) hS (fun q _ h => hFc q h) hFc (fun v U9 H1 locs1 ht hvm hw hB hz1 hk1 hS => ?_)
  obtain ⟨hP1, hD1⟩ := hB
  rw [ht] at hP1
  obtain ⟨hPJ, hDJ⟩ := va_join (wr := hi_w5 t u) (w1 := hi_w6 t v) hP hD [57] [0, 1, 2, 3, 4, 5, 6, 7, 8, 9, 10, 11, 12, 13, 14, 15, 16, 17, 18, 19, 20, 21, 22, 23, 24, 25, 26, 27, 28, 29, 30, 31, 32, 33, 34, 35, 36, 37, 38, 39, 40, 41, 42, 43, 44, 45, 46, 47, 48, 49, 50, 51, 52, 53, 54, 55, 56] rfl rfl (by decide) (by decide) hk1 hFc hP1 hD1
  have hw : v 0 = q6 := hw
  subst hw
  generalize H1 = H at hPJ hS ⊢
  have hP := hPJ
  have hD := hDJ
  have hP : va_P D vwCl (hi_w5 t u ++ hi_w6 t v) H := hP
  have hD : va_D (hk_A s) (hi_w5 t u ++ hi_w6 t v) := hD
  refine lv_astore_n (lv' := [(2, .ref (v 0)), (1, .ref (u 0)), (0, .ref b)]) hx hb dL_law_15 rfl hl (by decide) rfl (fun ls hl => ?_)
  refine lv_iconst (v := 1) hx hb dL_law_16 (by decide) ?_
  refine va_newa (atype := .long) (ty := .long) (a0 := (1, .inr (.inl (fun _ => 0)))) hx hb (hts0 (.arrayClass .long) (he_w1 _ (by simp))) rfl hK hP hD hS hA (fun cA => by rw [vp_cell_l]; rfl) (by decide) (by decide) (by decide) (Nat.le_of_ble_eq_true rfl) (Nat.le_of_ble_eq_true rfl) dL_law_17 (fun o cA H hK1 hP hD hS => ?_)
  have h1 : va_RA s cA .long := (hK1.2 4 (cA, .long) rfl).2
  have h2 : va_RA s tl .long := (hK.2 3 _ rfl).2
  have e9 : cA = tl := Option.some.inj (h1.symm.trans h2)
  subst e9
  rw [hi_eC, hi_eM] at hP hD
  refine lv_astore_n (lv' := [(3, .ref o), (2, .ref (v 0)), (1, .ref (u 0)), (0, .ref b)]) hx hb dL_law_19 rfl hl (by decide) rfl (fun ls hl => ?_)
  refine lv_iconst (v := 0) hx hb dL_law_20 (by decide) ?_
  refine lv_istore (lv' := [(4, .int 0), (3, .ref o), (2, .ref (v 0)), (1, .ref (u 0)), (0, .ref b)]) hx hb dL_law_21 hl (by decide) rfl (fun ls hl => ?_)
  have hl : lv_has ls 7 [(0, .ref b), (1, .ref (u 0)), (2, .ref (v 0)), (3, .ref o), (4, .int 0)] := lv_sub hl [4, 3, 2, 1, 0] rfl
  have hD2 := hl_leftD hD
  have hDC := hg_Dd.of (hl_leftD hD2)
  have hDM := hg_Dd.of (hl_rightD hD2)
  have ho : hk_A s o := hD.2 _ _ (hl_r (k := 0) rfl)
  have hMo : ∀ i, i < hg_FM.1 → v i ≠ o := fun i hi => hl_apart (i := hg_FC.1 + i) (k := 0) hD (by
    have h9 := hl_r (ws := hg_ws hg_FC t u hi_sC hg_rC) (hg_at (t := t) (ad := v) (σ := hi_sM) (ρ := hg_rM) hi)
    have e9 : (hg_ws hg_FC t u hi_sC hg_rC).length = hg_FC.1 := by unfold hg_ws; rw [List.length_map, List.length_range]
    rw [e9] at h9
    exact h9) rfl
  have hCo : ∀ i, i < hg_FC.1 → u i ≠ o := fun i hi => hl_apart (i := i) (k := 0) hD (by rw [List.getElem?_append_left (by rw [List.length_append]; have e9 : (hg_ws hg_FC t u hi_sC hg_rC).length = hg_FC.1 := by unfold hg_ws; rw [List.length_map, List.length_range]
                                                                                                                         omega)]; exact hg_at hi) rfl
  have hCM : ∀ i k, i < hg_FC.1 → k < hg_FM.1 → u i ≠ v k := fun i k hi hk => hl_apart hD2 (hg_at hi) (hg_at hk)
  refine W.widen (k := 100 + 0) (n := 50000 + 6 * 0) (Nat.le_of_ble_eq_true rfl) (Nat.le_of_ble_eq_true rfl) ?_
  have hC : hk_C (p, l, e, s, m, below, meth, c, (D, t, cA), (b, L, xs), (u 0, v, o), he_E z ss) := ⟨⟨hx, hb, hr, hml, hown, hts, hX, hbl, hlk⟩, hL, hlt, hK, ⟨he_ok z ss, he_Xa z ss, he_Ca z ss⟩, hE, hDM, ho, hMo⟩
  exact hk_loop hC (L + 2) 0 0 (by decide) (Nat.zero_le _) (by show L + 4 ≤ 4 * 0 + 4 * (L + 2); omega) u hi_sC hi_sM _ _ ls hl ⟨rfl, hDC, hCo, hCM, ⟨hl_iA, hl_iB⟩, hl_left (hl_left hP), hl_right (hl_left hP), _, hl_right hP⟩ trivial hS
