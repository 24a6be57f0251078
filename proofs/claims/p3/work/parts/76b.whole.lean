set_option maxRecDepth 10000 in
theorem whole_start {p : Program} {e : Env} {s : State} {m : MethodId} {below : List Frame} {meth : Method} {c : Code} (l : Launch) (hlt : l.stackTraces = false) {b L : Nat} {xs : Nat → Int32} (hL : L ≤ 2048) (C0 : lw_At p s m meth c b L xs) : W p l e room_1 s m #[Value.ref b] below meth c s.heap [] 0 0 (lw_Z below #[Value.ref b] s) (entryFrame m ([Value.ref b] : List Value).toArray 7) := by
  obtain ⟨hx, hb, hr, hml, hown, hts0, hX, hbl, hlk, hgv⟩ := id C0
  have hb : c.code = cL_law := hb
  have hown : s.vm.findClass RL = some m.cls := hown
  have hts : ∀ w ∈ hg_tbl, w.before #[Value.ref b] s = true := fun w h => hts0 w (List.mem_filter.mp h).1
  have hA : ∀ q : Nat, s.heap.size ≤ q → hk_A s q := fun _ h => h
  obtain ⟨z, ss, hE⟩ := he_start (A := hk_A s) hts0 hgv (fun a h => Nat.not_le.mpr h)
  obtain ⟨D, t, tl, hK⟩ := he_known hts0
  have hAO : va_AOA .int s := va_AOA.of (hts0 (.arrayOver (.array .int)) (he_w1 _ (by simp)))
  have hN : ∀ w ∈ hg_nws, va_Nw w s := hE.2.1
  have hS : va_S (hk_A s) s.heap s.heap [] := va_S.rf
  have hP : va_P D vwCl [] s.heap := fun k q h => by simp at h
  have hD : va_D (hk_A s) [] := ⟨fun i j p q h => by simp at h, fun k q h => by simp at h⟩
  have hl := lv_entry ([.ref b]) (n := 7) (Nat.le_of_ble_eq_true rfl)
  rw [lg_entry_eq]
  generalize (lg_sl ([.ref b]) ++ List.replicate (7 - (lg_sl ([.ref b])).length) Slot.unset).toArray = ls at hl ⊢
  have hl : lv_has ls 7 [(0, .ref b)] := hl
  refine va_new (ci := 5) (fs := [.null, .null, .null, .null, .null, .null, .int 0, .null]) (C := RX5) (T := TX5) (N := 8) hx hb hts inT_5 tyX5 tyX5_ok hown (hts _ (hg_m1 21 (by decide +kernel) rfl)) (hts _ (hg_m1 22 (by decide +kernel) rfl)) (hts _ (hg_m1 1 (by decide +kernel) rfl)) (hj_K hK) hP hD hS hA rfl (fun j hj => by rcases (show j = 0 ∨ j = 1 ∨ j = 2 ∨ j = 3 ∨ j = 4 ∨ j = 5 ∨ j = 6 ∨ j = 7 by omega) with rfl | rfl | rfl | rfl | rfl | rfl | rfl | rfl <;> rfl) (Nat.le_of_ble_eq_true rfl) (Nat.le_of_ble_eq_true rfl) dL_law_0 (fun q0 H hP hD hS => ?_)
  refine lv_dup hx hb dL_law_3 rfl ?_
  have hFc := hl_freeR hD hS hA
  have hPc := hl_right hP
  refine va_callv (va_runI (As := []) (rest := [.ref q0]) ⟨hx, hb, hml, hown, hts⟩ (tX5_init l D t q0 H.size) (cwI 0 hts (hg_goodC (hg_m1 25 (by decide +kernel) rfl)) rfl rfl rfl (hts _ (hg_m1 1 (by decide +kernel) rfl)) (hts _ (hg_m1 23 (by decide +kernel) rfl)) (hts _ (hg_m1 24 (by decide +kernel) rfl)) rfl (by decide +kernel) ⟨(Nat.le_of_ble_eq_true rfl), (Nat.le_of_ble_eq_true rfl)⟩) ⟨hi_blind, fun U hU hW => ⟨rfl, by rw [hU], by rw [hU]; exact hPc, va_K.moved hW.alike (hj_K hK), va_AOA.moved hW.alike hAO, hi_nw hW hN⟩⟩ rfl rfl hl.1 rfl (lv_room (Nat.le_of_ble_eq_true rfl)) dL_law_4 ⟨(Nat.le_of_ble_eq_true rfl), (Nat.le_of_ble_eq_true rfl)⟩) hS (fun q _ h => hFc q h) hFc (fun u U9 H1 locs1 ht hvm hw hB hz1 hk1 hS => ?_)
  obtain ⟨hP1, hD1⟩ := hB
  rw [ht] at hP1
  obtain ⟨hPJ, hDJ⟩ := hl_join hP hD hk1 hFc hP1 hD1
  have hw : u 0 = q0 := hw
  subst hw
  rw [hi_eC] at hPJ hDJ
  generalize h5 : hg_ws hg_FC t u hi_sC hg_rC = w5 at hPJ hDJ
  generalize H1 = H at hPJ hS ⊢
  clear hP hD hPc hFc hk1 hP1 hD1
  have hP : va_P D vwCl w5 H := hPJ
  have hD : va_D (hk_A s) w5 := hDJ
  refine lv_astore_n (lv' := [(1, .ref (u 0)), (0, .ref b)]) hx hb dL_law_7 rfl hl (by decide) rfl (fun ls hl => ?_)
  refine va_new (ci := 6) (fs := [.int 0, .null, .null, .null, .int 0, .int 0, .int 0, .int 0, .int 0, .int 0, .null, .null, .null, .null, .null, .null, .null, .null, .int 0, .null, .int 0, .int 0, .int 0, .null, .int 0, .null, .int 0, .null, .null, .null, .null, .null, .null, .null, .null, .null, .null, .null, .null, .int 0, .int 0, .int 0, .int 0, .null, .null]) (C := RX6) (T := TX6) (N := 45) hx hb hts inT_6 tyX6 tyX6_ok hown (hts _ (hg_m4 70 (by decide +kernel) rfl)) (hts _ (hg_m4 71 (by decide +kernel) rfl)) (hts _ (hg_m1 7 (by decide +kernel) rfl)) (hj_K hK) hP hD hS hA rfl (fun j hj => by rcases (show j = 0 ∨ j = 1 ∨ j = 2 ∨ j = 3 ∨ j = 4 ∨ j = 5 ∨ j = 6 ∨ j = 7 ∨ j = 8 ∨ j = 9 ∨ j = 10 ∨ j = 11 ∨ j = 12 ∨ j = 13 ∨ j = 14 ∨ j = 15 ∨ j = 16 ∨ j = 17 ∨ j = 18 ∨ j = 19 ∨ j = 20 ∨ j = 21 ∨ j = 22 ∨ j = 23 ∨ j = 24 ∨ j = 25 ∨ j = 26 ∨ j = 27 ∨ j = 28 ∨ j = 29 ∨ j = 30 ∨ j = 31 ∨ j = 32 ∨ j = 33 ∨ j = 34 ∨ j = 35 ∨ j = 36 ∨ j = 37 ∨ j = 38 ∨ j = 39 ∨ j = 40 ∨ j = 41 ∨ j = 42 ∨ j = 43 ∨ j = 44 by omega) with rfl | rfl | rfl | rfl | rfl | rfl | rfl | rfl | rfl | rfl | rfl | rfl | rfl | rfl | rfl | rfl | rfl | rfl | rfl | rfl | rfl | rfl | rfl | rfl | rfl | rfl | rfl | rfl | rfl | rfl | rfl | rfl | rfl | rfl | rfl | rfl | rfl | rfl | rfl | rfl | rfl | rfl | rfl | rfl | rfl <;> rfl) (Nat.le_of_ble_eq_true rfl) (Nat.le_of_ble_eq_true rfl) dL_law_8 (fun q6 H hP hD hS => ?_)
  refine lv_dup hx hb dL_law_11 rfl ?_
  have hFc := hl_freeR hD hS hA
  have hPc := hl_right hP
  refine va_callv (va_runI (As := []) (rest := [.ref q6]) ⟨hx, hb, hml, hown, hts⟩ (tX6_init l D t q6 H.size) (cwI 0 hts (hg_goodC (hg_m4 74 (by decide +kernel) rfl)) rfl rfl rfl (hts _ (hg_m1 7 (by decide +kernel) rfl)) (hts _ (hg_m4 72 (by decide +kernel) rfl)) (hts _ (hg_m4 73 (by decide +kernel) rfl)) rfl (by decide +kernel) ⟨(Nat.le_of_ble_eq_true rfl), (Nat.le_of_ble_eq_true rfl)⟩) ⟨hi_blind, fun U hU hW => ⟨rfl, by rw [hU], by rw [hU]; exact hPc, va_K.moved hW.alike (hj_K hK), va_AOA.moved hW.alike hAO, hi_nw hW hN⟩⟩ rfl rfl hl.1 rfl (lv_room (Nat.le_of_ble_eq_true rfl)) dL_law_12 ⟨(Nat.le_of_ble_eq_true rfl), (Nat.le_of_ble_eq_true rfl)⟩) hS (fun q _ h => hFc q h) hFc (fun v U9 H1 locs1 ht hvm hw hB hz1 hk1 hS => ?_)
  obtain ⟨hP1, hD1⟩ := hB
  rw [ht] at hP1
  obtain ⟨hPJ, hDJ⟩ := hl_join hP hD hk1 hFc hP1 hD1
  have hw : v 0 = q6 := hw
  subst hw
  rw [hi_eM] at hPJ hDJ
  generalize h6 : hg_ws hg_FM t v hi_sM hg_rM = w6 at hPJ hDJ
  generalize H1 = H at hPJ hS ⊢
  clear hP hD hPc hFc hk1 hP1 hD1
  have hP : va_P D vwCl (w5 ++ w6) H := hPJ
  have hD : va_D (hk_A s) (w5 ++ w6) := hDJ
  refine lv_astore_n (lv' := [(2, .ref (v 0)), (1, .ref (u 0)), (0, .ref b)]) hx hb dL_law_15 rfl hl (by decide) rfl (fun ls hl => ?_)
  refine lv_iconst (v := 1) hx hb dL_law_16 (by decide) ?_
  refine va_newa (atype := .long) (ty := .long) (a0 := (1, .inr (.inl (fun _ => 0)))) hx hb (hts0 (.arrayClass .long) (he_w1 _ (by simp))) rfl hK hP hD hS hA (fun cA => by rw [vp_cell_l]; rfl) (by decide) (by decide) (by decide) (Nat.le_of_ble_eq_true rfl) (Nat.le_of_ble_eq_true rfl) dL_law_17 (fun o cA H hK1 hP hD hS => ?_)
  have h1 : va_RA s cA .long := (hK1.2 4 (cA, .long) rfl).2
  have h2 : va_RA s tl .long := (hK.2 3 _ rfl).2
  have e9 : cA = tl := Option.some.inj (h1.symm.trans h2)
  rw [e9] at hP hD
  refine lv_astore_n (lv' := [(3, .ref o), (2, .ref (v 0)), (1, .ref (u 0)), (0, .ref b)]) hx hb dL_law_19 rfl hl (by decide) rfl (fun ls hl => ?_)
  refine lv_iconst (v := 0) hx hb dL_law_20 (by decide) ?_
  refine lv_istore (lv' := [(4, .int 0), (3, .ref o), (2, .ref (v 0)), (1, .ref (u 0)), (0, .ref b)]) hx hb dL_law_21 hl (by decide) rfl (fun ls hl => ?_)
  have hl : lv_has ls 7 [(0, .ref b), (1, .ref (u 0)), (2, .ref (v 0)), (3, .ref o), (4, .int 0)] := lv_sub hl [4, 3, 2, 1, 0] rfl
  refine W.widen (k := 100 + 0) (n := 50000 + 6 * 0) (Nat.le_of_ble_eq_true rfl) (Nat.le_of_ble_eq_true rfl) ?_
  exact hl_fin hlt hL C0 hE hK h5 h6 hP hD hS hl
