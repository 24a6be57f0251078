/-! THE LAW FROM ITS ENTRY (written by mkW.py) -/
section HL
variable {D : va_G} {ws ws' : va_W} {H : Heap} {A : Nat → Prop}
theorem hl_left (h : va_P D vwCl (ws ++ ws') H) : va_P D vwCl ws H := fun k q hk => h k q (by rw [List.getElem?_append_left (List.getElem?_eq_some_iff.mp hk).1]; exact hk)
theorem hl_right (h : va_P D vwCl (ws ++ ws') H) : va_P D vwCl ws' H := fun k q hk => h (ws.length + k) q (by rw [List.getElem?_append_right (by omega), show ws.length + k - ws.length = k by omega]; exact hk)
theorem hl_leftD (h : va_D A (ws ++ ws')) : va_D A ws := ⟨fun i j x y hi hj => h.1 i j x y (by rw [List.getElem?_append_left (List.getElem?_eq_some_iff.mp hi).1]; exact hi) (by rw [List.getElem?_append_left (List.getElem?_eq_some_iff.mp hj).1]; exact hj), fun k q hk => h.2 k q (by rw [List.getElem?_append_left (List.getElem?_eq_some_iff.mp hk).1]; exact hk)⟩
theorem hl_r {k : Nat} {q : Nat × va_E} (hk : ws'[k]? = some q) : (ws ++ ws')[ws.length + k]? = some q := by rw [List.getElem?_append_right (by omega), show ws.length + k - ws.length = k by omega]; exact hk
theorem hl_rightD (h : va_D A (ws ++ ws')) : va_D A ws' := ⟨fun i j x y hi hj e => by have := h.1 _ _ x y (hl_r hi) (hl_r hj) e; omega, fun k q hk => h.2 _ q (hl_r hk)⟩
theorem hl_apart (h : va_D A (ws ++ ws')) {i k : Nat} {x y : Nat × va_E} (hi : ws[i]? = some x) (hk : ws'[k]? = some y) : x.1 ≠ y.1 := by
  intro e
  have hlt := (List.getElem?_eq_some_iff.mp hi).1
  have := h.1 i _ x y (by rw [List.getElem?_append_left hlt]; exact hi) (hl_r hk) e
  omega
end HL
theorem hl_iA : iA hi_sC := by
  have z16 : (0 : Int32) ≤ 0 ∧ (0 : Int32) < 16 := by decide
  have z13 : (0 : Int32) ≤ 0 ∧ (0 : Int32) < 13 := by decide
  have z60 : (0 : Int32) ≤ 0 ∧ (0 : Int32) ≤ 60 := by decide
  have z6 : (0 : Int32) ≤ 0 ∧ (0 : Int32) < 60 := by decide
  have z720 : (0 : Int32) ≤ 0 ∧ (0 : Int32) ≤ 720 := by decide
  have zr : rOK 0 0 0 0 0 := by unfold rOK; decide
  refine ⟨by decide, ?_, ?_, ?_, ?_, ?_, ?_, ?_⟩
  · exact fun j _ h => absurd rfl h
  · exact ⟨by decide, by decide, fun k _ => z6⟩
  · exact ⟨by decide, by decide, fun k _ => ⟨z16, z13, z60, z60⟩⟩
  · exact ⟨z60, fun k _ => ⟨z16, z13, z60, z60⟩, fun j _ h => absurd rfl h⟩
  · exact ⟨by decide, by decide, fun k _ => zr⟩
  · exact fun j _ => z720
  · exact z60
theorem hl_e (n : Nat) : eOK (fun _ => 0) n := by
  have h1 : (0 : Int32) ≤ 0 ∧ (0 : Int32) < 16 := by decide
  have h2 : (0 : Int32) ≤ 0 ∧ (0 : Int32) < 13 := by decide
  exact ⟨h1, h2, fun _ => h1, fun _ => h1⟩
theorem hl_iB : iB hi_sM := by
  have e9 : (hi_sM 0 9).toNatClampNeg = 0 := by decide
  have e20 : (hi_sM 0 20).toNatClampNeg = 0 := by decide
  have zr : rg 0 := by unfold rg; decide
  refine ⟨by decide, fun n _ => hl_e n, ?_, ?_, ?_, by decide⟩
  · unfold xOK
    rw [e9]
    exact ⟨⟨by decide, by decide⟩, fun n _ => hl_e n, fun q hq => absurd hq (by omega), fun q s hq => absurd hq (by omega)⟩
  · exact ⟨fun i _ => zr, fun i _ => zr, fun i _ => zr, fun i _ => zr, fun i _ => zr, fun i _ => Or.inl rfl⟩
  · unfold cOK
    rw [e20]
    exact ⟨⟨by decide, by decide⟩, fun i hi => absurd hi (by omega), Nat.zero_le _⟩
theorem hl_join {D : va_G} {w5 w6 : va_W} {x : Nat × va_E} {H H1 : Heap} {A : Nat → Prop} (hP : va_P D vwCl (w5 ++ [x]) H) (hD : va_D A (w5 ++ [x])) (hk : ∀ q : Nat, q < H.size → ¬ va_A [x] H.size q → H1[q]? = H[q]?) (hF : ∀ q, va_A [x] H.size q → A q) (hP1 : va_P D vwCl w6 H1) (hD1 : va_D (va_A [x] H.size) w6) : va_P D vwCl (w5 ++ w6) H1 ∧ va_D A (w5 ++ w6) := by
  have h5 := hl_left hP
  have hne : ∀ (k : Nat) (y : Nat × va_E), w5[k]? = some y → ¬ va_A [x] H.size y.1 := by
    rintro k y hy (⟨k9, e9, h9⟩ | h9)
    · exact hl_apart hD hy h9 rfl
    · exact absurd (h5 k y hy).lt (by omega)
  refine ⟨(h5.kept (fun k y hy => hk y.1 (h5 k y hy).lt (hne k y hy))).app hP1, va_D.app (hl_leftD hD) ⟨hD1.1, fun k q hq => hF _ (hD1.2 k q hq)⟩ (fun i j y z hy hz e => ?_)⟩
  exact hne i y hy (by rw [e]; exact hD1.2 j z hz)
theorem hl_freeR {w5 : va_W} {x : Nat × va_E} {A : Nat → Prop} {H0 H : Heap} {locs : List Loc} (hD : va_D A (w5 ++ [x])) (hS : va_S A H0 H locs) (hA : ∀ q, H0.size ≤ q → A q) : ∀ q, va_A [x] H.size q → A q := by
  rintro q (⟨k, e, hk⟩ | h)
  · exact (hl_rightD hD).2 k _ hk
  · exact hA q (Nat.le_trans hS.1 h)
theorem hl_wlen {F : hg_F} {t : hg_T} {ad : Nat → Nat} {σ : hg_M} {ρ : hg_R} : (hg_ws F t ad σ ρ).length = F.1 := by unfold hg_ws; rw [List.length_map, List.length_range]
theorem hl_fin {p : Program} {e : Env} {s : State} {m : MethodId} {below : List Frame} {meth : Method} {c : Code} {l : Launch} (hlt : l.stackTraces = false) {b L : Nat} {xs : Nat → Int32} (hL : L ≤ 2048) (C0 : lw_At p s m meth c b L xs) {z : hg_Zt} {ss : Nat → Nat} (hE : he_E z ss (hk_A s) s s.heap) {D : va_G} {t : hg_T} {tl : ClassId} (hK : va_K D vwCl (hj_tys t tl) s) {u v : Nat → Nat} {o : Nat} {f : Nat → Int64} {w5 w6 : va_W} (h5 : hg_ws hg_FC t u hi_sC hg_rC = w5) (h6 : hg_ws hg_FM t v hi_sM hg_rM = w6) {H : Heap} {locs : List Loc}
    (hP : va_P D vwCl ((w5 ++ w6) ++ hj_o tl o f) H) (hD : va_D (hk_A s) ((w5 ++ w6) ++ hj_o tl o f)) (hS : va_S (hk_A s) s.heap H locs) {ls : Array Slot} (hl : lv_has ls 7 [(0, .ref b), (1, .ref (u 0)), (2, .ref (v 0)), (3, .ref o), (4, .int 0)]) : W p l e room_1 s m #[Value.ref b] below meth c H locs (100 + 0) (50000 + 6 * 0) (lw_Z below #[Value.ref b] s) (F0 m 23 ls []) := by
  obtain ⟨hx, hb, hr, hml, hown, hts0, hX, hbl, hlk, hgv⟩ := C0
  have hts : ∀ w ∈ hg_tbl, w.before #[Value.ref b] s = true := fun w h => hts0 w (List.mem_filter.mp h).1
  have hPC := hl_left (hl_left hP)
  have hPM := hl_right (hl_left hP)
  have hPo := hl_right hP
  have hD2 := hl_leftD hD
  have hDC0 := hl_leftD hD2
  have hDM0 := hl_rightD hD2
  have ho : hk_A s o := (hl_rightD hD).2 0 _ rfl
  have a5 : ∀ i, i < hg_FC.1 → ∃ x, w5[i]? = some (u i, x) := fun i hi => ⟨_, by rw [← h5]; exact hg_at hi⟩
  have a6 : ∀ i, i < hg_FM.1 → ∃ x, w6[i]? = some (v i, x) := fun i hi => ⟨_, by rw [← h6]; exact hg_at hi⟩
  have hMo : ∀ i, i < hg_FM.1 → v i ≠ o := fun i hi => by
    obtain ⟨x, hx9⟩ := a6 i hi
    exact hl_apart (y := (o, .inl (tl, 1, .inr (.inl f)))) hD (hl_r hx9) (k := 0) rfl
  have hCo : ∀ i, i < hg_FC.1 → u i ≠ o := fun i hi => by
    obtain ⟨x, hx9⟩ := a5 i hi
    exact hl_apart (y := (o, .inl (tl, 1, .inr (.inl f)))) hD (by rw [List.getElem?_append_left (List.getElem?_eq_some_iff.mp hx9).1]; exact hx9) (k := 0) rfl
  have hCM : ∀ i k, i < hg_FC.1 → k < hg_FM.1 → u i ≠ v k := fun i k hi hk => by
    obtain ⟨x, hx9⟩ := a5 i hi
    obtain ⟨y, hy9⟩ := a6 k hk
    exact hl_apart hD2 hx9 hy9
  subst h5
  subst h6
  have hDC := hg_Dd.of hDC0
  have hDM := hg_Dd.of hDM0
  have hC : hk_C (p, l, e, s, m, below, meth, c, (D, t, tl), (b, L, xs), (u 0, v, o), he_E z ss) := ⟨⟨hx, hb, hr, hml, hown, hts, hX, hbl, hlk⟩, hL, hlt, hK, ⟨he_ok z ss, he_Xa z ss, he_Ca z ss⟩, hE, hDM, ho, hMo⟩
  have hG := hk_loop hC (L + 2) 0 0 (by decide) (Nat.zero_le _) (by show L + 4 ≤ 4 * 0 + 4 * (L + 2); omega)
  exact hG u hi_sC hi_sM H locs ls hl ⟨rfl, hDC, hCo, hCM, ⟨hl_iA, hl_iB⟩, hPC, hPM, f, hPo⟩ trivial hS

