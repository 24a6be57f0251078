/-! The reader's larger methods, and takeTape. -/
theorem hl0 : hg_len 0 = 8 := rfl
theorem hl1 : hg_len 1 = 3 := rfl
theorem hc_pos : ∀ i, i < 2 → ∀ j, j < 8 → hg_ch i j = -1 → False := by decide
theorem pW_takeBranch {s : Int32} {σ : hg_M} {P : Int32 → hg_M → Prop} (h : iW σ) (hs0 : 0 ≤ s) (hs : s < 60) (ho : σ 3 5 < 6) (hP : ∀ r σ', (r = 0 ∨ r = 1) → iW σ' → gW σ σ' → P r σ') : wC_X4_takeBranch s σ P := by
  unfold wC_X4_takeBranch bC_X4_takeBranch_87
  refine ⟨hp_60 hs0 hs, fun σ1 e1 => ?_⟩
  have w1 : iW σ1 := by rw [e1]; exact h.s8
  have g1 : gW σ σ1 := by rw [e1]; exact gW.s (by omega)
  have o1 : σ1 3 5 = σ 3 5 := by rw [e1]; simp [hg_set]
  refine pW_takeValue w1 (by grind) (by grind) (fun r2 σ2 _ w2 gv2 => ?_)
  have g2 := g1.trans gv2.W
  have o2 : σ2 3 5 = σ 3 5 := (gv2.2 5 (by decide) (by decide) (by decide)).trans o1
  refine ⟨fun _ => ?_, fun _ => ⟨Or.inl rfl, hP 0 σ2 (Or.inl rfl) w2 g2⟩⟩
  refine pW_nextByte w2 (fun r3 σ3 w3 gv3 l3 m3 => ?_)
  have g3 := g2.trans gv3.W
  have o3 : σ3 3 5 = σ 3 5 := (gv3.2 5 (by decide) (by decide) (by decide)).trans o2
  have href : ∀ r18 σ17, (r18 : Int32) = 0 → iW σ17 → gW σ3 σ17 → (r18 = 0 ∨ r18 = 1) ∧ P r18 σ17 := fun r18 σ17 e w g => ⟨Or.inl e, hP r18 σ17 (Or.inl e) w (g3.trans g)⟩
  refine pC_placeIn (by rw [hl1]; decide) ⟨fun h => absurd rfl h, fun _ => pW_refuse w3 (fun σ4 w4 g4 => href 0 σ4 rfl w4 g4)⟩ (fun r4 r40 r41 hch => ⟨fun _ σ5 e5 => ?_, fun e => by exfalso; rw [e] at r40; exact absurd r40 (by decide)⟩)
  have r41 : r4 < 3 := by rw [hl1] at r41; exact r41
  have hne : r3 ≠ -1 := by
    intro e
    have : r4.toNatClampNeg < 3 := hp_lt (z := 3) (by decide) r40 r41
    exact hc_pos 1 (by decide) r4.toNatClampNeg (by omega) (hch.trans e)
  have m3 := m3 hne
  obtain ⟨a1, a2, a3⟩ := w3.1.1
  have w5 : iW σ5 := by rw [e5]; exact w3.s36 (by grind) (by grind)
  have g5 : gW σ σ5 := by rw [e5]; exact g3.trans (gW.s (by omega))
  have o5 : σ5 3 5 = σ 3 5 := by rw [e5]; simpa [hg_set] using o3
  refine ⟨hp_60 hs0 hs, fun σ6 e6 => ?_⟩
  have w6 : iW σ6 := by rw [e6]; exact w5.s11 (by grind) (by grind)
  have g6 : gW σ σ6 := by rw [e6]; exact g5.trans (gW.s (by omega))
  have o6 : σ6 3 5 = σ 3 5 := by rw [e6]; simpa [hg_set] using o5
  refine pW_takeValue w6 (by grind) (by grind) (fun r7 σ7 _ w7 gv7 => ?_)
  have g7 := g6.trans gv7.W
  have o7 : σ7 3 5 = σ 3 5 := (gv7.2 5 (by decide) (by decide) (by decide)).trans o6
  refine ⟨fun _ => ⟨Or.inl rfl, hP 0 σ7 (Or.inl rfl) w7 g7⟩, fun _ => ?_⟩
  refine pW_takeByte w7 (by decide) (fun r8 σ8 _ w8 gv8 => ?_)
  have g8 := g7.trans gv8.W
  have o8 : σ8 3 5 = σ 3 5 := (gv8.2 5 (by decide) (by decide) (by decide)).trans o7
  refine ⟨fun _ => ?_, fun _ => ⟨Or.inl rfl, hP 0 σ8 (Or.inl rfl) w8 g8⟩⟩
  have p0 : 0 ≤ σ8 3 5 := w8.2.1.1
  refine ⟨hp_6 p0 (by grind), fun σ9 e9 => ?_⟩
  have w9 : iW σ9 := by rw [e9]; exact w8.s5 hs0 hs
  have g9 : gW σ σ9 := by rw [e9]; exact g8.trans (gW.s (by omega))
  have o9 : σ9 3 5 = σ 3 5 := by rw [e9]; simpa [hg_set] using o8
  refine ⟨hp_6 w9.2.1.1 (by grind), fun σ10 e10 σ11 e11 => ⟨Or.inr rfl, ?_⟩⟩
  have w10 : iW σ10 := by rw [e10]; exact w9.s6
  have g10 : gW σ σ10 := by rw [e10]; exact g9.trans (gW.s (by omega))
  have o10 : σ10 3 5 = σ 3 5 := by rw [e10]; simpa [hg_set] using o9
  have p10 := w10.2.1.1
  subst e11
  exact hP 1 _ (Or.inr rfl) (w10.s35 (by grind) (by grind)) (g10.trans (gW.s (by omega)))
theorem pW_takeSetting {s : Int32} {σ : hg_M} {P : Int32 → hg_M → Prop} (h : iW σ) (hs0 : 0 ≤ s) (hs : s < 60) (hP : ∀ r σ', (r = 0 ∨ r = 1) → iW σ' → gW σ σ' → P r σ') : wC_X4_takeSetting s σ P := by
  unfold wC_X4_takeSetting bC_X4_takeSetting_156 bC_X4_takeSetting_157 bC_X4_takeSetting_63 bC_X4_takeSetting_64
  refine pW_takeByte h (by decide) (fun r1 σ1 _ w1 gv1 => ?_)
  have g1 := gv1.W
  refine ⟨fun _ => ?_, fun _ => ⟨Or.inl rfl, hP 0 σ1 (Or.inl rfl) w1 g1⟩⟩
  refine pW_nextByte w1 (fun r3 σ3 w3 gv3 l3 m3 => ?_)
  have g3 := g1.trans gv3.W
  refine ⟨fun _ => ?_, fun he σ4 e4 => ?_⟩
  · refine pW_takeValue w3 (by grind) (by grind) (fun r5 σ5 _ w5 gv5 => ?_)
    have g5 := g3.trans gv5.W
    refine ⟨fun _ => ?_, fun _ => ⟨Or.inl rfl, hP 0 σ5 (Or.inl rfl) w5 g5⟩⟩
    refine pW_nextByte w5 (fun r7 σ7 w7 gv7 l7 m7 => ?_)
    have g7 := g5.trans gv7.W
    refine pC_placeIn (by rw [hl0]; decide) ⟨fun h => absurd rfl h, fun _ => pW_takeByte w7 (by decide) (fun r8 σ8 hr8 w8 g8 => ⟨hr8, hP r8 σ8 hr8 w8 (g7.trans g8.W)⟩)⟩ (fun r9 r90 r91 hch => ⟨fun _ σ10 e10 => ?_, fun e => by exfalso; rw [e] at r90; exact absurd r90 (by decide)⟩)
    have r91 : r9 < 8 := by rw [hl0] at r91; exact r91
    have hne : r7 ≠ -1 := by
      intro e
      have : r9.toNatClampNeg < 8 := hp_lt (z := 8) (by decide) r90 r91
      exact hc_pos 0 (by decide) r9.toNatClampNeg (by omega) (hch.trans e)
    have m7 := m7 hne
    obtain ⟨a1, a2, a3⟩ := w7.1.1
    have w10 : iW σ10 := by rw [e10]; exact w7.s36 (by grind) (by grind)
    have g10 : gW σ σ10 := by rw [e10]; exact g7.trans (gW.s (by omega))
    refine ⟨hp_60 hs0 hs, fun σ11 e11 => ⟨hp_60 hs0 hs, fun σ12 e12 => ?_⟩⟩
    have w11 : iW σ11 := by rw [e11]; exact w10.s8
    have g11 : gW σ σ11 := by rw [e11]; exact g10.trans (gW.s (by omega))
    have w12 : iW σ12 := by rw [e12]; exact w11.s11 (by grind) (by grind)
    have g12 : gW σ σ12 := by rw [e12]; exact g11.trans (gW.s (by omega))
    refine pW_takeValue w12 (by grind) (by grind) (fun r13 σ13 _ w13 gv13 => ?_)
    have g13 := g12.trans gv13.W
    refine ⟨fun _ => ⟨Or.inl rfl, hP 0 σ13 (Or.inl rfl) w13 g13⟩, fun _ => ?_⟩
    refine pW_takeByte w13 (by decide) (fun r14 σ14 _ w14 gv14 => ?_)
    have g14 := g13.trans gv14.W
    exact ⟨fun _ => ⟨Or.inl rfl, hP 0 σ14 (Or.inl rfl) w14 g14⟩, fun _ => ⟨Or.inr rfl, hP 1 σ14 (Or.inr rfl) w14 g14⟩⟩
  · have m3 := m3 (by grind)
    obtain ⟨a1, a2, a3⟩ := w3.1.1
    have w4 : iW σ4 := by rw [e4]; exact w3.s36 (by grind) (by grind)
    have g4 : gW σ σ4 := by rw [e4]; exact g3.trans (gW.s (by omega))
    refine ⟨hp_60 hs0 hs, fun σ5 e5 => ?_⟩
    have w5 : iW σ5 := by rw [e5]; exact w4.s8
    have g5 : gW σ σ5 := by rw [e5]; exact g4.trans (gW.s (by omega))
    refine pW_takeValue w5 (by grind) (by grind) (fun r6 σ6 _ w6 gv6 => ?_)
    have g6 := g5.trans gv6.W
    refine ⟨fun _ => ⟨Or.inl rfl, hP 0 σ6 (Or.inl rfl) w6 g6⟩, fun _ => ?_⟩
    refine pW_takeByte w6 (by decide) (fun r7 σ7 _ w7 gv7 => ?_)
    have g7 := g6.trans gv7.W
    exact ⟨fun _ => ⟨Or.inl rfl, hP 0 σ7 (Or.inl rfl) w7 g7⟩, fun _ => ⟨Or.inr rfl, hP 1 σ7 (Or.inr rfl) w7 g7⟩⟩
theorem pC_begin {x : Int32} {σ : hg_M} {P : Int32 → hg_M → Prop} (h : iW σ) (hs : σ 7 8 < 60) (hP : ∀ r σ', 0 ≤ r → r < 60 → iW σ' → gW σ σ' → σ' 3 5 = σ 3 5 → σ' 3 6 = σ 3 6 → σ' 3 1 = σ 3 1 → P r σ') : wC_X3_begin x σ P := by
  unfold wC_X3_begin
  intro v ev
  have hv0 : 0 ≤ v := by rw [ev]; exact h.2.2.1
  have hv1 : v < 60 := by rw [ev]; exact hs
  refine ⟨hp_60 hv0 hv1, fun σ1 e1 => ⟨hp_60 hv0 hv1, fun σ2 e2 => ⟨hp_60 hv0 hv1, fun σ3 e3 => ⟨hp_60 hv0 hv1, fun σ4 e4 => ⟨hp_60 hv0 hv1, fun σ5 e5 => ⟨hp_60 hv0 hv1, fun σ6 e6 σ7 e7 => ?_⟩⟩⟩⟩⟩⟩
  have w6 : iW σ6 := by
    rw [e6, e5, e4, e3, e2, e1]
    exact (((((h.s8.s9).s10 (by decide) (by decide)).s11 (by decide) (by decide)).s12 (by grind) (by grind)).s13 (by grind) (by grind))
  have g6 : gW σ σ6 := by
    rw [e6, e5, e4, e3, e2, e1]
    exact (((((gW.s (by omega)).trans (gW.s (by omega))).trans (gW.s (by omega))).trans (gW.s (by omega))).trans (gW.s (by omega))).trans (gW.s (by omega))
  have c3 : σ6 3 = σ 3 := by rw [e6, e5, e4, e3, e2, e1]; simp [hg_set_ne]
  have c7 : σ6 7 = σ 7 := by rw [e6, e5, e4, e3, e2, e1]; simp [hg_set_ne]
  have hsz : σ6 7 8 = v := by rw [c7, ev]
  subst e7
  refine hP v _ hv0 hv1 (w6.s78 (by grind) (by grind)) (g6.trans (gW.s (by omega))) ?_ ?_ ?_
  · rw [hg_set_ne (by decide), c3]
  · rw [hg_set_ne (by decide), c3]
  · rw [hg_set_ne (by decide), c3]
theorem pW_closeSide {σ : hg_M} {P : Int32 → hg_M → Prop} (h : iW σ) (hp : σ 3 6 < σ 3 1) (hP : ∀ r σ', (r = 0 ∨ r = 1) → iW σ' → gW σ σ' → P r σ') : wC_X4_closeSide σ P := by
  have h98 : ∀ v σ1, 0 ≤ v → v < 60 → iW σ1 → gW σ σ1 → 0 < σ1 3 5 → bC_X4_closeSide_98 P v σ1 := by
    intro v σ1 v0 v1 w1 g1 o1
    unfold bC_X4_closeSide_98
    refine ⟨hp_60 v0 v1, fun σ2 e2 σ3 e3 => ⟨Or.inr rfl, ?_⟩⟩
    have w2 : iW σ2 := by rw [e2]; exact w1.s13 w1.2.2.1 w1.2.2.2.1
    have o2 : σ2 3 5 = σ1 3 5 := by rw [e2]; simp [hg_set]
    have q2 := w2.2.1.2.1
    have g3 : gW σ σ3 := by rw [e3, e2]; exact (g1.trans (gW.s (by omega))).trans (gW.s (by omega))
    exact hP 1 σ3 (Or.inr rfl) (by rw [e3]; exact w2.s35 (by grind) (by grind)) g3
  unfold wC_X4_closeSide
  refine ⟨fun ho σ1 e1 => ?_, fun _ => pW_refuse h (fun σ8 w8 g8 => ⟨Or.inl rfl, hP 0 σ8 (Or.inl rfl) w8 g8⟩)⟩
  obtain ⟨a1, a2, a3⟩ := h.1.1
  have w1 : iW σ1 := by rw [e1]; exact h.s36 (by grind) (by grind)
  have g1 : gW σ σ1 := by rw [e1]; exact gW.s (by omega)
  have o1 : σ1 3 5 = σ 3 5 := by rw [e1]; simp [hg_set]
  obtain ⟨q0, q1, q2⟩ := w1.2.1
  have hi : vp_in (σ1 3 5 - 1) 6 := hp_6 (by grind) (by grind)
  refine ⟨hi, fun v ev => ⟨hi, ?_⟩⟩
  have hv := q2 _ (hg_lt hi)
  rw [← ev] at hv
  have o1p : 0 < σ1 3 5 := by grind
  refine ⟨fun _ => h98 v σ1 hv.1 hv.2 w1 g1 o1p, fun _ => ⟨hp_60 hv.1 hv.2, fun σ3 e3 => ?_⟩⟩
  have w3 : iW σ3 := by rw [e3]; exact w1.s12 w1.2.2.1 w1.2.2.2.1
  have g3 : gW σ σ3 := by rw [e3]; exact g1.trans (gW.s (by omega))
  have o3 : σ3 3 5 = σ1 3 5 := by rw [e3]; simp [hg_set]
  refine pW_nextByte w3 (fun r σ4 w4 gv4 l4 m4 => ?_)
  have g4 := g3.trans gv4.W
  have o4 : σ4 3 5 = σ1 3 5 := (gv4.2 5 (by decide) (by decide) (by decide)).trans o3
  refine ⟨fun _ => h98 v σ4 hv.1 hv.2 w4 g4 (by rw [o4]; exact o1p), fun hr σ6 e6 => ?_⟩
  have m4 := m4 (by grind)
  obtain ⟨b1, b2, b3⟩ := w4.1.1
  have w6 : iW σ6 := by rw [e6]; exact w4.s36 (by grind) (by grind)
  have g6 : gW σ σ6 := by rw [e6]; exact g4.trans (gW.s (by omega))
  have o6 : σ6 3 5 = σ1 3 5 := by rw [e6]; simpa [hg_set] using o4
  refine ⟨by rw [o6]; exact hi, fun σ7 e7 => ⟨Or.inr rfl, ?_⟩⟩
  exact hP 1 σ7 (Or.inr rfl) (by rw [e7]; exact w6.s6) (by rw [e7]; exact g6.trans (gW.s (by omega)))
theorem pW_takeStatement {x : Int32} {σ : hg_M} {P : Int32 → hg_M → Prop} (h : iW σ) (hp : σ 3 6 < σ 3 1) (hP : ∀ r σ', (r = 0 ∨ r = 1) → iW σ' → gW σ σ' → P r σ') : wC_X4_takeStatement x σ P := by
  have hend : ∀ r σ', (r = 0 ∨ r = 1) → iW σ' → gW σ σ' → (r = 0 ∨ r = 1) ∧ P r σ' := fun r σ' hr w g => ⟨hr, hP r σ' hr w g⟩
  have h70 : (x = 63 → σ 3 5 < 6) → (x ≠ 33 → x ≠ 63 → x ≠ 64 → 97 ≤ x ∧ x < 113) → σ 7 8 < 60 → bC_X4_takeStatement_70 P x σ := by
    intro hx hy hsz
    unfold bC_X4_takeStatement_70
    refine pC_begin h hsz (fun r σ1 r0 r1 w1 g1 o1 p1 l1 σ2 e2 => ?_)
    have w2 : iW σ2 := by
      rw [e2]
      obtain ⟨a1, a2, a3⟩ := w1.1.1
      exact w1.s36 (by grind) (by grind)
    have g2 : gW σ σ2 := by rw [e2]; exact g1.trans (gW.s (by omega))
    have o2 : σ2 3 5 = σ 3 5 := by rw [e2]; simpa [hg_set] using o1
    refine ⟨fun hne => ⟨hp_60 r0 r1, fun σ3 e3 => ?_⟩, fun _ => ?_, fun he => ?_, fun _ => ?_⟩
    · have hxx := hy (fun e => hne.1 (by rw [e]; rfl)) (fun e => hne.2.1 (by rw [e]; rfl)) (fun e => hne.2.2 (by rw [e]; rfl))
      have w3 : iW σ3 := by rw [e3]; exact w2.s10 (by grind) (by grind)
      have g3 : gW σ σ3 := by rw [e3]; exact g2.trans (gW.s (by omega))
      exact pW_takeSetting w3 r0 r1 (fun r4 σ4 hr w4 g4 => hend r4 σ4 hr w4 (g3.trans g4))
    · exact pW_takeTelling w2 r0 r1 (fun r4 σ4 hr w4 g4 => hend r4 σ4 hr w4 (g2.trans g4))
    · have hx63 : x = 63 := by
        apply Int32.toInt_inj.mp
        rw [he]; decide
      exact pW_takeBranch w2 r0 r1 (by rw [o2]; exact hx hx63) (fun r4 σ4 hr w4 g4 => hend r4 σ4 hr w4 (g2.trans g4))
    · exact pW_takeWrite w2 r0 r1 (fun r4 σ4 hr w4 g4 => hend r4 σ4 hr w4 (g2.trans g4))
  have h31 : (x ≠ 33 → x ≠ 63 → x ≠ 64 → 97 ≤ x ∧ x < 113) → bC_X4_takeStatement_31 P x σ := by
    intro hy
    unfold bC_X4_takeStatement_31
    refine ⟨fun hsz => ⟨fun hne => h70 (fun e => absurd e hne) hy hsz, fun he => ⟨fun ho => h70 (fun _ => ho) hy hsz, fun _ => ?_⟩⟩, fun _ => ?_⟩
    · exact pW_refuse h (fun σ4 w4 g4 => hend 0 σ4 (Or.inl rfl) w4 g4)
    · exact pW_refuse h (fun σ4 w4 g4 => hend 0 σ4 (Or.inl rfl) w4 g4)
  unfold wC_X4_takeStatement
  refine pC_isVariable (fun hv => ⟨fun h => absurd rfl h, fun _ => ⟨fun e => h31 (by grind), fun _ => ⟨fun e => h31 (by grind), fun _ => ⟨fun e => h31 (by grind), fun _ => ?_⟩⟩⟩⟩) (fun v0 v1 => ⟨fun _ => h31 (fun _ _ _ => ⟨v0, v1⟩), fun e => absurd e (by decide)⟩)
  exact pW_refuse h (fun σ4 w4 g4 => hend 0 σ4 (Or.inl rfl) w4 g4)
theorem pW_takeTape {σ : hg_M} {P : Int32 → hg_M → Prop} (h : iW σ) (hP : ∀ r σ', (r = 0 ∨ r = 1) → iW σ' → gW σ σ' → P r σ') : wC_X4_takeTape σ P := by
  unfold wC_X4_takeTape
  intro σ1 e1 σ2 e2 σ3 e3 σ4 e4 σ5 e5
  have l0 : 0 ≤ σ 3 1 := by obtain ⟨a1, a2, a3⟩ := h.1.1; grind
  have w5 : iW σ5 := by
    rw [e5, e4, e3, e2, e1]
    exact ((((h.s78 (by decide) (by decide)).s35 (by decide) (by decide)).s36 (by decide) (by simpa [hg_set] using l0)).s37).s38
  have g5 : gW σ σ5 := by
    rw [e5, e4, e3, e2, e1]
    exact ((((gW.s (by omega)).trans (gW.s (by omega))).trans (gW.s (by omega))).trans (gW.s (by omega))).trans (gW.s (by omega))
  have key : ∀ n (k : Int32) (σ' : hg_M), 0 ≤ k → k ≤ 601 → iW σ' → gW σ σ' → hp_n (601 - k) < n → lC_X4_takeTape_30 P n k σ' := by
    intro n
    induction n with
    | zero => intro k σ' _ _ _ _ h; omega
    | succ n ih =>
      intro k σ' k0 k1 w g hn
      rw [lC_X4_takeTape_30]
      have hlen : σ' 3 1 ≤ 600 := w.1.1.2.2
      have hgo : ¬ σ' 3 1 < k → ∀ t σ8, iW σ8 → gW σ' σ8 → bC_X4_takeTape_87 P (fun k0 k1 => lC_X4_takeTape_30 P n k0 k1) k t σ8 := by
        intro hk t σ8 w8 g8
        unfold bC_X4_takeTape_87
        refine ⟨fun _ v ev => ?_, fun _ => ⟨Or.inl rfl, hP 0 σ8 (Or.inl rfl) w8 (g.trans g8)⟩⟩
        refine ih v σ8 (by grind) (by grind) w8 (g.trans g8) ?_
        have := hp_n_lt (a := k) (b := v) (c := 601) k0 (by grind) (by grind)
        omega
      refine ⟨fun _ => ⟨Or.inl rfl, hP 0 σ' (Or.inl rfl) w g⟩, fun hk => ?_⟩
      refine pW_nextByte w (fun r σ6 w6 gv6 l6 m6 => ?_)
      have g6 := gv6.W
      refine ⟨fun hr => ⟨fun _ => ?_, fun _ => ?_⟩, fun _ => ⟨fun _ => ?_, fun _ => ?_⟩⟩
      · exact pW_takeStatement w6 (by rw [l6]; exact m6 hr) (fun r9 σ8 _ w8 g8 => hgo hk r9 σ8 w8 (g6.trans g8))
      · exact pW_closeSide w6 (by rw [l6]; exact m6 hr) (fun r9 σ8 _ w8 g8 => hgo hk r9 σ8 w8 (g6.trans g8))
      · unfold bC_X4_takeTape_63 bC_X4_takeTape_68
        exact ⟨Or.inr rfl, hP 1 σ6 (Or.inr rfl) w6 (g.trans g6)⟩
      · refine pW_refuse w6 (fun σ7 w7 g7 => ⟨fun _ => ?_, fun h => absurd rfl h⟩)
        unfold bC_X4_takeTape_68
        exact ⟨Or.inl rfl, hP 0 σ7 (Or.inl rfl) w7 ((g.trans g6).trans g7)⟩
  exact ⟨hp_n (601 - 0) + 1, key _ 0 σ5 (by decide) (by decide) w5 g5 (by omega)⟩
