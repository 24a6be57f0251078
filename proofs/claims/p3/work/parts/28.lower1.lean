/-! Lowering of single statements; choosing and moving back. -/
theorem iL.at {a b : hg_M} (h : iL a) (c42 : b 42 = a 42) (cq : ∀ q, q = 16 ∨ (19 ≤ q ∧ q ≤ 24) ∨ (44 ≤ q ∧ q ≤ 48) → b q = a q) (s : iS b) : iL b := by
  obtain ⟨⟨c0, c1, c2⟩, g, x, -⟩ := h
  refine ⟨⟨by rw [c42]; exact c0, by rw [c42]; exact c1, ?_⟩, ?_, ?_, s⟩
  · rw [cq 44 (by omega), cq 45 (by omega), cq 46 (by omega), cq 47 (by omega), cq 48 (by omega)]; exact c2
  · unfold iG; rw [c42]; exact g
  · unfold iX
    rw [cq 16 (by omega), cq 19 (by omega), cq 20 (by omega), cq 21 (by omega), cq 22 (by omega), cq 23 (by omega), cq 24 (by omega)]
    exact x
theorem hv.eq {a b : hg_M} {r : Int32} (h : hv a r) (e : b 42 = a 42) : hv b r := by unfold hv; rw [e]; exact h
theorem iL.s27 {σ : hg_M} {i : Nat} {r : Int32} (h : iL σ) (hr : hv σ r) : iL (hg_set σ 27 i r) := by
  have c : ∀ q, q ≠ 27 → hg_set σ 27 i r q = σ q := fun q hq => hg_set_ne hq
  have e42 := c 42 (by decide)
  obtain ⟨s1, s3⟩ := h.2.2.2
  refine h.at e42 (fun q hq => c q (by omega)) ⟨fun v hv1 => ?_, ?_⟩
  · by_cases e : v = i
    · subst e
      have : hg_set σ 27 v r 27 v = r := by simp [hg_set]
      rw [this]; exact hr.eq e42
    · have : hg_set σ 27 i r 27 v = σ 27 v := by simp [hg_set, e]
      rw [this]; exact (s1 v hv1).eq e42
  · rw [c 25 (by decide)]
    rcases s3 with h | h
    · exact Or.inl h
    · exact Or.inr (h.eq e42)
theorem iL.s255 {σ : hg_M} {r : Int32} (h : iL σ) (hr : r = -1 ∨ hv σ r) : iL (hg_set σ 25 5 r) := by
  have c : ∀ q, q ≠ 25 → hg_set σ 25 5 r q = σ q := fun q hq => hg_set_ne hq
  have e42 := c 42 (by decide)
  obtain ⟨s1, s3⟩ := h.2.2.2
  refine h.at e42 (fun q hq => c q (by omega)) ⟨fun v hv1 => ?_, ?_⟩
  · rw [c 27 (by decide)]; exact (s1 v hv1).eq e42
  · have : hg_set σ 25 5 r 25 5 = r := by simp [hg_set]
    rw [this]
    rcases hr with h | h
    · exact Or.inl h
    · exact Or.inr (h.eq e42)
theorem iL.s423 {σ : hg_M} {x : Int32} (h : iL σ) : iL (hg_set σ 42 3 x) := by
  have c : ∀ q, q ≠ 42 → hg_set σ 42 3 x q = σ q := fun q hq => hg_set_ne hq
  have f1 : hg_set σ 42 3 x 42 1 = σ 42 1 := by simp [hg_set]
  have f2 : hg_set σ 42 3 x 42 2 = σ 42 2 := by simp [hg_set]
  obtain ⟨⟨c0, c1, c2⟩, g, y, s1, s3⟩ := h
  have hvv : ∀ r, hv σ r → hv (hg_set σ 42 3 x) r := fun r h => by unfold hv; rw [f1]; exact h
  refine ⟨⟨by rw [f1]; exact c0, by rw [f1]; exact c1, ?_⟩, by unfold iG; rw [f1, f2]; exact g, ?_, fun v hv1 => ?_, ?_⟩
  · rw [c 44 (by decide), c 45 (by decide), c 46 (by decide), c 47 (by decide), c 48 (by decide)]; exact c2
  · unfold iX
    rw [c 16 (by decide), c 19 (by decide), c 20 (by decide), c 21 (by decide), c 22 (by decide), c 23 (by decide), c 24 (by decide)]
    exact y
  · rw [c 27 (by decide)]; exact hvv _ (s1 v hv1)
  · rw [c 25 (by decide)]
    rcases s3 with h | h
    · exact Or.inl h
    · exact Or.inr (hvv _ h)
theorem gL.s {σ : hg_M} {q i : Nat} {r : Int32} (h : q = 25 ∨ q = 27 ∨ (q = 42 ∧ i = 3)) : gL σ (hg_set σ q i r) := by
  have e44 : hg_set σ q i r 44 = σ 44 := hg_set_ne (by omega)
  have e1 : hg_set σ q i r 42 1 = σ 42 1 := by
    have : ¬ (42 = q ∧ 1 = i) := by omega
    simp only [hg_set, this, if_false]
  exact ⟨fun p h1 h2 h3 h4 => hg_set_ne (by omega), by rw [e1]; grind, fun j _ _ => by rw [e44]⟩
theorem pL_harmlessIndex {s x : Int32} {σ : hg_M} {P : Int32 → hg_M → Prop} (h : iL σ) (hs0 : 0 ≤ s) (hs : s < 60) (hx : hv σ x) (hg : σ 25 5 ≠ -1) (hP : ∀ r σ', iL σ' → gC σ σ' → hv σ' r → P r σ') : wC_X2_harmlessIndex s x σ P := by
  have hi := hp_120 (x := 2 * s) (by grind) (by grind)
  have h30 : ∀ t, bC_X2_harmlessIndex_30 P x t σ := by
    intro t
    unfold bC_X2_harmlessIndex_30 bC_X2_harmlessIndex_47
    exact ⟨fun _ => pL_chosenOr h hx hg hP, fun _ => hP x σ h (gC.refl σ) hx⟩
  have h29 : bC_X2_harmlessIndex_29 P x σ := h30 0
  unfold wC_X2_harmlessIndex
  exact ⟨hi, fun _ => h29, fun _ => ⟨hi, pC_isWord ⟨fun _ => h29, fun h => absurd rfl h⟩ (fun _ _ => ⟨fun h => absurd h (by decide), fun _ => h30 1⟩)⟩⟩
theorem pL_harmlessDivisor {s x : Int32} {σ : hg_M} {P : Int32 → hg_M → Prop} (h : iL σ) (hs0 : 0 ≤ s) (hs : s < 60) (hx : hv σ x) (hg : σ 25 5 ≠ -1) (hP : ∀ r σ', iL σ' → gC σ σ' → hv σ' r → P r σ') : wC_X2_harmlessDivisor s x σ P := by
  have hi := hp_120 (x := 2 * s + 1) (by grind) (by grind)
  have si := hp_60 hs0 hs
  have h59 : bC_X2_harmlessDivisor_59 P x σ := hP x σ h (gC.refl σ) hx
  have h31 : ∀ t, bC_X2_harmlessDivisor_31 P s x t σ := by
    intro t
    unfold bC_X2_harmlessDivisor_31 bC_X2_harmlessDivisor_60
    exact ⟨si, pC_divides (fun _ _ => ⟨fun _ => h59, fun h => absurd rfl h⟩) (fun _ => ⟨fun h => absurd h (by decide), fun _ => ⟨fun _ => h59, fun _ => pL_chosenOr h hx hg hP⟩⟩)⟩
  have h26 : bC_X2_harmlessDivisor_26 P s x σ := h31 1
  unfold wC_X2_harmlessDivisor
  exact ⟨hi, fun _ => h26, fun _ => ⟨hi, fun _ => h31 0, fun _ => h26⟩⟩
theorem pL_lowerGuarded {s : Int32} {σ : hg_M} {P : hg_M → Prop} (h : iL σ) (hs0 : 0 ≤ s) (hs : s < 60) (hg : σ 25 5 ≠ -1) (hP : ∀ σ', iL σ' → gL σ σ' → P σ') : wC_X2_lowerGuarded s σ P := by
  unfold wC_X2_lowerGuarded bC_X2_lowerGuarded_164
  have hi := hp_60 hs0 hs
  refine ⟨hi, fun t et => ?_⟩
  have ht := (h.2.2.1.2.1 _ (hg_lt hi)).1
  rw [← et] at ht
  have ti := hp_16 ht.1 ht.2
  refine pL_valueRegister h (by grind) (by grind) (fun r1 σ1 w1 g1 v1 => ⟨hi, fun _ => ?_, fun _ => ⟨ti, fun σ2 e2 => ?_⟩, fun _ => ?_, fun _ => ?_⟩)
  all_goals have e25 : σ1 25 = σ 25 := g1.1 25 (by omega)
  · refine pL_valueRegister w1 (by grind) (by grind) (fun r2 σ2 w2 g2 v2 => ?_)
    have e25 : σ2 25 = σ 25 := (g2.1 25 (by omega)).trans e25
    refine pL_harmlessIndex w2 hs0 hs (v1.up g2) (by rw [e25]; exact hg) (fun r4 σ4 w4 g4 v4 => ?_)
    have e25 : σ4 25 = σ 25 := (g4.1 25 (by omega)).trans e25
    exact pL_guardedWrite w4 v4 (v2.up g4) (by rw [e25]; exact hg) (fun σ5 w5 g5 => hP σ5 w5 (((g1.trans g2).trans g4).trans g5).L)
  · subst e2
    exact hP _ (w1.s27 v1) (g1.L.trans (gL.s (by omega)))
  · refine pL_valueRegister w1 (by grind) (by grind) (fun r2 σ2 w2 g2 v2 => ?_)
    have e25 : σ2 25 = σ 25 := (g2.1 25 (by omega)).trans e25
    refine pL_harmlessDivisor w2 hs0 hs v2 (by rw [e25]; exact hg) (fun r3 σ3 w3 g3 v3 => ⟨hi, ?_⟩)
    have hop := (w3.2.2.1.2.1 _ (hg_lt hi)).2.1
    have v13 := (v1.up g2).up g3
    refine pL_new w3 (fun hl r h0 h1 => ?_) (fun r4 σ4 w4 g4 v4 => ⟨ti, fun σ5 e5 => ?_⟩)
    · have a := v13 hl; have b := v3 hl
      unfold rOK; grind
    · subst e5
      exact hP _ (w4.s27 v4) ((((g1.trans g2).trans g3).trans g4).L.trans (gL.s (by omega)))
  · refine pL_harmlessIndex w1 hs0 hs v1 (by rw [e25]; exact hg) (fun r4 σ4 w4 g4 v4 => ?_)
    refine pL_new w4 (fun hl r h0 h1 => by have := v4 hl; unfold rOK; grind) (fun r5 σ5 w5 g5 v5 => ⟨ti, fun σ6 e6 => ?_⟩)
    subst e6
    exact hP _ (w5.s27 v5) (((g1.trans g4).trans g5).L.trans (gL.s (by omega)))
theorem pL_lowerPlainly {s : Int32} {σ : hg_M} {P : hg_M → Prop} (h : iL σ) (hs0 : 0 ≤ s) (hs : s < 60) (hP : ∀ σ', iL σ' → gL σ σ' → P σ') : wC_X2_lowerPlainly s σ P := by
  unfold wC_X2_lowerPlainly bC_X2_lowerPlainly_48 bC_X2_lowerPlainly_204
  have hi := hp_60 hs0 hs
  refine ⟨hi, fun t et => ⟨hi, ?_⟩⟩
  have ht := (h.2.2.1.2.1 _ (hg_lt hi)).1
  rw [← et] at ht
  have h48 : wC_X2_valueRegister (2 * s) σ (fun r5 σ4 => vp_in s 60 ∧ (((((σ4 17 s.toNatClampNeg)).toInt < 0 ∨ 3 < ((σ4 17 s.toNatClampNeg)).toInt) → wC_X0_add 18 r5 0 0 0 σ4 (fun r7 σ6 => P σ6)) ∧ (((σ4 17 s.toNatClampNeg)).toInt = 0 → wC_X0_add 1 t r5 0 0 σ4 (fun r9 σ8 => P σ8)) ∧ (((σ4 17 s.toNatClampNeg)).toInt = 1 → vp_in s 60 ∧ (wC_X2_valueRegister ((2 * s) + 1) σ4 (fun r11 σ10 => wC_X0_add (σ4 20 s.toNatClampNeg) t r5 r11 0 σ10 (fun r13 σ12 => P σ12)))) ∧ (((σ4 17 s.toNatClampNeg)).toInt = 2 → wC_X0_add 14 t r5 0 0 σ4 (fun r15 σ14 => P σ14)) ∧ (((σ4 17 s.toNatClampNeg)).toInt = 3 → wC_X2_valueRegister ((2 * s) + 1) σ4 (fun r17 σ16 => wC_X0_add 15 r5 r17 0 0 σ16 (fun r19 σ18 => P σ18))))) := by
    refine pL_valueRegister h (by grind) (by grind) (fun r1 σ1 w1 g1 v1 => ⟨hi, fun _ => ?_, fun _ => ?_, fun _ => ⟨hi, ?_⟩, fun _ => ?_, fun _ => ?_⟩)
    · exact pL_add w1 (fun hl => by have := v1 hl; unfold rOK; grind) (fun _ σ2 w2 g2 _ => hP σ2 w2 (g1.trans g2).L)
    · exact pL_add w1 (fun hl => by have := v1 hl; unfold rOK; grind) (fun _ σ2 w2 g2 _ => hP σ2 w2 (g1.trans g2).L)
    · have hop := (w1.2.2.1.2.1 _ (hg_lt hi)).2.1
      refine pL_valueRegister w1 (by grind) (by grind) (fun r2 σ2 w2 g2 v2 => ?_)
      have v1' := v1.up g2
      exact pL_add w2 (fun hl => by have a := v1' hl; have b := v2 hl; unfold rOK; grind) (fun _ σ3 w3 g3 _ => hP σ3 w3 ((g1.trans g2).trans g3).L)
    · exact pL_add w1 (fun hl => by have := v1 hl; unfold rOK; grind) (fun _ σ2 w2 g2 _ => hP σ2 w2 (g1.trans g2).L)
    · refine pL_valueRegister w1 (by grind) (by grind) (fun r2 σ2 w2 g2 v2 => ?_)
      have v1' := v1.up g2
      exact pL_add w2 (fun hl => by have a := v1' hl; have b := v2 hl; unfold rOK; grind) (fun _ σ3 w3 g3 _ => hP σ3 w3 ((g1.trans g2).trans g3).L)
  refine ⟨fun _ => h48, fun _ => ⟨hp_120 (by grind) (by grind), fun _ => h48, fun _ => ⟨hp_120 (by grind) (by grind), ?_⟩⟩⟩
  exact pL_add h (fun _ => rOK0 ht.1 (by grind)) (fun _ σ2 w2 g2 _ => hP σ2 w2 g2.L)
