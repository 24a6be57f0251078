/-! The reader's small methods. -/
def iN (σ : hg_M) : Prop := ∀ j, j < 120 → σ 14 j ≠ 0 → 0 ≤ σ 15 j ∧ σ 15 j < 16
def iV (σ : hg_M) : Prop := iR σ ∧ iN σ
/-- what reading a value leaves alone -/
def gV (σ σ' : hg_M) : Prop := (∀ q, q ≠ 3 → q ≠ 14 → q ≠ 15 → σ' q = σ q) ∧ (∀ k, k ≠ 6 → k ≠ 7 → k ≠ 8 → σ' 3 k = σ 3 k)
theorem gV.refl (σ : hg_M) : gV σ σ := ⟨fun _ _ _ _ => rfl, fun _ _ _ _ => rfl⟩
theorem gV.trans {a b c : hg_M} (h : gV a b) (g : gV b c) : gV a c := ⟨fun q h1 h2 h3 => (g.1 q h1 h2 h3).trans (h.1 q h1 h2 h3), fun k h1 h2 h3 => (g.2 k h1 h2 h3).trans (h.2 k h1 h2 h3)⟩
theorem gV.s3 {σ : hg_M} {k : Nat} {v : Int32} (hk : k = 6 ∨ k = 7 ∨ k = 8) : gV σ (hg_set σ 3 k v) := by
  refine ⟨fun q h1 _ _ => hg_set_ne h1, fun j h1 h2 h3 => ?_⟩
  have : ¬ j = k := by omega
  simp [hg_set, this]
theorem gV.s14 {σ : hg_M} {q k : Nat} {v : Int32} (hq : q = 14 ∨ q = 15) : gV σ (hg_set σ q k v) := by
  refine ⟨fun p h1 h2 h3 => hg_set_ne (by omega), fun j h1 h2 h3 => ?_⟩
  rw [hg_set_ne (by omega)]
theorem iV.s6 {σ : hg_M} {p : Int32} (h : iV σ) (h0 : 0 ≤ p) (h1 : p ≤ σ 3 1) : iV (hg_set σ 3 6 p) := by
  obtain ⟨⟨a, b, c⟩, d⟩ := h
  refine ⟨⟨by simpa [hg_set] using h0, by simpa [hg_set] using h1, by simpa [hg_set] using c⟩, ?_⟩
  intro j hj
  simpa [hg_set] using d j hj
theorem iV.s78 {σ : hg_M} {k : Nat} {p : Int32} (hk : k = 7 ∨ k = 8) (h : iV σ) : iV (hg_set σ 3 k p) := by
  obtain ⟨⟨a, b, c⟩, d⟩ := h
  rcases hk with rfl | rfl
  · refine ⟨⟨by simpa [hg_set] using a, by simpa [hg_set] using b, by simpa [hg_set] using c⟩, ?_⟩
    intro j hj
    simpa [hg_set] using d j hj
  · refine ⟨⟨by simpa [hg_set] using a, by simpa [hg_set] using b, by simpa [hg_set] using c⟩, ?_⟩
    intro j hj
    simpa [hg_set] using d j hj
theorem pV_refuse {x : Int32} {σ : hg_M} {P : Int32 → hg_M → Prop} (h : iV σ) (hP : ∀ σ', iV σ' → gV σ σ' → P 0 σ') : wC_X4_refuse x σ P := by
  refine pC_refuse (fun σ' e => ?_)
  subst e
  exact hP _ ((h.s78 (Or.inl rfl)).s78 (Or.inr rfl)) ((gV.s3 (by omega)).trans (gV.s3 (by omega)))
theorem pV_nextByte {σ : hg_M} {P : Int32 → hg_M → Prop} (h : iV σ) (hP : ∀ r σ', iV σ' → gV σ σ' → σ' 3 1 = σ 3 1 → (r ≠ -1 → σ' 3 6 < σ 3 1) → P r σ') : wC_X4_nextByte σ P := by
  refine pC_nextByte h.1 (fun r p h1 h2 h3 => ?_)
  obtain ⟨a, b, c⟩ := h.1
  refine hP r _ (h.s6 (by grind) h2) (gV.s3 (by omega)) (by simp [hg_set]) ?_
  intro hr
  simpa [hg_set] using h3 hr
theorem pC_isVariable {x : Int32} {σ : hg_M} {P : Int32 → hg_M → Prop} (h0 : (x < 97 ∨ 113 ≤ x) → P 0 σ) (h1 : 97 ≤ x → x < 113 → P 1 σ) : wC_X4_isVariable x σ P := by
  unfold wC_X4_isVariable bC_X4_isVariable_16 bC_X4_isVariable_17
  refine ⟨fun h => ⟨Or.inl rfl, h0 (Or.inl h)⟩, fun h => ⟨fun g => ⟨Or.inl rfl, h0 (Or.inr g)⟩, fun g => ⟨Or.inr rfl, h1 (by grind) (by grind)⟩⟩⟩
theorem pC_isFigure {x : Int32} {σ : hg_M} {P : Int32 → hg_M → Prop} (h0 : P 0 σ) (h1 : P 1 σ) : wC_X4_isFigure x σ P := by
  unfold wC_X4_isFigure bC_X4_isFigure_16 bC_X4_isFigure_17
  exact ⟨fun _ => ⟨Or.inl rfl, h0⟩, fun _ => ⟨fun _ => ⟨Or.inl rfl, h0⟩, fun _ => ⟨Or.inr rfl, h1⟩⟩⟩
theorem vp_nar0 : vp_nar .boolean 0 = 0 := rfl
theorem vp_nar1 : vp_nar .boolean 1 = 1 := rfl
theorem pV_putValue {a b c : Int32} {σ : hg_M} {P : hg_M → Prop} (h : iV σ) (ha0 : 0 ≤ a) (ha : a < 120) (hb : b = 0 ∨ (b = 1 ∧ 0 ≤ c ∧ c < 16)) (hP : ∀ σ', iV σ' → gV σ σ' → P σ') : wC_X3_putValue a b c σ P := by
  unfold wC_X3_putValue
  refine ⟨hp_120 ha0 ha, fun σ1 e1 => ⟨hp_120 ha0 ha, fun σ2 e2 => ?_⟩⟩
  subst e1; subst e2
  refine hP _ ⟨?_, ?_⟩ ((gV.s14 (Or.inl rfl)).trans (gV.s14 (Or.inr rfl)))
  · obtain ⟨⟨i0, i1, i2⟩, -⟩ := h
    exact ⟨by simpa [hg_set] using i0, by simpa [hg_set] using i1, by simpa [hg_set] using i2⟩
  · intro j hj
    by_cases hja : j = a.toNatClampNeg
    · subst hja
      rcases hb with rfl | ⟨rfl, c0, c1⟩
      · simp [hg_set, vp_nar0]
      · intro _
        simpa [hg_set] using ⟨c0, c1⟩
    · simpa [hg_set, hja] using h.2 j hj
theorem pV_takeByte {x : Int32} {σ : hg_M} {P : Int32 → hg_M → Prop} (h : iV σ) (hx : 0 ≤ x) (hP : ∀ r σ', (r = 0 ∨ r = 1) → iV σ' → gV σ σ' → P r σ') : wC_X4_takeByte x σ P := by
  unfold wC_X4_takeByte
  refine pV_nextByte h (fun r σ1 v1 g1 l1 m1 => ⟨fun e σ2 e2 => ⟨Or.inr rfl, ?_⟩, fun e => ?_⟩)
  · have hm := m1 (by grind)
    subst e2
    have i1 := v1.1
    refine hP 1 _ (Or.inr rfl) (v1.s6 ?_ ?_) (g1.trans (gV.s3 (by omega)))
    · have := i1.1; grind
    · have a := i1.1; have b := i1.2.1; have c := i1.2.2
      rw [l1]; rw [l1] at b c; grind
  · refine pV_refuse v1 (fun σ2 v2 g2 => ⟨Or.inl rfl, hP 0 σ2 (Or.inl rfl) v2 (g1.trans g2)⟩)
theorem pV_takeNumber {a b : Int32} {σ : hg_M} {P : Int32 → hg_M → Prop} (h : iV σ) (ha0 : 0 ≤ a) (ha : a < 120) (hP : ∀ r σ', (r = 0 ∨ r = 1) → iV σ' → gV σ σ' → P r σ') : wC_X4_takeNumber a b σ P := by
  unfold wC_X4_takeNumber
  intro v1 e1
  have key : ∀ n (z : Int64) (σ1 : hg_M), iV σ1 → gV σ σ1 → σ 3 6 ≤ σ1 3 6 → hp_n (600 - σ1 3 6) < n → lC_X4_takeNumber_8 P n a b v1 z σ1 := by
    intro n
    induction n with
    | zero => intro z σ1 _ _ _ h; omega
    | succ n ih =>
      intro z σ1 v2 g2 l2 hn
      obtain ⟨i0, i1, i2⟩ := v2.1
      have hlen : σ1 3 1 = σ 3 1 := g2.2 1 (by decide) (by decide) (by decide)
      have hex : ∀ σ2, σ2 = σ1 → bC_X4_takeNumber_75 P a b v1 z σ2 := by
        intro σ2 e
        subst e
        unfold bC_X4_takeNumber_75 bC_X4_takeNumber_113
        refine ⟨fun _ => ⟨fun _ => ?_, fun _ => ?_⟩, fun _ σ3 e3 => ?_⟩
        · exact pV_putValue v2 ha0 ha (Or.inl rfl) (fun σ4 v4 g4 => ⟨Or.inr rfl, hP 1 σ4 (Or.inr rfl) v4 (g2.trans g4)⟩)
        · exact pV_putValue v2 ha0 ha (Or.inl rfl) (fun σ4 v4 g4 => ⟨Or.inr rfl, hP 1 σ4 (Or.inr rfl) v4 (g2.trans g4)⟩)
        · subst e3
          have hs : iV (hg_set σ2 3 6 v1) := by
            refine v2.s6 ?_ ?_
            · rw [e1]; exact h.1.1
            · rw [e1]; grind
          exact pV_refuse hs (fun σ4 v4 g4 => ⟨Or.inl rfl, hP 0 σ4 (Or.inl rfl) v4 ((g2.trans (gV.s3 (by omega))).trans g4)⟩)
      rw [lC_X4_takeNumber_8]
      refine ⟨fun _ => hex σ1 rfl, fun hlt => ⟨hp_600 i0 (by grind), ?_⟩⟩
      refine pC_isFigure ⟨fun _ => hex σ1 rfl, fun h => absurd rfl h⟩ ⟨fun h => absurd h (by decide), fun _ => ⟨hp_600 i0 (by grind), fun v4 _ σ5 e5 => ?_⟩⟩
      have f6 : σ5 3 6 = σ1 3 6 + 1 := by rw [e5]; simp [hg_set]
      refine ih v4 σ5 ?_ ?_ ?_ ?_
      · rw [e5]; exact v2.s6 (by grind) (by grind)
      · rw [e5]; exact g2.trans (gV.s3 (by omega))
      · rw [f6]; grind
      · have := hp_n_lt (a := σ1 3 6) (b := σ5 3 6) (c := 600) i0 (by rw [f6]; grind) (by rw [f6]; grind)
        omega
  exact ⟨hp_n (600 - σ 3 6) + 1, key _ _ σ h (gV.refl σ) (by grind) (by omega)⟩
theorem pV_takeValue {a : Int32} {σ : hg_M} {P : Int32 → hg_M → Prop} (h : iV σ) (ha0 : 0 ≤ a) (ha : a < 120) (hP : ∀ r σ', (r = 0 ∨ r = 1) → iV σ' → gV σ σ' → P r σ') : wC_X4_takeValue a σ P := by
  have h68 : ∀ x2 x3 σ1, iV σ1 → gV σ σ1 → bC_X4_takeValue_68 P a x2 x3 σ1 := by
    intro x2 x3 σ1 v1 g1
    unfold bC_X4_takeValue_68 bC_X4_takeValue_89
    refine pC_isFigure ⟨fun _ => ?_, fun h => absurd rfl h⟩ ⟨fun h => absurd h (by decide), fun _ => ?_⟩
    · exact pV_refuse v1 (fun σ2 v2 g2 => ⟨Or.inl rfl, hP 0 σ2 (Or.inl rfl) v2 (g1.trans g2)⟩)
    · exact pV_takeNumber v1 ha0 ha (fun r σ2 hr v2 g2 => ⟨hr, hP r σ2 hr v2 (g1.trans g2)⟩)
  unfold wC_X4_takeValue
  refine pV_nextByte h (fun r σ1 v1 g1 l1 m1 => ?_)
  have step : r ≠ -1 → iV (hg_set σ1 3 6 (σ1 3 6 + 1)) := by
    intro hr
    have hm := m1 hr
    obtain ⟨i0, i1, i2⟩ := v1.1
    exact v1.s6 (by grind) (by grind)
  refine pC_isVariable (fun hv => ⟨fun _ => ⟨fun hne => ?_, fun he => ?_⟩, fun h => absurd rfl h⟩) (fun hv0 hv1 => ⟨fun h => absurd h (by decide), fun _ σ2 e2 => ?_⟩)
  · unfold bC_X4_takeValue_48
    exact ⟨fun _ => h68 _ _ _ v1 g1, fun h => absurd rfl h⟩
  · unfold bC_X4_takeValue_48
    refine ⟨fun h => absurd h (by decide), fun _ σ2 e2 => ?_⟩
    subst e2
    refine pV_nextByte (step (by grind)) (fun r9 σ3 v3 g3 _ _ => h68 _ _ _ v3 ((g1.trans (gV.s3 (by omega))).trans g3))
  · subst e2
    refine pV_putValue (step (by grind)) ha0 ha (Or.inr ⟨rfl, by grind, by grind⟩) (fun σ3 v3 g3 => ⟨Or.inr rfl, hP 1 σ3 (Or.inr rfl) v3 ((g1.trans (gV.s3 (by omega))).trans g3)⟩)
