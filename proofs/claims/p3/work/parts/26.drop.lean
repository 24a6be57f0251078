/-! shift and dropUseless. -/
def iK (σ : hg_M) : Prop := iC σ ∧ iP σ
theorem pC_shift {f t : Int32} {σ : hg_M} {P : hg_M → Prop} (h : iK σ) (hf0 : 0 ≤ f) (hf : f < 720) (ht0 : 0 ≤ t) (ht : t < 720)
    (hP : ∀ σ', iK σ' → (∀ q, ¬ (44 ≤ q ∧ q ≤ 49) → σ' q = σ q) → P σ') : wC_X0_shift f t σ P := by
  obtain ⟨⟨h0, h1, h2⟩, hp⟩ := h
  have hfi := hp_720 hf0 hf
  have fin : ∀ σ1 : hg_M, (∀ q, ¬ (44 ≤ q ∧ q ≤ 49) → σ1 q = σ q) → (∀ i, i < 720 → rOK (σ1 44 i) (σ1 45 i) (σ1 46 i) (σ1 47 i) (σ1 48 i)) → bC_X0_shift_35 P f t σ1 := by
    intro σ1 c1 r1
    refine pC_copy hf0 hf ht0 ht (fun σ2 c2 d2 => hP σ2 ⟨⟨?_, ?_, ?_⟩, ?_⟩ (fun q hq => (c2 q hq).trans (c1 q hq)))
    · rw [c2 42 (by omega), c1 42 (by omega)]; exact h0
    · rw [c2 42 (by omega), c1 42 (by omega)]; exact h1
    · intro i hi
      have d := fun r (hr : r < 6) => d2 r hr i
      have d0 := d 0 (by decide); have d1 := d 1 (by decide); have d3 := d 2 (by decide); have d4 := d 3 (by decide); have d5 := d 4 (by decide)
      simp only [Nat.add_zero] at d0
      rw [show 44 + 1 = 45 by rfl] at d1
      rw [show 44 + 2 = 46 by rfl] at d3
      rw [show 44 + 3 = 47 by rfl] at d4
      rw [show 44 + 4 = 48 by rfl] at d5
      rw [d0, d1, d3, d4, d5]
      by_cases e : i = t.toNatClampNeg
      · simp only [e, if_true]; exact r1 _ (hg_lt hfi)
      · simp only [e, if_false]; exact r1 i hi
    · intro j hj
      rw [c2 52 (by omega), c1 52 (by omega)]
      exact hp j hj
  unfold wC_X0_shift wC_X0_leadRow bC_X0_leadRow_18
  have e2 : 44 + (2 : Int32).toNatClampNeg = 46 := by decide
  have e1 : 44 + (1 : Int32).toNatClampNeg = 45 := by decide
  have hr := h2 _ (hg_lt hfi)
  refine pC_isJump hf0 hf (fun _ _ => ⟨fun _ => fin σ (fun _ _ => rfl) h2, fun h => absurd rfl h⟩) (fun hj => ⟨fun h => absurd h (by decide), fun _ => ⟨hfi, fun hne => ?_, fun he => ?_⟩⟩)
  · have hb := hr.2.2.2.2.2.1 (by grind)
    have hv : vp_in (σ 46 f.toNatClampNeg) 721 := hp_721 hb.1 (by grind)
    have ht2 := hp _ (hg_lt hv)
    dsimp only
    rw [e2]
    refine ⟨hp_6 (by decide) (by decide), hp_6 (by decide) (by decide), hfi, hv, hfi, fun σ5 e5 => ?_⟩
    have c : ∀ q, q ≠ 46 → σ5 q = σ q := fun q hq => by rw [e5, hg_set_ne hq]
    refine fin σ5 (fun q hq => c q (by omega)) (fun i hi => ?_)
    rw [c 44 (by decide), c 45 (by decide), c 47 (by decide), c 48 (by decide)]
    by_cases e : i = f.toNatClampNeg
    · subst e; rw [e5]; simpa [hg_set] using (hr.lead (i := f.toNatClampNeg) hj ht2.1 ht2.2).2 hne
    · rw [e5]; simpa [hg_set, e] using h2 i hi
  · have hb := hr.2.2.2.1 he
    have hv : vp_in (σ 45 f.toNatClampNeg) 721 := hp_721 hb.1 (by grind)
    have ht2 := hp _ (hg_lt hv)
    dsimp only
    rw [e1]
    refine ⟨hp_6 (by decide) (by decide), hp_6 (by decide) (by decide), hfi, hv, hfi, fun σ5 e5 => ?_⟩
    have c : ∀ q, q ≠ 45 → σ5 q = σ q := fun q hq => by rw [e5, hg_set_ne hq]
    refine fin σ5 (fun q hq => c q (by omega)) (fun i hi => ?_)
    rw [c 44 (by decide), c 46 (by decide), c 47 (by decide), c 48 (by decide)]
    by_cases e : i = f.toNatClampNeg
    · subst e; rw [e5]; simpa [hg_set] using (hr.lead (i := f.toNatClampNeg) hj ht2.1 ht2.2).1 he
    · rw [e5]; simpa [hg_set, e] using h2 i hi
theorem pC_dropUseless {σ : hg_M} {P : Int32 → hg_M → Prop} (h : iK σ) (hP : ∀ r σ', iK σ' → gK σ σ' → P r σ') : wC_X0_dropUseless σ P := by
  unfold wC_X0_dropUseless
  refine pC_findUseless h.1 (fun σ1 g1 b eb => ⟨hp_721 (by decide) (by decide), fun σ3 e3 => ?_⟩)
  have w1 : iC σ1 := h.1.ofF g1
  have c52 : σ1 52 = σ 52 := g1 52 (by decide) (by decide)
  have b0 : 0 ≤ b := by rw [eb]; exact w1.1
  have b1 : b ≤ 720 := by rw [eb]; exact w1.2.1
  have z0 : (0 : Int32).toNatClampNeg = 0 := by decide
  -- the second loop
  have key2 : ∀ n (k : Int32) (σ' : hg_M), 0 ≤ k → k ≤ 720 → iK σ' → gK σ σ' → (∀ j : Int32, 0 ≤ j → j ≤ b → 0 ≤ σ' 52 j.toNatClampNeg ∧ σ' 52 j.toNatClampNeg ≤ j) → hp_n (720 - k) < n → lC_X0_dropUseless_60 P n b k σ' := by
    intro n
    induction n with
    | zero => intro k σ' _ _ _ _ _ h; omega
    | succ n ih =>
      intro k σ' k0 k1 w g c hn
      rw [lC_X0_dropUseless_60]
      refine ⟨fun _ => ⟨hp_721 b0 (by grind), fun σ6 e6 => ?_⟩, fun hl => ?_⟩
      · have cb := c b b0 (by grind)
        have cc : ∀ q, q ≠ 42 → σ6 q = σ' q := fun q hq => by rw [e6, hg_set_ne hq]
        have f1 : σ6 42 1 = σ' 52 b.toNatClampNeg := by rw [e6]; simp [hg_set]
        refine hP _ σ6 ⟨⟨by rw [f1]; exact cb.1, by rw [f1]; grind, ?_⟩, ?_⟩ (fun q hq => (cc q (by omega)).trans (g q hq))
        · rw [cc 44 (by decide), cc 45 (by decide), cc 46 (by decide), cc 47 (by decide), cc 48 (by decide)]
          exact w.1.2.2
        · intro j hj; rw [cc 52 (by decide)]; exact w.2 j hj
      · have kb : k < b := by grind
        have hgo : ∀ σ7, iK σ7 → (∀ q, ¬ (44 ≤ q ∧ q ≤ 49) → σ7 q = σ' q) → bC_X0_dropUseless_85 P (fun k0 k1 k2 => lC_X0_dropUseless_60 P n k0 k1 k2) b k σ7 := by
          intro σ7 w7 c7
          unfold bC_X0_dropUseless_85
          intro v ev
          refine ih v σ7 (by grind) (by grind) w7 (fun q hq => (c7 q (by omega)).trans (g q hq)) (fun j j0 j1 => by rw [c7 52 (by omega)]; exact c j j0 j1) ?_
          have := hp_n_lt (a := k) (b := v) (c := 720) k0 (by grind) (by grind)
          omega
        refine ⟨hp_720 k0 (by grind), fun _ => hgo σ' w (fun _ _ => rfl), fun _ => ⟨hp_721 k0 (by grind), ?_⟩⟩
        have ck := c k k0 (by grind)
        exact pC_shift w k0 (by grind) ck.1 (by grind) (fun σ7 w7 c7 => hgo σ7 w7 c7)
  -- the first loop
  have key1 : ∀ n (k : Int32) (σ' : hg_M), 0 ≤ k → k ≤ b → iK σ' → gK σ σ' → (∀ j : Int32, 0 ≤ j → j ≤ k → 0 ≤ σ' 52 j.toNatClampNeg ∧ σ' 52 j.toNatClampNeg ≤ j) → hp_n (720 - k) < n → lC_X0_dropUseless_18 P n b k σ' := by
    intro n
    induction n with
    | zero => intro k σ' _ _ _ _ _ h; omega
    | succ n ih =>
      intro k σ' k0 k1 w g c hn
      rw [lC_X0_dropUseless_18]
      refine ⟨fun hbk => ⟨hp_n (720 - 0) + 1, key2 _ 0 σ' (by decide) (by decide) w g (fun j j0 j1 => c j j0 (by grind)) (by omega)⟩, fun hl => ⟨hp_721 k0 (by grind), hp_720 k0 (by grind), ?_⟩⟩
      have ck := c k k0 (by grind)
      have hgo : ∀ t : Int32, (t = 0 ∨ t = 1) → bC_X0_dropUseless_50 P (fun k0 k1 k2 => lC_X0_dropUseless_18 P n k0 k1 k2) b k (k + 1) (σ' 52 k.toNatClampNeg) t σ' := by
        intro t ht
        unfold bC_X0_dropUseless_50
        refine ⟨hp_721 (by grind) (by grind), fun σ4 e4 v ev => ?_⟩
        have cc : ∀ q, q ≠ 52 → σ4 q = σ' q := fun q hq => by rw [e4, hg_set_ne hq]
        have hval : 0 ≤ σ' 52 k.toNatClampNeg + t ∧ σ' 52 k.toNatClampNeg + t ≤ k + 1 := by rcases ht with rfl | rfl <;> grind
        have w4 : iK σ4 := by
          refine ⟨⟨by rw [cc 42 (by decide)]; exact w.1.1, by rw [cc 42 (by decide)]; exact w.1.2.1, ?_⟩, ?_⟩
          · rw [cc 44 (by decide), cc 45 (by decide), cc 46 (by decide), cc 47 (by decide), cc 48 (by decide)]
            exact w.1.2.2
          · intro j hj
            by_cases e : j = (k + 1).toNatClampNeg
            · subst e
              have hv2 : σ4 52 (k + 1).toNatClampNeg = σ' 52 k.toNatClampNeg + t := by rw [e4]; simp [hg_set]
              rw [hv2]
              exact ⟨hval.1, by grind⟩
            · have hv2 : σ4 52 j = σ' 52 j := by rw [e4]; simp [hg_set, e]
              rw [hv2]
              exact w.2 j hj
        refine ih v σ4 (by grind) (by grind) w4 (fun q hq => (cc q (by omega)).trans (g q hq)) (fun j j0 j1 => ?_) ?_
        · by_cases e : j = k + 1
          · subst e
            have hv2 : σ4 52 (k + 1).toNatClampNeg = σ' 52 k.toNatClampNeg + t := by rw [e4]; simp [hg_set]
            rw [hv2]
            exact hval
          · have hne : j.toNatClampNeg ≠ (k + 1).toNatClampNeg := hp_ne j0 (by grind)
            have hv2 : σ4 52 j.toNatClampNeg = σ' 52 j.toNatClampNeg := by rw [e4]; simp [hg_set, hne]
            rw [hv2]
            exact c j j0 (by grind)
        · have := hp_n_lt (a := k) (b := v) (c := 720) k0 (by grind) (by grind)
          omega
      exact ⟨fun _ => hgo 0 (Or.inl rfl), fun _ => hgo 1 (Or.inr rfl)⟩
  have cc : ∀ q, q ≠ 52 → σ3 q = σ1 q := fun q hq => by rw [e3, hg_set_ne hq]
  have w3 : iK σ3 := by
    refine ⟨⟨by rw [cc 42 (by decide)]; exact w1.1, by rw [cc 42 (by decide)]; exact w1.2.1, ?_⟩, ?_⟩
    · rw [cc 44 (by decide), cc 45 (by decide), cc 46 (by decide), cc 47 (by decide), cc 48 (by decide)]
      exact w1.2.2
    · intro j hj
      by_cases e : j = 0
      · subst e
        rw [e3]; simp [hg_set, z0]
      · have hv2 : σ3 52 j = σ 52 j := by rw [e3]; simp [hg_set, z0, e, c52]
        rw [hv2]
        exact h.2 j hj
  refine ⟨hp_n (720 - 0) + 1, key1 _ 0 σ3 (by decide) b0 w3 (fun q hq => (cc q (by omega)).trans (g1 q (by omega) (by omega))) (fun j j0 j1 => ?_) (by omega)⟩
  have : j = 0 := by grind
  subst this
  rw [e3]; simp [hg_set]
