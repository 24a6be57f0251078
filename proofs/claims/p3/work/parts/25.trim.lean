/-! Trimming. -/
def iP (σ : hg_M) : Prop := ∀ j, j < 721 → 0 ≤ σ 52 j ∧ σ 52 j ≤ 720
def gF (σ σ' : hg_M) : Prop := ∀ q, q ≠ 50 → q ≠ 51 → σ' q = σ q
def gK (σ σ' : hg_M) : Prop := ∀ q, ¬ (42 ≤ q ∧ q ≤ 52) → σ' q = σ q
theorem iC.ofF {a b : hg_M} (h : iC a) (g : gF a b) : iC b := by
  obtain ⟨h0, h1, h2⟩ := h
  have c := fun q (h : q = 42 ∨ (44 ≤ q ∧ q ≤ 48)) => g q (by omega) (by omega)
  refine ⟨by rw [c 42 (by omega)]; exact h0, by rw [c 42 (by omega)]; exact h1, ?_⟩
  rw [c 44 (by omega), c 45 (by omega), c 46 (by omega), c 47 (by omega), c 48 (by omega)]
  exact h2
theorem hp_721 {x : Int32} (h0 : 0 ≤ x) (h1 : x < 721) : vp_in x 721 := hp_in (z := 721) (by decide) h0 h1
theorem pC_findUseless {σ : hg_M} {P : hg_M → Prop} (h : iC σ) (hP : ∀ σ', gF σ σ' → P σ') : wC_X0_findUseless σ P := by
  have key2 : ∀ n (k : Int32) (σ' : hg_M), gF σ σ' → -1 ≤ k → k < 720 → hp_n (k + 1) < n → lC_X0_findUseless_31 P n k σ' := by
    intro n
    induction n with
    | zero => intro k σ' _ _ _ h; omega
    | succ n ih =>
      intro k σ' g k0 k1 hn
      rw [lC_X0_findUseless_31]
      refine ⟨fun _ => hP σ' g, fun hk => ?_⟩
      have hk0 : 0 ≤ k := by grind
      have hi := hp_720 hk0 k1
      have w : iC σ' := h.ofF g
      have h84 : ∀ σ2, gF σ σ2 → bC_X0_findUseless_84 P (fun k0 k1 => lC_X0_findUseless_31 P n k0 k1) k σ2 := by
        intro σ2 g2
        unfold bC_X0_findUseless_84
        intro v ev
        refine ih v σ2 g2 (by grind) (by grind) ?_
        have e : v + 1 = k := by grind
        rw [e]
        have := hp_n_lt (a := 720 - (k + 1)) (b := 720 - k) (c := 720) (by grind) (by grind) (by grind)
        have e1 : (720 : Int32) - (720 - k) = k := by grind
        have e2 : (720 : Int32) - (720 - (k + 1)) = k + 1 := by grind
        rw [e1, e2] at this
        omega
      have h69 : ∀ t, bC_X0_findUseless_69 P (fun k0 k1 => lC_X0_findUseless_31 P n k0 k1) k k t σ' := by
        intro t
        unfold bC_X0_findUseless_69
        refine ⟨hi, fun σ6 e6 => ⟨hi, ?_⟩⟩
        have g6 : gF σ σ6 := fun q h1 h2 => by rw [e6, hg_set_ne h2]; exact g q h1 h2
        exact ⟨fun _ => h84 σ6 g6, fun _ => pC_markTaken (h.ofF g6) hk0 k1 (fun σ7 c7 => h84 σ7 (fun q h1 h2 => (c7 q h1).trans (g6 q h1 h2)))⟩
      refine pC_mayGo hk0 k1 ⟨fun _ => h69 1, fun h => absurd rfl h⟩ (fun h13 => ⟨fun h => absurd h (by decide), fun _ => ⟨hi, ?_⟩⟩)
      have hr := w.2.2 _ (hg_lt hi)
      have ha := hr.2.2.1 (by grind)
      exact ⟨hp_736 ha.1 ha.2, fun _ => h69 0, fun _ => h69 1⟩
  have key1 : ∀ n (k : Int32) (σ' : hg_M), gF σ σ' → 0 ≤ k → k ≤ 736 → hp_n (736 - k) < n → lC_X0_findUseless_2 P n k σ' := by
    intro n
    induction n with
    | zero => intro k σ' _ _ _ h; omega
    | succ n ih =>
      intro k σ' g k0 k1 hn
      rw [lC_X0_findUseless_2]
      refine ⟨fun _ v ev => ?_, fun hk => ⟨hp_736 k0 (by grind), fun σ2 e2 v e => ?_⟩⟩
      · have w : iC σ' := h.ofF g
        obtain ⟨w0, w1, -⟩ := w
        exact ⟨hp_n (v + 1) + 1, key2 _ v σ' g (by grind) (by grind) (by omega)⟩
      · refine ih v σ2 (fun q h1 h2 => by rw [e2, hg_set_ne h1]; exact g q h1 h2) (by grind) (by grind) ?_
        have := hp_n_lt (a := k) (b := v) (c := 736) k0 (by grind) (by grind)
        omega
  exact ⟨hp_n (736 - 0) + 1, key1 _ 0 σ (fun _ _ _ => rfl) (by decide) (by decide) (by omega)⟩
theorem hp_s {x : Int32} (h0 : 0 ≤ x) (h1 : x < 2000) : (x + 1).toNatClampNeg = x.toNatClampNeg + 1 := by
  have a := hp_ti h0
  have b := hp_ti (k := x + 1) (by grind)
  have a0 := Int32.le_iff_toInt_le.mp h0
  have a1 := Int32.lt_iff_toInt_lt.mp h1
  have e0 : (0 : Int32).toInt = 0 := by decide
  have e1 : (2000 : Int32).toInt = 2000 := by decide
  have e2 : (1 : Int32).toInt = 1 := by decide
  rw [e0] at a0; rw [e1] at a1
  have e : (x + 1).toInt = x.toInt + 1 := by
    rw [Int32.toInt_add, e2]
    apply Int.bmod_eq_of_le <;> omega
  rw [e] at b
  omega
/-- a column is copied to another -/
theorem pC_copy {f t : Int32} {σ : hg_M} {P : hg_M → Prop} (hf0 : 0 ≤ f) (hf : f < 720) (ht0 : 0 ≤ t) (ht : t < 720)
    (hP : ∀ σ', (∀ q, ¬ (44 ≤ q ∧ q ≤ 49) → σ' q = σ q) → (∀ r, r < 6 → ∀ i, σ' (44 + r) i = if i = t.toNatClampNeg then σ (44 + r) f.toNatClampNeg else σ (44 + r) i) → P σ') : bC_X0_shift_35 P f t σ := by
  unfold bC_X0_shift_35
  have key : ∀ n (x : Int32) (σ' : hg_M), 0 ≤ x → x ≤ 6 → (∀ q, ¬ (44 ≤ q ∧ q ≤ 49) → σ' q = σ q) → (∀ r, r < 6 → ∀ i, σ' (44 + r) i = if r < x.toNatClampNeg ∧ i = t.toNatClampNeg then σ (44 + r) f.toNatClampNeg else σ (44 + r) i) → hp_n (6 - x) < n → lC_X0_shift_37 P n f t x σ' := by
    intro n
    induction n with
    | zero => intro x σ' _ _ _ _ h; omega
    | succ n ih =>
      intro x σ' x0 x6 c1 c2 hn
      rw [lC_X0_shift_37]
      refine ⟨fun h6 => hP σ' c1 (fun r hr i => ?_), fun hl => ?_⟩
      · have e : x = 6 := by grind
        have := c2 r hr i
        rw [e, show (6 : Int32).toNatClampNeg = 6 by decide] at this
        simpa [hr] using this
      · have xi : vp_in x 6 := hp_6 x0 (by grind)
        have xl : x.toNatClampNeg < 6 := hg_lt xi
        refine ⟨xi, xi, hp_720 hf0 hf, hp_720 ht0 ht, fun σ6 e6 v ev => ?_⟩
        have es : v.toNatClampNeg = x.toNatClampNeg + 1 := by rw [ev]; exact hp_s x0 (by grind)
        refine ih v σ6 (by grind) (by grind) (fun q hq => by rw [e6, hg_set_ne (by omega)]; exact c1 q hq) (fun r hr i => ?_) ?_
        · rw [es]
          by_cases er : r = x.toNatClampNeg
          · subst er
            by_cases ei : i = t.toNatClampNeg
            · subst ei
              rw [e6]
              simp [hg_set]
              have := c2 _ hr f.toNatClampNeg
              simpa using this
            · rw [e6]
              simp [hg_set, ei]
              have := c2 _ hr i
              simpa using this
          · rw [e6, hg_set_ne (by omega), c2 r hr i]
            have : (r < x.toNatClampNeg + 1) ↔ (r < x.toNatClampNeg) := by omega
            simp [this]
        · have := hp_n_lt (a := x) (b := v) (c := 6) x0 (by grind) (by grind)
          omega
  exact ⟨hp_n (6 - 0) + 1, key _ 0 σ (by decide) (by decide) (fun _ _ => rfl) (fun r _ i => by simp [show (0 : Int32).toNatClampNeg = 0 by decide]) (by omega)⟩
