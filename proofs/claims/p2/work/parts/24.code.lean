/-! The code's rows: what holds of them all along, and the methods that add to them or count them. -/
def rOK (k a b c e : Int32) : Prop := 0 ≤ k ∧ k < 19 ∧ (k ≠ 16 → 0 ≤ a ∧ a < 736) ∧ (k = 16 → 0 ≤ a ∧ a ≤ 720) ∧ (1 ≤ k → k ≤ 15 → 0 ≤ b ∧ b < 736) ∧ (k = 17 → 0 ≤ b ∧ b ≤ 720) ∧ (2 ≤ k → k ≤ 13 → 0 ≤ c ∧ c < 736) ∧ (k = 13 → 0 ≤ e ∧ e < 736)
def iC (σ : hg_M) : Prop := 0 ≤ σ 42 1 ∧ σ 42 1 ≤ 720 ∧ ∀ i, i < 720 → rOK (σ 44 i) (σ 45 i) (σ 46 i) (σ 47 i) (σ 48 i)
/-- while rows are added: registers keep below the rows that are there -/
def iG (σ : hg_M) : Prop := σ 42 1 < 720 → 16 ≤ σ 42 2 ∧ σ 42 2 ≤ 16 + σ 42 1
def hv (σ : hg_M) (r : Int32) : Prop := σ 42 1 < 720 → 0 ≤ r ∧ r < 736
/-- adding leaves alone what lies outside of the code; rows grow -/
def gC (σ σ' : hg_M) : Prop := (∀ q, ¬ (42 ≤ q ∧ q ≤ 52) → σ' q = σ q) ∧ σ 42 1 ≤ σ' 42 1
theorem gC.refl (σ : hg_M) : gC σ σ := ⟨fun _ _ => rfl, by grind⟩
theorem gC.trans {a b c : hg_M} (h : gC a b) (g : gC b c) : gC a c := ⟨fun q hq => (g.1 q hq).trans (h.1 q hq), by have := h.2; have := g.2; grind⟩
theorem hv.up {a b : hg_M} {r : Int32} (h : hv a r) (g : gC a b) : hv b r := fun hb => h (by have := g.2; grind)
theorem pC_clear {σ : hg_M} {P : hg_M → Prop} (h : iC σ) (hP : ∀ σ', (∀ q, ¬ (42 ≤ q ∧ q ≤ 52) → σ' q = σ q) → iC σ' → iG σ' → σ' 42 1 = 0 → P σ') : wC_X0_clear σ P := by
  intro σ1 e1 σ2 e2
  have f1 : σ2 42 1 = 0 := by rw [e2, e1]; simp [hg_set]
  have f2 : σ2 42 2 = 16 := by rw [e2]; simp [hg_set]
  have c : ∀ q, q ≠ 42 → σ2 q = σ q := fun q hq => by rw [e2, e1, hg_set_ne hq, hg_set_ne hq]
  refine hP σ2 (fun q hq => c q (by omega)) ⟨by rw [f1]; decide, by rw [f1]; decide, ?_⟩ (fun _ => by rw [f1, f2]; decide) f1
  rw [c 44 (by decide), c 45 (by decide), c 46 (by decide), c 47 (by decide), c 48 (by decide)]
  exact h.2.2
theorem pC_add {x1 x2 x3 x4 x5 : Int32} {σ : hg_M} {P : Int32 → hg_M → Prop} (h : iC σ) (hr : σ 42 1 < 720 → rOK x1 x2 x3 x4 x5)
    (hP : ∀ σ', iC σ' → gC σ σ' → σ' 42 2 = σ 42 2 → σ' 42 3 = σ 42 3 → (σ 42 1 < 720 → σ' 42 1 = σ 42 1 + 1) → P (σ 42 1) σ') : wC_X0_add x1 x2 x3 x4 x5 σ P := by
  unfold wC_X0_add bC_X0_add_89
  intro v ev
  obtain ⟨h0, h1, h2⟩ := h
  refine ⟨fun hf => ?_, fun hl => ?_⟩
  · rw [ev]
    exact hP σ ⟨h0, h1, h2⟩ (gC.refl σ) rfl rfl (fun h => by grind)
  · have hi : vp_in v 720 := hp_720 (by rw [ev]; exact h0) (by grind)
    refine ⟨hi, fun σ2 e2 => ⟨hi, fun σ3 e3 => ⟨hi, fun σ4 e4 => ⟨hi, fun σ5 e5 => ⟨hi, fun σ6 e6 => ⟨hi, fun σ7 e7 σ8 e8 => ?_⟩⟩⟩⟩⟩⟩
    have c42 : σ7 42 = σ 42 := by rw [e7, e6, e5, e4, e3, e2]; simp [hg_set_ne]
    have f1 : σ8 42 1 = σ 42 1 + 1 := by rw [e8]; simp [hg_set, c42]
    have f2 : σ8 42 2 = σ 42 2 := by rw [e8]; simp [hg_set, c42]
    have f3 : σ8 42 3 = σ 42 3 := by rw [e8]; simp [hg_set, c42]
    rw [ev]
    refine hP σ8 ⟨by rw [f1]; grind, by rw [f1]; grind, ?_⟩ ⟨fun q hq => ?_, by rw [f1]; grind⟩ f2 f3 (fun _ => f1)
    · intro i hi2
      have d44 : σ8 44 i = if i = v.toNatClampNeg then x1 else σ 44 i := by rw [e8, e7, e6, e5, e4, e3, e2]; simp [hg_set]
      have d45 : σ8 45 i = if i = v.toNatClampNeg then x2 else σ 45 i := by rw [e8, e7, e6, e5, e4, e3, e2]; simp [hg_set]
      have d46 : σ8 46 i = if i = v.toNatClampNeg then x3 else σ 46 i := by rw [e8, e7, e6, e5, e4, e3, e2]; simp [hg_set]
      have d47 : σ8 47 i = if i = v.toNatClampNeg then x4 else σ 47 i := by rw [e8, e7, e6, e5, e4, e3, e2]; simp [hg_set]
      have d48 : σ8 48 i = if i = v.toNatClampNeg then x5 else σ 48 i := by rw [e8, e7, e6, e5, e4, e3, e2]; simp [hg_set]
      rw [d44, d45, d46, d47, d48]
      by_cases e : i = v.toNatClampNeg
      · simp only [e, if_true]; exact hr (by grind)
      · simp only [e, if_false]; exact h2 i hi2
    · rw [e8, e7, e6, e5, e4, e3, e2]
      repeat rw [hg_set_ne (by omega)]
theorem pC_addToNew {x1 x2 x3 x4 : Int32} {σ : hg_M} {P : Int32 → hg_M → Prop} (h : iC σ) (hg : iG σ) (hr : ∀ r, 0 ≤ r → r < 736 → σ 42 1 < 720 → rOK x1 r x2 x3 x4)
    (hP : ∀ r σ', iC σ' → iG σ' → gC σ σ' → hv σ' r → σ' 42 3 = σ 42 3 → P r σ') : wC_X0_addToNew x1 x2 x3 x4 σ P := by
  unfold wC_X0_addToNew
  intro v ev σ2 e2
  have f1 : σ2 42 1 = σ 42 1 := by rw [e2]; simp [hg_set]
  have f2 : σ2 42 2 = σ 42 2 + 1 := by rw [e2]; simp [hg_set]
  have f3 : σ2 42 3 = σ 42 3 := by rw [e2]; simp [hg_set]
  have c : ∀ q, q ≠ 42 → σ2 q = σ q := fun q hq => by rw [e2, hg_set_ne hq]
  obtain ⟨h0, h1, h2⟩ := h
  have h' : iC σ2 := by
    refine ⟨by rw [f1]; exact h0, by rw [f1]; exact h1, ?_⟩
    rw [c 44 (by decide), c 45 (by decide), c 46 (by decide), c 47 (by decide), c 48 (by decide)]
    exact h2
  refine pC_add h' (fun hl => ?_) (fun σ3 w3 g3 k3 t3 s3 => ?_)
  · rw [f1] at hl
    have := hg hl
    exact hr v (by grind) (by grind) hl
  · refine hP v σ3 w3 ?_ ⟨fun q hq => (g3.1 q hq).trans (c q (by omega)), by have := g3.2; rw [f1] at this; exact this⟩ ?_ (t3.trans f3)
    · intro hl
      have q1 := g3.2
      rw [f1] at q1
      have hl2 : σ 42 1 < 720 := by grind
      have := hg hl2
      have := s3 (by rw [f1]; exact hl2)
      rw [k3, f2]
      rw [f1] at this
      grind
    · intro hl
      have q1 := g3.2
      rw [f1] at q1
      have hl2 : σ 42 1 < 720 := by grind
      have := hg hl2
      grind
theorem pC_isJump {x : Int32} {σ : hg_M} {P : Int32 → hg_M → Prop} (hx0 : 0 ≤ x) (hx : x < 720) (h0 : σ 44 x.toNatClampNeg ≠ 16 → σ 44 x.toNatClampNeg ≠ 17 → P 0 σ) (h1 : σ 44 x.toNatClampNeg = 16 ∨ σ 44 x.toNatClampNeg = 17 → P 1 σ) : wC_X0_isJump x σ P := by
  unfold wC_X0_isJump bC_X0_isJump_26 bC_X0_isJump_31
  exact ⟨hp_720 hx0 hx, fun e => ⟨Or.inr rfl, h1 (Or.inl e)⟩, fun n => ⟨hp_720 hx0 hx, fun m => ⟨Or.inl rfl, h0 n m⟩, fun e => ⟨Or.inr rfl, h1 (Or.inr e)⟩⟩⟩
theorem pC_jumps {σ : hg_M} {P : Int32 → hg_M → Prop} (h : iC σ) (hP : ∀ r, P r σ) : wC_X0_jumps σ P := by
  obtain ⟨h0, h1, -⟩ := h
  have key : ∀ n (a k : Int32), 0 ≤ k → k ≤ 720 → hp_n (720 - k) < n → lC_X0_jumps_4 P n a k σ := by
    intro n
    induction n with
    | zero => intro a k _ _ h; omega
    | succ n ih =>
      intro a k k0 k1 hn
      rw [lC_X0_jumps_4]
      refine ⟨fun _ => hP a, fun hl => ?_⟩
      have hgo : ∀ t, bC_X0_jumps_26 P (fun k0 k1 k2 => lC_X0_jumps_4 P n k0 k1 k2) k a t σ := by
        intro t
        unfold bC_X0_jumps_26
        intro v3 _ v4 e4
        refine ih v3 v4 (by grind) (by grind) ?_
        have := hp_n_lt (a := k) (b := v4) (c := 720) k0 (by grind) (by grind)
        omega
      exact pC_isJump k0 (by grind) (fun _ _ => ⟨fun _ => hgo 0, fun h => absurd rfl h⟩) (fun _ => ⟨fun h => absurd h (by decide), fun _ => hgo 1⟩)
  exact ⟨hp_n (720 - 0) + 1, key _ 0 0 (by decide) (by decide) (by omega)⟩
theorem pC_stepsOf {s : Int32} {σ : hg_M} {P : Int32 → hg_M → Prop} (h : iC σ) (hP : ∀ r, P r σ) : wC_X0_stepsOf s σ P := by
  obtain ⟨h0, h1, -⟩ := h
  have key : ∀ n (a k : Int32), 0 ≤ k → k ≤ 720 → hp_n (720 - k) < n → lC_X0_stepsOf_4 P n s a k σ := by
    intro n
    induction n with
    | zero => intro a k _ _ h; omega
    | succ n ih =>
      intro a k k0 k1 hn
      rw [lC_X0_stepsOf_4]
      refine ⟨fun _ => hP a, fun hl => ⟨hp_720 k0 (by grind), ?_⟩⟩
      have hgo : ∀ t, bC_X0_stepsOf_30 P (fun k0 k1 k2 k3 => lC_X0_stepsOf_4 P n k0 k1 k2 k3) s k a t σ := by
        intro t
        unfold bC_X0_stepsOf_30
        intro v3 _ v4 e4
        refine ih v3 v4 (by grind) (by grind) ?_
        have := hp_n_lt (a := k) (b := v4) (c := 720) k0 (by grind) (by grind)
        omega
      exact ⟨fun _ => hgo 0, fun _ => hgo 1⟩
  exact ⟨hp_n (720 - 0) + 1, key _ 0 0 (by decide) (by decide) (by omega)⟩
