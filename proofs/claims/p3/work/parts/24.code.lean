/-! The code's rows: what holds of them all along, and the methods that add to them or count them. -/
def rOK (k a b c e : Int32) : Prop := 0 ≤ k ∧ k < 19 ∧ (k ≠ 16 → 0 ≤ a ∧ a < 736) ∧ (k = 16 → 0 ≤ a ∧ a ≤ 720) ∧ (1 ≤ k → k ≤ 15 → 0 ≤ b ∧ b < 736) ∧ (k = 17 → 0 ≤ b ∧ b ≤ 720) ∧ (2 ≤ k → k ≤ 13 → 0 ≤ c ∧ c < 736) ∧ (k = 13 → 0 ≤ e ∧ e < 736)
def iC (σ : hg_M) : Prop := 0 ≤ σ 42 1 ∧ σ 42 1 ≤ 720 ∧ ∀ i, i < 720 → rOK (σ 44 i) (σ 45 i) (σ 46 i) (σ 47 i) (σ 48 i)
/-- while rows are added: registers keep below the rows that are there -/
def iG (σ : hg_M) : Prop := σ 42 1 < 720 → 16 ≤ σ 42 2 ∧ σ 42 2 ≤ 16 + σ 42 1
def hv (σ : hg_M) (r : Int32) : Prop := σ 42 1 < 720 → 0 ≤ r ∧ r < 736
/-- adding leaves alone what lies outside of the code; rows grow -/
def gC (σ σ' : hg_M) : Prop := (∀ q, ¬ (q = 42 ∨ (44 ≤ q ∧ q ≤ 49)) → σ' q = σ q) ∧ σ 42 1 ≤ σ' 42 1 ∧ ∀ j : Int32, 0 ≤ j → j < σ 42 1 → σ' 44 j.toNatClampNeg = σ 44 j.toNatClampNeg
theorem hp_ne {a b : Int32} (h0 : 0 ≤ a) (h1 : a < b) : a.toNatClampNeg ≠ b.toNatClampNeg := by
  have a0 := Int32.le_iff_toInt_le.mp h0
  have a1 := Int32.lt_iff_toInt_lt.mp h1
  have e0 : (0 : Int32).toInt = 0 := by decide
  rw [e0] at a0
  show a.toInt.toNat ≠ b.toInt.toNat
  omega
theorem gC.refl (σ : hg_M) : gC σ σ := ⟨fun _ _ => rfl, by grind, fun _ _ _ => rfl⟩
theorem gC.trans {a b c : hg_M} (h : gC a b) (g : gC b c) : gC a c := ⟨fun q hq => (g.1 q hq).trans (h.1 q hq), by have := h.2.1; have := g.2.1; grind, fun j h0 h1 => (g.2.2 j h0 (by have := h.2.1; grind)).trans (h.2.2 j h0 h1)⟩
theorem hv.up {a b : hg_M} {r : Int32} (h : hv a r) (g : gC a b) : hv b r := fun hb => h (by have := g.2.1; grind)
theorem pC_clear {σ : hg_M} {P : hg_M → Prop} (h : iC σ) (hP : ∀ σ', (∀ q, ¬ (q = 42 ∨ (44 ≤ q ∧ q ≤ 49)) → σ' q = σ q) → iC σ' → iG σ' → σ' 42 1 = 0 → P σ') : wC_X0_clear σ P := by
  intro σ1 e1 σ2 e2
  have f1 : σ2 42 1 = 0 := by rw [e2, e1]; simp [hg_set]
  have f2 : σ2 42 2 = 16 := by rw [e2]; simp [hg_set]
  have c : ∀ q, q ≠ 42 → σ2 q = σ q := fun q hq => by rw [e2, e1, hg_set_ne hq, hg_set_ne hq]
  refine hP σ2 (fun q hq => c q (by omega)) ⟨by rw [f1]; decide, by rw [f1]; decide, ?_⟩ (fun _ => by rw [f1, f2]; decide) f1
  rw [c 44 (by decide), c 45 (by decide), c 46 (by decide), c 47 (by decide), c 48 (by decide)]
  exact h.2.2
theorem pC_put {x1 x2 x3 x4 x5 : Int32} {σ : hg_M} {P : Int32 → hg_M → Prop} (h : iC σ) (hl : σ 42 1 < 720) (hr : rOK x1 x2 x3 x4 x5)
    (hP : ∀ σ', iC σ' → gC σ σ' → σ' 42 2 = σ 42 2 → σ' 42 3 = σ 42 3 → (σ' 42 1 = σ 42 1 + 1 ∧ σ' 44 (σ 42 1).toNatClampNeg = x1) → P x2 σ') : bC_X0_add_36 P x1 x3 x4 x5 x2 σ := by
  unfold bC_X0_add_36
  obtain ⟨h0, h1, h2⟩ := h
  obtain ⟨v, ev⟩ : ∃ v, v = σ 42 1 := ⟨_, rfl⟩
  have hi : vp_in v 720 := hp_720 (by rw [ev]; exact h0) (by grind)
  rw [← ev]
  refine ⟨hi, fun σ2 e2 => ?_⟩
  have c2 : σ2 42 = σ 42 := by rw [e2]; exact hg_set_ne (by decide)
  rw [c2, ← ev]
  refine ⟨hi, fun σ3 e3 => ?_⟩
  have c3 : σ3 42 = σ 42 := by rw [e3, hg_set_ne (by decide)]; exact c2
  rw [c3, ← ev]
  refine ⟨hi, fun σ4 e4 => ?_⟩
  have c4 : σ4 42 = σ 42 := by rw [e4, hg_set_ne (by decide)]; exact c3
  rw [c4, ← ev]
  refine ⟨hi, fun σ5 e5 => ?_⟩
  have c5 : σ5 42 = σ 42 := by rw [e5, hg_set_ne (by decide)]; exact c4
  rw [c5, ← ev]
  refine ⟨hi, fun σ6 e6 => ?_⟩
  have c6 : σ6 42 = σ 42 := by rw [e6, hg_set_ne (by decide)]; exact c5
  rw [c6, ← ev]
  refine ⟨hi, fun σ7 e7 σ8 e8 => ?_⟩
  have c42 : σ7 42 = σ 42 := by rw [e7, hg_set_ne (by decide)]; exact c6
  have f1 : σ8 42 1 = σ 42 1 + 1 := by rw [e8]; simp [hg_set, c42]
  have f2 : σ8 42 2 = σ 42 2 := by rw [e8]; simp [hg_set, c42]
  have f3 : σ8 42 3 = σ 42 3 := by rw [e8]; simp [hg_set, c42]
  refine hP σ8 ⟨by rw [f1]; grind, by rw [f1]; grind, ?_⟩ ⟨fun q hq => ?_, by rw [f1]; grind, fun j j0 j1 => ?_⟩ f2 f3 ⟨f1, ?_⟩
  · intro i hi2
    have d44 : σ8 44 i = if i = v.toNatClampNeg then x1 else σ 44 i := by rw [e8, e7, e6, e5, e4, e3, e2]; simp [hg_set]
    have d45 : σ8 45 i = if i = v.toNatClampNeg then x2 else σ 45 i := by rw [e8, e7, e6, e5, e4, e3, e2]; simp [hg_set]
    have d46 : σ8 46 i = if i = v.toNatClampNeg then x3 else σ 46 i := by rw [e8, e7, e6, e5, e4, e3, e2]; simp [hg_set]
    have d47 : σ8 47 i = if i = v.toNatClampNeg then x4 else σ 47 i := by rw [e8, e7, e6, e5, e4, e3, e2]; simp [hg_set]
    have d48 : σ8 48 i = if i = v.toNatClampNeg then x5 else σ 48 i := by rw [e8, e7, e6, e5, e4, e3, e2]; simp [hg_set]
    rw [d44, d45, d46, d47, d48]
    by_cases e : i = v.toNatClampNeg
    · simp only [e, if_true]; exact hr
    · simp only [e, if_false]; exact h2 i hi2
  · rw [e8, e7, e6, e5, e4, e3, e2]
    repeat rw [hg_set_ne (by omega)]
  · have hne : j.toNatClampNeg ≠ v.toNatClampNeg := hp_ne j0 (by rw [ev]; exact j1)
    rw [e8, e7, e6, e5, e4, e3, e2]
    simp [hg_set, hne]
  · rw [← ev, e8, e7, e6, e5, e4, e3, e2]
    simp [hg_set]
theorem pC_add {x1 x2 x3 x4 x5 : Int32} {σ : hg_M} {P : Int32 → hg_M → Prop} (h : iC σ) (hr : σ 42 1 < 720 → rOK x1 x2 x3 x4 x5)
    (hP : ∀ r σ', iC σ' → gC σ σ' → σ' 42 2 = σ 42 2 → σ' 42 3 = σ 42 3 → (σ 42 1 < 720 → σ' 42 1 = σ 42 1 + 1 ∧ σ' 44 (σ 42 1).toNatClampNeg = x1) → P r σ') : wC_X0_add x1 x2 x3 x4 x5 σ P := by
  unfold wC_X0_add
  refine ⟨fun hl => ⟨fun hne => pC_put h hl (hr hl) (fun σ' a b c d e => hP x2 σ' a b c d (fun _ => e)), fun he => ?_⟩, fun hf => hP 0 σ h (gC.refl σ) rfl rfl (fun h => absurd h hf)⟩
  exfalso
  have := hr hl
  unfold rOK at this
  grind
theorem pC_new {x1 x2 x3 x4 : Int32} {σ : hg_M} {P : Int32 → hg_M → Prop} (h : iC σ) (hg : iG σ) (hr : ∀ r, 0 ≤ r → r < 736 → σ 42 1 < 720 → rOK x1 r x2 x3 x4)
    (hP : ∀ r σ', iC σ' → iG σ' → gC σ σ' → hv σ' r → σ' 42 3 = σ 42 3 → P r σ') : wC_X0_add x1 (-1) x2 x3 x4 σ P := by
  unfold wC_X0_add
  refine ⟨fun hl => ⟨fun hne => absurd rfl hne, fun _ v ev σ2 e2 => ?_⟩, fun hf => hP 0 σ h hg (gC.refl σ) (fun _ => by decide) rfl⟩
  have f1 : σ2 42 1 = σ 42 1 := by rw [e2]; simp [hg_set]
  have f2 : σ2 42 2 = σ 42 2 + 1 := by rw [e2]; simp [hg_set]
  have f3 : σ2 42 3 = σ 42 3 := by rw [e2]; simp [hg_set]
  have c : ∀ q, q ≠ 42 → σ2 q = σ q := fun q hq => by rw [e2, hg_set_ne hq]
  obtain ⟨h0, h1, h2⟩ := h
  have h' : iC σ2 := by
    refine ⟨by rw [f1]; exact h0, by rw [f1]; exact h1, ?_⟩
    rw [c 44 (by decide), c 45 (by decide), c 46 (by decide), c 47 (by decide), c 48 (by decide)]
    exact h2
  have hgl := hg hl
  refine pC_put h' (by rw [f1]; exact hl) (hr v (by grind) (by grind) hl) (fun σ3 w3 g3 k3 t3 s3 => ?_)
  refine hP v σ3 w3 ?_ ⟨fun q hq => (g3.1 q hq).trans (c q (by omega)), by have := g3.2.1; rw [f1] at this; exact this, fun j j0 j1 => (g3.2.2 j j0 (by rw [f1]; exact j1)).trans (by rw [c 44 (by decide)])⟩ (fun _ => by grind) (t3.trans f3)
  intro hl3
  have := s3.1
  rw [k3, f2]
  rw [f1] at this
  grind
theorem pC_isJump {x : Int32} {σ : hg_M} {P : Int32 → hg_M → Prop} (hx0 : 0 ≤ x) (hx : x < 720) (h0 : σ 44 x.toNatClampNeg ≠ 16 → σ 44 x.toNatClampNeg ≠ 17 → P 0 σ) (h1 : σ 44 x.toNatClampNeg = 16 ∨ σ 44 x.toNatClampNeg = 17 → P 1 σ) : wC_X0_isJump x σ P := by
  unfold wC_X0_isJump bC_X0_isJump_26 bC_X0_isJump_31
  exact ⟨hp_720 hx0 hx, fun e => ⟨Or.inr rfl, h1 (Or.inl e)⟩, fun n => ⟨hp_720 hx0 hx, fun m => ⟨Or.inl rfl, h0 n m⟩, fun e => ⟨Or.inr rfl, h1 (Or.inr e)⟩⟩⟩
theorem pC_jumps {σ : hg_M} {P : Int32 → hg_M → Prop} (h : iC σ) (hP : ∀ r, P r σ) : wC_X0_jumps σ P := by
  obtain ⟨h0, h1, -⟩ := h
  have key : ∀ n (a k : Int32), 0 ≤ k → k ≤ 720 → hp_n (720 - k) < n → lC_X0_jumps_4 P n a k σ := by
    intro n
    induction n with
    | zero => intro a k _ _ h; omega
    | succ n ih =>
      intro a k k0 k1 hn
      rw [lC_X0_jumps_4]
      refine ⟨fun _ => hP a, fun hl => ?_⟩
      have hgo : ∀ t, bC_X0_jumps_26 P (fun k0 k1 k2 => lC_X0_jumps_4 P n k0 k1 k2) k a t σ := by
        intro t
        unfold bC_X0_jumps_26
        intro v3 _ v4 e4
        refine ih v3 v4 (by grind) (by grind) ?_
        have := hp_n_lt (a := k) (b := v4) (c := 720) k0 (by grind) (by grind)
        omega
      exact pC_isJump k0 (by grind) (fun _ _ => ⟨fun _ => hgo 0, fun h => absurd rfl h⟩) (fun _ => ⟨fun h => absurd h (by decide), fun _ => hgo 1⟩)
  exact ⟨hp_n (720 - 0) + 1, key _ 0 0 (by decide) (by decide) (by omega)⟩
theorem pC_stepsOf {s : Int32} {σ : hg_M} {P : Int32 → hg_M → Prop} (h : iC σ) (hP : ∀ r, P r σ) : wC_X0_stepsOf s σ P := by
  obtain ⟨h0, h1, -⟩ := h
  have key : ∀ n (a k : Int32), 0 ≤ k → k ≤ 720 → hp_n (720 - k) < n → lC_X0_stepsOf_4 P n s a k σ := by
    intro n
    induction n with
    | zero => intro a k _ _ h; omega
    | succ n ih =>
      intro a k k0 k1 hn
      rw [lC_X0_stepsOf_4]
      refine ⟨fun _ => hP a, fun hl => ⟨hp_720 k0 (by grind), ?_⟩⟩
      have hgo : ∀ t, bC_X0_stepsOf_30 P (fun k0 k1 k2 k3 => lC_X0_stepsOf_4 P n k0 k1 k2 k3) s k a t σ := by
        intro t
        unfold bC_X0_stepsOf_30
        intro v3 _ v4 e4
        refine ih v3 v4 (by grind) (by grind) ?_
        have := hp_n_lt (a := k) (b := v4) (c := 720) k0 (by grind) (by grind)
        omega
      exact ⟨fun _ => hgo 0, fun _ => hgo 1⟩
  exact ⟨hp_n (720 - 0) + 1, key _ 0 0 (by decide) (by decide) (by omega)⟩
theorem rOK.lead {σ : hg_M} {i : Nat} {v : Int32} (h : rOK (σ 44 i) (σ 45 i) (σ 46 i) (σ 47 i) (σ 48 i)) (hk : σ 44 i = 16 ∨ σ 44 i = 17) (h0 : 0 ≤ v) (h1 : v ≤ 720) :
    (σ 44 i = 16 → rOK (σ 44 i) v (σ 46 i) (σ 47 i) (σ 48 i)) ∧ (σ 44 i ≠ 16 → rOK (σ 44 i) (σ 45 i) v (σ 47 i) (σ 48 i)) := by
  unfold rOK at *
  constructor
  · intro e; grind
  · intro e; grind
/-- a jump's target is put: rows stay right -/
theorem pC_leadHere {x : Int32} {σ : hg_M} {P : hg_M → Prop} (h : iC σ) (hk : 0 ≤ x → x < σ 42 1 → σ 44 x.toNatClampNeg = 16 ∨ σ 44 x.toNatClampNeg = 17)
    (hP : ∀ σ', iC σ' → gC σ σ' → σ' 42 = σ 42 → P σ') : wC_X0_leadHere x σ P := by
  unfold wC_X0_leadHere bC_X0_leadHere_28 wC_X0_leadRow bC_X0_leadRow_18
  refine ⟨fun _ => hP σ h (gC.refl σ) rfl, fun hx0 => ⟨fun _ => hP σ h (gC.refl σ) rfl, fun hx1 => ?_⟩⟩
  obtain ⟨h0, h1, h2⟩ := h
  have x0 : 0 ≤ x := by grind
  have x1 : x < 720 := by grind
  have hi := hp_720 x0 x1
  have hkx := hk x0 (by grind)
  have hl := (h2 _ (hg_lt hi)).lead (i := x.toNatClampNeg) hkx h0 h1
  have e2 : 44 + (2 : Int32).toNatClampNeg = 46 := by decide
  have e1 : 44 + (1 : Int32).toNatClampNeg = 45 := by decide
  refine ⟨hi, fun hne => ⟨hp_6 (by decide) (by decide), hi, fun σ3 e3 => ?_⟩, fun he => ⟨hp_6 (by decide) (by decide), hi, fun σ3 e3 => ?_⟩⟩
  · rw [e2] at e3
    have c : ∀ q, q ≠ 46 → σ3 q = σ q := fun q hq => by rw [e3, hg_set_ne hq]
    refine hP σ3 ⟨by rw [c 42 (by decide)]; exact h0, by rw [c 42 (by decide)]; exact h1, ?_⟩ ⟨fun q hq => c q (by omega), by rw [c 42 (by decide)]; grind, fun j _ _ => by rw [c 44 (by decide)]⟩ (c 42 (by decide))
    intro i hi2
    rw [c 44 (by decide), c 45 (by decide), c 47 (by decide), c 48 (by decide)]
    by_cases e : i = x.toNatClampNeg
    · subst e; rw [e3]; simpa [hg_set] using hl.2 hne
    · rw [e3]; simpa [hg_set, e] using h2 i hi2
  · rw [e1] at e3
    have c : ∀ q, q ≠ 45 → σ3 q = σ q := fun q hq => by rw [e3, hg_set_ne hq]
    refine hP σ3 ⟨by rw [c 42 (by decide)]; exact h0, by rw [c 42 (by decide)]; exact h1, ?_⟩ ⟨fun q hq => c q (by omega), by rw [c 42 (by decide)]; grind, fun j _ _ => by rw [c 44 (by decide)]⟩ (c 42 (by decide))
    intro i hi2
    rw [c 44 (by decide), c 46 (by decide), c 47 (by decide), c 48 (by decide)]
    by_cases e : i = x.toNatClampNeg
    · subst e; rw [e3]; simpa [hg_set] using hl.1 he
    · rw [e3]; simpa [hg_set, e] using h2 i hi2
theorem pC_divides {x : Int32} {σ : hg_M} {P : Int32 → hg_M → Prop} (h0 : x ≠ 5 → x ≠ 6 → P 0 σ) (h1 : x = 5 ∨ x = 6 → P 1 σ) : wC_X5_divides x σ P := by
  unfold wC_X5_divides bC_X5_divides_11 bC_X5_divides_16
  exact ⟨fun e => ⟨Or.inr rfl, h1 (Or.inl e)⟩, fun n => ⟨fun m => ⟨Or.inl rfl, h0 n m⟩, fun e => ⟨Or.inr rfl, h1 (Or.inr e)⟩⟩⟩
theorem pC_isWord {x : Int32} {σ : hg_M} {P : Int32 → hg_M → Prop} (h0 : P 0 σ) (h1 : 0 ≤ x → x < 32 → P 1 σ) : wC_X5_isWord x σ P := by
  unfold wC_X5_isWord bC_X5_isWord_14 bC_X5_isWord_15
  exact ⟨fun _ => ⟨Or.inl rfl, h0⟩, fun n => ⟨fun _ => ⟨Or.inl rfl, h0⟩, fun m => ⟨Or.inr rfl, h1 (by grind) (by grind)⟩⟩⟩
theorem pC_mayGo {x : Int32} {σ : hg_M} {P : Int32 → hg_M → Prop} (hx0 : 0 ≤ x) (hx : x < 720) (h0 : P 0 σ) (h1 : σ 44 x.toNatClampNeg ≤ 13 → P 1 σ) : wC_X0_mayGo x σ P := by
  unfold wC_X0_mayGo bC_X0_mayGo_39 bC_X0_mayGo_40
  have hi := hp_720 hx0 hx
  refine ⟨hi, fun v ev => ⟨fun _ => ⟨Or.inl rfl, h0⟩, fun hl => ?_⟩⟩
  refine pC_divides (fun _ _ => ⟨fun h => absurd rfl h, fun _ => ⟨hi, fun _ => ⟨Or.inl rfl, h0⟩, fun _ => ⟨Or.inr rfl, h1 (by grind)⟩⟩⟩) (fun _ => ⟨fun _ => ⟨Or.inl rfl, h0⟩, fun h => absurd h (by decide)⟩)
theorem hp_ti {k : Int32} (h : 0 ≤ k) : (k.toNatClampNeg : Int) = k.toInt := by
  have a0 := Int32.le_iff_toInt_le.mp h
  have e0 : (0 : Int32).toInt = 0 := by decide
  rw [e0] at a0
  show ((k.toInt.toNat : Nat) : Int) = _
  omega
theorem tt_all : ∀ m, m < 19 → (m = 0 ∧ hg_t1 m = 2 ∧ hg_t2 m = 1) ∨ (m = 1 ∧ hg_t1 m = 2 ∧ hg_t2 m = 2) ∨ ((2 ≤ m ∧ m ≤ 12) ∧ hg_t1 m = 2 ∧ hg_t2 m = 3) ∨ (m = 13 ∧ hg_t1 m = 2 ∧ hg_t2 m = 4) ∨ (m = 14 ∧ hg_t1 m = 2 ∧ hg_t2 m = 2) ∨ (m = 15 ∧ hg_t1 m = 1 ∧ hg_t2 m = 2) ∨ (m = 16 ∧ hg_t1 m = 1 ∧ hg_t2 m = 0) ∨ (17 ≤ m ∧ hg_t1 m = 1 ∧ hg_t2 m = 1) := by decide
/-- which rows of a step hold registers that it takes -/
theorem tt_reg {k a b c e r : Int32} (h : rOK k a b c e) (h1 : hg_t1 k.toNatClampNeg ≤ r) (h2 : r ≤ hg_t2 k.toNatClampNeg) : (r = 1 ∧ 0 ≤ a ∧ a < 736) ∨ (r = 2 ∧ 0 ≤ b ∧ b < 736) ∨ (r = 3 ∧ 0 ≤ c ∧ c < 736) ∨ (r = 4 ∧ 0 ≤ e ∧ e < 736) := by
  unfold rOK at h
  obtain ⟨k0, k1, ha, ha2, hb, hb2, hc, he⟩ := h
  have kl : k.toNatClampNeg < 19 := hp_lt (z := 19) (by decide) k0 k1
  have kt := hp_ti k0
  have lit : ∀ m : Int32, k.toInt = m.toInt → k = m := fun m e => Int32.toInt_inj.mp e
  rcases tt_all _ kl with ⟨m, t1, t2⟩ | ⟨m, t1, t2⟩ | ⟨m, t1, t2⟩ | ⟨m, t1, t2⟩ | ⟨m, t1, t2⟩ | ⟨m, t1, t2⟩ | ⟨m, t1, t2⟩ | ⟨m, t1, t2⟩ <;> rw [t1] at h1 <;> rw [t2] at h2
  · exfalso; grind
  · have : k = 1 := lit 1 (by rw [← kt, m]; decide)
    grind
  · have p1 : (2 : Int32) ≤ k := by rw [Int32.le_iff_toInt_le, ← kt]; show (2 : Int) ≤ _; omega
    have p2 : k ≤ (12 : Int32) := by rw [Int32.le_iff_toInt_le, ← kt]; show _ ≤ (12 : Int); omega
    grind
  · have : k = 13 := lit 13 (by rw [← kt, m]; decide)
    grind
  · have : k = 14 := lit 14 (by rw [← kt, m]; decide)
    grind
  · have : k = 15 := lit 15 (by rw [← kt, m]; decide)
    grind
  · exfalso; grind
  · have p1 : (17 : Int32) ≤ k := by rw [Int32.le_iff_toInt_le, ← kt]; show (17 : Int) ≤ _; omega
    grind
theorem pC_markTaken {x : Int32} {σ : hg_M} {P : hg_M → Prop} (h : iC σ) (hx0 : 0 ≤ x) (hx : x < 720) (hP : ∀ σ', (∀ q, q ≠ 50 → σ' q = σ q) → P σ') : wC_X0_markTaken x σ P := by
  unfold wC_X0_markTaken
  have hi := hp_720 hx0 hx
  refine ⟨hi, fun k ek => ?_⟩
  have hr := h.2.2 _ (hg_lt hi)
  rw [← ek] at hr
  have hk : vp_in k 19 := hp_in (z := 19) (by decide) hr.1 hr.2.1
  refine ⟨hk, fun v2 ev2 => ?_⟩
  have key : ∀ n (r : Int32) (σ' : hg_M), (∀ q, q ≠ 50 → σ' q = σ q) → hg_t1 k.toNatClampNeg ≤ r → r ≤ 5 → 0 ≤ r → hp_n (5 - r) < n → lC_X0_markTaken_15 P n x k r σ' := by
    intro n
    induction n with
    | zero => intro r σ' _ _ _ _ h; omega
    | succ n ih =>
      intro r σ' c r1 r5 r0 hn
      rw [lC_X0_markTaken_15]
      refine ⟨hk, fun _ => hP σ' c, fun hl => ?_⟩
      have hreg := tt_reg hr r1 (by grind)
      have hcell : ∀ q, 44 ≤ q → q ≤ 48 → σ' q = σ q := fun q _ _ => c q (by omega)
      have hr6 : vp_in r 6 := hp_6 r0 (by grind)
      have hval : 0 ≤ σ' (44 + r.toNatClampNeg) x.toNatClampNeg ∧ σ' (44 + r.toNatClampNeg) x.toNatClampNeg < 736 := by
        rcases hreg with ⟨rfl, g⟩ | ⟨rfl, g⟩ | ⟨rfl, g⟩ | ⟨rfl, g⟩
        · rw [show 44 + (1 : Int32).toNatClampNeg = 45 by decide, hcell 45 (by decide) (by decide)]; exact g
        · rw [show 44 + (2 : Int32).toNatClampNeg = 46 by decide, hcell 46 (by decide) (by decide)]; exact g
        · rw [show 44 + (3 : Int32).toNatClampNeg = 47 by decide, hcell 47 (by decide) (by decide)]; exact g
        · rw [show 44 + (4 : Int32).toNatClampNeg = 48 by decide, hcell 48 (by decide) (by decide)]; exact g
      refine ⟨hr6, hi, hp_736 hval.1 hval.2, fun σ3 e3 v4 e4 => ?_⟩
      have hr4 : r ≤ 4 := by rcases hreg with ⟨rfl, _⟩ | ⟨rfl, _⟩ | ⟨rfl, _⟩ | ⟨rfl, _⟩ <;> decide
      refine ih v4 σ3 (fun q hq => by rw [e3, hg_set_ne hq]; exact c q hq) (by grind) (by grind) (by grind) ?_
      have := hp_n_lt (a := r) (b := v4) (c := 5) r0 (by grind) (by grind)
      omega
  have ht : 0 ≤ hg_t1 k.toNatClampNeg ∧ hg_t1 k.toNatClampNeg ≤ 5 := by
    rcases tt_all _ (hg_lt hk) with ⟨_, t1, _⟩ | ⟨_, t1, _⟩ | ⟨_, t1, _⟩ | ⟨_, t1, _⟩ | ⟨_, t1, _⟩ | ⟨_, t1, _⟩ | ⟨_, t1, _⟩ | ⟨_, t1, _⟩ <;> rw [t1] <;> decide
  exact ⟨hp_n (5 - v2) + 1, key _ v2 σ (fun _ _ => rfl) (by grind) (by grind) (by grind) (by omega)⟩
