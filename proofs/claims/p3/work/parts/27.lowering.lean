/-! Lowering: what holds all along, and the small methods. -/
def iX (σ : hg_M) : Prop := (0 ≤ σ 16 8 ∧ σ 16 8 ≤ 60) ∧ (∀ s, s < 60 → (0 ≤ σ 19 s ∧ σ 19 s < 16) ∧ (0 ≤ σ 20 s ∧ σ 20 s < 13) ∧ (0 ≤ σ 21 s ∧ σ 21 s ≤ 60) ∧ (0 ≤ σ 22 s ∧ σ 22 s ≤ 60)) ∧ ∀ j, j < 120 → σ 23 j ≠ 0 → 0 ≤ σ 24 j ∧ σ 24 j < 16
def iS (σ : hg_M) : Prop := (∀ v, v < 16 → hv σ (σ 27 v)) ∧ (σ 25 5 = -1 ∨ hv σ (σ 25 5))
def iL (σ : hg_M) : Prop := iC σ ∧ iG σ ∧ iX σ ∧ iS σ
/-- what lowering leaves alone -/
def gL (σ σ' : hg_M) : Prop := (∀ q, q ≠ 25 → q ≠ 27 → q ≠ 42 → ¬ (44 ≤ q ∧ q ≤ 49) → σ' q = σ q) ∧ σ 42 1 ≤ σ' 42 1 ∧ ∀ j : Int32, 0 ≤ j → j < σ 42 1 → σ' 44 j.toNatClampNeg = σ 44 j.toNatClampNeg
theorem gL.refl (σ : hg_M) : gL σ σ := ⟨fun _ _ _ _ _ => rfl, by grind, fun _ _ _ => rfl⟩
theorem gL.trans {a b c : hg_M} (h : gL a b) (g : gL b c) : gL a c := ⟨fun q h1 h2 h3 h4 => (g.1 q h1 h2 h3 h4).trans (h.1 q h1 h2 h3 h4), by have := h.2.1; have := g.2.1; grind, fun j h0 h1 => (g.2.2 j h0 (by have := h.2.1; grind)).trans (h.2.2 j h0 h1)⟩
theorem gC.L {a b : hg_M} (h : gC a b) : gL a b := ⟨fun q _ _ h5 h6 => h.1 q (by omega), h.2.1, h.2.2⟩
theorem iX.of {a b : hg_M} (h : iX a) (g : gL a b) : iX b := by
  have c := fun q (hq : q = 16 ∨ (19 ≤ q ∧ q ≤ 24)) => g.1 q (by omega) (by omega) (by omega) (by omega)
  unfold iX
  rw [c 16 (by omega), c 19 (by omega), c 20 (by omega), c 21 (by omega), c 22 (by omega), c 23 (by omega), c 24 (by omega)]
  exact h
theorem iL.ofC {a b : hg_M} (h : iL a) (c : iC b) (g : iG b) (k : gC a b) : iL b := by
  obtain ⟨-, -, x, s1, s3⟩ := h
  have d := fun q (hq : ¬ (q = 42 ∨ (44 ≤ q ∧ q ≤ 49))) => k.1 q hq
  refine ⟨c, g, x.of k.L, fun v hv1 => ?_, ?_⟩
  · rw [d 27 (by omega)]; exact (s1 v hv1).up k
  · rw [d 25 (by omega)]
    rcases s3 with h | h
    · exact Or.inl h
    · exact Or.inr (h.up k)
theorem rOK0 {a b : Int32} (h0 : 0 ≤ a) (h1 : a < 736) : rOK 0 a b 0 0 := by unfold rOK; grind
/-- a new register of a step of a kind 0 .. 14, its registers valid -/
theorem pL_new {k b c e : Int32} {σ : hg_M} {P : Int32 → hg_M → Prop} (h : iL σ) (hk : σ 42 1 < 720 → ∀ r, 0 ≤ r → r < 736 → rOK k r b c e)
    (hP : ∀ r σ', iL σ' → gC σ σ' → hv σ' r → P r σ') : wC_X0_add k (-1) b c e σ P :=
  pC_new h.1 h.2.1 (fun r h0 h1 hl => hk hl r h0 h1) (fun r σ' c g k v _ => hP r σ' (h.ofC c g k) k v)
theorem pL_add {k a b c e : Int32} {σ : hg_M} {P : Int32 → hg_M → Prop} (h : iL σ) (hk : σ 42 1 < 720 → rOK k a b c e)
    (hP : ∀ r σ', iL σ' → gC σ σ' → (σ 42 1 < 720 → σ' 42 1 = σ 42 1 + 1 ∧ σ' 44 (σ 42 1).toNatClampNeg = k) → P r σ') : wC_X0_add k a b c e σ P := by
  refine pC_add h.1 hk (fun r σ' w g f2 f3 f1 => hP r σ' (h.ofC w ?_ g) g f1)
  intro hl
  have q1 := g.2.1
  have hl2 : σ 42 1 < 720 := by grind
  have := h.2.1 hl2
  have := (f1 hl2).1
  rw [f2]
  grind
theorem pL_setNew {x : Int32} {σ : hg_M} {P : Int32 → hg_M → Prop} (h : iL σ) (hP : ∀ r σ', iL σ' → gC σ σ' → hv σ' r → P r σ') : wC_X0_add 0 (-1) x 0 0 σ P :=
  pL_new h (fun _ r h0 h1 => rOK0 h0 h1) hP
theorem pL_valueRegister {x : Int32} {σ : hg_M} {P : Int32 → hg_M → Prop} (h : iL σ) (hx0 : 0 ≤ x) (hx : x < 120) (hP : ∀ r σ', iL σ' → gC σ σ' → hv σ' r → P r σ') : wC_X2_valueRegister x σ P := by
  unfold wC_X2_valueRegister bC_X2_valueRegister_37
  have hi := hp_120 hx0 hx
  refine ⟨hi, fun v ev => ⟨hi, fun _ => pL_setNew h hP, fun hne => ?_⟩⟩
  have hn := h.2.2.1.2.2 _ (hg_lt hi) hne
  rw [← ev] at hn
  have hv16 := hp_16 hn.1 hn.2
  exact ⟨hv16, hP _ σ h (gC.refl σ) (h.2.2.2.1 _ (hg_lt hv16))⟩
theorem pL_testRegister {s : Int32} {σ : hg_M} {P : Int32 → hg_M → Prop} (h : iL σ) (hs0 : 0 ≤ s) (hs : s < 60) (hP : ∀ r σ', iL σ' → gC σ σ' → hv σ' r → P r σ') : wC_X2_testRegister s σ P := by
  unfold wC_X2_testRegister
  refine pL_valueRegister h (by grind) (by grind) (fun r1 σ1 w1 g1 v1 => ?_)
  refine pL_valueRegister w1 (by grind) (by grind) (fun r2 σ2 w2 g2 v2 => ?_)
  have hi := hp_60 hs0 hs
  have hop := (w2.2.2.1.2.1 _ (hg_lt hi)).2.1
  have v1' := v1.up g2
  refine ⟨hi, pL_new w2 (fun hl r h0 h1 => ?_) (fun r σ3 w3 g3 v3 => hP r σ3 w3 ((g1.trans g2).trans g3) v3)⟩
  have a := v1' hl; have b := v2 hl
  unfold rOK; grind
theorem pL_guardWithin {o own : Int32} {σ : hg_M} {P : Int32 → hg_M → Prop} (h : iL σ) (ho : o = -1 ∨ hv σ o) (hw : hv σ own) (hP : ∀ r σ', iL σ' → gC σ σ' → hv σ' r → P r σ') : wC_X2_guardWithin o own σ P := by
  unfold wC_X2_guardWithin bC_X2_guardWithin_22
  refine ⟨fun hne => pL_new h (fun hl r h0 h1 => ?_) hP, fun _ => hP own σ h (gC.refl σ) hw⟩
  have a := (ho.resolve_left hne) hl; have b := hw hl
  unfold rOK; grind
theorem pL_chosenOr {x z : Int32} {σ : hg_M} {P : Int32 → hg_M → Prop} (h : iL σ) (hx : hv σ x) (hg : σ 25 5 ≠ -1) (hP : ∀ r σ', iL σ' → gC σ σ' → hv σ' r → P r σ') : wC_X2_chosenOr x z σ P := by
  unfold wC_X2_chosenOr
  refine pL_setNew h (fun r1 σ1 w1 g1 v1 => ?_)
  have e25 : σ1 25 = σ 25 := g1.1 25 (by omega)
  have hgv : hv σ1 (σ1 25 5) := w1.2.2.2.2.resolve_left (by rw [e25]; exact hg)
  have hx1 := hx.up g1
  refine pL_new w1 (fun hl r h0 h1 => ?_) (fun r σ2 w2 g2 v2 => hP r σ2 w2 (g1.trans g2) v2)
  have a := hgv hl; have b := hx1 hl; have c := v1 hl
  unfold rOK; grind
theorem pL_guardedWrite {i v : Int32} {σ : hg_M} {P : hg_M → Prop} (h : iL σ) (hi : hv σ i) (hv0 : hv σ v) (hg : σ 25 5 ≠ -1) (hP : ∀ σ', iL σ' → gC σ σ' → P σ') : wC_X2_guardedWrite i v σ P := by
  unfold wC_X2_guardedWrite
  refine pL_new h (fun hl r h0 h1 => by have := hi hl; unfold rOK; grind) (fun r1 σ1 w1 g1 v1 => ?_)
  have e25 : σ1 25 = σ 25 := g1.1 25 (by omega)
  have hgv : hv σ1 (σ1 25 5) := w1.2.2.2.2.resolve_left (by rw [e25]; exact hg)
  have hv1 := hv0.up g1
  refine pL_new w1 (fun hl r h0 h1 => by have a := hgv hl; have b := hv1 hl; have c := v1 hl; unfold rOK; grind) (fun r2 σ2 w2 g2 v2 => ?_)
  have hi2 := (hi.up g1).up g2
  exact pL_add w2 (fun hl => by have a := hi2 hl; have b := v2 hl; unfold rOK; grind) (fun _ σ3 w3 g3 _ => hP σ3 w3 ((g1.trans g2).trans g3))
