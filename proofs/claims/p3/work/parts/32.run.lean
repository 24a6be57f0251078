/-! Runs: of the text, of the code. -/
def iD (σ : hg_M) : Prop := 0 ≤ σ 53 3 ∧ σ 53 3 ≤ 60
def gD (σ σ' : hg_M) : Prop := ∀ q, ¬ (53 ≤ q ∧ q ≤ 56) → σ' q = σ q
theorem gD.refl (σ : hg_M) : gD σ σ := fun _ _ => rfl
theorem gD.trans {a b c : hg_M} (h : gD a b) (g : gD b c) : gD a c := fun q hq => (g q hq).trans (h q hq)
theorem gD.s {σ : hg_M} {q i : Nat} {v : Int32} (h : 53 ≤ q ∧ q ≤ 56) : gD σ (hg_set σ q i v) := fun p hp => hg_set_ne (by omega)
theorem iX.ofD {a b : hg_M} (h : iX a) (g : gD a b) : iX b := by
  unfold iX
  rw [g 16 (by omega), g 19 (by omega), g 20 (by omega), g 21 (by omega), g 22 (by omega), g 23 (by omega), g 24 (by omega)]
  exact h
theorem iC.ofD {a b : hg_M} (h : iC a) (g : gD a b) : iC b := by
  unfold iC
  rw [g 42 (by omega), g 44 (by omega), g 45 (by omega), g 46 (by omega), g 47 (by omega), g 48 (by omega)]
  exact h
theorem iD.s {σ : hg_M} {q i : Nat} {v : Int32} (h : iD σ) (hq : q ≠ 53 ∨ i ≠ 3) : iD (hg_set σ q i v) := by
  have : hg_set σ q i v 53 3 = σ 53 3 := by
    have : ¬ (53 = q ∧ 3 = i) := by omega
    simp only [hg_set, this, if_false]
  unfold iD; rw [this]; exact h
theorem pR_fill {x : Int32} {σ : hg_M} {P : hg_M → Prop} (hP : ∀ σ', (∀ q, q ≠ 54 → σ' q = σ q) → P σ') : wC_J7_fill_53178 x σ P := by
  unfold wC_J7_fill_53178
  have key : ∀ n (k : Int32) (σ' : hg_M), 0 ≤ k → k ≤ 736 → (∀ q, q ≠ 54 → σ' q = σ q) → hp_n (736 - k) < n → lC_J7_fill_53178_5 P n x k 736 σ' := by
    intro n
    induction n with
    | zero => intro k σ' _ _ _ h; omega
    | succ n ih =>
      intro k σ' k0 k1 c hn
      rw [lC_J7_fill_53178_5]
      refine ⟨fun _ => hP σ' c, fun hl => ⟨hp_736 k0 (by grind), fun σ1 e1 v ev => ?_⟩⟩
      refine ih v σ1 (by grind) (by grind) (fun q hq => by rw [e1, hg_set_ne hq]; exact c q hq) ?_
      have := hp_n_lt (a := k) (b := v) (c := 736) k0 (by grind) (by grind)
      omega
  exact ⟨hp_n (736 - 0) + 1, key _ 0 σ (by decide) (by decide) (fun _ _ => rfl) (by omega)⟩
theorem pR_begin {σ : hg_M} {P : hg_M → Prop} (hP : ∀ σ', iD σ' → gD σ σ' → P σ') : wC_X1_begin σ P := by
  unfold wC_X1_begin
  refine pR_fill (fun σ1 c1 => ⟨by decide, fun σ2 e2 => ⟨by decide, fun σ3 e3 σ4 e4 σ5 e5 σ6 e6 σ7 e7 => ?_⟩⟩)
  refine hP σ7 ?_ (fun q hq => ?_)
  · have : σ7 53 3 = 0 := by rw [e7, e6, e5, e4]; simp [hg_set]
    unfold iD; rw [this]; decide
  · rw [e7, e6, e5, e4, hg_set_ne (by omega), hg_set_ne (by omega), hg_set_ne (by omega), hg_set_ne (by omega), e3, cpy_ne (by omega), e2, cpy_ne (by omega), c1 q (by omega)]
theorem pR_valueOf {x : Int32} {σ : hg_M} {P : Int32 → hg_M → Prop} (hx : iX σ) (h0 : 0 ≤ x) (h1 : x < 120) (hP : ∀ r, P r σ) : wC_X1_valueOf x σ P := by
  unfold wC_X1_valueOf bC_X1_valueOf_29
  have hi := hp_120 h0 h1
  refine ⟨hi, fun _ => ⟨hi, hP _⟩, fun hne => ⟨hi, ?_⟩⟩
  have hn := hx.2.2 _ (hg_lt hi) hne
  exact ⟨hp_736 hn.1 (by grind), hP _⟩
theorem pR_resultOf {o a b : Int32} {σ : hg_M} {P : Int32 → hg_M → Prop} (hP : ∀ r, P r σ) : wC_X5_resultOf o a b σ P := by
  unfold wC_X5_resultOf bC_X5_resultOf_83 bC_X5_resultOf_95 bC_X5_resultOf_118 bC_X5_resultOf_129 bC_X5_resultOf_140
  exact ⟨fun _ => hP _, fun _ => hP _, fun _ => hP _, fun _ => hP _, fun _ => ⟨fun h => ⟨h, hP _⟩, fun _ => hP _⟩, fun _ => ⟨fun h => ⟨h, hP _⟩, fun _ => hP _⟩, fun _ => hP _, fun _ => hP _, fun _ => hP _, fun _ => ⟨fun _ => hP _, fun _ => hP _⟩, fun _ => ⟨fun _ => hP _, fun _ => hP _⟩, fun _ => ⟨fun _ => hP _, fun _ => hP _⟩⟩
theorem pR_end {a b : Int32} {σ : hg_M} {P : hg_M → Prop} (h : iD σ) (hP : ∀ σ', iD σ' → gD σ σ' → P σ') : wC_X1_end a b σ P := by
  intro σ1 e1 σ2 e2
  subst e1; subst e2
  exact hP _ ((h.s (by omega)).s (by omega)) ((gD.s (by omega)).trans (gD.s (by omega)))
theorem pR_say {x : Int32} {σ : hg_M} {P : hg_M → Prop} (h : iD σ) (hP : ∀ σ', iD σ' → gD σ σ' → P σ') : wC_X1_say x σ P := by
  unfold wC_X1_say bC_X1_say_29
  refine ⟨fun _ => hP σ h (gD.refl σ), fun hl => ⟨hp_60 h.1 (by grind), fun σ1 e1 σ2 e2 => ?_⟩⟩
  have f1 : σ1 53 3 = σ 53 3 := by rw [e1]; simp [hg_set]
  have f2 : σ2 53 3 = σ 53 3 + 1 := by rw [e2]; simp [hg_set, f1]
  obtain ⟨h0, h1⟩ := h
  refine hP σ2 ⟨by rw [f2]; grind, by rw [f2]; grind⟩ ?_
  rw [e2, e1]
  exact (gD.s (by omega)).trans (gD.s (by omega))
theorem pR_reach {o t a b s : Int32} {σ : hg_M} {P : hg_M → Prop} (h : iD σ) (t0 : 0 ≤ t) (t1 : t < 736) (hP : ∀ σ', iD σ' → gD σ σ' → P σ') : wC_X1_reach o t a b s σ P := by
  unfold wC_X1_reach bC_X1_reach_22 bC_X1_reach_35
  have go : wC_X5_resultOf o a b σ (fun r5 σ4 => vp_in t 736 ∧ (∀ σ6 : hg_M, σ6 = hg_set σ4 54 t.toNatClampNeg r5 → P σ6)) :=
    pR_resultOf (fun r => ⟨hp_736 t0 t1, fun σ6 e6 => by subst e6; exact hP _ (h.s (by omega)) (gD.s (by omega))⟩)
  exact pC_divides (fun _ _ => ⟨fun _ => go, fun h => absurd rfl h⟩) (fun _ => ⟨fun h => absurd h (by decide), fun _ => ⟨fun _ => go, fun _ => pR_end h hP⟩⟩)
theorem hp_32 {x : Int32} (h0 : 0 ≤ x) (h1 : x < 32) : vp_in x 32 := hp_in (z := 32) (by decide) h0 h1
theorem pR_load {t i s : Int32} {σ : hg_M} {P : hg_M → Prop} (h : iD σ) (t0 : 0 ≤ t) (t1 : t < 736) (hP : ∀ σ', iD σ' → gD σ σ' → P σ') : wC_X1_load t i s σ P := by
  unfold wC_X1_load bC_X1_load_28
  exact pC_isWord ⟨fun _ => pR_end h hP, fun h => absurd rfl h⟩ (fun i0 i1 => ⟨fun h => absurd h (by decide), fun _ => ⟨hp_32 i0 i1, hp_736 t0 t1, fun σ4 e4 => by subst e4; exact hP _ (h.s (by omega)) (gD.s (by omega))⟩⟩)
theorem pR_store {i v s : Int32} {σ : hg_M} {P : hg_M → Prop} (h : iD σ) (hP : ∀ σ', iD σ' → gD σ σ' → P σ') : wC_X1_store i v s σ P := by
  unfold wC_X1_store bC_X1_store_23
  exact pC_isWord ⟨fun _ => pR_end h hP, fun h => absurd rfl h⟩ (fun i0 i1 => ⟨fun h => absurd h (by decide), fun _ => ⟨hp_32 i0 i1, fun σ4 e4 => by subst e4; exact hP _ (h.s (by omega)) (gD.s (by omega))⟩⟩)
theorem pR_doSimple {s : Int32} {σ : hg_M} {P : hg_M → Prop} (hx : iX σ) (h : iD σ) (s0 : 0 ≤ s) (s1 : s < 60) (hP : ∀ σ', iD σ' → gD σ σ' → P σ') : wC_X1_doSimple s σ P := by
  unfold wC_X1_doSimple bC_X1_doSimple_129
  have si := hp_60 s0 s1
  have tt := (hx.2.1 _ (hg_lt si)).1
  refine pR_valueOf hx (by grind) (by grind) (fun r => ⟨si, fun _ => pR_say h hP, fun _ => ⟨si, hp_736 tt.1 (by grind), fun σ4 e4 => ?_⟩, fun _ => ⟨si, si, ?_⟩, fun _ => ⟨si, pR_load h tt.1 (by grind) hP⟩, fun _ => ?_⟩)
  · subst e4; exact hP _ (h.s (by omega)) (gD.s (by omega))
  · exact pR_valueOf hx (by grind) (by grind) (fun r2 => pR_reach h tt.1 (by grind) hP)
  · exact pR_valueOf hx (by grind) (by grind) (fun r2 => pR_store h hP)
def cD (R : Int32 → Int32 → Int32 → hg_M → (hg_M → Prop) → Prop) (L : Int32) : Prop := ∀ (a b : Int32) (σ : hg_M) (P : hg_M → Prop), iX σ → iD σ → 0 ≤ a → b ≤ 60 → (∀ σ', iD σ' → gD σ σ' → P σ') → R a b L σ P
theorem pR_doBranch {R : Int32 → Int32 → Int32 → hg_M → (hg_M → Prop) → Prop} {s l : Int32} {σ : hg_M} {P : hg_M → Prop} (hR : l < 6 → cD R (l + 1)) (hx : iX σ) (h : iD σ) (s0 : 0 ≤ s) (s1 : s < 60) (hP : ∀ σ', iD σ' → gD σ σ' → P σ') : wC_X1_doBranch R s l σ P := by
  unfold wC_X1_doBranch bC_X1_doBranch_77
  have si := hp_60 s0 s1
  have tt := (hx.2.1 _ (hg_lt si)).2.2
  refine ⟨fun hl => ⟨si, ?_⟩, fun _ => hP σ h (gD.refl σ)⟩
  have hR := hR hl
  refine pR_valueOf hx (by grind) (by grind) (fun r1 => pR_valueOf hx (by grind) (by grind) (fun r2 => pR_resultOf (fun r3 => ⟨fun _ => ⟨si, si, ?_⟩, fun _ => ⟨si, ?_⟩⟩)))
  · exact hR _ _ σ _ hx h tt.1.1 tt.2.2 hP
  · exact hR _ _ σ _ hx h (by grind) tt.1.2 hP
theorem pR_doRange {R : Int32 → Int32 → Int32 → hg_M → (hg_M → Prop) → Prop} {a b l : Int32} {σ : hg_M} {P : hg_M → Prop} (hR : l < 6 → cD R (l + 1)) (hx : iX σ) (h : iD σ) (ha : 0 ≤ a) (hb : b ≤ 60) (hP : ∀ σ', iD σ' → gD σ σ' → P σ') : wC_X1_doRange R a b l σ P := by
  unfold wC_X1_doRange
  have key : ∀ n (k : Int32) (σ' : hg_M), 0 ≤ k → iD σ' → gD σ σ' → (k ≤ 60 → hp_n (60 - k) < n) → 0 < n → lC_X1_doRange_3 R P n b l k σ' := by
    intro n
    induction n with
    | zero => intro k σ' _ _ _ _ h; omega
    | succ n ih =>
      intro k σ' k0 w g hn _
      rw [lC_X1_doRange_3]
      refine ⟨fun _ => hP σ' w g, fun hl => ⟨fun _ => hP σ' w g, fun _ σ1 e1 => ?_⟩⟩
      have k60 : k < 60 := by grind
      have ki := hp_60 k0 k60
      have w1 : iD σ1 := by rw [e1]; exact w.s (by omega)
      have g1 : gD σ σ1 := by rw [e1]; exact g.trans (gD.s (by omega))
      have x1 := hx.ofD g1
      have h56 : ∀ σ2, iD σ2 → gD σ1 σ2 → bC_X1_doRange_56 R P (fun k0 k1 k2 k3 => lC_X1_doRange_3 R P n k0 k1 k2 k3) b l k σ2 := by
        intro σ2 w2 g2
        unfold bC_X1_doRange_56
        refine ⟨ki, fun v ev => ?_⟩
        have te := ((x1.ofD g2).2.1 _ (hg_lt ki)).2.2.2
        have hm : k < v ∧ v ≤ 60 := by
          rw [ev]
          unfold hg_max
          split <;> grind
        have hlt := hp_n_lt (a := k) (b := v) (c := 60) k0 hm.1 hm.2
        have := hn (by grind)
        have r : lC_X1_doRange_3 R P n b l v σ2 := ih v σ2 (by grind) w2 (g1.trans g2) (fun _ => by omega) (by omega)
        exact r
      exact ⟨ki, fun _ => pR_doSimple x1 w1 k0 k60 h56, fun _ => pR_doBranch hR x1 w1 k0 k60 h56⟩
  exact ⟨hp_n (60 - a) + 1, key _ a σ ha h (gD.refl σ) (fun _ => by omega) (by omega)⟩
theorem pR_u : ∀ (f : Nat) (l : Int32), 0 ≤ l → l ≤ 6 → 7 ≤ l.toNatClampNeg + f → cD (uC_X1_doRange f) l := by
  intro f
  induction f with
  | zero =>
    intro l l0 l6 hf
    exfalso
    have : l.toNatClampNeg < 7 := hp_lt (z := 7) (by decide) l0 (by grind)
    omega
  | succ f ih =>
    intro l l0 l6 hf a b σ P hx h ha hb hP
    show wC_X1_doRange (uC_X1_doRange f) a b l σ P
    refine pR_doRange (fun hl => ih (l + 1) (by grind) (by grind) ?_) hx h ha hb hP
    rw [hp_s l0 (by grind)]
    omega
theorem pR_doText {σ : hg_M} {P : hg_M → Prop} (hx : iX σ) (h : iD σ) (hP : ∀ σ', iD σ' → gD σ σ' → P σ') : wC_X1_doText σ P := by
  unfold wC_X1_doText
  exact pR_u 8 0 (by decide) (by decide) (by decide) 0 (σ 16 8) σ _ hx h (by decide) hx.1.2 hP
