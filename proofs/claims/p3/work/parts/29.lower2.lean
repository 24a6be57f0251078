/-! Choosing, moving back; branches; the recursion of lowering. -/
theorem hv.small {σ : hg_M} {v : Int32} (h0 : 0 ≤ v) (h1 : v < 736) : hv σ v := fun _ => ⟨h0, h1⟩
theorem pL_chooseSides {x l : Int32} {σ : hg_M} {P : hg_M → Prop} (h : iL σ) (hx : hv σ x) (l0 : 0 ≤ l) (l6 : l < 6) (hb9 : ∀ v, v < 16 → hv σ (σ (36 + l.toNatClampNeg) v)) (hP : ∀ σ', iL σ' → gL σ σ' → P σ') : wC_X2_chooseSides x l σ P := by
  unfold wC_X2_chooseSides
  have li := hp_6 l0 l6
  have key : ∀ n (k : Int32) (σ' : hg_M), 0 ≤ k → k ≤ 16 → iL σ' → gL σ σ' → hv σ' x → hp_n (16 - k) < n → lC_X2_chooseSides_2 P n x l k σ' := by
    intro n
    induction n with
    | zero => intro k σ' _ _ _ _ _ h; omega
    | succ n ih =>
      intro k σ' k0 k1 w g hx1 hn
      rw [lC_X2_chooseSides_2]
      refine ⟨fun _ => hP σ' w g, fun hl => ?_⟩
      have ki := hp_16 k0 (by grind)
      have h72 : ∀ σ2, iL σ2 → gL σ σ2 → hv σ2 x → bC_X2_chooseSides_73 P (fun k0 k1 k2 k3 => lC_X2_chooseSides_2 P n k0 k1 k2 k3) x l k σ2 := by
        intro σ2 w2 g2 hx2
        unfold bC_X2_chooseSides_73
        intro v ev
        refine ih v σ2 (by grind) (by grind) w2 g2 hx2 ?_
        have := hp_n_lt (a := k) (b := v) (c := 16) k0 (by grind) (by grind)
        omega
      have h52 : ∀ a b, hv σ' a → hv σ' b → bC_X2_chooseSides_52 P (fun k0 k1 k2 k3 => lC_X2_chooseSides_2 P n k0 k1 k2 k3) x l k a b σ' := by
        intro a b ha hb
        unfold bC_X2_chooseSides_52
        refine pL_new w (fun hl r h0 h1 => by have p := hx1 hl; have q := ha hl; have s := hb hl; unfold rOK; grind) (fun r σ2 w2 g2 v2 => ⟨ki, fun σ3 e3 => ?_⟩)
        have w3 : iL σ3 := by rw [e3]; exact w2.s27 v2
        have g3 : gL σ σ3 := by rw [e3]; exact (g.trans g2.L).trans (gL.s (by omega))
        have e42 : σ3 42 = σ2 42 := by rw [e3]; exact hg_set_ne (by decide)
        exact h72 σ3 w3 g3 ((hx1.up g2).eq e42)
      have ll := hg_lt li
      have hf : hv σ' (σ' (36 + l.toNatClampNeg) k.toNatClampNeg) := by
        rw [g.1 (36 + l.toNatClampNeg) (by omega) (by omega) (by omega) (by omega)]
        exact fun hl => hb9 _ (hg_lt ki) (by have := g.2.1; grind)
      have hs := w.2.2.2.1 _ (hg_lt ki)
      refine ⟨li, ki, fun v1 e1 => ⟨ki, fun v2 e2 => ⟨li, ki, fun _ => h52 v1 v2 (by rw [e1]; exact hf) (by rw [e2]; exact hs), fun _ => ⟨li, ki, fun _ => h72 σ' w g hx1, fun _ => h52 v1 v2 (by rw [e1]; exact hf) (by rw [e2]; exact hs)⟩⟩⟩⟩
  exact ⟨hp_n (16 - 0) + 1, key _ 0 σ (by decide) (by decide) h (gL.refl σ) hx (by omega)⟩
theorem pL_moveBack {σ : hg_M} {P : hg_M → Prop} (h : iL σ) (hP : ∀ σ', iL σ' → gL σ σ' → P σ') : wC_X2_moveBack σ P := by
  unfold wC_X2_moveBack
  have key : ∀ n (k : Int32) (σ' : hg_M), 0 ≤ k → k ≤ 16 → iL σ' → gL σ σ' → hp_n (16 - k) < n → lC_X2_moveBack_2 P n k σ' := by
    intro n
    induction n with
    | zero => intro k σ' _ _ _ _ h; omega
    | succ n ih =>
      intro k σ' k0 k1 w g hn
      rw [lC_X2_moveBack_2]
      refine ⟨fun _ => hP σ' w g, fun hl => ?_⟩
      have ki := hp_16 k0 (by grind)
      have h43 : ∀ σ2, iL σ2 → gL σ σ2 → bC_X2_moveBack_43 P (fun k0 k1 => lC_X2_moveBack_2 P n k0 k1) k σ2 := by
        intro σ2 w2 g2
        unfold bC_X2_moveBack_43
        intro v ev
        refine ih v σ2 (by grind) (by grind) w2 g2 ?_
        have := hp_n_lt (a := k) (b := v) (c := 16) k0 (by grind) (by grind)
        omega
      have hs := w.2.2.2.1 _ (hg_lt ki)
      refine ⟨ki, fun _ => h43 σ' w g, fun _ => ⟨ki, pL_add w (fun hl => by have := hs hl; unfold rOK; grind) (fun _ σ2 w2 g2 _ => ⟨ki, fun σ3 e3 => ?_⟩)⟩⟩
      exact h43 σ3 (by rw [e3]; exact w2.s27 (hv.small k0 (by grind))) (by rw [e3]; exact (g.trans g2.L).trans (gL.s (by omega)))
  exact ⟨hp_n (16 - 0) + 1, key _ 0 σ (by decide) (by decide) h (gL.refl σ) (by omega)⟩
/-- what lowering a range does, at a level -/
def gR (L : Int32) (σ σ' : hg_M) : Prop := (∀ q, q ≠ 25 → q ≠ 27 → ¬ (29 + L.toNatClampNeg ≤ q ∧ q ≤ 34) → ¬ (36 + L.toNatClampNeg ≤ q ∧ q ≤ 41) → q ≠ 42 → ¬ (44 ≤ q ∧ q ≤ 49) → σ' q = σ q) ∧ σ 42 1 ≤ σ' 42 1 ∧ ∀ j : Int32, 0 ≤ j → j < σ 42 1 → σ' 44 j.toNatClampNeg = σ 44 j.toNatClampNeg
theorem gL.R {L : Int32} {a b : hg_M} (h : gL a b) : gR L a b := ⟨fun q h1 h2 _ _ h5 h6 => h.1 q h1 h2 h5 h6, h.2⟩
theorem gR.trans {L : Int32} {a b c : hg_M} (h : gR L a b) (g : gR L b c) : gR L a c := ⟨fun q h1 h2 h3 h4 h5 h6 => (g.1 q h1 h2 h3 h4 h5 h6).trans (h.1 q h1 h2 h3 h4 h5 h6), by have := h.2.1; have := g.2.1; grind, fun j h0 h1 => (g.2.2 j h0 (by have := h.2.1; grind)).trans (h.2.2 j h0 h1)⟩
theorem gR.down {L : Int32} {a b : hg_M} (h : gR (L + 1) a b) (l0 : 0 ≤ L) (l6 : L < 6) : gR L a b := by
  have e := hp_s l0 (by grind)
  refine ⟨fun q h1 h2 h3 h4 h5 h6 => h.1 q h1 h2 ?_ ?_ h5 h6, h.2⟩
  · rw [e]; omega
  · rw [e]; omega
theorem iX.ofR {L : Int32} {a b : hg_M} (h : iX a) (g : gR L a b) : iX b := by
  have c := fun q (hq : q = 16 ∨ (19 ≤ q ∧ q ≤ 24)) => g.1 q (by omega) (by omega) (by omega) (by omega) (by omega) (by omega)
  unfold iX
  rw [c 16 (by omega), c 19 (by omega), c 20 (by omega), c 21 (by omega), c 22 (by omega), c 23 (by omega), c 24 (by omega)]
  exact h
def cR (R : Int32 → Int32 → Int32 → hg_M → (hg_M → Prop) → Prop) (L : Int32) : Prop := ∀ (a b : Int32) (σ : hg_M) (P : hg_M → Prop), iL σ → 0 ≤ a → b ≤ 60 → (∀ σ', iL σ' → gR L σ σ' → P σ') → R a b L σ P
theorem pL_lead {x : Int32} {σ : hg_M} {P : hg_M → Prop} (h : iL σ) (hk : 0 ≤ x → x < σ 42 1 → σ 44 x.toNatClampNeg = 16 ∨ σ 44 x.toNatClampNeg = 17) (hP : ∀ σ', iL σ' → gC σ σ' → σ' 42 = σ 42 → P σ') : wC_X0_leadHere x σ P :=
  pC_leadHere h.1 hk (fun σ' c g e => hP σ' (h.ofC c (by unfold iG; rw [e]; exact h.2.1) g) g e)
theorem pL_lowerWithJumps {R : Int32 → Int32 → Int32 → hg_M → (hg_M → Prop) → Prop} {s l : Int32} {σ : hg_M} {P : hg_M → Prop} (l0 : 0 ≤ l) (hR : l < 6 → cR R (l + 1)) (h : iL σ) (hs0 : 0 ≤ s) (hs : s < 60) (hP : ∀ σ', iL σ' → gR l σ σ' → P σ') : wC_X2_lowerWithJumps R s l σ P := by
  unfold wC_X2_lowerWithJumps
  have si := hp_60 hs0 hs
  refine ⟨fun hl => ?_, fun _ => hP σ h (gL.refl σ).R⟩
  have hR := hR hl
  refine pL_testRegister h hs0 hs (fun r1 σ1 w1 g1 v1 u3 eu3 => ?_)
  subst eu3
  refine pL_add w1 (fun hl => by have := v1 hl; unfold rOK; grind) (fun _ σ3 w3 g3 k3 => ⟨si, ?_⟩)
  have t3 := w3.2.2.1.2.1 _ (hg_lt si)
  have n0 : 0 ≤ σ1 42 1 := w1.1.1
  have n1 : σ1 42 1 ≤ 720 := w1.1.2.1
  have G3 : gR l σ σ3 := (g1.trans g3).L.R
  -- the first jump stays what it is
  have keep : ∀ τ : hg_M, iL τ → gR l σ3 τ → 0 ≤ σ1 42 1 → σ1 42 1 < τ 42 1 → τ 44 (σ1 42 1).toNatClampNeg = 16 ∨ τ 44 (σ1 42 1).toNatClampNeg = 17 := by
    intro τ wt gt _ hlt
    have : τ 42 1 ≤ 720 := wt.1.2.1
    have k := k3 (by grind)
    have e := gt.2.2 (σ1 42 1) n0 (by rw [k.1]; grind)
    rw [e, k.2]
    exact Or.inr rfl
  refine hR _ _ σ3 _ w3 (by grind) t3.2.2.1.2 (fun σ5 w5 g5 => ?_)
  have g5 := g5.down l0 hl
  refine ⟨si, si, fun _ σ6 e6 u8 eu8 => ?_, fun _ => ?_⟩
  · subst eu8
    have w6 : iL σ6 := by rw [e6]; exact w5.s423
    have g6 : gR l σ3 σ6 := by rw [e6]; exact g5.trans (gL.s (by omega)).R
    refine pL_add w6 (fun _ => by unfold rOK; grind) (fun _ σ7 w7 g7 k7 => ?_)
    refine pL_lead w7 (fun a b => keep σ7 w7 (g6.trans g7.L.R) a b) (fun σ9 w9 g9 e9 => ⟨si, si, ?_⟩)
    have t9 := w9.2.2.1.2.1 _ (hg_lt si)
    have m0 : 0 ≤ σ6 42 1 := w6.1.1
    refine hR _ _ σ9 _ w9 t9.2.2.1.1 t9.2.2.2.2 (fun σ10 w10 g10 => ?_)
    have g10 := g10.down l0 hl
    refine pL_lead w10 (fun _ hlt => ?_) (fun σ11 w11 g11 _ => hP σ11 w11 ((((G3.trans g6).trans g7.L.R).trans g9.L.R).trans (g10.trans g11.L.R)))
    have : σ10 42 1 ≤ 720 := w10.1.2.1
    have k := k7 (by grind)
    have e1 := g9.2.2 (σ6 42 1) m0 (by rw [k.1]; grind)
    have e2 := g10.2.2 (σ6 42 1) m0 (by rw [e9, k.1]; grind)
    rw [e2, e1, k.2]
    exact Or.inl rfl
  · exact pL_lead w5 (fun a b => keep σ5 w5 g5 a b) (fun σ9 w9 g9 _ => hP σ9 w9 ((G3.trans g5).trans g9.L.R))
