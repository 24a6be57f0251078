/-! convert, lowerRange and their recursion. -/
theorem cpy_ne {σ : hg_M} {q0 q1 a b c r : Nat} (h : r ≠ q1) : hg_cpy σ q0 q1 a b c r = σ r := by funext v; simp [hg_cpy, h]
theorem cpy_eq {σ : hg_M} {q0 q1 v : Nat} (h : v < 16) : hg_cpy σ q0 q1 0 0 16 q1 v = σ q0 v := by simp [hg_cpy, va_cpy, h]
theorem hv.upS {a b : hg_M} {r : Int32} (h : hv a r) (g : a 42 1 ≤ b 42 1) : hv b r := fun hb => h (by grind)
theorem z16 : (16 : Int32).toNatClampNeg = 16 := by decide
theorem z00 : (0 : Int32).toNatClampNeg = 0 := by decide
theorem iL.cpyB {σ : hg_M} {q0 q1 : Nat} (h : iL σ) (hq : (29 ≤ q1 ∧ q1 ≤ 34) ∨ (36 ≤ q1 ∧ q1 ≤ 41)) : iL (hg_cpy σ q0 q1 0 0 16) := by
  have c : ∀ q, q ≠ q1 → hg_cpy σ q0 q1 0 0 16 q = σ q := fun q hq => cpy_ne hq
  have e42 := c 42 (by omega)
  obtain ⟨s1, s3⟩ := h.2.2.2
  refine h.at e42 (fun q hq => c q (by omega)) ⟨fun v hv1 => ?_, ?_⟩
  · rw [c 27 (by omega)]; exact (s1 v hv1).eq e42
  · rw [c 25 (by omega)]
    rcases s3 with h | h
    · exact Or.inl h
    · exact Or.inr (h.eq e42)
theorem iL.cpyS {σ : hg_M} {q0 : Nat} (h : iL σ) (hq : ∀ v, v < 16 → hv σ (σ q0 v)) : iL (hg_cpy σ q0 27 0 0 16) := by
  have c : ∀ q, q ≠ 27 → hg_cpy σ q0 27 0 0 16 q = σ q := fun q hq => cpy_ne hq
  have e42 := c 42 (by omega)
  obtain ⟨s1, s3⟩ := h.2.2.2
  refine h.at e42 (fun q hq => c q (by omega)) ⟨fun v hv1 => ?_, ?_⟩
  · rw [cpy_eq hv1]; exact (hq v hv1).eq e42
  · rw [c 25 (by omega)]
    rcases s3 with h | h
    · exact Or.inl h
    · exact Or.inr (h.eq e42)
theorem gR.cpy {L : Int32} {σ : hg_M} {q0 q1 : Nat} (h : q1 = 27 ∨ (29 + L.toNatClampNeg ≤ q1 ∧ q1 ≤ 34) ∨ (36 + L.toNatClampNeg ≤ q1 ∧ q1 ≤ 41)) : gR L σ (hg_cpy σ q0 q1 0 0 16) := by
  have c : ∀ q, q ≠ q1 → hg_cpy σ q0 q1 0 0 16 q = σ q := fun q hq => cpy_ne hq
  exact ⟨fun q h1 h2 h3 h4 h5 h6 => c q (by omega), by rw [c 42 (by omega)]; grind, fun j _ _ => by rw [c 44 (by omega)]⟩
theorem pL_convert {R : Int32 → Int32 → Int32 → hg_M → (hg_M → Prop) → Prop} {s l : Int32} {σ : hg_M} {P : hg_M → Prop} (l0 : 0 ≤ l) (hR : l < 6 → cR R (l + 1)) (h : iL σ) (hs0 : 0 ≤ s) (hs : s < 60) (hP : ∀ σ', iL σ' → gR l σ σ' → P σ') : wC_X2_convert R s l σ P := by
  have si := hp_60 hs0 hs
  unfold wC_X2_convert
  refine ⟨fun l6 og eg => ?_, fun _ => hP σ h (gL.refl σ).R⟩
  have hR := hR l6
  have li := hp_6 l0 l6
  have ll := hg_lt li
  have es := hp_s l0 (by grind)
  have hog : og = -1 ∨ hv σ og := by rw [eg]; exact h.2.2.2.2
  have cond : ((¬ (0 : Int32) < 0) ∧ (¬ (0 : Int32) < 0) ∧ (¬ (16 : Int32) < 0) ∧ ((0 : Int32)).toNatClampNeg + ((16 : Int32)).toNatClampNeg ≤ 16 ∧ ((0 : Int32)).toNatClampNeg + ((16 : Int32)).toNatClampNeg ≤ 16) := by decide
  have ogu : ∀ τ : hg_M, gR l σ τ → og = -1 ∨ hv τ og := fun τ g => hog.imp id (fun h => h.upS g.2.1)
  -- behind both sides
  have h187 : ∀ t τ, iL τ → gR l σ τ → hv τ t → (∀ v, v < 16 → hv τ (τ (36 + l.toNatClampNeg) v)) → bC_X2_convert_199 R P s l og t τ := by
    intro t τ w g ht hb
    unfold bC_X2_convert_199 bC_X2_convert_230
    intro τ1 e1 τ2 e2
    have w1 : iL τ1 := by rw [e1]; exact w.s423
    have g1 : gL τ τ1 := by rw [e1]; exact gL.s (by omega)
    have w2 : iL τ2 := by rw [e2]; exact w1.s255 (ogu τ1 (g.trans g1.R))
    have g2 : gL τ τ2 := by rw [e2]; exact g1.trans (gL.s (by omega))
    have c36 : τ2 (36 + l.toNatClampNeg) = τ (36 + l.toNatClampNeg) := g2.1 _ (by omega) (by omega) (by omega) (by omega)
    refine pL_chooseSides w2 (ht.upS g2.2.1) l0 l6 (fun v hv1 => by rw [c36]; exact (hb v hv1).upS g2.2.1) (fun τ3 w3 g3 => ⟨fun _ => ?_, fun _ => ?_⟩)
    · exact hP τ3 w3 ((g.trans g2.R).trans g3.R)
    · exact pL_moveBack w3 (fun τ4 w4 g4 => hP τ4 w4 (((g.trans g2.R).trans g3.R).trans g4.R))
  -- behind the first side
  have h79 : ∀ t τ, iL τ → gR l σ τ → hv τ t → (∀ v, v < 16 → hv τ (τ (29 + l.toNatClampNeg) v)) → bC_X2_convert_79 R P s l og t τ := by
    intro t τ w g ht hb
    unfold bC_X2_convert_79
    refine ⟨li, cond, fun τ1 e1 => ⟨li, cond, fun τ2 e2 τ3 e3 => ⟨si, si, ?_⟩⟩⟩
    rw [z00, z16] at e1 e2
    have w1 : iL τ1 := by rw [e1]; exact w.cpyB (by omega)
    have g1 : gR l τ τ1 := by rw [e1]; exact gR.cpy (by omega)
    have b36 : ∀ v, v < 16 → hv τ1 (τ1 (36 + l.toNatClampNeg) v) := fun v hv1 => by
      have e42 : τ1 42 = τ 42 := by rw [e1]; exact cpy_ne (by omega)
      have : τ1 (36 + l.toNatClampNeg) v = τ 27 v := by rw [e1]; exact cpy_eq hv1
      rw [this]; exact (w.2.2.2.1 v hv1).eq e42
    have c29 : τ1 (29 + l.toNatClampNeg) = τ (29 + l.toNatClampNeg) := by rw [e1]; exact cpy_ne (by omega)
    have w2 : iL τ2 := by rw [e2]; exact w1.cpyS (fun v hv1 => by rw [c29]; exact (hb v hv1).upS g1.2.1)
    have g2 : gR l τ1 τ2 := by rw [e2]; exact gR.cpy (by omega)
    have w3 : iL τ3 := by rw [e3]; exact w2.s423
    have g23 : gL τ2 τ3 := by rw [e3]; exact gL.s (by omega)
    have G3 : gR l σ τ3 := ((g.trans g1).trans g2).trans g23.R
    have m13 : τ1 42 1 ≤ τ3 42 1 := (g2.trans g23.R).2.1
    have m03 : τ 42 1 ≤ τ3 42 1 := (g1.trans (g2.trans g23.R)).2.1
    have c36 : τ3 (36 + l.toNatClampNeg) = τ1 (36 + l.toNatClampNeg) := by
      rw [g23.1 _ (by omega) (by omega) (by omega) (by omega), e2]; exact cpy_ne (by omega)
    have B3 : ∀ v, v < 16 → hv τ3 (τ3 (36 + l.toNatClampNeg) v) := fun v hv1 => by rw [c36]; exact (b36 v hv1).upS m13
    have t3 := ht.upS m03
    refine ⟨fun _ => h187 t τ3 w3 G3 t3 B3, fun _ => ?_⟩
    refine pL_setNew w3 (fun r4 τ4 w4 g4 v4 => ?_)
    have t4 := t3.up g4
    refine pL_new w4 (fun hl r h0 h1 => by have a := t4 hl; have b := v4 hl; unfold rOK; grind) (fun r5 τ5 w5 g5 v5 => ?_)
    have G5 := (G3.trans g4.L.R).trans g5.L.R
    refine pL_guardWithin w5 (ogu τ5 G5) v5 (fun r6 τ6 w6 g6 v6 τ7 e7 => ⟨si, si, ?_⟩)
    have w7 : iL τ7 := by rw [e7]; exact w6.s255 (Or.inr v6)
    have g7 : gL τ6 τ7 := by rw [e7]; exact gL.s (by omega)
    have G37 : gL τ3 τ7 := ((g4.trans g5).trans g6).L.trans g7
    have tx := w7.2.2.1.2.1 _ (hg_lt si)
    refine hR _ _ τ7 _ w7 tx.2.2.1.1 tx.2.2.2.2 (fun τ8 w8 g8 => ?_)
    have c36' : τ8 (36 + l.toNatClampNeg) = τ3 (36 + l.toNatClampNeg) := by
      rw [g8.1 _ (by omega) (by omega) (by omega) (by omega) (by omega) (by omega), G37.1 _ (by omega) (by omega) (by omega) (by omega)]
    have m38 : τ3 42 1 ≤ τ8 42 1 := by have := G37.2.1; have := g8.2.1; grind
    exact h187 t τ8 w8 ((G3.trans G37.R).trans (g8.down l0 l6)) (t3.upS m38) (fun v hv1 => by rw [c36']; exact (B3 v hv1).upS m38)
  refine pL_testRegister h hs0 hs (fun r2 σ2 w2 g2 v2 => ⟨li, cond, fun σ4 e4 => ⟨si, ?_⟩⟩)
  rw [z00, z16] at e4
  have w4 : iL σ4 := by rw [e4]; exact w2.cpyB (by omega)
  have g4 : gR l σ2 σ4 := by rw [e4]; exact gR.cpy (by omega)
  have G4 : gR l σ σ4 := g2.L.R.trans g4
  have B4 : ∀ v, v < 16 → hv σ4 (σ4 (29 + l.toNatClampNeg) v) := fun v hv1 => by
    have e42 : σ4 42 = σ2 42 := by rw [e4]; exact cpy_ne (by omega)
    have : σ4 (29 + l.toNatClampNeg) v = σ2 27 v := by rw [e4]; exact cpy_eq hv1
    rw [this]; exact (w2.2.2.2.1 v hv1).eq e42
  have t4 := v2.upS g4.2.1
  refine ⟨fun _ => h79 r2 σ4 w4 G4 t4 B4, fun _ => ?_⟩
  refine pL_guardWithin w4 (ogu σ4 G4) t4 (fun r5 σ5 w5 g5 v5 σ7 e7 => ⟨si, ?_⟩)
  have w7 : iL σ7 := by rw [e7]; exact w5.s255 (Or.inr v5)
  have G47 : gL σ4 σ7 := by rw [e7]; exact g5.L.trans (gL.s (by omega))
  have tx := w7.2.2.1.2.1 _ (hg_lt si)
  refine hR _ _ σ7 _ w7 (by grind) tx.2.2.1.2 (fun σ8 w8 g8 => ?_)
  have c29 : σ8 (29 + l.toNatClampNeg) = σ4 (29 + l.toNatClampNeg) := by
    rw [g8.1 _ (by omega) (by omega) (by omega) (by omega) (by omega) (by omega), G47.1 _ (by omega) (by omega) (by omega) (by omega)]
  have m48 : σ4 42 1 ≤ σ8 42 1 := by have := G47.2.1; have := g8.2.1; grind
  exact h79 r2 σ8 w8 ((G4.trans G47.R).trans (g8.down l0 l6)) (t4.upS m48) (fun v hv1 => by rw [c29]; exact (B4 v hv1).upS m48)
theorem pL_lowerRange {R : Int32 → Int32 → Int32 → hg_M → (hg_M → Prop) → Prop} {a b l : Int32} {σ : hg_M} {P : hg_M → Prop} (l0 : 0 ≤ l) (hR : l < 6 → cR R (l + 1)) (h : iL σ) (ha : 0 ≤ a) (hb : b ≤ 60) (hP : ∀ σ', iL σ' → gR l σ σ' → P σ') : wC_X2_lowerRange R a b l σ P := by
  unfold wC_X2_lowerRange
  have key : ∀ n (k : Int32) (σ' : hg_M), 0 ≤ k → iL σ' → gR l σ σ' → (k ≤ 60 → hp_n (60 - k) < n) → 0 < n → lC_X2_lowerRange_3 R P n b l k σ' := by
    intro n
    induction n with
    | zero => intro k σ' _ _ _ _ h; omega
    | succ n ih =>
      intro k σ' k0 w g hn _
      rw [lC_X2_lowerRange_3]
      refine ⟨fun _ => hP σ' w g, fun hl => ?_⟩
      have k60 : k < 60 := by grind
      have ki := hp_60 k0 k60
      have h88 : ∀ σ1, iL σ1 → gR l σ' σ1 → bC_X2_lowerRange_88 R P (fun k0 k1 k2 k3 => lC_X2_lowerRange_3 R P n k0 k1 k2 k3) b l k σ1 := by
        intro σ1 w1 g1
        unfold bC_X2_lowerRange_88
        refine ⟨ki, fun v ev => ?_⟩
        have te := (w1.2.2.1.2.1 _ (hg_lt ki)).2.2.2
        have hm : k < v ∧ v ≤ 60 := by
          rw [ev]
          unfold hg_max
          split <;> grind
        have hlt := hp_n_lt (a := k) (b := v) (c := 60) k0 hm.1 hm.2
        have := hn (by grind)
        have r : lC_X2_lowerRange_3 R P n b l v σ1 := ih v σ1 (by grind) w1 (g.trans g1) (fun _ => by omega) (by omega)
        exact r
      intro σ1 e1
      have w1 : iL σ1 := by rw [e1]; exact w.s423
      have g1 : gL σ' σ1 := by rw [e1]; exact gL.s (by omega)
      refine ⟨ki, fun _ => ⟨ki, fun _ => ⟨fun hg => ?_, fun _ => ?_⟩, fun _ => ?_⟩, fun _ => ?_⟩
      · exact pL_lowerGuarded w1 k0 k60 hg (fun σ2 w2 g2 => h88 σ2 w2 (g1.trans g2).R)
      · exact pL_lowerPlainly w1 k0 k60 (fun σ2 w2 g2 => h88 σ2 w2 (g1.trans g2).R)
      · exact pL_lowerWithJumps l0 hR w1 k0 k60 (fun σ2 w2 g2 => h88 σ2 w2 (g1.R.trans g2))
      · exact pL_convert l0 hR w1 k0 k60 (fun σ2 w2 g2 => h88 σ2 w2 (g1.R.trans g2))
  refine ⟨hp_n (60 - a) + 1, key _ a σ ha h (gL.refl σ).R (fun _ => by omega) (by omega)⟩
/-- lowering a range with enough fuel for its level -/
theorem pL_u : ∀ (f : Nat) (l : Int32), 0 ≤ l → l ≤ 6 → 7 ≤ l.toNatClampNeg + f → cR (uC_X2_lowerRange f) l := by
  intro f
  induction f with
  | zero =>
    intro l l0 l6 hf
    exfalso
    have : l.toNatClampNeg < 7 := hp_lt (z := 7) (by decide) l0 (by grind)
    omega
  | succ f ih =>
    intro l l0 l6 hf a b σ P h ha hb hP
    show wC_X2_lowerRange (uC_X2_lowerRange f) a b l σ P
    refine pL_lowerRange l0 (fun hl => ih (l + 1) (by grind) (by grind) ?_) h ha hb hP
    rw [hp_s l0 (by grind)]
    omega
