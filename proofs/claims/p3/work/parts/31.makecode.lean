/-! beginCode, mayConvert, makeCode, convertedBranches. -/
/-- what making code leaves alone -/
def gN (σ σ' : hg_M) : Prop := ∀ q, q ≠ 25 → q ≠ 26 → q ≠ 27 → ¬ (29 ≤ q ∧ q ≤ 34) → ¬ (36 ≤ q ∧ q ≤ 41) → q ≠ 42 → ¬ (44 ≤ q ∧ q ≤ 49) → σ' q = σ q
theorem gN.refl (σ : hg_M) : gN σ σ := fun _ _ _ _ _ _ _ _ => rfl
theorem gN.trans {a b c : hg_M} (h : gN a b) (g : gN b c) : gN a c := fun q h1 h2 h3 h4 h5 h6 h7 => (g q h1 h2 h3 h4 h5 h6 h7).trans (h q h1 h2 h3 h4 h5 h6 h7)
theorem gR.N {a b : hg_M} (h : gR 0 a b) : gN a b := fun q h1 h2 h3 h4 h5 h6 h7 => h.1 q h1 h3 (by rw [z00]; omega) (by rw [z00]; omega) h6 h7
theorem iX.ofN {a b : hg_M} (h : iX a) (g : gN a b) : iX b := by
  have c := fun q (hq : q = 16 ∨ (19 ≤ q ∧ q ≤ 24)) => g q (by omega) (by omega) (by omega) (by omega) (by omega) (by omega) (by omega)
  unfold iX
  rw [c 16 (by omega), c 19 (by omega), c 20 (by omega), c 21 (by omega), c 22 (by omega), c 23 (by omega), c 24 (by omega)]
  exact h
theorem pL_beginCode {σ : hg_M} {P : hg_M → Prop} (hc : iC σ) (hx : iX σ) (hP : ∀ σ', iL σ' → gN σ σ' → P σ') : wC_X2_beginCode σ P := by
  unfold wC_X2_beginCode
  refine pC_clear hc (fun σ1 c1 k1 g1 s1 σ2 e2 => ?_)
  have c2 : ∀ q, q ≠ 25 → σ2 q = σ1 q := fun q hq => by rw [e2, hg_set_ne hq]
  have key : ∀ n (k : Int32) (σ' : hg_M), 0 ≤ k → k ≤ 16 → (∀ q, q ≠ 27 → σ' q = σ2 q) → (∀ v, v < k.toNatClampNeg → hv σ' (σ' 27 v)) → hp_n (16 - k) < n → lC_X2_beginCode_14 P n k σ' := by
    intro n
    induction n with
    | zero => intro k σ' _ _ _ _ h; omega
    | succ n ih =>
      intro k σ' k0 k1' c hs hn
      rw [lC_X2_beginCode_14]
      refine ⟨fun h16 => ?_, fun hl => ?_⟩
      · have ek : k = 16 := by grind
        rw [ek, z16] at hs
        have C : ∀ q, q ≠ 25 → q ≠ 27 → σ' q = σ1 q := fun q h1 h2 => (c q h2).trans (c2 q h1)
        have N : gN σ σ' := fun q h1 h2 h3 h4 h5 h6 h7 => (C q h1 h3).trans (c1 q (by omega))
        have e42 := C 42 (by decide) (by decide)
        refine hP σ' ⟨⟨by rw [e42]; exact k1.1, by rw [e42]; exact k1.2.1, ?_⟩, by unfold iG; rw [e42]; exact g1, hx.ofN N, hs, ?_⟩ N
        · rw [C 44 (by decide) (by decide), C 45 (by decide) (by decide), C 46 (by decide) (by decide), C 47 (by decide) (by decide), C 48 (by decide) (by decide)]
          exact k1.2.2
        · have : σ' 25 5 = -1 := by rw [c 25 (by decide), e2]; simp [hg_set]
          exact Or.inl this
      · have ki := hp_16 k0 (by grind)
        refine ⟨ki, fun σ3 e3 v ev => ?_⟩
        have es : v.toNatClampNeg = k.toNatClampNeg + 1 := by rw [ev]; exact hp_s k0 (by grind)
        have e42 : σ3 42 = σ' 42 := by rw [e3]; exact hg_set_ne (by decide)
        refine ih v σ3 (by grind) (by grind) (fun q hq => by rw [e3, hg_set_ne hq]; exact c q hq) (fun u hu => ?_) ?_
        · by_cases e : u = k.toNatClampNeg
          · have : σ3 27 u = k := by rw [e3]; simp [hg_set, e]
            rw [this]; exact hv.small k0 (by grind)
          · have : σ3 27 u = σ' 27 u := by rw [e3]; simp [hg_set, e]
            rw [this]; exact (hs u (by omega)).eq e42
        · have := hp_n_lt (a := k) (b := v) (c := 16) k0 (by grind) (by grind)
          omega
  exact ⟨hp_n (16 - 0) + 1, key _ 0 σ2 (by decide) (by decide) (fun _ _ => rfl) (fun v hv1 => by rw [z00] at hv1; omega) (by omega)⟩
theorem pL_mayConvert {s : Int32} {σ : hg_M} {P : Int32 → hg_M → Prop} (hx : iX σ) (hs0 : 0 ≤ s) (hs : s < 60) (hP : ∀ r, P r σ) : wC_X2_mayConvert s σ P := by
  unfold wC_X2_mayConvert
  intro v ev
  have si := hp_60 hs0 hs
  have te := (hx.2.1 _ (hg_lt si)).2.2.2
  have key : ∀ n (k : Int32), 0 ≤ k → k ≤ 60 → hp_n (60 - k) < n → lC_X2_mayConvert_4 P n s k σ := by
    intro n
    induction n with
    | zero => intro k _ _ h; omega
    | succ n ih =>
      intro k k0 k1 hn
      rw [lC_X2_mayConvert_4]
      refine ⟨si, fun _ => ⟨si, fun _ => ⟨Or.inl rfl, hP 0⟩, fun _ => ⟨Or.inr rfl, hP 1⟩⟩, fun hl => ?_⟩
      have ki := hp_60 k0 (by grind)
      have h38 : ∀ t, bC_X2_mayConvert_38 P (fun k0 k1 k2 => lC_X2_mayConvert_4 P n k0 k1 k2) s k t σ := by
        intro t
        unfold bC_X2_mayConvert_38 bC_X2_mayConvert_55
        refine ⟨fun _ => ⟨Or.inl rfl, hP 0⟩, fun _ => ⟨ki, fun _ v2 e2 => ?_, fun _ => ⟨Or.inl rfl, hP 0⟩⟩⟩
        have hlt := hp_n_lt (a := k) (b := v2) (c := 60) k0 (by grind) (by grind)
        have e : lC_X2_mayConvert_4 P n s v2 σ := ih v2 (by grind) (by grind) (by omega)
        exact e
      have h37 : bC_X2_mayConvert_37 P (fun k0 k1 k2 => lC_X2_mayConvert_4 P n k0 k1 k2) s k σ := h38 0
      exact ⟨ki, fun _ => h37, fun _ => ⟨ki, fun _ => h37, fun _ => h38 1⟩⟩
  exact ⟨hp_n (60 - v) + 1, key _ v (by grind) (by grind) (by omega)⟩
theorem pL_makeCode {lim : Int32} {σ : hg_M} {P : hg_M → Prop} (hc : iC σ) (hx : iX σ) (hP : ∀ σ', iC σ' → gN σ σ' → P σ') : wC_X2_makeCode lim σ P := by
  unfold wC_X2_makeCode
  have key2 : ∀ n (k : Int32) (σ' : hg_M), -1 ≤ k → k < 60 → iC σ' → gN σ σ' → hp_n (k + 1) < n → lC_X2_makeCode_28 P n lim k σ' := by
    intro n
    induction n with
    | zero => intro k σ' _ _ _ _ h; omega
    | succ n ih =>
      intro k σ' k0 k1 c g hn
      have x' := hx.ofN g
      rw [lC_X2_makeCode_28]
      refine ⟨fun _ => ?_, fun hk => ?_⟩
      · refine pL_beginCode c x' (fun σ4 w4 g4 => ?_)
        have sz := w4.2.2.1.1
        exact pL_u 8 0 (by decide) (by decide) (by decide) 0 (σ4 16 8) σ4 _ w4 (by decide) sz.2 (fun σ5 w5 g5 => hP σ5 w5.1 ((g.trans g4).trans g5.N))
      · have hk0 : 0 ≤ k := by grind
        have ki := hp_60 hk0 k1
        have h74 : ∀ σ3, iC σ3 → gN σ σ3 → bC_X2_makeCode_74 P (fun k0 k1 k2 => lC_X2_makeCode_28 P n k0 k1 k2) lim k σ3 := by
          intro σ3 c3 g3
          unfold bC_X2_makeCode_74
          intro v ev
          have e : v + 1 = k := by grind
          have hlt := hp_n_lt (a := 60 - (k + 1)) (b := 60 - k) (c := 60) (by grind) (by grind) (by grind)
          have e1 : (60 : Int32) - (60 - k) = k := by grind
          have e2 : (60 : Int32) - (60 - (k + 1)) = k + 1 := by grind
          rw [e1, e2] at hlt
          have r : lC_X2_makeCode_28 P n lim v σ3 := ih v σ3 (by grind) (by grind) c3 g3 (by rw [e]; omega)
          exact r
        have h73 : ∀ t σ2, iC σ2 → gN σ σ2 → bC_X2_makeCode_73 P (fun k0 k1 k2 => lC_X2_makeCode_28 P n k0 k1 k2) lim k k t σ2 := by
          intro t σ2 c2 g2
          unfold bC_X2_makeCode_73
          refine ⟨ki, fun σ3 e3 => ?_⟩
          have cc : ∀ q, q ≠ 26 → σ3 q = σ2 q := fun q hq => by rw [e3, hg_set_ne hq]
          refine h74 σ3 ?_ (g2.trans (fun q _ h2 _ _ _ _ _ => cc q h2))
          refine ⟨by rw [cc 42 (by decide)]; exact c2.1, by rw [cc 42 (by decide)]; exact c2.2.1, ?_⟩
          rw [cc 44 (by decide), cc 45 (by decide), cc 46 (by decide), cc 47 (by decide), cc 48 (by decide)]
          exact c2.2.2
        refine pL_mayConvert x' hk0 k1 (fun r => ⟨fun _ => h74 σ' c g, fun _ => ?_⟩)
        refine pL_beginCode c x' (fun σ1 w1 g1 => ?_)
        exact pL_convert (by decide) (fun _ => pL_u 8 (0 + 1) (by decide) (by decide) (by decide)) w1 hk0 k1 (fun σ2 w2 g2 => ⟨fun _ => h73 0 σ2 w2.1 ((g.trans g1).trans g2.N), fun _ => h73 1 σ2 w2.1 ((g.trans g1).trans g2.N)⟩)
  have key1 : ∀ n (k : Int32) (σ' : hg_M), 0 ≤ k → k ≤ 60 → iC σ' → gN σ σ' → hp_n (60 - k) < n → lC_X2_makeCode_2 P n lim k σ' := by
    intro n
    induction n with
    | zero => intro k σ' _ _ _ _ h; omega
    | succ n ih =>
      intro k σ' k0 k1 c g hn
      rw [lC_X2_makeCode_2]
      refine ⟨fun _ v ev => ?_, fun hl => ⟨hp_60 k0 (by grind), fun σ2 e2 v ev => ?_⟩⟩
      · have sz := (hx.ofN g).1
        exact ⟨hp_n (v + 1) + 1, key2 _ v σ' (by grind) (by grind) c g (by omega)⟩
      · have cc : ∀ q, q ≠ 26 → σ2 q = σ' q := fun q hq => by rw [e2, hg_set_ne hq]
        have c3 : iC σ2 := by
          refine ⟨by rw [cc 42 (by decide)]; exact c.1, by rw [cc 42 (by decide)]; exact c.2.1, ?_⟩
          rw [cc 44 (by decide), cc 45 (by decide), cc 46 (by decide), cc 47 (by decide), cc 48 (by decide)]
          exact c.2.2
        refine ih v σ2 (by grind) (by grind) c3 (g.trans (fun q _ h2 _ _ _ _ _ => cc q h2)) ?_
        have := hp_n_lt (a := k) (b := v) (c := 60) k0 (by grind) (by grind)
        omega
  exact ⟨hp_n (60 - 0) + 1, key1 _ 0 σ (by decide) (by decide) hc (gN.refl σ) (by omega)⟩
theorem pL_convertedBranches {σ : hg_M} {P : Int32 → hg_M → Prop} (hP : ∀ r, P r σ) : wC_X2_convertedBranches σ P := by
  unfold wC_X2_convertedBranches
  have key : ∀ n (a k : Int32), 0 ≤ k → k ≤ 60 → hp_n (60 - k) < n → lC_X2_convertedBranches_4 P n a k σ := by
    intro n
    induction n with
    | zero => intro a k _ _ h; omega
    | succ n ih =>
      intro a k k0 k1 hn
      rw [lC_X2_convertedBranches_4]
      have hgo : ¬ (60 : Int32) ≤ k → ∀ t, bC_X2_convertedBranches_25 P (fun k0 k1 k2 => lC_X2_convertedBranches_4 P n k0 k1 k2) k a t σ := by
        intro hl t
        unfold bC_X2_convertedBranches_25
        intro v3 _ v4 e4
        have hlt := hp_n_lt (a := k) (b := v4) (c := 60) k0 (by grind) (by grind)
        have r : lC_X2_convertedBranches_4 P n v3 v4 σ := ih v3 v4 (by grind) (by grind) (by omega)
        exact r
      exact ⟨fun _ => hP a, fun hl => ⟨hp_60 k0 (by grind), fun _ => hgo hl 0, fun _ => hgo hl 1⟩⟩
  exact ⟨hp_n (60 - 0) + 1, key _ 0 0 (by decide) (by decide) (by omega)⟩
