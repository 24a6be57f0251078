/-! THE REFERENCE: lowering as a whole. -/
/-- the code between calls -/
def cOK (σ : hg_M) : Prop := (0 ≤ σ 0 20 ∧ (σ 0 20).toNatClampNeg ≤ 3990) ∧ (∀ i, i < (σ 0 20).toNatClampNeg → sOK (σ 12) i ∧ jk (σ 12) (σ 0 20).toNatClampNeg i) ∧ tl (σ 12) (σ 0 20).toNatClampNeg ≤ 60
/-- the rows that lowering works with -/
def mOK (σ : hg_M) : Prop := vR (σ 14) 16 ∧ vR (σ 18) 8 ∧ vR (σ 19) 8 ∧ vR (σ 21) 128 ∧ vR (σ 22) 128 ∧ ∀ i, i < 60 → σ 13 i = 0 ∨ σ 13 i = 1
theorem jW.now {σ : hg_M} {fr s t : Nat} {v : Int32} (h : jW σ fr s t) : jW (hg_set σ 0 24 v) fr s t := by
  obtain ⟨h1, h2, h3, ⟨k, hb, hk⟩, h5, h6⟩ := h
  have g : gF9 σ (hg_set σ 0 24 v) := gE.now.F
  refine ⟨h1.now, h2.F g, h3.F g, ⟨k, hb.now, ?_⟩, ?_, by rw [hg_set_ne (by decide)]; exact h6⟩
  · rw [hg_set_ne (by decide), hs_ne (by decide)]; exact hk
  · rw [hg_set_ne (by decide), hs_ne (by decide)]; exact h5
section MA
variable {σ : hg_M}
theorem qM_lowerAll {a b : Int32} {P : hg_M → Prop} (hx : xOK σ) (hm : mOK σ) (a0 : 0 ≤ a) (b0 : 0 ≤ b) (ab : a.toNatClampNeg ≤ b.toNatClampNeg) (hb9 : b.toNatClampNeg ≤ (σ 0 9).toNatClampNeg) (hin : ∀ s, a.toNatClampNeg ≤ s → s < b.toNatClampNeg → (σ 9 s).toNatClampNeg ≤ b.toNatClampNeg)
    (hP : ∀ σ', gK9 σ σ' → mOK σ' → cOK σ' → P σ') : wM_X6_lowerAll a b σ P := by
  have n60 := hx.1.2
  unfold wM_X6_lowerAll
  intro σ1 e1 σ2 e2 σ3 e3
  have y3 : ∀ i, i ≠ 20 → i ≠ 21 → i ≠ 26 → σ3 0 i = σ 0 i := fun i h1 h2 h3 => by rw [e3, hs_ne h3, e2, hs_ne h2, e1, hs_ne h1]
  have c3 : ∀ q, q ≠ 0 → σ3 q = σ q := fun q hq => by rw [e3, hg_set_ne hq, e2, hg_set_ne hq, e1, hg_set_ne hq]
  have f20 : σ3 0 20 = 0 := by rw [e3, hs_ne (by decide), e2, hs_ne (by decide), e1, hs_me]
  have f21 : σ3 0 21 = 16 := by rw [e3, hs_ne (by decide), e2, hs_me]
  have f26 : σ3 0 26 = 0 := by rw [e3, hs_me]
  have g3 : gK9 σ σ3 := by rw [e3, e2, e1]; exact ((gK9.o (by omega)).trans (gK9.o (by omega))).trans (gK9.o (by omega))
  -- the loop over the statements
  have key : ∀ n (s more : Int32) (τ : hg_M), 0 ≤ s → a.toNatClampNeg ≤ s.toNatClampNeg → s.toNatClampNeg ≤ b.toNatClampNeg → gK9 σ τ → jW τ a.toNatClampNeg s.toNatClampNeg b.toNatClampNeg → (more = 0 → (τ 0 26).toNatClampNeg = 0) → (more ≠ 0 → b.toNatClampNeg - s.toNatClampNeg + 1 < n) → 0 < n → lM_X6_lowerAll_42 P n b s more τ := by
    intro n
    induction n with
    | zero => intro s more τ _ _ _ _ _ _ _ h; omega
    | succ n ih =>
      intro s more τ s0 sa sb g w hdone hfu _
      rw [lM_X6_lowerAll_42]
      refine ⟨fun e => ?_, fun hne => ?_⟩
      · obtain ⟨wL, wS, wJ, ⟨k, bk, hk⟩, wt, w13⟩ := w
        have z := hdone e
        refine hP τ g ⟨wL.2.1, wL.2.2.1, wL.2.2.2.1, wL.2.2.2.2.1, wL.2.2.2.2.2.1, w13⟩ ⟨⟨bk.1.1, by have := bk.1.2; omega⟩, fun i hi => ⟨wL.2.2.2.2.2.2 i hi, ?_⟩, by omega⟩
        rcases wJ i hi with p | ⟨L, hL, -⟩
        · exact p
        · omega
      · have hfu := hfu hne
        have key50 : ∀ m (x5 : Int32) (τ : hg_M), gK9 σ τ → jW τ a.toNatClampNeg s.toNatClampNeg b.toNatClampNeg → (x5 = 0 → ∀ i, i + 1 = (τ 0 26).toNatClampNeg → s.toNatClampNeg ≠ ce τ i) → rem (τ 16) (τ 0 26).toNatClampNeg + 1 < m + (if x5 = 0 then 1 else 0) → lM_X6_lowerAll_50 P (fun k0 k1 k2 k3 => lM_X6_lowerAll_42 P n k0 k1 k2 k3) m b s x5 τ := by
          intro m
          induction m with
          | zero =>
            intro x5 τ _ _ _ h
            exfalso
            split at h <;> omega
          | succ m ihm =>
            intro x5 τ g w htop hm9
            rw [lM_X6_lowerAll_50]
            obtain ⟨wL, wS, wJ, ⟨k, bk, hk⟩, wt, w13⟩ := id w
            have e9 : τ 0 9 = σ 0 9 := g.2 9 (by decide) (by decide) (by decide) (by decide)
            have tb : b.toNatClampNeg ≤ (τ 0 9).toNatClampNeg := by rw [e9]; exact hb9
            have s60 : s.toNatClampNeg ≤ 60 := by omega
            have h155 : (∀ i, i + 1 = (τ 0 26).toNatClampNeg → s.toNatClampNeg ≠ ce τ i) → bM_X6_lowerAll_155 P (fun k0 k1 k2 k3 => lM_X6_lowerAll_42 P n k0 k1 k2 k3) b s τ := by
              intro htop
              unfold bM_X6_lowerAll_155 bM_X6_lowerAll_165 bM_X6_lowerAll_180
              refine ⟨fun hbs => ⟨fun _ => ?_, fun h => absurd rfl h⟩, fun hbs => ⟨fun h => absurd h (by decide), fun _ => ?_⟩⟩
              · have hbs := (hm_le b0 s0).mp hbs
                refine ih s 0 τ s0 sa sb g w (fun _ => ?_) (fun h => absurd rfl h) (by omega)
                by_cases z : (τ 0 26).toNatClampNeg = 0
                · exact z
                · exfalso
                  obtain ⟨⟨q0, q1, q2⟩, h2, h3, -, -, -⟩ := wS.2.1 ((τ 0 26).toNatClampNeg - 1) (by omega)
                  have := htop ((τ 0 26).toNatClampNeg - 1) (by omega)
                  have nF := wL.1.at (Nat.lt_of_lt_of_le q2 tb)
                  have : ce τ ((τ 0 26).toNatClampNeg - 1) ≤ (τ 9 (τ 15 ((τ 0 26).toNatClampNeg - 1)).toNatClampNeg).toNatClampNeg := by
                    unfold ce
                    split
                    · exact nF.2.1
                    · exact Nat.le_refl _
                  omega
              · have hlt : s.toNatClampNeg < b.toNatClampNeg := by
                  have : ¬ b.toNatClampNeg ≤ s.toNatClampNeg := fun h => hbs ((hm_le b0 s0).mpr h)
                  omega
                have s1 : s < 60 := (hm_lt s0 (by decide)).mpr (by rw [tn60]; omega)
                have es := hm_add (N := 100) (s := s) (k := 1) s0 (by decide) (by rw [tn1]; omega) (by omega)
                rw [tn1] at es
                have go : ∀ τ2, gK9 τ τ2 → jW τ2 a.toNatClampNeg (s.toNatClampNeg + 1) b.toNatClampNeg → ∀ v, v = s + 1 → lM_X6_lowerAll_42 P n b v 1 τ2 := by
                  intro τ2 g2 w2 v ev
                  rw [ev]
                  exact ih (s + 1) 1 τ2 es.2.1 (by rw [es.1]; omega) (by rw [es.1]; omega) (g.trans g2) (by rw [es.1]; exact w2) (fun h => absurd h (by decide)) (fun _ => by rw [es.1]; omega) (by omega)
                refine qM_lowerOne wL bk (by omega) (wS.lv wL.1 tb) s0 s1 ?_ (fun τ2 w2 b2 g2 => ?_)
                · have gn : gF9 τ (hg_set τ 0 24 s) := gE.now.F
                  refine qM_beginTest (fr := a.toNatClampNeg) (t := b.toNatClampNeg) w.now s0 s1 hlt sa (by rw [hs_ne (by decide)]; exact tb) (fun i hi => ?_) ?_ (fun τ2 g2 w2 v ev => ?_)
                  · rw [hs_ne (by decide)] at hi
                    rw [ce.of (gn.M (i + 1)) (by omega)]
                    exact htop i hi
                  · rw [hg_set_ne (by decide), g.1 9 (by omega)]
                    exact hin _ sa hlt
                  · exact go τ2 (gn.K.trans g2) w2 v ev
                · intro v ev
                  exact go τ2 g2.K (w.plain hlt sa tb htop w2 hk b2 g2) v ev
            refine ⟨fun e => h155 (htop e), fun hne5 => ⟨fun hz => h155 (fun i hi => ?_), fun hp L eL => ?_⟩⟩
            · exfalso
              have := (hm_le wS.1 (by decide)).mp hz
              rw [tn0] at this
              omega
            · rw [if_neg hne5] at hm9
              have hlv := wS.lv wL.1 tb
              obtain ⟨lt, l0, li⟩ := hlv.top hp
              rw [← eL] at lt l0 li
              obtain ⟨⟨q0, q1, q2⟩, h2, h3, -, -, -⟩ := wS.2.1 L.toNatClampNeg (by omega)
              refine ⟨li, fun q eq => ⟨li, fun hz => ⟨by rw [eq]; exact hm_in q0 (by omega), ?_⟩, fun hz => ⟨by rw [eq]; exact hm_in q0 (by omega), ?_⟩⟩⟩
              · have nF := wL.1.at (Nat.lt_of_lt_of_le q2 tb)
                have cE : ce τ L.toNatClampNeg = (τ 8 q.toNatClampNeg).toNatClampNeg := by unfold ce; rw [if_pos hz, eq]
                have f0 : 0 ≤ τ 8 q.toNatClampNeg := by
                  rw [eq]
                  exact hm_pos (by have := nF.1; omega)
                unfold bM_X6_lowerAll_107 bM_X6_lowerAll_115
                refine ⟨fun hne9 => ⟨fun _ => ?_, fun h => absurd rfl h⟩, fun e9 => ⟨fun h => absurd h (by decide), fun _ => ⟨li, fun _ => ?_, fun h => absurd hz h⟩⟩⟩
                · unfold bM_X6_lowerAll_141 bM_X6_lowerAll_152
                  refine ⟨fun _ => ihm 0 τ g w (fun _ i hi => ?_) (by rw [if_pos rfl]; omega), fun h => absurd rfl h⟩
                  have : i = L.toNatClampNeg := by omega
                  subst this
                  rw [cE]
                  exact fun e => hne9 ((hm_eq s0 f0).mpr e)
                · unfold bM_X6_lowerAll_141 bM_X6_lowerAll_152
                  refine ⟨fun h => absurd h (by decide), fun _ => qM_endFirst w (by omega) eL hp tb hz (by rw [cE, ← e9]) (fun τ2 g2 r2 w2 => ihm 1 τ2 (g.trans g2) w2 (fun h => absurd h (by decide)) (by rw [if_neg (by decide)]; omega))⟩
              · have nF := wL.1.at (Nat.lt_of_lt_of_le q2 tb)
                have cE : ce τ L.toNatClampNeg = (τ 9 q.toNatClampNeg).toNatClampNeg := by unfold ce; rw [if_neg hz, eq]
                have f0 : 0 ≤ τ 9 q.toNatClampNeg := by
                  rw [eq]
                  exact hm_pos (by have := nF.1; have := nF.2.1; omega)
                unfold bM_X6_lowerAll_107 bM_X6_lowerAll_115
                refine ⟨fun hne9 => ⟨fun _ => ?_, fun h => absurd rfl h⟩, fun e9 => ⟨fun h => absurd h (by decide), fun _ => ⟨li, fun h => absurd h hz, fun _ => ?_⟩⟩⟩
                · unfold bM_X6_lowerAll_141 bM_X6_lowerAll_152
                  refine ⟨fun _ => ihm 0 τ g w (fun _ i hi => ?_) (by rw [if_pos rfl]; omega), fun h => absurd rfl h⟩
                  have : i = L.toNatClampNeg := by omega
                  subst this
                  rw [cE]
                  exact fun e => hne9 ((hm_eq s0 f0).mpr e)
                · unfold bM_X6_lowerAll_152
                  exact qM_endSecond w (by omega) eL hp tb hz (fun τ2 g2 r2 w2 => ihm 1 τ2 (g.trans g2) w2 (fun h => absurd h (by decide)) (by rw [if_neg (by decide)]; omega))
        exact ⟨rem (τ 16) (τ 0 26).toNatClampNeg + 2, key50 _ 1 τ g w (fun h => absurd h (by decide)) (by rw [if_neg (by decide)]; omega)⟩
  have key0 : ∀ n (v : Int32) (τ : hg_M), 0 ≤ v → v ≤ 16 → (∀ q, q ≠ 14 → τ q = σ3 q) → vR (τ 14) 16 → hp_n (16 - v) < n → lM_X6_lowerAll_18 P n a b v τ := by
    intro n
    induction n with
    | zero => intro v τ _ _ _ _ h; omega
    | succ n ih =>
      intro v τ v0 v16 c hv hn
      rw [lM_X6_lowerAll_18]
      refine ⟨fun _ => ?_, fun hl => ?_⟩
      · have y : ∀ i, τ 0 i = σ3 0 i := fun i => by rw [c 0 (by decide)]
        have n0 : (τ 0 20).toNatClampNeg = 0 := by rw [y, f20, tn0]
        have m0 : (τ 0 26).toNatClampNeg = 0 := by rw [y, f26, tn0]
        have gk : gK9 σ τ := g3.trans ⟨fun q hq => c q (by omega), fun i _ _ _ _ => y i⟩
        have hx3 : xOK τ := hx.of (by rw [y, y3 9 (by decide) (by decide) (by decide)]) (by rw [c 5 (by decide), c3 5 (by decide)]) (by rw [c 8 (by decide), c3 8 (by decide)]) (by rw [c 9 (by decide), c3 9 (by decide)])
        have wτ : jW τ a.toNatClampNeg a.toNatClampNeg b.toNatClampNeg := by
          refine ⟨⟨hx3, hv, by rw [c 18 (by decide), c3 18 (by decide)]; exact hm.2.1, by rw [c 19 (by decide), c3 19 (by decide)]; exact hm.2.2.1, by rw [c 21 (by decide), c3 21 (by decide)]; exact hm.2.2.2.1, by rw [c 22 (by decide), c3 22 (by decide)]; exact hm.2.2.2.2.1, fun i hi => by omega⟩, ⟨by rw [y, f26]; decide, fun i hi => by omega, fun i hi => by omega⟩, fun i hi => by omega, ⟨0, ⟨⟨by rw [y, f20]; decide, by omega⟩, ⟨by rw [y, f21]; decide, by rw [y, f21]; decide⟩⟩, ?_⟩, ?_, by rw [c 13 (by decide), c3 13 (by decide)]; exact hm.2.2.2.2.2⟩
          · rw [m0]; show 0 + 0 ≤ _; omega
          · rw [n0]; show 0 ≤ _; omega
        exact ⟨b.toNatClampNeg - a.toNatClampNeg + 3, key _ a 1 τ a0 (Nat.le_refl _) ab gk wτ (fun h => absurd h (by decide)) (fun _ => by omega) (by omega)⟩
      · have vi := hp_16 v0 (by grind)
        refine ⟨vi, fun σ4 e4 v5 ev => ?_⟩
        have hlt := hp_n_lt (a := v) (b := v5) (c := 16) v0 (by grind) (by grind)
        refine ih v5 σ4 (by grind) (by grind) (fun q hq => by rw [e4, hg_set_ne hq]; exact c q hq) (fun i hi => ?_) (by omega)
        rw [e4, hs_eq]
        split
        · exact ⟨v0, by grind⟩
        · exact hv i hi
  exact ⟨hp_n (16 - 0) + 1, key0 _ 0 σ3 (by decide) (by decide) (fun _ _ => rfl) (by rw [c3 14 (by decide)]; exact hm.1) (by omega)⟩
/-- what lower leaves alone -/
def gL9 (σ σ' : hg_M) : Prop := (∀ q, ¬ (q = 0 ∨ (12 ≤ q ∧ q ≤ 22)) → σ' q = σ q) ∧ ∀ i, i ≠ 20 → i ≠ 21 → i ≠ 24 → i ≠ 26 → σ' 0 i = σ 0 i
theorem gL9.trans {a b c : hg_M} (h : gL9 a b) (g : gL9 b c) : gL9 a c := ⟨fun q hq => (g.1 q hq).trans (h.1 q hq), fun i a1 a2 a3 a4 => (g.2 i a1 a2 a3 a4).trans (h.2 i a1 a2 a3 a4)⟩
theorem gL9.refl (σ : hg_M) : gL9 σ σ := ⟨fun _ _ => rfl, fun _ _ _ _ _ => rfl⟩
theorem gK9.L {a b : hg_M} (g : gK9 a b) : gL9 a b := ⟨fun q hq => g.1 q (by omega), g.2⟩
theorem gL9.x {a b : hg_M} (g : gL9 a b) (h : xOK a) : xOK b := h.of (g.2 9 (by decide) (by decide) (by decide) (by decide)) (g.1 5 (by omega)) (g.1 8 (by omega)) (g.1 9 (by omega))
theorem mOK.cv {i : Nat} {v : Int32} (h : mOK σ) (hv : v = 0 ∨ v = 1) : mOK (hg_set σ 13 i v) := by
  obtain ⟨h1, h2, h3, h4, h5, h6⟩ := h
  refine ⟨by rw [hg_set_ne (by decide)]; exact h1, by rw [hg_set_ne (by decide)]; exact h2, by rw [hg_set_ne (by decide)]; exact h3, by rw [hg_set_ne (by decide)]; exact h4, by rw [hg_set_ne (by decide)]; exact h5, fun j hj => ?_⟩
  rw [hs_eq]
  split
  · exact hv
  · exact h6 j hj
theorem gL9.cv {i : Nat} {v : Int32} : gL9 σ (hg_set σ 13 i v) := ⟨fun q hq => hg_set_ne (by omega), fun j _ _ _ _ => by rw [hg_set_ne (by decide)]⟩
theorem qM_mayConvert {s lim : Int32} {Q : Int32 → hg_M → Prop} (hx : xOK σ) (hm : mOK σ) (s0 : 0 ≤ s) (s1 : s.toNatClampNeg < (σ 0 9).toNatClampNeg) (hP : ∀ r σ', gL9 σ σ' → mOK σ' → Q r σ') : wM_X6_mayConvert s lim σ Q := by
  have n60 := hx.1.2
  have nF := hx.at s1
  have si : vp_in s 60 := hm_in s0 (by omega)
  have e0 : 0 ≤ σ 9 s.toNatClampNeg := hm_pos (by omega)
  unfold wM_X6_mayConvert
  intro v ev
  have es := hm_add (N := 100) (s := s) (k := 1) s0 (by decide) (by rw [tn1]; omega) (by omega)
  rw [tn1, ← ev] at es
  have key : ∀ n (x k : Int32), 0 ≤ k → k.toNatClampNeg ≤ 60 → 60 - k.toNatClampNeg < n → lM_X6_mayConvert_7 Q n s lim x k σ := by
    intro n
    induction n with
    | zero => intro x k _ _ h; omega
    | succ n ih =>
      intro x k k0 k60 hn
      rw [lM_X6_mayConvert_7]
      refine ⟨si, fun hk => ⟨fun _ => ⟨si, fun σ2 e2 => ⟨si, ?_⟩⟩, fun _ => ⟨Or.inl rfl, hP 0 σ (gL9.refl σ) hm⟩⟩, fun hk => ?_⟩
      · rw [nar1] at e2
        have g2 : gL9 σ σ2 := by rw [e2]; exact gL9.cv
        have m2 : mOK σ2 := by rw [e2]; exact hm.cv (Or.inr rfl)
        have x2 := g2.x hx
        have q9 : σ2 9 = σ 9 := g2.1 9 (by omega)
        have q09 : σ2 0 9 = σ 0 9 := g2.2 9 (by decide) (by decide) (by decide) (by decide)
        rw [q9]
        refine qM_lowerAll x2 m2 s0 e0 (by omega) (by rw [q09]; omega) (fun r h1 h2 => ?_) (fun σ3 g3 m3 _ => ⟨fun _ => ⟨Or.inl rfl, hP 0 σ3 (g2.trans g3.L) m3⟩, fun _ => ⟨Or.inr rfl, hP 1 σ3 (g2.trans g3.L) m3⟩⟩)
        rw [q9]
        by_cases er : r = s.toNatClampNeg
        · rw [er]; exact Nat.le_refl _
        · have nn := hx.in (s := r) s1 (by omega) (by omega)
          by_cases hf : r < (σ 8 s.toNatClampNeg).toNatClampNeg
          · have := (nn.1 hf).1
            omega
          · exact (nn.2 (by omega) h2).1
      · have kl : k.toNatClampNeg < (σ 9 s.toNatClampNeg).toNatClampNeg := by
          have : ¬ (σ 9 s.toNatClampNeg).toNatClampNeg ≤ k.toNatClampNeg := fun h => hk ((hm_le e0 k0).mpr h)
          omega
        have ki : vp_in k 60 := hm_in k0 (by omega)
        have k1 : k < 60 := (hm_lt k0 (by decide)).mpr (by rw [tn60]; omega)
        have go : ∀ t, bM_X6_mayConvert_59 Q (fun k0 k1 k2 k3 k4 => lM_X6_mayConvert_7 Q n k0 k1 k2 k3 k4) s lim k t σ := by
          intro t
          unfold bM_X6_mayConvert_59
          intro v8 e8
          have ek := hm_add (N := 100) (s := k) (k := 1) k0 (by decide) (by rw [tn1]; omega) (by omega)
          rw [tn1, ← e8] at ek
          exact ih t v8 ek.2.1 (by omega) (by omega)
        have g58 : bM_X6_mayConvert_58 Q (fun k0 k1 k2 k3 k4 => lM_X6_mayConvert_7 Q n k0 k1 k2 k3 k4) s lim k σ := go 0
        have g54 : bM_X6_mayConvert_54 Q (fun k0 k1 k2 k3 k4 => lM_X6_mayConvert_7 Q n k0 k1 k2 k3 k4) s lim k σ := go 1
        exact ⟨fun _ => g58, fun _ => qM_of k0 k1 (by decide) (by decide) ⟨fun _ => g58, fun _ => qM_of k0 k1 (by decide) (by decide) ⟨fun _ => g54, fun _ => ⟨ki, fun _ => g58, fun _ => g54⟩⟩⟩⟩
  exact ⟨62, key _ 1 v es.2.1 (by omega) (by omega)⟩
theorem qM_may {x y : Int32} {Q : Int32 → hg_M → Prop} (h0 : ∀ t, Q 0 (hg_set σ 0 0 t)) (h1 : Q 1 (hg_set σ 0 0 0)) : wM_X6_may x y σ Q := by
  have h18 : ∀ t, bM_X6_may_18 Q t σ := by
    intro t
    unfold bM_X6_may_18 bM_X6_may_33
    intro σ1 e1
    subst e1
    rw [hs_me]
    exact ⟨fun _ => ⟨Or.inl rfl, h0 t⟩, fun e => ⟨Or.inr rfl, by rw [e]; exact h1⟩⟩
  unfold wM_X6_may
  exact ⟨fun _ => ⟨fun _ => h18 0, fun _ => h18 2⟩, fun _ => h18 1⟩
theorem qM_lower {lim : Int32} {Q : Int32 → hg_M → Prop} (hx : xOK σ) (hm : mOK σ) (h0 : ∀ t r, Q r (hg_set σ 0 0 t)) (hP : ∀ r σ', gL9 (hg_set (hg_set σ 0 0 0) 0 22 1) (hg_set σ' 0 22 1) → mOK σ' → cOK σ' → Q r (hg_set σ' 0 22 1)) : wM_X6_lower lim σ Q := by
  unfold wM_X6_lower
  have body : ∀ r2, wM_X6_may r2 1 σ (fun r4 σ3 => ((r4 ≠ 0 → ∀ v5 : Int32, v5 = ((σ3 0 9) - (1 : Int32)) → (∃ f9, lM_X6_lower_26 Q f9 lim v5 σ3)) ∧ (r4 = 0 → Q (0 : Int32) σ3))) := by
    intro r2
    refine qM_may (fun t => ⟨fun h => absurd rfl h, fun _ => h0 t 0⟩) ⟨fun _ v5 e5 => ?_, fun h => absurd h (by decide)⟩
    obtain ⟨σ3, e3⟩ : ∃ z, z = hg_set σ 0 0 0 := ⟨_, rfl⟩
    rw [← e3] at e5 ⊢
    have y3 : ∀ i, i ≠ 0 → σ3 0 i = σ 0 i := fun i hi => by rw [e3, hs_ne hi]
    have c3 : ∀ q, q ≠ 0 → σ3 q = σ q := fun q hq => by rw [e3, hg_set_ne hq]
    have x3 : xOK σ3 := hx.of (y3 9 (by decide)) (c3 5 (by decide)) (c3 8 (by decide)) (c3 9 (by decide))
    have m3 : mOK σ3 := by unfold mOK; rw [c3 14 (by decide), c3 18 (by decide), c3 19 (by decide), c3 21 (by decide), c3 22 (by decide), c3 13 (by decide)]; exact hm
    have n60 := x3.1.2
    have key : ∀ n (k : Int32) (τ : hg_M), (k = -1 ∨ (0 ≤ k ∧ k.toNatClampNeg < (σ3 0 9).toNatClampNeg)) → gL9 σ3 τ → mOK τ → (0 ≤ k → k.toNatClampNeg + 1 < n) → 0 < n → lM_X6_lower_26 Q n lim k τ := by
      intro n
      induction n with
      | zero => intro k τ _ _ _ _ h; omega
      | succ n ih =>
        intro k τ hk g m hn _
        rw [lM_X6_lower_26]
        have xt := g.x x3
        have e9 : τ 0 9 = σ3 0 9 := g.2 9 (by decide) (by decide) (by decide) (by decide)
        refine ⟨fun _ => ?_, fun hk0 => ?_⟩
        · refine qM_lowerAll xt m (by decide) xt.1.1 (by rw [tn0]; omega) (Nat.le_refl _) (fun s _ h2 => (xt.at h2).2.2.1) (fun σ6 g6 m6 c6 => ⟨Or.inr rfl, fun σ7 e7 => ?_⟩)
          have gg := g.trans g6.L
          subst e7
          refine hP _ σ6 ⟨fun q hq => ?_, fun i a1 a2 a3 a4 => ?_⟩ m6 c6
          · rw [hg_set_ne (by omega), hg_set_ne (by omega), gg.1 q hq, e3]
          · by_cases ei : i = 22
            · subst ei; rw [hs_me, hs_me]
            · rw [hs_ne ei, hs_ne ei, gg.2 i a1 a2 a3 a4, e3]
        · obtain ⟨k0, kl⟩ := hk.resolve_left (fun e => hk0 (by rw [e]; decide))
          have hn := hn k0
          have k1 : k < 60 := (hm_lt k0 (by decide)).mpr (by rw [tn60]; omega)
          have ki := hp_60 k0 k1
          have h59 : ∀ t τ2, (t = 0 ∨ t = 1) → gL9 σ3 τ2 → mOK τ2 → bM_X6_lower_59 Q (fun k0 k1 k2 => lM_X6_lower_26 Q n k0 k1 k2) lim k k t τ2 := by
            intro t τ2 ht g2 m2
            unfold bM_X6_lower_59
            refine ⟨ki, fun σ12 e12 v ev => ?_⟩
            have hv : vp_nar .boolean t = 0 ∨ vp_nar .boolean t = 1 := by
              rcases ht with rfl | rfl
              · exact Or.inl nar0
              · exact Or.inr nar1
            have w12 : mOK σ12 := by rw [e12]; exact m2.cv hv
            have g12 : gL9 σ3 σ12 := by rw [e12]; exact g2.trans gL9.cv
            have hv1 : v = k - 1 := by rw [ev]; grind
            by_cases hz : k.toNatClampNeg = 0
            · have ek : k = 0 := (hm_eq k0 (by decide)).mpr (by rw [hz, tn0])
              refine ih v σ12 (Or.inl (by rw [hv1, ek]; decide)) g12 w12 (fun h => ?_) (by omega)
              rw [hv1, ek] at h
              exact absurd h (by decide)
            · have sb := hm_sub (s := k) (k := 1) k0 (by decide) (by rw [tn1]; omega)
              rw [tn1, ← hv1] at sb
              exact ih v σ12 (Or.inr ⟨sb.2, by omega⟩) g12 w12 (fun _ => by omega) (by omega)
          have h58 : ∀ τ2, gL9 σ3 τ2 → mOK τ2 → bM_X6_lower_58 Q (fun k0 k1 k2 => lM_X6_lower_26 Q n k0 k1 k2) lim k k τ2 := fun τ2 g2 m2 => h59 0 τ2 (Or.inl rfl) g2 m2
          refine qM_of k0 k1 (by decide) (by decide) ⟨fun _ => h58 τ g m, fun _ => qM_mayConvert xt m k0 (by rw [e9]; exact kl) (fun r τ2 g2 m2 => ⟨fun _ => h58 τ2 (g.trans g2) m2, fun _ => h59 1 τ2 (Or.inr rfl) (g.trans g2) m2⟩)⟩
    by_cases hz : (σ3 0 9).toNatClampNeg = 0
    · have ez : σ3 0 9 = 0 := (hm_eq x3.1.1 (by decide)).mpr (by rw [hz, tn0])
      refine ⟨1, key _ v5 σ3 (Or.inl (by rw [e5, ez]; decide)) (gL9.refl σ3) m3 (fun h => ?_) (by omega)⟩
      rw [e5, ez] at h
      exact absurd h (by decide)
    · have sb := hm_sub (s := σ3 0 9) (k := 1) x3.1.1 (by decide) (by rw [tn1]; omega)
      rw [tn1, ← e5] at sb
      exact ⟨v5.toNatClampNeg + 2, key _ v5 σ3 (Or.inr ⟨sb.2, by omega⟩) (gL9.refl σ3) m3 (fun _ => by omega) (by omega)⟩
  exact qM_isIn (body 0) (body 1)
end MA
