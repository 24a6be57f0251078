/-! THE REFERENCE: the ends of a test's sides. -/
/-- old code stays, new steps are no jumps and no TELLs: over cells that a level may change -/
def gC9 (σ σ' : hg_M) : Prop := (∀ q, q = 5 ∨ q = 8 ∨ q = 9 ∨ q = 13 ∨ q = 15 ∨ q = 16 ∨ q = 17 ∨ q = 20 → σ' q = σ q) ∧ (∀ i, i ≠ 20 → i ≠ 21 → i ≠ 24 → σ' 0 i = σ 0 i) ∧ (σ 0 20).toNatClampNeg ≤ (σ' 0 20).toNatClampNeg ∧ (∀ j, j < 6 * (σ 0 20).toNatClampNeg → σ' 12 j = σ 12 j) ∧ (∀ i, (σ 0 20).toNatClampNeg ≤ i → i < (σ' 0 20).toNatClampNeg → σ' 12 (6 * i) ≠ 16 ∧ σ' 12 (6 * i) ≠ 17 ∧ σ' 12 (6 * i) ≠ 18) ∧ gK9 σ σ'
theorem gC9.refl (σ : hg_M) : gC9 σ σ := ⟨fun _ _ => rfl, fun _ _ _ _ => rfl, Nat.le_refl _, fun _ _ => rfl, fun i h1 h2 => by omega, gK9.refl σ⟩
theorem gC9.trans {a b c : hg_M} (h : gC9 a b) (g : gC9 b c) : gC9 a c := by
  obtain ⟨h1, h2, h3, h4, h5, h6⟩ := h
  obtain ⟨g1, g2, g3, g4, g5, g6⟩ := g
  refine ⟨fun q hq => (g1 q hq).trans (h1 q hq), fun i a1 a2 a3 => (g2 i a1 a2 a3).trans (h2 i a1 a2 a3), by omega, fun j hj => (g4 j (by omega)).trans (h4 j hj), fun i i1 i2 => ?_, h6.trans g6⟩
  by_cases e : i < (b 0 20).toNatClampNeg
  · rw [g4 (6 * i) (by omega)]; exact h5 i i1 e
  · exact g5 i (by omega) i2
theorem gE.C {a b : hg_M} (g : gE a b) : gC9 a b := ⟨fun q hq => g.1 q (by omega) (by omega) (by omega), g.2.1, g.2.2.1, g.2.2.2.1, g.2.2.2.2, g.K⟩
theorem gC9.c {σ : hg_M} {q i : Nat} {v : Int32} (h : q = 14 ∨ q = 18 ∨ q = 19 ∨ q = 21 ∨ q = 22) : gC9 σ (hg_set σ q i v) := ⟨fun p hp => hg_set_ne (by omega), fun j _ _ _ => by rw [hg_set_ne (by omega)], by rw [hg_set_ne (by omega)]; exact Nat.le_refl _, fun j _ => by rw [hg_set_ne (by omega)], fun j i1 i2 => by rw [hg_set_ne (by omega)] at i2; omega, gK9.c (by omega)⟩
theorem gC9.tl {a b : hg_M} (g : gC9 a b) : tl (b 12) (b 0 20).toNatClampNeg = tl (a 12) (a 0 20).toNatClampNeg := by
  obtain ⟨g1, g2, g3, g4, g5, g6⟩ := g
  obtain ⟨m, hm⟩ : ∃ m, (b 0 20).toNatClampNeg = (a 0 20).toNatClampNeg + m := ⟨(b 0 20).toNatClampNeg - (a 0 20).toNatClampNeg, by omega⟩
  rw [hm, tl_none m (fun i h1 h2 => (g5 i h1 (by omega)).2.2)]
  exact tl_congr _ (fun i hi => g4 _ (by omega))
section MD
variable {σ : hg_M} {P : hg_M → Prop}
/-- the first side of the top level ends -/
theorem qM_endFirst {L : Int32} {fr s t : Nat} (h : jW σ fr s t) (hs60 : s - fr ≤ 60) (hL : L = σ 0 26 - 1) (hp : ¬ σ 0 26 ≤ 0) (ht : t ≤ (σ 0 9).toNatClampNeg) (hz : σ 16 L.toNatClampNeg = 0) (he : s = ce σ L.toNatClampNeg) (hP : ∀ σ', gK9 σ σ' → rem (σ' 16) (σ' 0 26).toNatClampNeg + 6 = rem (σ 16) (σ 0 26).toNatClampNeg → jW σ' fr s t → P σ') : wM_X6_endFirst L σ P := by
  obtain ⟨wL, wS, wJ, ⟨k, hb, hk⟩, wt, w13⟩ := id h
  have hx := wL.1
  have n60 := hx.1.2
  have hlv := wS.lv hx ht
  obtain ⟨lt, l0, li⟩ := hlv.top hp
  rw [← hL] at lt l0 li
  have l8 : L.toNatClampNeg < 8 := hg_lt li
  obtain ⟨⟨q0, q1, q2⟩, f2, f3, f4, f5, f6⟩ := wS.2.1 L.toNatClampNeg (by omega)
  have qi : vp_in (σ 15 L.toNatClampNeg) 60 := hm_in q0 (by omega)
  have nF := hx.at (Nat.lt_of_lt_of_le q2 ht)
  have ceF : ce σ L.toNatClampNeg = (σ 8 (σ 15 L.toNatClampNeg).toNatClampNeg).toNatClampNeg := by unfold ce; rw [if_pos hz]
  rw [ceF] at he
  have remk : rem (σ 16) (σ 0 26).toNatClampNeg = rem (σ 16) L.toNatClampNeg + 54 := by
    have e : (if σ 16 L.toNatClampNeg = 0 then 6 else 0) = 6 := if_pos hz
    rw [← lt]
    show rem (σ 16) L.toNatClampNeg + 48 + (if σ 16 L.toNatClampNeg = 0 then 6 else 0) = rem (σ 16) L.toNatClampNeg + 54
    omega
  have k3 : k + 6 ≤ 3720 := by omega
  -- the end, out of what has been done to the level
  have fin : ∀ (τ : hg_M) (k' : Nat), gK9 σ τ → jL τ → bud τ k' → k' ≤ k + 6 → τ 0 26 = σ 0 26 → (∀ q, q = 15 ∨ q = 17 → τ q = σ q) → (∀ i, τ 16 i = if i = L.toNatClampNeg then 1 else σ 16 i) → (∀ i, i ≠ L.toNatClampNeg → τ 20 i = σ 20 i) → (∀ j, j < (σ 0 20).toNatClampNeg → τ 12 (6 * j) = σ 12 (6 * j)) → (σ 0 20).toNatClampNeg ≤ (τ 0 20).toNatClampNeg → tl (τ 12) (τ 0 20).toNatClampNeg = tl (σ 12) (σ 0 20).toNatClampNeg → (σ 17 L.toNatClampNeg = 0 → τ 20 L.toNatClampNeg = -1 ∨ (0 ≤ τ 20 L.toNatClampNeg ∧ (τ 20 L.toNatClampNeg).toNatClampNeg < (τ 0 20).toNatClampNeg ∧ τ 12 (6 * (τ 20 L.toNatClampNeg).toNatClampNeg) = 16)) → (∀ i, i < (τ 0 20).toNatClampNeg → (i < (σ 0 20).toNatClampNeg ∧ ((∀ j, j < 6 → τ 12 (6 * i + j) = σ 12 (6 * i + j)) ∧ ¬ pn σ L.toNatClampNeg i)) ∨ jk (τ 12) (τ 0 20).toNatClampNeg i ∨ pn τ L.toNatClampNeg i) → P τ := by
    intro τ k' gk wτ bτ hk' e26 c1517 d16 d20 kin nn htl hjmp hst
    have cx : ∀ q, q = 5 ∨ q = 8 ∨ q = 9 ∨ q = 13 → τ q = σ q := fun q hq => gk.1 q (by omega)
    have gm : gM L.toNatClampNeg σ τ := ⟨⟨cx 5 (by omega), cx 8 (by omega), cx 9 (by omega)⟩, fun i hi => ⟨by rw [c1517 15 (by omega)], by rw [d16, if_neg (by omega)], by rw [c1517 17 (by omega)], d20 i (by omega)⟩, kin, nn⟩
    have low := wS.low gm (by omega)
    have n16 : τ 16 L.toNatClampNeg = 1 := by rw [d16, if_pos rfl]
    have nz : τ 16 L.toNatClampNeg ≠ 0 := by rw [n16]; decide
    have eq15 : τ 15 = σ 15 := c1517 15 (by omega)
    have hrm : rem (τ 16) (τ 0 26).toNatClampNeg + 6 = rem (σ 16) (σ 0 26).toNatClampNeg := by
      have e1 : (if τ 16 L.toNatClampNeg = 0 then 6 else 0) = 0 := if_neg nz
      have e2 : rem (τ 16) L.toNatClampNeg = rem (σ 16) L.toNatClampNeg := rem_congr _ (fun i hi => by rw [d16, if_neg (by omega)])
      rw [remk, e26, ← lt]
      show rem (τ 16) L.toNatClampNeg + 48 + (if τ 16 L.toNatClampNeg = 0 then 6 else 0) + 6 = rem (σ 16) L.toNatClampNeg + 54
      omega
    refine hP τ gk hrm ⟨wτ, ⟨by rw [e26]; exact wS.1, fun i hi => ?_, fun i hi => ?_⟩, fun i hi => ?_, ⟨k', bτ, ?_⟩, by rw [htl]; exact wt, by rw [cx 13 (by omega)]; exact w13⟩
    · rw [e26, ← lt] at hi
      by_cases e : i < L.toNatClampNeg
      · exact low.1 i e
      · have : i = L.toNatClampNeg := by omega
        subst this
        refine ⟨by rw [eq15]; exact ⟨q0, q1, q2⟩, ?_, ?_, fun _ => ?_, ?_, fun hm => ⟨fun e => absurd e nz, fun _ => ?_⟩⟩
        · unfold ce
          rw [if_neg nz, eq15, cx 9 (by omega)]
          omega
        · rw [eq15, cx 9 (by omega)]; exact f3
        · rw [eq15, cx 8 (by omega)]; omega
        · rw [eq15, cx 5 (by omega)]; exact f5
        · rw [c1517 17 (by omega)] at hm
          exact hjmp hm
    · rw [e26, ← lt] at hi
      by_cases e : i + 1 < L.toNatClampNeg
      · exact low.2 i e
      · have : i + 1 = L.toNatClampNeg := by omega
        rw [ce.of gm (by omega), cx 9 (by omega), eq15]
        exact wS.2.2 i (by omega)
    · rcases hst i hi with ⟨il, same, np⟩ | p | p
      · rcases wJ i il with p | ⟨L', hL', p⟩
        · exact Or.inl ((p.congr same).mono nn)
        · have : L' ≠ L.toNatClampNeg := fun e => np (e ▸ p)
          exact Or.inr ⟨L', by rw [e26]; exact hL', p.of gm (by omega) il⟩
      · exact Or.inl p
      · exact Or.inr ⟨L.toNatClampNeg, by rw [e26]; omega, p⟩
    · omega
  have h27 : ∀ m, bM_X6_endFirst_27 P L (σ 15 L.toNatClampNeg) m σ := by
    intro m
    unfold bM_X6_endFirst_27
    refine ⟨li, fun σ2 e2 σ3 e3 => ⟨li, ?_⟩⟩
    rw [nar1] at e2
    have c3 : ∀ q, q ≠ 0 → q ≠ 16 → σ3 q = σ q := fun q a0 a16 => by rw [e3, hg_set_ne a0, e2, hg_set_ne a16]
    have y3 : ∀ i, i ≠ 24 → σ3 0 i = σ 0 i := fun i hi => by rw [e3, hs_ne hi, e2, hg_set_ne (by decide)]
    have d16 : ∀ i, σ3 16 i = if i = L.toNatClampNeg then 1 else σ 16 i := fun i => by rw [e3, hg_set_ne (by decide), e2, hs_eq]
    have w3 : jL σ3 := by rw [e3, e2]; exact (wL.cell (by omega)).now
    have b3 : bud σ3 k := hb.of (y3 20 (by decide)) (y3 21 (by decide))
    have g3 : gK9 σ σ3 := by rw [e3, e2]; exact (gK9.c (by omega)).trans (gK9.o (by omega))
    rw [c3 17 (by decide) (by decide)]
    refine ⟨fun hm => ?_, fun hm => ?_⟩
    · obtain ⟨j0, j1, j2⟩ := (f6 hm).1 hz
      have h171 : ∀ (t0 : Int32) (τ : hg_M) (k' : Nat), (∀ q, q ≠ 0 → q ≠ 12 → τ q = σ3 q) → (∀ i, i ≠ 20 → τ 0 i = σ3 0 i) → jL τ → bud τ k' → k' ≤ k + 6 → (∀ j, j < 6 * (σ 0 20).toNatClampNeg → τ 12 j = σ 12 j) → (σ 0 20).toNatClampNeg ≤ (τ 0 20).toNatClampNeg → tl (τ 12) (τ 0 20).toNatClampNeg = tl (σ 12) (σ 0 20).toNatClampNeg → ((τ 0 20).toNatClampNeg = (σ 0 20).toNatClampNeg ∧ t0 = -1 ∨ (τ 0 20).toNatClampNeg = (σ 0 20).toNatClampNeg + 1 ∧ t0 = σ 0 20 ∧ τ 12 (6 * (σ 0 20).toNatClampNeg) = 16) → bM_X6_endFirst_171 P L t0 τ := by
        intro t0 τ k' c y wτ bτ hk' o nn htl hcase
        unfold bM_X6_endFirst_171
        have e20 : τ 20 = σ 20 := by rw [c 20 (by decide) (by decide), c3 20 (by decide) (by decide)]
        rw [e20]
        have ix := hm6 (j := σ 20 L.toNatClampNeg) tn2 (by decide) (by omega) j0 (by have := hb.1.2; omega)
        refine ⟨li, ix.2, fun σ18 e18 => ⟨li, fun σ19 e19 => ?_⟩⟩
        rw [ix.1] at e18
        have jl : (σ 20 L.toNatClampNeg).toNatClampNeg < (τ 0 20).toNatClampNeg := by omega
        have jk2 : τ 12 (6 * (σ 20 L.toNatClampNeg).toNatClampNeg) = 17 := by rw [o _ (by omega)]; exact j2
        have w18 : jL σ18 := by rw [e18]; exact wτ.patch jl (Or.inr ⟨rfl, jk2⟩)
        have c19 : ∀ q, q ≠ 12 → q ≠ 20 → σ19 q = τ q := fun q a b => by rw [e19, hg_set_ne b, e18, hg_set_ne a]
        have y19 : ∀ i, σ19 0 i = τ 0 i := fun i => by rw [c19 0 (by decide) (by decide)]
        have d12 : ∀ a, σ19 12 a = if a = 6 * (σ 20 L.toNatClampNeg).toNatClampNeg + 2 then τ 0 20 else τ 12 a := fun a => by rw [e19, hg_set_ne (by decide), e18, hs_eq]
        have k12 : ∀ i, σ19 12 (6 * i) = τ 12 (6 * i) := fun i => by rw [d12, if_neg (by omega)]
        have t20 : σ19 20 L.toNatClampNeg = t0 := by rw [e19, hs_me]
        have t17 : σ19 17 L.toNatClampNeg = 0 := by rw [c19 17 (by decide) (by decide), c 17 (by decide) (by decide), c3 17 (by decide) (by decide)]; exact hm
        have t16 : σ19 16 L.toNatClampNeg = 1 := by rw [c19 16 (by decide) (by decide), c 16 (by decide) (by decide), d16, if_pos rfl]
        refine fin σ19 k' ?_ (by rw [e19]; exact w18.cell (by omega)) (bτ.of (y19 20) (y19 21)) hk' (by rw [y19, y 26 (by decide), y3 26 (by decide)]) (fun q hq => by rw [c19 q (by omega) (by omega), c q (by omega) (by omega), c3 q (by omega) (by omega)]) (fun i => by rw [c19 16 (by decide) (by decide), c 16 (by decide) (by decide), d16]) (fun i hi => by rw [e19, hs_ne hi, e18, hg_set_ne (by decide), e20]) (fun j hj => by rw [k12, o _ (by omega)]) (by rw [y19]; exact nn) (by rw [y19, tl_congr (g := τ 12) _ (fun i _ => k12 i)]; exact htl) (fun _ => ?_) (fun i hi => ?_)
        · refine g3.trans ⟨fun q hq => ?_, fun i a1 a2 a3 a4 => ?_⟩
          · rw [c19 q (by omega) (by omega), c q (by omega) (by omega)]
          · rw [y19, y i a1]
        · rw [t20]
          rcases hcase with ⟨-, e⟩ | ⟨e1, e2, e3⟩
          · exact Or.inl e
          · right
            rw [e2, y19, e1, k12]
            exact ⟨hb.1.1, by omega, e3⟩
        · rw [y19] at hi
          by_cases ej : i = (σ 20 L.toNatClampNeg).toNatClampNeg
          · right; left
            subst ej
            unfold jk
            rw [k12, jk2, d12, if_neg (by omega), d12, if_pos rfl, y19]
            exact ⟨fun e => absurd e (by decide), fun _ => ⟨bτ.1.1, jl, Nat.le_refl _⟩⟩
          · by_cases il : i < (σ 0 20).toNatClampNeg
            · left
              refine ⟨il, fun j hj => by rw [d12, if_neg (by omega), o _ (by omega)], fun p => ej p.2.2.1.symm⟩
            · rcases hcase with ⟨e1, -⟩ | ⟨e1, e2, e3⟩
              · omega
              · have : i = (σ 0 20).toNatClampNeg := by omega
                subst this
                right; right
                exact ⟨t17, by rw [t20, e2]; exact hb.1.1, by rw [t20, e2], Or.inr ⟨by rw [t16]; decide, by rw [k12]; exact e3⟩⟩
      refine ⟨fun _ => ?_, fun _ => ?_⟩
      · exact h171 (-1) σ3 k (fun _ _ _ => rfl) (fun _ _ => rfl) w3 b3 (by omega) (fun j _ => by rw [c3 12 (by decide) (by decide)]) (by rw [y3 20 (by decide)]; exact Nat.le_refl _) (by rw [y3 20 (by decide), c3 12 (by decide) (by decide)]) (Or.inl ⟨by rw [y3 20 (by decide)], rfl⟩)
      · refine qM_emit b3 (by omega) (fun σ4 c y f20 n1 b o nw => ?_)
        rw [y3 20 (by decide)] at n1 o nw ⊢
        rw [c3 12 (by decide) (by decide)] at o
        refine h171 (σ 0 20) σ4 (k + 1) c (fun i hi => y i hi) (w3.add k16 c y (by rw [y3 20 (by decide)]; exact n1) (by rw [y3 20 (by decide), c3 12 (by decide) (by decide)]; exact o) (by rw [y3 20 (by decide)]; exact nw)) b (by omega) o (by omega) ?_ (Or.inr ⟨n1, rfl, nw.1⟩)
        rw [n1]
        show tl (σ4 12) _ + _ = _
        rw [nw.1, if_neg (by decide), Nat.add_zero, tl_congr (g := σ 12) _ (fun i hi => o _ (by omega))]
    · -- a level whose sides are both done
      have np : ∀ i, ¬ pn σ L.toNatClampNeg i := fun i p => hm p.1
      have out : ∀ (τ : hg_M) (k' : Nat), gC9 σ3 τ → jL τ → bud τ k' → k' ≤ k + 6 → P τ := by
        intro τ k' gc wτ bτ hk'
        have n3 : (σ3 0 20).toNatClampNeg = (σ 0 20).toNatClampNeg := by rw [y3 20 (by decide)]
        have q12 : σ3 12 = σ 12 := c3 12 (by decide) (by decide)
        refine fin τ k' (g3.trans gc.2.2.2.2.2) wτ bτ hk' (by rw [gc.2.1 26 (by decide) (by decide) (by decide), y3 26 (by decide)]) (fun q hq => by rw [gc.1 q (by omega), c3 q (by omega) (by omega)]) (fun i => by rw [gc.1 16 (by omega), d16]) (fun i _ => by rw [gc.1 20 (by omega), c3 20 (by decide) (by decide)]) (fun j hj => by rw [gc.2.2.2.1 _ (by rw [n3]; omega), q12]) (by rw [← n3]; exact gc.2.2.1) (by rw [gc.tl, n3, q12]) (fun e => absurd e hm) (fun i hi => ?_)
        by_cases il : i < (σ 0 20).toNatClampNeg
        · left
          exact ⟨il, fun j hj => by rw [gc.2.2.2.1 _ (by rw [n3]; omega), q12], np i⟩
        · right; left
          have := gc.2.2.2.2.1 i (by rw [n3]; omega) hi
          exact ⟨fun e => absurd e this.1, fun e => absurd e this.2.1⟩
      have key : ∀ n (v : Int32) (τ : hg_M), 0 ≤ v → v ≤ 16 → gC9 σ3 τ → jL τ → bud τ k → hp_n (16 - v) < n → lM_X6_endFirst_52 P n L m v τ := by
        intro n
        induction n with
        | zero => intro v τ _ _ _ _ _ h; omega
        | succ n ih =>
          intro v τ v0 v16 gc wτ bτ hn
          rw [lM_X6_endFirst_52]
          refine ⟨fun _ => ⟨fun _ => out τ k gc wτ bτ (by omega), fun _ => ?_⟩, fun hl => ?_⟩
          · refine qM_setNew wτ bτ (by omega) (fun r7 σ6 h7 w6 b6 g6 _ => qM_fresh1 w6 b6 (by omega) (fun r9 σ8 h9 w8 b8 g8 _ => ⟨li, ?_⟩))
            refine qM_em w8 b8 (by omega) (kop (by decide) (by decide) h9 (w8.2.2.1 _ l8) h7) (by decide) (fun r11 σ10 w10 b10 g10 _ _ => ?_)
            refine qM_guarded w10 b10 (by omega) l0 (by omega) h9 (fun r13 σ12 h13 w12 b12 g12 _ => ⟨li, fun σ14 e14 => ?_⟩)
            unfold bM_X6_endFirst_152
            rw [e14]
            exact out _ (k + 2 + 1 + 1 + 2) (((((gc.trans g6.C).trans g8.C).trans g10.C).trans g12.C).trans (gC9.c (by omega))) (w12.reg (by omega) h13) (b12.cell (by decide)) (by omega)
          · have vi := hp_16 v0 (by grind)
            have ix := hm16 l0 l8 v0 (by grind)
            have vt : v.toNatClampNeg < 16 := hg_lt vi
            refine ⟨vi, ix.2, fun σ15 e15 => ⟨ix.2, vi, fun σ16 e16 v17 ev => ?_⟩⟩
            have hlt := hp_n_lt (a := v) (b := v17) (c := 16) v0 (by grind) (by grind)
            have w15 : jL σ15 := by rw [e15]; exact wτ.reg (by omega) (wτ.2.1 _ vt)
            refine ih v17 σ16 (by grind) (by grind) ?_ ?_ ?_ (by omega)
            · rw [e16, e15]; exact (gc.trans (gC9.c (by omega))).trans (gC9.c (by omega))
            · rw [e16, ix.1]; exact w15.map (w15.2.2.2.2.1 _ (by omega))
            · rw [e16, e15]; exact (bτ.cell (by decide)).cell (by decide)
      exact ⟨hp_n (16 - 0) + 1, key _ 0 σ3 (by decide) (by decide) (gC9.refl σ3) w3 b3 (by omega)⟩
  unfold wM_X6_endFirst
  refine ⟨li, fun q eq => ?_⟩
  subst eq
  exact ⟨qi, qi, fun _ => h27 0, fun _ => h27 1⟩
/-- the second side of the top level ends, and the level with it -/
theorem qM_endSecond {L : Int32} {fr s t : Nat} (h : jW σ fr s t) (hs60 : s - fr ≤ 60) (hL : L = σ 0 26 - 1) (hp : ¬ σ 0 26 ≤ 0) (ht : t ≤ (σ 0 9).toNatClampNeg) (hz : σ 16 L.toNatClampNeg ≠ 0) (hP : ∀ σ', gK9 σ σ' → rem (σ' 16) (σ' 0 26).toNatClampNeg + 48 = rem (σ 16) (σ 0 26).toNatClampNeg → jW σ' fr s t → P σ') : wM_X6_endSecond L σ P := by
  obtain ⟨wL, wS, wJ, ⟨k, hb, hk⟩, wt, w13⟩ := id h
  have hx := wL.1
  have n60 := hx.1.2
  have hlv := wS.lv hx ht
  obtain ⟨lt, l0, li⟩ := hlv.top hp
  rw [← hL] at lt l0 li
  have l8 : L.toNatClampNeg < 8 := hg_lt li
  obtain ⟨-, -, -, -, -, f6⟩ := wS.2.1 L.toNatClampNeg (by omega)
  have remk : rem (σ 16) (σ 0 26).toNatClampNeg = rem (σ 16) L.toNatClampNeg + 48 := by
    have e : (if σ 16 L.toNatClampNeg = 0 then 6 else 0) = 0 := if_neg hz
    rw [← lt]
    show rem (σ 16) L.toNatClampNeg + 48 + (if σ 16 L.toNatClampNeg = 0 then 6 else 0) = rem (σ 16) L.toNatClampNeg + 48
    omega
  have k3 : k + 48 ≤ 3720 := by omega
  unfold wM_X6_endSecond
  refine ⟨li, fun σ1 e1 σ2 e2 => ⟨li, ?_⟩⟩
  have c2 : ∀ q, q ≠ 0 → σ2 q = σ q := fun q a0 => by rw [e2, hg_set_ne a0, e1, hg_set_ne a0]
  have y2 : ∀ i, i ≠ 24 → i ≠ 26 → σ2 0 i = σ 0 i := fun i a b => by rw [e2, hs_ne b, e1, hs_ne a]
  have f26 : σ2 0 26 = L := by rw [e2, hs_me, e1, hs_ne (by decide), hL]
  have w2 : jL σ2 := by rw [e2, e1]; exact wL.now.sides
  have b2 : bud σ2 k := hb.of (y2 20 (by decide) (by decide)) (y2 21 (by decide) (by decide))
  have g2 : gK9 σ σ2 := by rw [e2, e1]; exact (gK9.o (by omega)).trans (gK9.o (by omega))
  have fin : ∀ (τ : hg_M) (k' : Nat), gK9 σ τ → jL τ → bud τ k' → k' ≤ k + 48 → τ 0 26 = L → (∀ q, q = 15 ∨ q = 16 ∨ q = 17 ∨ q = 20 → τ q = σ q) → (∀ j, j < (σ 0 20).toNatClampNeg → τ 12 (6 * j) = σ 12 (6 * j)) → (σ 0 20).toNatClampNeg ≤ (τ 0 20).toNatClampNeg → tl (τ 12) (τ 0 20).toNatClampNeg = tl (σ 12) (σ 0 20).toNatClampNeg → (∀ i, i < (τ 0 20).toNatClampNeg → (i < (σ 0 20).toNatClampNeg ∧ ((∀ j, j < 6 → τ 12 (6 * i + j) = σ 12 (6 * i + j)) ∧ ¬ pn σ L.toNatClampNeg i)) ∨ jk (τ 12) (τ 0 20).toNatClampNeg i) → P τ := by
    intro τ k' gk wτ bτ hk' e26 c4 kin nn htl hst
    have cx : ∀ q, q = 5 ∨ q = 8 ∨ q = 9 ∨ q = 13 → τ q = σ q := fun q hq => gk.1 q (by omega)
    have gm : gM L.toNatClampNeg σ τ := ⟨⟨cx 5 (by omega), cx 8 (by omega), cx 9 (by omega)⟩, fun i hi => ⟨by rw [c4 15 (by omega)], by rw [c4 16 (by omega)], by rw [c4 17 (by omega)], by rw [c4 20 (by omega)]⟩, kin, nn⟩
    have low := wS.low gm (by omega)
    refine hP τ gk (by rw [remk, e26, c4 16 (by omega)]) ⟨wτ, ⟨by rw [e26]; exact l0, by rw [e26]; exact low.1, by rw [e26]; exact low.2⟩, fun i hi => ?_, ⟨k', bτ, ?_⟩, by rw [htl]; exact wt, by rw [cx 13 (by omega)]; exact w13⟩
    · rcases hst i hi with ⟨il, same, np⟩ | p
      · rcases wJ i il with p | ⟨L', hL', p⟩
        · exact Or.inl ((p.congr same).mono nn)
        · have : L' ≠ L.toNatClampNeg := fun e => np (e ▸ p)
          exact Or.inr ⟨L', by rw [e26]; omega, p.of gm (by omega) il⟩
      · exact Or.inl p
    · rw [e26, c4 16 (by omega)]; omega
  have n2 : (σ2 0 20).toNatClampNeg = (σ 0 20).toNatClampNeg := by rw [y2 20 (by decide) (by decide)]
  have q12 : σ2 12 = σ 12 := c2 12 (by decide)
  have out : ∀ (τ : hg_M) (k' : Nat), gC9 σ2 τ → jL τ → bud τ k' → k' ≤ k + 48 → (∀ i, ¬ pn σ L.toNatClampNeg i) → P τ := by
    intro τ k' gc wτ bτ hk' np
    refine fin τ k' (g2.trans gc.2.2.2.2.2) wτ bτ hk' (by rw [gc.2.1 26 (by decide) (by decide) (by decide), f26]) (fun q hq => by rw [gc.1 q (by omega), c2 q (by omega)]) (fun j hj => by rw [gc.2.2.2.1 _ (by rw [n2]; omega), q12]) (by rw [← n2]; exact gc.2.2.1) (by rw [gc.tl, n2, q12]) (fun i hi => ?_)
    by_cases il : i < (σ 0 20).toNatClampNeg
    · left
      exact ⟨il, fun j hj => by rw [gc.2.2.2.1 _ (by rw [n2]; omega), q12], np i⟩
    · right
      have := gc.2.2.2.2.1 i (by rw [n2]; omega) hi
      exact ⟨fun e => absurd e this.1, fun e => absurd e this.2.1⟩
  rw [c2 17 (by decide), c2 20 (by decide)]
  refine ⟨fun hm => ?_, fun hm => ⟨li, fun e9 => ?_, fun hj => ⟨li, ?_⟩⟩⟩
  · have np : ∀ i, ¬ pn σ L.toNatClampNeg i := fun i p => hm p.1
    have lv2 : lv σ2 := ⟨by rw [f26]; exact l0, by rw [f26]; omega⟩
    have key2 : ∀ n (v : Int32) (τ : hg_M), 0 ≤ v → v ≤ 16 → gC9 σ2 τ → jL τ → bud τ (k + 32 + v.toNatClampNeg) → hp_n (16 - v) < n → lM_X6_endSecond_162 P n v τ := by
      intro n
      induction n with
      | zero => intro v τ _ _ _ _ _ h; omega
      | succ n ih =>
        intro v τ v0 v16 gc wτ bτ hn
        rw [lM_X6_endSecond_162]
        have vt16 : v.toNatClampNeg ≤ 16 := by have := (hm_le v0 (by decide)).mp v16; rw [tn16] at this; exact this
        refine ⟨fun _ => out τ _ gc wτ bτ (by omega) np, fun hl => ?_⟩
        have vi := hp_16 v0 (by grind)
        have vt : v.toNatClampNeg < 16 := hg_lt vi
        have h200 : ∀ τ2, gC9 σ2 τ2 → jL τ2 → bud τ2 (k + 32 + v.toNatClampNeg + 1) → bM_X6_endSecond_200 P (fun k0 k1 => lM_X6_endSecond_162 P n k0 k1) v τ2 := by
          intro τ2 gc2 wt2 bt2
          unfold bM_X6_endSecond_200
          intro v17 ev
          have es := hm_add (N := 100) (s := v) (k := 1) v0 (by decide) (by rw [tn1]; omega) (by omega)
          rw [tn1, ← ev] at es
          have hlt := hp_n_lt (a := v) (b := v17) (c := 16) v0 (by grind) (by grind)
          exact ih v17 τ2 (by grind) (by grind) gc2 wt2 (by rw [es.1]; exact bt2) (by omega)
        refine ⟨vi, fun _ => h200 τ gc wτ (bτ.mono (by omega)), fun _ => ⟨vi, ?_⟩⟩
        refine qM_em wτ bτ (by omega) (k1 ⟨v0, by grind⟩ (wτ.2.1 _ vt)) (by decide) (fun r15 σ14 w14 b14 g14 _ _ => ⟨vi, fun σ16 e16 => ?_⟩)
        rw [e16]
        exact h200 _ ((gc.trans g14.C).trans (gC9.c (by omega))) (w14.map ⟨v0, by grind⟩) (b14.cell (by decide))
    have key1 : ∀ n (v : Int32) (τ : hg_M), 0 ≤ v → v ≤ 16 → gC9 σ2 τ → jL τ → bud τ (k + 2 * v.toNatClampNeg) → hp_n (16 - v) < n → lM_X6_endSecond_62 P n L v τ := by
      intro n
      induction n with
      | zero => intro v τ _ _ _ _ _ h; omega
      | succ n ih =>
        intro v τ v0 v16 gc wτ bτ hn
        rw [lM_X6_endSecond_62]
        have vt16 : v.toNatClampNeg ≤ 16 := by have := (hm_le v0 (by decide)).mp v16; rw [tn16] at this; exact this
        have lvt : lv τ := by unfold lv; rw [gc.2.1 26 (by decide) (by decide) (by decide)]; exact lv2
        refine ⟨fun _ => qM_isOnSide lvt ⟨fun h => absurd rfl h, fun _ => ?_⟩ (fun _ => ⟨fun _ => ?_, fun h => absurd h (by decide)⟩), fun hl => ?_⟩
        · exact ⟨hp_n (16 - 0) + 1, key2 _ 0 τ (by decide) (by decide) gc wτ (bτ.mono (by rw [tn0]; omega)) (by omega)⟩
        · exact out τ _ gc wτ bτ (by omega) np
        · have vi := hp_16 v0 (by grind)
          have vt : v.toNatClampNeg < 16 := hg_lt vi
          have ix := hm16 l0 l8 v0 (by grind)
          have h147 : ∀ τ2, gC9 σ2 τ2 → jL τ2 → bud τ2 (k + 2 * v.toNatClampNeg + 2) → bM_X6_endSecond_147 P (fun k0 k1 k2 => lM_X6_endSecond_62 P n k0 k1 k2) L v τ2 := by
            intro τ2 gc2 wt2 bt2
            unfold bM_X6_endSecond_147
            intro v17 ev
            have es := hm_add (N := 100) (s := v) (k := 1) v0 (by decide) (by rw [tn1]; omega) (by omega)
            rw [tn1, ← ev] at es
            have hlt := hp_n_lt (a := v) (b := v17) (c := 16) v0 (by grind) (by grind)
            exact ih v17 τ2 (by grind) (by grind) gc2 wt2 (bt2.mono (by rw [es.1]; omega)) (by omega)
          have h110 : ∀ x, rg x → bM_X6_endSecond_110 P (fun k0 k1 k2 => lM_X6_endSecond_62 P n k0 k1 k2) L v x τ := by
            intro x hxr
            unfold bM_X6_endSecond_110
            refine qM_fresh1 wτ bτ (by omega) (fun r10 σ9 h10 w9 b9 g9 _ => ⟨li, vi, ?_⟩)
            refine qM_em w9 b9 (by omega) (k13 h10 (w9.2.2.1 _ l8) hxr (w9.2.1 _ vt)) (by decide) (fun r12 σ11 w11 b11 g11 _ _ => ⟨vi, fun σ13 e13 => ?_⟩)
            rw [e13]
            exact h147 _ (((gc.trans g9.C).trans g11.C).trans (gC9.c (by omega))) (w11.map h10) (b11.cell (by decide))
          refine ⟨ix.2, fun v6 e6 => ⟨ix.2, fun v7 e7 => ⟨fun _ => ?_, fun _ => ⟨vi, fun _ => h147 τ gc wτ (bτ.mono (by omega)), fun _ => ?_⟩⟩⟩⟩
          · exact h110 v6 (by rw [e6, ix.1]; exact wτ.2.2.2.2.2.1 _ (by omega))
          · exact h110 v6 (by rw [e6, ix.1]; exact wτ.2.2.2.2.2.1 _ (by omega))
    exact ⟨hp_n (16 - 0) + 1, key1 _ 0 σ2 (by decide) (by decide) (gC9.refl σ2) w2 (by rw [tn0]; exact b2) (by omega)⟩
  · unfold bM_X6_endSecond_59
    exact out σ2 k (gC9.refl σ2) w2 b2 (by omega) (fun i p => by have := p.2.1; rw [e9] at this; exact absurd this (by decide))
  · obtain ⟨j0, j1, j2⟩ := ((f6 hm).2 hz).resolve_left hj
    have ix := hm6 (j := σ 20 L.toNatClampNeg) tn1 (by decide) (by omega) j0 (by have := hb.1.2; omega)
    refine ⟨ix.2, fun σ3 e3 => ?_⟩
    rw [ix.1, y2 20 (by decide) (by decide)] at e3
    have jk2 : σ2 12 (6 * (σ 20 L.toNatClampNeg).toNatClampNeg) = 16 := by rw [q12]; exact j2
    have c3 : ∀ q, q ≠ 12 → σ3 q = σ2 q := fun q hq => by rw [e3, hg_set_ne hq]
    have y3 : ∀ i, σ3 0 i = σ2 0 i := fun i => by rw [c3 0 (by decide)]
    have d12 : ∀ a, σ3 12 a = if a = 6 * (σ 20 L.toNatClampNeg).toNatClampNeg + 1 then σ 0 20 else σ 12 a := fun a => by rw [e3, hs_eq, q12]
    have k12 : ∀ i, σ3 12 (6 * i) = σ 12 (6 * i) := fun i => by rw [d12, if_neg (by omega)]
    unfold bM_X6_endSecond_59
    refine fin σ3 k (g2.trans (by rw [e3]; exact gK9.c (by omega))) (by rw [e3]; exact w2.patch (by rw [n2]; exact j1) (Or.inl ⟨rfl, jk2⟩)) (b2.of (y3 20) (y3 21)) (by omega) (by rw [y3, f26]) (fun q hq => by rw [c3 q (by omega), c2 q (by omega)]) (fun j _ => k12 j) (by rw [y3, n2]; exact Nat.le_refl _) (by rw [y3, n2, tl_congr (g := σ 12) _ (fun i _ => k12 i)]) (fun i hi => ?_)
    rw [y3, n2] at hi
    by_cases ej : i = (σ 20 L.toNatClampNeg).toNatClampNeg
    · right
      subst ej
      unfold jk
      rw [k12, j2, d12, if_pos rfl, y3, n2]
      exact ⟨fun _ => ⟨hb.1.1, j1, Nat.le_refl _⟩, fun e => absurd e (by decide)⟩
    · left
      exact ⟨hi, fun j hj2 => by rw [d12, if_neg (by omega)], fun p => ej p.2.2.1.symm⟩
end MD
