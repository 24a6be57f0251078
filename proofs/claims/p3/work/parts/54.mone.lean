/-! THE REFERENCE: statements lowered that are no tests. -/
/-- steps are added, no jump among them, one TELL at most -/
def gF9 (σ σ' : hg_M) : Prop := (∀ q, q ≠ 0 → q ≠ 12 → q ≠ 14 → σ' q = σ q) ∧ (∀ i, i ≠ 20 → i ≠ 21 → i ≠ 24 → σ' 0 i = σ 0 i) ∧ (σ 0 20).toNatClampNeg ≤ (σ' 0 20).toNatClampNeg ∧ (∀ j, j < 6 * (σ 0 20).toNatClampNeg → σ' 12 j = σ 12 j) ∧ (∀ i, (σ 0 20).toNatClampNeg ≤ i → i < (σ' 0 20).toNatClampNeg → σ' 12 (6 * i) ≠ 16 ∧ σ' 12 (6 * i) ≠ 17) ∧ tl (σ' 12) (σ' 0 20).toNatClampNeg ≤ tl (σ 12) (σ 0 20).toNatClampNeg + 1
theorem tl_none {f : Nat → Int32} {a : Nat} : ∀ n, (∀ i, a ≤ i → i < a + n → f (6 * i) ≠ 18) → tl f (a + n) = tl f a
  | 0, _ => rfl
  | n + 1, h => by
    show tl f (a + n) + (if f (6 * (a + n)) = 18 then 1 else 0) = _
    rw [if_neg (h (a + n) (by omega) (by omega)), tl_none n (fun i h1 h2 => h i h1 (by omega))]
    rfl
theorem gE.tl {a b : hg_M} (g : gE a b) : tl (b 12) (b 0 20).toNatClampNeg = tl (a 12) (a 0 20).toNatClampNeg := by
  obtain ⟨g1, g2, g3, g4, g5⟩ := g
  obtain ⟨m, hm⟩ : ∃ m, (b 0 20).toNatClampNeg = (a 0 20).toNatClampNeg + m := ⟨(b 0 20).toNatClampNeg - (a 0 20).toNatClampNeg, by omega⟩
  rw [hm, tl_none m (fun i h1 h2 => (g5 i h1 (by omega)).2.2)]
  exact tl_congr _ (fun i hi => g4 _ (by omega))
theorem gE.F {a b : hg_M} (g : gE a b) : gF9 a b := ⟨g.1, g.2.1, g.2.2.1, g.2.2.2.1, fun i h1 h2 => ⟨(g.2.2.2.2 i h1 h2).1, (g.2.2.2.2 i h1 h2).2.1⟩, by rw [g.tl]; omega⟩
theorem gE.F2 {a b c : hg_M} (h : gE a b) (g : gF9 b c) : gF9 a c := by
  have e := h.tl
  obtain ⟨h1, h2, h3, h4, h5⟩ := h
  obtain ⟨g1, g2, g3, g4, g5, g6⟩ := g
  refine ⟨fun q a1 a2 a3 => (g1 q a1 a2 a3).trans (h1 q a1 a2 a3), fun i a1 a2 a3 => (g2 i a1 a2 a3).trans (h2 i a1 a2 a3), by omega, fun j hj => (g4 j (by omega)).trans (h4 j hj), fun i i1 i2 => ?_, by omega⟩
  by_cases e : i < (b 0 20).toNatClampNeg
  · rw [g4 (6 * i) (by omega)]; exact ⟨(h5 i i1 e).1, (h5 i i1 e).2.1⟩
  · exact g5 i (by omega) i2
section MO
variable {σ : hg_M} {P : hg_M → Prop}
theorem qM_lowerSet {s : Int32} {k : Nat} (h : jL σ) (hb : bud σ k) (hk : k + 2 ≤ 3990) (hl : lv σ) (s0 : 0 ≤ s) (s1 : s < 60) (hP : ∀ σ', jL σ' → bud σ' (k + 2) → gE σ σ' → P σ') : wM_X6_lowerSet s σ P := by
  have st : s.toNatClampNeg < 60 := hg_lt (hp_60 s0 s1)
  have he := h.1.2.1 s.toNatClampNeg st
  have vi := hp_16 he.1.1 he.1.2
  unfold wM_X6_lowerSet
  refine qM_of s0 s1 (by decide) (by decide) ?_
  rw [tn3]
  have h52a : bM_X6_lowerSet_52 P s 0 σ := by
    unfold bM_X6_lowerSet_52 bM_X6_lowerSet_106
    refine ⟨fun _ => qM_target h hb (by omega) hl s0 s1 (fun r σ1 hr w1 b1 g1 => qM_of s0 s1 (by decide) (by decide) (qM_em w1 b1 (by omega) (k0 hr) (by decide) (fun r4 σ3 w3 b3 g3 _ _ => hP σ3 w3 b3 (g1.trans g3)))), fun h => absurd rfl h⟩
  refine ⟨fun _ => ?_, fun e1 => ?_⟩
  · unfold bM_X6_lowerSet_15
    exact ⟨fun _ => h52a, fun h => absurd rfl h⟩
  · have hv := he.2.2.1 e1
    have wi := hp_16 hv.1 hv.2
    unfold bM_X6_lowerSet_15
    refine ⟨fun h => absurd h (by decide), fun _ => qM_isOnSide hl ⟨fun _ => ?_, fun h => absurd rfl h⟩ (fun _ => ⟨fun h => absurd h (by decide), fun _ => ?_⟩)⟩
    · unfold bM_X6_lowerSet_52 bM_X6_lowerSet_106
      refine ⟨fun h => absurd h (by decide), fun _ => qM_of s0 s1 (by decide) (by decide) (qM_of s0 s1 (by decide) (by decide) ?_)⟩
      rw [tn1, tn4]
      exact ⟨wi, qM_em h hb (by omega) (k1 ⟨he.1.1, by have := he.1.2; grind⟩ (h.2.1 _ (hg_lt wi))) (by decide) (fun r4 σ3 w3 b3 g3 _ _ => hP σ3 w3 (b3.mono (by omega)) g3)⟩
    · refine qM_of s0 s1 (by decide) (by decide) (qM_of s0 s1 (by decide) (by decide) ?_)
      rw [tn1, tn4]
      refine ⟨wi, vi, fun σ9 e9 => ?_⟩
      unfold bM_X6_lowerSet_106
      subst e9
      exact hP _ (h.map (h.2.1 _ (hg_lt wi))) (hb.map.mono (by omega)) gE.map
theorem qM_lowerStore {s a b : Int32} {k : Nat} (h : jL σ) (hb : bud σ k) (hk : k + 9 ≤ 3990) (hl : lv σ) (s0 : 0 ≤ s) (s1 : s < 60) (ha : rg a) (hbb : rg b) (hP : ∀ σ', jL σ' → bud σ' (k + 9) → gE σ σ' → P σ') : wM_X6_lowerStore s a b σ P := by
  have h90 : ∀ x y σ1 k1, rg x → rg y → jL σ1 → bud σ1 k1 → k1 + 1 ≤ k + 9 → gE σ σ1 → bM_X6_lowerStore_90 P x y σ1 := by
    intro x y σ1 k1 hx hy w1 b1 hk1 g1
    unfold bM_X6_lowerStore_90
    exact qM_em w1 b1 (by omega) (k15 hx hy) (by decide) (fun r4 σ3 w3 b3 g3 _ _ => hP σ3 w3 (b3.mono hk1) (g1.trans g3))
  have h33 : ∀ x σ1, ¬ σ 0 26 ≤ 0 → rg x → jL σ1 → bud σ1 (k + 4) → gE σ σ1 → bM_X6_lowerStore_33 P b x σ1 := by
    intro x σ1 hp hx w1 b1 g1
    unfold bM_X6_lowerStore_33
    refine qM_fresh1 w1 b1 (by omega) (fun r2 σ2 h2 w2 b2 g2 m2 => qM_em w2 b2 (by omega) (k14 h2 hx) (by decide) (fun r3 σ3 w3 b3 g3 _ _ => qM_fresh1 w3 b3 (by omega) (fun r4 σ4 h4 w4 b4 g4 m4 => ?_)))
    have e : σ4 0 26 = σ 0 26 := (((g1.trans g2).trans g3).trans g4).2.1 26 (by decide) (by decide) (by decide)
    rw [e]
    have li := (hl.top hp).2.2
    exact ⟨li, qM_em w4 b4 (by omega) (k13 h4 (w4.2.2.2.1 _ (hg_lt li)) hbb h2) (by decide) (fun r5 σ5 w5 b5 g5 _ _ => h90 x r4 σ5 _ hx h4 w5 b5 (by omega) ((((g1.trans g2).trans g3).trans g4).trans g5))⟩
  unfold wM_X6_lowerStore
  refine qM_isOnSide hl ⟨fun _ => h90 a b σ k ha hbb h hb (by omega) (gE.refl σ), fun h => absurd rfl h⟩ (fun hp => ⟨fun h => absurd h (by decide), fun _ => qM_isPlainIndex s0 s1 ⟨fun _ => ?_, fun h => absurd rfl h⟩ ⟨fun h => absurd h (by decide), fun _ => ?_⟩⟩)
  · exact qM_harmless h hb (by omega) hl hp ha (fun r σ1 hr w1 b1 g1 _ => h33 r σ1 hp hr w1 b1 g1)
  · exact h33 a σ hp ha h (hb.mono (by omega)) (gE.refl σ)
/-- a statement: a test (given as T), or something else -/
theorem qM_lowerOne {s : Int32} {k : Nat} (h : jL σ) (hb : bud σ k) (hk : k + 13 ≤ 3990) (hl : lv σ) (s0 : 0 ≤ s) (s1 : s < 60) (hT : wM_X6_beginTest s (hg_set σ 0 24 s) P) (hP : ∀ σ', jL σ' → bud σ' (k + 13) → gF9 σ σ' → P σ') : wM_X6_lowerOne s σ P := by
  have st : s.toNatClampNeg < 60 := hg_lt (hp_60 s0 s1)
  unfold wM_X6_lowerOne
  intro σ1 e1
  have w1 : jL σ1 := by rw [e1]; exact h.now
  have b1 : bud σ1 k := by rw [e1]; exact hb.now
  have g1 : gE σ σ1 := by rw [e1]; exact gE.now
  have l1 := hl.of g1
  have hE : ∀ σ' k', jL σ' → bud σ' k' → k' ≤ k + 13 → gE σ1 σ' → bM_X6_lowerOne_271 P σ' := fun σ' k' w b e g => hP σ' w (b.mono e) (g1.trans g).F
  have he := w1.1.2.1 s.toNatClampNeg st
  refine qM_of s0 s1 (by decide) (by decide) ⟨fun _ => ?_, fun _ => ?_, fun _ => ?_, fun _ => ?_, fun _ => ?_, fun _ => ?_⟩
  · rw [e1]; exact hT
  · exact qM_lowerSet w1 b1 (by omega) l1 s0 s1 (fun σ2 w2 b2 g2 => hE σ2 _ w2 b2 (by omega) g2)
  · refine qM_value w1 b1 (by omega) s0 s1 (by decide) (fun ra σ2 hra w2 b2 g2 _ => qM_value w2 b2 (by omega) s0 s1 (by decide) (fun rb σ3 hrb w3 b3 g3 _ => ?_))
    have G3 := g2.trans g3
    have h136 : ∀ x σ4 k4, rg x → jL σ4 → bud σ4 k4 → k4 + 2 ≤ k + 13 → gE σ1 σ4 → bM_X6_lowerOne_136 P s ra x σ4 := by
      intro x σ4 k4 hx w4 b4 hk4 g4
      unfold bM_X6_lowerOne_136
      refine qM_target w4 b4 (by omega) (l1.of g4) s0 s1 (fun rd σ5 hrd w5 b5 g5 => qM_of s0 s1 (by decide) (by decide) ?_)
      have op := (w5.1.2.1 s.toNatClampNeg st).2.1
      rw [tn2]
      exact qM_em w5 b5 (by omega) (kop op.1 op.2 hrd hra hx) ⟨by have := op.2; grind, by have := op.2; grind, by have := op.2; grind⟩ (fun r6 σ6 w6 b6 g6 _ _ => hE σ6 _ w6 b6 (by omega) ((g4.trans g5).trans g6))
    have h112 : ∀ t, bM_X6_lowerOne_112 P s ra rb t σ3 := by
      intro t
      unfold bM_X6_lowerOne_112 bM_X6_lowerOne_135
      exact qM_isOnSide (l1.of G3) ⟨fun _ => h136 rb σ3 _ hrb w3 b3 (by omega) G3, fun h => absurd rfl h⟩ (fun hp => ⟨fun h => absurd h (by decide), fun _ => ⟨fun _ => h136 rb σ3 _ hrb w3 b3 (by omega) G3, fun _ => qM_harmless w3 b3 (by omega) (l1.of G3) hp hrb (fun r4 σ4 h4 w4 b4 g4 _ => h136 r4 σ4 _ h4 w4 b4 (by omega) (G3.trans g4))⟩⟩)
    have h111 : bM_X6_lowerOne_111 P s ra rb σ3 := h112 0
    have h107 : bM_X6_lowerOne_107 P s ra rb σ3 := h112 1
    have h87 : bM_X6_lowerOne_87 P s ra rb σ3 := by
      unfold bM_X6_lowerOne_87
      exact qM_of s0 s1 (by decide) (by decide) ⟨fun _ => h107, fun _ => qM_of s0 s1 (by decide) (by decide) ⟨fun _ => h111, fun _ => h107⟩⟩
    exact qM_of s0 s1 (by decide) (by decide) ⟨fun _ => h87, fun _ => qM_of s0 s1 (by decide) (by decide) ⟨fun _ => h111, fun _ => h87⟩⟩
  · refine qM_value w1 b1 (by omega) s0 s1 (by decide) (fun ra σ2 hra w2 b2 g2 _ => ?_)
    have h196 : ∀ x σ4 k4, rg x → jL σ4 → bud σ4 k4 → k4 + 2 ≤ k + 13 → gE σ1 σ4 → bM_X6_lowerOne_196 P s x σ4 := by
      intro x σ4 k4 hx w4 b4 hk4 g4
      unfold bM_X6_lowerOne_196
      exact qM_target w4 b4 (by omega) (l1.of g4) s0 s1 (fun rd σ5 hrd w5 b5 g5 => qM_em w5 b5 (by omega) (k14 hrd hx) (by decide) (fun r6 σ6 w6 b6 g6 _ _ => hE σ6 _ w6 b6 (by omega) ((g4.trans g5).trans g6)))
    have h195 : bM_X6_lowerOne_195 P s ra σ2 := h196 ra σ2 _ hra w2 b2 (by omega) g2
    exact qM_isOnSide (l1.of g2) ⟨fun _ => h195, fun h => absurd rfl h⟩ (fun hp => ⟨fun h => absurd h (by decide), fun _ => qM_isPlainIndex s0 s1 ⟨fun h => absurd rfl h, fun _ => qM_harmless w2 b2 (by omega) (l1.of g2) hp hra (fun r4 σ4 h4 w4 b4 g4 _ => h196 r4 σ4 _ h4 w4 b4 (by omega) (g2.trans g4))⟩ ⟨fun _ => h195, fun h => absurd h (by decide)⟩⟩)
  · exact qM_value w1 b1 (by omega) s0 s1 (by decide) (fun ra σ2 hra w2 b2 g2 _ => qM_value w2 b2 (by omega) s0 s1 (by decide) (fun rb σ3 hrb w3 b3 g3 _ => qM_lowerStore w3 b3 (by omega) (l1.of (g2.trans g3)) s0 s1 hra hrb (fun σ4 w4 b4 g4 => hE σ4 _ w4 b4 (by omega) ((g2.trans g3).trans g4))))
  · refine qM_value w1 b1 (by omega) s0 s1 (by decide) (fun ra σ2 hra w2 b2 g2 _ => ?_)
    unfold bM_X6_lowerOne_271
    refine qM_emit b2 (by omega) (fun σ' c y f20 n1 b o nw => hP σ' (w2.add (k18 hra) c y n1 o nw) (b.mono (by omega)) ((g1.trans g2).F2 ⟨fun q a0 a12 _ => c q a0 a12, fun i h20 _ _ => y i h20, by omega, o, fun i i1 i2 => ?_, ?_⟩))
    · have : i = (σ2 0 20).toNatClampNeg := by omega
      subst this
      rw [nw.1]; decide
    · rw [n1]
      show tl (σ' 12) _ + _ ≤ _
      rw [tl_congr (g := σ2 12) _ (fun i hi => o _ (by omega))]
      split <;> omega
end MO
