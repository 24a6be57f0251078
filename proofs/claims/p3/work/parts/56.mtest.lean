/-! THE REFERENCE: a test begins, its sides end. -/
section MT
variable {σ : hg_M} {P : hg_M → Prop}
theorem hm16 {L v : Int32} (l0 : 0 ≤ L) (l8 : L.toNatClampNeg < 8) (v0 : 0 ≤ v) (v1 : v < 16) : (16 * L + v).toNatClampNeg = 16 * L.toNatClampNeg + v.toNatClampNeg ∧ vp_in (16 * L + v) 128 := by
  have b := (hm_lt v0 (by decide)).mp v1
  rw [tn16] at b
  have r := hm_lin (a := 16) (A := 16) (N := 128) (by decide) l0 v0 (by omega) (by omega) (by omega)
  exact ⟨r.1, r.2.2⟩
theorem hm6 {j : Int32} {c : Int32} {m : Nat} (hc : c.toNatClampNeg = m) (c0 : 0 ≤ c) (hm : m < 6) (j0 : 0 ≤ j) (j1 : j.toNatClampNeg < 4000) : (6 * j + c).toNatClampNeg = 6 * j.toNatClampNeg + m ∧ vp_in (6 * j + c) 24000 := by
  have r := hm_lin (a := 6) (A := 6) (N := 24000) (by decide) j0 c0 (by rw [hc]; omega) (by omega) (by omega)
  rw [hc] at r
  exact ⟨r.1, r.2.2⟩
/-- the new level: what it needs of those below -/
theorem jS.inner {s t : Nat} (h : jS σ s t) (hx : xOK σ) (hst : s < t) (ht : t ≤ (σ 0 9).toNatClampNeg) (htop : ∀ i, i + 1 = (σ 0 26).toNatClampNeg → s ≠ ce σ i) : (σ 0 26).toNatClampNeg ≤ (σ 5 (9 * s + 7)).toNatClampNeg ∧ ∀ i, i + 1 = (σ 0 26).toNatClampNeg → (σ 9 s).toNatClampNeg ≤ ce σ i := by
  have key : ∀ i, i + 1 = (σ 0 26).toNatClampNeg → (σ 9 s).toNatClampNeg ≤ ce σ i ∧ i < (σ 5 (9 * s + 7)).toNatClampNeg := by
    intro i hi
    have nx := h.next hst hx ht htop i (by omega)
    obtain ⟨⟨a1, a2, a3⟩, h2, h3, h4, h5, -⟩ := h.2.1 i (by omega)
    have n2 := hx.in (Nat.lt_of_lt_of_le a3 ht) a2 (by omega)
    unfold ce at nx ⊢
    by_cases e : σ 16 i = 0
    · rw [if_pos e] at nx ⊢
      have := n2.1 nx
      exact ⟨this.1, by have := this.2; omega⟩
    · rw [if_neg e] at nx ⊢
      have := n2.2 (h4 e) nx
      exact ⟨this.1, by have := this.2; omega⟩
  refine ⟨?_, fun i hi => (key i hi).1⟩
  by_cases e : (σ 0 26).toNatClampNeg = 0
  · omega
  · have := (key ((σ 0 26).toNatClampNeg - 1) (by omega)).2
    omega
theorem qM_beginTest {s : Int32} {fr t : Nat} (h : jW σ fr s.toNatClampNeg t) (s0 : 0 ≤ s) (s1 : s < 60) (hst : s.toNatClampNeg < t) (hfr : fr ≤ s.toNatClampNeg) (ht : t ≤ (σ 0 9).toNatClampNeg) (htop : ∀ i, i + 1 = (σ 0 26).toNatClampNeg → s.toNatClampNeg ≠ ce σ i) (hS : (σ 9 s.toNatClampNeg).toNatClampNeg ≤ t) (hP : ∀ σ', gK9 σ σ' → jW σ' fr (s.toNatClampNeg + 1) t → P σ') : wM_X6_beginTest s σ P := by
  obtain ⟨wL, wS, wJ, ⟨k, hb, hk⟩, wt, w13⟩ := id h
  have st : s.toNatClampNeg < 60 := hg_lt (hp_60 s0 s1)
  have si := hp_60 s0 s1
  have hx := wL.1
  have n60 := hx.1.2
  have hlv := wS.lv hx ht
  have inn := wS.inner hx hst ht htop
  have nxt := wS.next hst hx ht htop
  have nF := hx.at (q := s.toNatClampNeg) (by omega)
  have k3 : k ≤ 3720 := by omega
  unfold wM_X6_beginTest
  refine qM_value wL hb (by omega) s0 s1 (by decide) (fun r2 σ1 h2 w1 b1 g1 _ => qM_value w1 b1 (by omega) s0 s1 (by decide) (fun r4 σ3 h4 w3 b3 g3 _ => qM_fresh1 w3 b3 (by omega) (fun r6 σ5 h6 w5 b5 g5 _ => qM_of s0 s1 (by decide) (by decide) ?_)))
  have op := (w5.1.2.1 s.toNatClampNeg st).2.1
  rw [tn2]
  refine qM_em w5 b5 (by omega) (kop op.1 op.2 h6 h2 h4) ⟨by have := op.2; grind, by have := op.2; grind, by have := op.2; grind⟩ (fun r10 σ9 w9 b9 g9 _ _ L eL => ?_)
  have G9 := ((g1.trans g3).trans g5).trans g9
  have e26 : σ9 0 26 = σ 0 26 := G9.2.1 26 (by decide) (by decide) (by decide)
  rw [e26] at eL
  have l0 : 0 ≤ L := by rw [eL]; exact hlv.1
  have l8 : L.toNatClampNeg < 8 := by rw [eL]; have := hlv.2; omega
  have li : vp_in L 8 := hm_in l0 l8
  have S9 := wS.F G9.F
  have J9 := wJ.F G9.F
  have eLn : (σ9 0 26).toNatClampNeg = L.toNatClampNeg := by rw [e26, eL]
  refine ⟨li, fun σ12 e12 => ⟨li, fun σ13 e13 => ⟨si, li, fun σ14 e14 => ⟨li, fun σ15 e15 => ⟨si, ?_⟩⟩⟩⟩⟩
  rw [nar0] at e13
  have c13 : σ13 13 = σ 13 := by rw [e13, hg_set_ne (by decide), e12, hg_set_ne (by decide)]; exact G9.1 13 (by decide) (by decide) (by decide)
  rw [c13] at e14
  have c15 : ∀ q, q ≠ 15 → q ≠ 16 → q ≠ 17 → q ≠ 18 → σ15 q = σ9 q := fun q a1 a2 a3 a4 => by rw [e15, hg_set_ne a4, e14, hg_set_ne a3, e13, hg_set_ne a2, e12, hg_set_ne a1]
  have d15 : ∀ i, σ15 15 i = if i = L.toNatClampNeg then s else σ9 15 i := fun i => by rw [e15, hg_set_ne (by decide), e14, hg_set_ne (by decide), e13, hg_set_ne (by decide), e12, hs_eq]
  have d16 : ∀ i, σ15 16 i = if i = L.toNatClampNeg then 0 else σ9 16 i := fun i => by rw [e15, hg_set_ne (by decide), e14, hg_set_ne (by decide), e13, hs_eq, e12, hg_set_ne (by decide)]
  have d17 : ∀ i, σ15 17 i = if i = L.toNatClampNeg then vp_nar .boolean (σ 13 s.toNatClampNeg) else σ9 17 i := fun i => by rw [e15, hg_set_ne (by decide), e14, hs_eq, e13, hg_set_ne (by decide), e12, hg_set_ne (by decide)]
  have w15 : jL σ15 := by
    rw [e15, e14, e13, e12]
    exact (((w9.cell (by omega)).cell (by omega)).cell (by omega)).reg (by omega) h6
  have b15 : bud σ15 (k + 6) := b9.of (by rw [c15 0 (by decide) (by decide) (by decide) (by decide)]) (by rw [c15 0 (by decide) (by decide) (by decide) (by decide)])
  -- the end: the new level stands
  have fin : ∀ (τ : hg_M) (k' : Nat), (∀ q, q ≠ 0 → q ≠ 12 → q ≠ 14 → q ≠ 19 → q ≠ 20 → q ≠ 21 → τ q = σ15 q) → (∀ i, i < L.toNatClampNeg → τ 20 i = σ9 20 i) → (∀ i, i ≠ 20 → i ≠ 21 → i ≠ 24 → τ 0 i = σ9 0 i) → (∀ j, j < 6 * (σ9 0 20).toNatClampNeg → τ 12 j = σ9 12 j) → (σ9 0 20).toNatClampNeg ≤ (τ 0 20).toNatClampNeg → jL τ → bud τ k' → k' ≤ k + 8 → tl (τ 12) (τ 0 20).toNatClampNeg = tl (σ9 12) (σ9 0 20).toNatClampNeg → (∀ i, (σ9 0 20).toNatClampNeg ≤ i → i < (τ 0 20).toNatClampNeg → jk (τ 12) (τ 0 20).toNatClampNeg i ∨ pn τ L.toNatClampNeg i) → (τ 17 L.toNatClampNeg = 0 → 0 ≤ τ 20 L.toNatClampNeg ∧ (τ 20 L.toNatClampNeg).toNatClampNeg < (τ 0 20).toNatClampNeg ∧ τ 12 (6 * (τ 20 L.toNatClampNeg).toNatClampNeg) = 17) → bM_X6_beginTest_174 P τ := by
    intro τ k' c d20 yt o n1 wt9 bt hk' htl hnew hjmp
    have f26 : τ 0 26 = σ9 0 26 := yt 26 (by decide) (by decide) (by decide)
    unfold bM_X6_beginTest_174
    intro σ24 e24
    have y24 : ∀ i, i ≠ 26 → σ24 0 i = τ 0 i := fun i hi => by rw [e24, hs_ne hi]
    have c24 : ∀ q, q ≠ 0 → σ24 q = τ q := fun q hq => by rw [e24, hg_set_ne hq]
    have f24 : σ24 0 26 = L + 1 := by rw [e24, hs_me, f26, e26, eL]
    have hl1 := hm_add (N := 100) (s := L) (k := 1) l0 (by decide) (by rw [tn1]; omega) (by omega)
    rw [tn1] at hl1
    have q5 : ∀ q, q = 5 ∨ q = 8 ∨ q = 9 → τ q = σ9 q := fun q hq => by rw [c q (by omega) (by omega) (by omega) (by omega) (by omega) (by omega), c15 q (by omega) (by omega) (by omega) (by omega)]
    have t15 : τ 15 L.toNatClampNeg = s := by rw [c 15 (by decide) (by decide) (by decide) (by decide) (by decide) (by decide), d15, if_pos rfl]
    have t16 : τ 16 L.toNatClampNeg = 0 := by rw [c 16 (by decide) (by decide) (by decide) (by decide) (by decide) (by decide), d16, if_pos rfl]
    have gm : gM L.toNatClampNeg σ9 σ24 := by
      refine ⟨⟨by rw [c24 5 (by decide)]; exact q5 5 (by omega), by rw [c24 8 (by decide)]; exact q5 8 (by omega), by rw [c24 9 (by decide)]; exact q5 9 (by omega)⟩, fun i hi => ⟨?_, ?_, ?_, ?_⟩, fun j hj => by rw [c24 12 (by decide)]; exact o _ (by omega), by rw [y24 20 (by decide)]; exact n1⟩
      · rw [c24 15 (by decide), c 15 (by decide) (by decide) (by decide) (by decide) (by decide) (by decide), d15, if_neg (by omega)]
      · rw [c24 16 (by decide), c 16 (by decide) (by decide) (by decide) (by decide) (by decide) (by decide), d16, if_neg (by omega)]
      · rw [c24 17 (by decide), c 17 (by decide) (by decide) (by decide) (by decide) (by decide) (by decide), d17, if_neg (by omega)]
      · rw [c24 20 (by decide)]; exact d20 i hi
    have low := S9.low gm (by rw [eLn]; exact Nat.le_refl _)
    have g5a : σ9 5 = σ 5 := G9.1 5 (by decide) (by decide) (by decide)
    have g8a : σ9 8 = σ 8 := G9.1 8 (by decide) (by decide) (by decide)
    have g9a : σ9 9 = σ 9 := G9.1 9 (by decide) (by decide) (by decide)
    have ceq : ∀ i, i < L.toNatClampNeg → ce σ24 i = ce σ i := fun i hi => (ce.of gm hi).trans (ce.of (G9.F.M (i + 1)) (by omega))
    have cnew : ce σ24 L.toNatClampNeg = (σ 8 s.toNatClampNeg).toNatClampNeg := by
      unfold ce
      rw [c24 16 (by decide), t16, if_pos rfl, c24 15 (by decide), t15, c24 8 (by decide), q5 8 (by omega), g8a]
    refine hP σ24 ⟨fun q hq => ?_, fun i a1 a2 a3 a4 => ?_⟩ ⟨?_, ⟨by rw [f24]; exact hl1.2.1, ?_, ?_⟩, ?_, ⟨k', bt.of (y24 20 (by decide)) (y24 21 (by decide)), ?_⟩, ?_, ?_⟩
    · rw [c24 q (by omega), c q (by omega) (by omega) (by omega) (by omega) (by omega) (by omega), c15 q (by omega) (by omega) (by omega) (by omega)]
      exact G9.1 q (by omega) (by omega) (by omega)
    · rw [y24 i a4, yt i a1 a2 a3]
      exact G9.2.1 i a1 a2 a3
    · rw [e24]; exact wt9.sides
    · rw [f24, hl1.1]
      intro i hi
      by_cases e : i < L.toNatClampNeg
      · exact (low.1 i e).next (by rw [ceq i e]; exact nxt i (by rw [← eL]; exact e))
      · have : i = L.toNatClampNeg := by omega
        subst this
        refine ⟨?_, ?_, ?_, ?_, ?_, ?_⟩
        · rw [c24 15 (by decide), t15]; exact ⟨s0, by omega, hst⟩
        · rw [cnew]; exact nF.1
        · rw [c24 15 (by decide), t15, c24 9 (by decide), q5 9 (by omega), g9a]; exact hS
        · intro hne
          rw [c24 16 (by decide), t16] at hne
          exact absurd rfl hne
        · rw [c24 15 (by decide), t15, c24 5 (by decide), q5 5 (by omega), g5a, eL]; exact inn.1
        · intro hz
          rw [c24 17 (by decide)] at hz
          refine ⟨fun _ => ?_, fun hne => ?_⟩
          · rw [c24 20 (by decide), y24 20 (by decide), c24 12 (by decide)]; exact hjmp hz
          · rw [c24 16 (by decide), t16] at hne
            exact absurd rfl hne
    · rw [f24, hl1.1]
      intro i hi
      by_cases e : i + 1 < L.toNatClampNeg
      · exact low.2 i e
      · have : i + 1 = L.toNatClampNeg := by omega
        rw [this, c24 15 (by decide), t15, c24 9 (by decide), q5 9 (by omega), g9a, ceq i (by omega)]
        exact inn.2 i (by rw [← eL]; exact this)
    · intro i hi
      rw [y24 20 (by decide)] at hi ⊢
      rw [f24, hl1.1, c24 12 (by decide)]
      by_cases e : i < (σ9 0 20).toNatClampNeg
      · rcases J9 i e with p | ⟨L', hL', p⟩
        · exact Or.inl ((p.congr (fun j hj => o _ (by omega))).mono n1)
        · rw [eLn] at hL'
          exact Or.inr ⟨L', by omega, p.of gm hL' e⟩
      · rcases hnew i (by omega) hi with p | p
        · exact Or.inl p
        · refine Or.inr ⟨L.toNatClampNeg, by omega, ?_⟩
          unfold pn at p ⊢
          rw [c24 17 (by decide), c24 20 (by decide), c24 16 (by decide), c24 12 (by decide)]
          exact p
    · rw [f24, hl1.1]
      show k' + (rem (σ24 16) L.toNatClampNeg + 48 + _) ≤ _
      rw [rem_congr (g := σ 16) _ (fun i hi => by rw [c24 16 (by decide), c 16 (by decide) (by decide) (by decide) (by decide) (by decide) (by decide), d16, if_neg (by omega), G9.1 16 (by decide) (by decide) (by decide)])]
      rw [← eL] at hk
      split <;> omega
    · rw [y24 20 (by decide), c24 12 (by decide), htl, G9.tl]; omega
    · rw [c24 13 (by decide), c 13 (by decide) (by decide) (by decide) (by decide) (by decide) (by decide), c15 13 (by decide) (by decide) (by decide) (by decide), G9.1 13 (by decide) (by decide) (by decide)]; exact w13
  have z13 : σ15 13 = σ 13 := by rw [c15 13 (by decide) (by decide) (by decide) (by decide)]; exact G9.1 13 (by decide) (by decide) (by decide)
  rw [z13]
  have y15 : ∀ i, σ15 0 i = σ9 0 i := fun i => by rw [c15 0 (by decide) (by decide) (by decide) (by decide)]
  refine ⟨fun hz => ?_, fun hnz => ?_⟩
  · refine qM_emit b15 (by omega) (fun σ16 c y f20 n1 b o nw => ⟨li, fun σ18 e18 => ?_⟩)
    rw [y15 20] at n1 o nw e18
    have c18 : ∀ q, q ≠ 20 → σ18 q = σ16 q := fun q hq => by rw [e18, hg_set_ne hq]
    have t20 : σ18 20 L.toNatClampNeg = σ9 0 20 := by rw [e18, hs_me]
    have w16 : jL σ16 := w15.add (k17 h6) c y (by rw [y15 20]; exact n1) (by rw [y15 20]; exact o) (by rw [y15 20]; exact nw)
    have t17 : σ18 17 L.toNatClampNeg = 0 := by rw [c18 17 (by decide), c 17 (by decide) (by decide), d17, if_pos rfl, hz, nar0]
    refine fin σ18 (k + 7) (fun q a0 a12 _ _ a20 _ => by rw [c18 q a20, c q a0 a12]) (fun i hi => by rw [e18, hs_ne (by omega), c 20 (by decide) (by decide), c15 20 (by decide) (by decide) (by decide) (by decide)]) (fun i a _ _ => by rw [c18 0 (by decide), y i a, y15]) (fun j hj => by rw [c18 12 (by decide), o j hj, c15 12 (by decide) (by decide) (by decide) (by decide)]) (by rw [c18 0 (by decide)]; omega) (by rw [e18]; exact w16.cell (by omega)) (b.of (by rw [c18 0 (by decide)]) (by rw [c18 0 (by decide)])) (by omega) ?_ (fun i i1 i2 => ?_) (fun _ => ?_)
    · rw [c18 0 (by decide), c18 12 (by decide), n1]
      show tl (σ16 12) _ + _ = _
      rw [nw.1, if_neg (by decide), Nat.add_zero, tl_congr (g := σ9 12) _ (fun i hi => by rw [o _ (by omega), c15 12 (by decide) (by decide) (by decide) (by decide)])]
    · rw [c18 0 (by decide), n1] at i2
      have : i = (σ9 0 20).toNatClampNeg := by omega
      subst this
      refine Or.inr ⟨t17, by rw [t20]; exact b9.1.1, by rw [t20], Or.inl ⟨by rw [c18 16 (by decide), c 16 (by decide) (by decide), d16, if_pos rfl], by rw [c18 12 (by decide)]; exact nw.1⟩⟩
    · rw [t20, c18 0 (by decide), n1, c18 12 (by decide)]
      exact ⟨b9.1.1, by omega, nw.1⟩
  · have h13 : σ 13 s.toNatClampNeg = 1 := (w13 _ st).resolve_left hnz
    have m17 : ∀ τ : hg_M, τ 17 = σ15 17 → τ 17 L.toNatClampNeg ≠ 0 := fun τ e => by rw [e, d17, if_pos rfl, h13, nar1]; decide
    have key : ∀ n (v : Int32) (τ : hg_M), 0 ≤ v → v ≤ 16 → (∀ q, q ≠ 21 → τ q = σ15 q) → jL τ → hp_n (16 - v) < n → lM_X6_beginTest_93 P n s r6 L v τ := by
      intro n
      induction n with
      | zero => intro v τ _ _ _ _ h; omega
      | succ n ih =>
        intro v τ v0 v16 c w9' hn
        rw [lM_X6_beginTest_93]
        have bt : bud τ (k + 6) := b15.of (by rw [c 0 (by decide)]) (by rw [c 0 (by decide)])
        refine ⟨fun _ => ⟨si, fun _ => ?_, fun _ => ?_⟩, fun hl => ?_⟩
        · exact fin τ (k + 6) (fun q _ _ _ _ _ a => c q a) (fun i _ => by rw [c 20 (by decide), c15 20 (by decide) (by decide) (by decide) (by decide)]) (fun i _ _ _ => by rw [c 0 (by decide), y15]) (fun j _ => by rw [c 12 (by decide), c15 12 (by decide) (by decide) (by decide) (by decide)]) (by rw [c 0 (by decide), y15]; exact Nat.le_refl _) w9' bt (by omega) (by rw [c 0 (by decide), y15, c 12 (by decide), c15 12 (by decide) (by decide) (by decide) (by decide)]) (fun i i1 i2 => by rw [c 0 (by decide), y15] at i2; omega) (fun hz => absurd hz (m17 τ (c 17 (by decide))))
        · refine qM_guarded w9' bt (by omega) l0 (by omega) h6 (fun r20 σ19 h20 w19 b19 g19 _ => ⟨li, fun σ21 e21 => ?_⟩)
          have c21 : ∀ q, q ≠ 19 → σ21 q = σ19 q := fun q hq => by rw [e21, hg_set_ne hq]
          have n9 : (τ 0 20).toNatClampNeg = (σ9 0 20).toNatClampNeg := by rw [c 0 (by decide), y15]
          have q12 : τ 12 = σ9 12 := by rw [c 12 (by decide), c15 12 (by decide) (by decide) (by decide) (by decide)]
          refine fin σ21 (k + 6 + 2) (fun q a0 a12 a14 a19 _ a21 => by rw [c21 q a19, g19.1 q a0 a12 a14, c q a21]) (fun i _ => by rw [c21 20 (by decide), g19.1 20 (by decide) (by decide) (by decide), c 20 (by decide), c15 20 (by decide) (by decide) (by decide) (by decide)]) (fun i a1 a2 a3 => by rw [c21 0 (by decide), g19.2.1 i a1 a2 a3, c 0 (by decide), y15]) (fun j hj => by rw [c21 12 (by decide), g19.2.2.2.1 j (by rw [n9]; exact hj), q12]) (by rw [c21 0 (by decide), ← n9]; exact g19.2.2.1) (by rw [e21]; exact w19.reg (by omega) h20) (b19.of (by rw [c21 0 (by decide)]) (by rw [c21 0 (by decide)])) (by omega) (by rw [c21 0 (by decide), c21 12 (by decide), g19.tl, n9, q12]) (fun i i1 i2 => ?_) (fun hz => absurd hz (m17 σ21 (by rw [c21 17 (by decide), g19.1 17 (by decide) (by decide) (by decide), c 17 (by decide)])))
          rw [c21 0 (by decide)] at i2
          have := g19.2.2.2.2 i (by rw [n9]; exact i1) i2
          rw [c21 12 (by decide)]
          exact Or.inl ⟨fun e => absurd e this.1, fun e => absurd e this.2.1⟩
        · have vi := hp_16 v0 (by grind)
          have ix := hm16 l0 l8 v0 (by grind)
          refine ⟨vi, ix.2, fun σ22 e22 v23 ev => ?_⟩
          have hlt := hp_n_lt (a := v) (b := v23) (c := 16) v0 (by grind) (by grind)
          refine ih v23 σ22 (by grind) (by grind) (fun q hq => by rw [e22, hg_set_ne hq]; exact c q hq) ?_ (by omega)
          rw [e22]
          exact w9'.reg (by omega) (w9'.2.1 _ (hg_lt vi))
    exact ⟨hp_n (16 - 0) + 1, key _ 0 σ15 (by decide) (by decide) (fun _ _ => rfl) w15 (by omega)⟩
end MT
