/-! THE REFERENCE: readStatement, closeSide, read. -/
theorem nar0 : vp_nar .boolean (0 : Int32) = 0 := by decide
theorem nar1 : vp_nar .boolean (1 : Int32) = 1 := by decide
section MR3
variable {σ : hg_M} {P : hg_M → Prop}
theorem jN.new {σ' : hg_M} {s : Int32} (h : jN σ) (hs : s = σ 0 8) (h60 : σ 0 8 ≠ 60) (f8 : σ' 0 8 = σ 0 8 + 1) (f18 : σ' 0 18 = σ 0 18) (d : ∀ m, m ≠ s.toNatClampNeg → σ' 4 (9 * m + 7) = σ 4 (9 * m + 7)) (ds : σ' 4 (9 * s.toNatClampNeg + 7) = σ 0 18) (c6 : ∀ m, m ≠ s.toNatClampNeg → σ' 6 m = σ 6 m) (d6 : σ' 6 s.toNatClampNeg = s + 1) (c7 : ∀ m, m ≠ s.toNatClampNeg → σ' 7 m = σ 7 m) (d7 : σ' 7 s.toNatClampNeg = s + 1) (c10 : σ' 10 = σ 10) : jN σ' := by
  obtain ⟨⟨n0, n60⟩, ⟨o0, o6⟩, hn, ho, hz⟩ := h
  have hne : (σ 0 8).toNatClampNeg ≠ 60 := by
    intro e
    exact h60 ((hm_eq n0 (by decide)).mpr (by rw [e, tn60]))
  have hs1 := hm_add (N := 100) (s := σ 0 8) (k := 1) n0 (by decide) (by rw [tn1]; omega) (by omega)
  rw [tn1] at hs1
  subst hs
  have e6 : (σ 0 8 + 1).toNatClampNeg = (σ 0 8).toNatClampNeg + 1 := hs1.1
  refine ⟨⟨by rw [f8]; exact hs1.2.1, by rw [f8, e6]; omega⟩, ⟨by rw [f18]; exact o0, by rw [f18]; exact o6⟩, ?_, ?_, ?_⟩
  · rw [f8, e6]
    refine hn.push (o := (σ 0 18).toNatClampNeg) o6 (fun q hq => ⟨?_, ?_, ?_⟩) ?_ ?_ ?_
    · show (σ' 6 q).toNatClampNeg = _
      rw [c6 q (by omega)]
    · show (σ' 7 q).toNatClampNeg = _
      rw [c7 q (by omega)]
    · show (σ' 4 (9 * q + 7)).toNatClampNeg = _
      rw [d q (by omega)]
    · show (σ' 6 _).toNatClampNeg = _
      rw [d6, e6]
    · show (σ' 7 _).toNatClampNeg = _
      rw [d7, e6]
    · show (σ' 4 (9 * _ + 7)).toNatClampNeg = _
      rw [ds]
  · rw [f8, e6, f18, c10]
    refine ho.push (fun q hq => ⟨?_, ?_⟩) ?_
    · show (σ' 7 q).toNatClampNeg = _
      rw [c7 q (by omega)]
    · show (σ' 4 (9 * q + 7)).toNatClampNeg = _
      rw [d q (by omega)]
    · show (σ' 4 (9 * _ + 7)).toNatClampNeg = _
      rw [ds]
  · rw [f18, c10]; exact hz
theorem qM_readStatement {x : Int32} (h : jT σ) (hn : jN σ) (hf : σ 0 6 = 0) (hx : x ≠ -1 → σ 0 5 < σ 0 4 ∧ x = σ 3 (σ 0 5).toNatClampNeg) (hP : ∀ σ', jT σ' → jN σ' → gR9 σ σ' → (0 < σ' 0 6 ∨ σ 0 5 + 1 ≤ σ' 0 5) → P σ') : wM_X6_readStatement x σ P := by
  have hfl : ∀ a b, 0 < a → wM_X6_fail a b σ (fun σ5 => bM_X6_readStatement_92 P x σ5) := by
    intro a b ha
    refine qM_fail h ha (fun σ1 w1 g1 l1 => ?_)
    unfold bM_X6_readStatement_92
    exact ⟨fun e => absurd e (by grind), fun _ => hP σ1 w1 (hn.ofT g1) g1.r9 (Or.inl l1)⟩
  have h92 : (97 ≤ x ∧ x ≤ 112 ∨ x = 64 ∨ x = 33 ∨ x = 63) → σ 0 8 ≠ 60 → (x = 63 → σ 0 18 ≠ 6) → bM_X6_readStatement_92 P x σ := by
    intro hb h60 h63
    have hxx : x ≠ -1 := by grind
    obtain ⟨hl, hv⟩ := hx hxx
    unfold bM_X6_readStatement_92
    refine ⟨fun _ s es σ7 e7 => ?_, fun e => absurd e (by rw [hf]; decide)⟩
    have s0 : 0 ≤ s := by rw [es]; exact hn.1.1
    have s60 : s < 60 := by
      have a := (hm_le (x := σ 0 8) (y := 60) hn.1.1 (by decide)).mpr (by rw [tn60]; exact hn.1.2)
      rw [es]
      grind
    have si := hp_60 s0 s60
    have i0 := hm9 (k := 0) s0 s60 (by decide) (by decide)
    have i7 := hm9 (k := 7) s0 s60 (by decide) (by decide)
    rw [tn0] at i0; rw [tn7] at i7
    have w7 : jT σ7 := by rw [e7]; exact h.of (hs_ne (by decide)) (hs_ne (by decide)) (hs_ne (by decide)) (hg_set_ne (by decide))
    -- behind the loop that clears the entry
    have fin : ∀ σ1, (∀ q, q ≠ 4 → σ1 q = σ7 q) → (∀ m j, m ≠ s.toNatClampNeg → j < 9 → σ1 4 (9 * m + j) = σ7 4 (9 * m + j)) → jE σ1 → ∀ n, lM_X6_readStatement_118 P (n + 1) x s 9 σ1 := by
      intro σ1 c1 c4 j1 n
      rw [lM_X6_readStatement_118]
      refine ⟨fun _ => ⟨i7.2, fun σ8 e8 => ⟨si, fun σ9 e9 => ⟨si, fun σ10 e10 => ?_⟩⟩⟩, fun h => absurd (show (9 : Int32) ≤ 9 by decide) h⟩
      rw [i7.1] at e8
      have z0 : ∀ i, σ10 0 i = σ7 0 i := fun i => by rw [e10, e9, e8, hg_set_ne (by decide), hg_set_ne (by decide), hg_set_ne (by decide), c1 0 (by decide)]
      have z3 : σ10 3 = σ 3 := by rw [e10, e9, e8, hg_set_ne (by decide), hg_set_ne (by decide), hg_set_ne (by decide), c1 3 (by decide), e7, hg_set_ne (by decide)]
      have z10 : σ10 10 = σ 10 := by rw [e10, e9, e8, hg_set_ne (by decide), hg_set_ne (by decide), hg_set_ne (by decide), c1 10 (by decide), e7, hg_set_ne (by decide)]
      have z4 : σ10 4 = σ8 4 := by rw [e10, e9, hg_set_ne (by decide), hg_set_ne (by decide)]
      have y0 : ∀ i, i ≠ 8 → σ10 0 i = σ 0 i := fun i hi => by rw [z0, e7, hs_ne hi]
      have j8 : jE σ8 := by rw [e8]; exact j1.ent (by omega) (by omega) (by omega) (by omega) (by omega) (by omega)
      have w10 : jT σ10 := ⟨by unfold jR; rw [y0 5 (by decide), y0 4 (by decide)]; exact h.1, j8.of z4, by rw [y0 6 (by decide)]; exact h.2.2⟩
      have n10 : jN σ10 := by
        refine hn.new es h60 (by rw [z0, e7, hs_me]) (y0 18 (by decide)) (fun m hm => ?_) ?_ (fun m hm => ?_) ?_ (fun m hm => ?_) ?_ z10
        · rw [z4, e8, hs_ne (by omega), c4 m 7 hm (by omega), e7, hg_set_ne (by decide)]
        · rw [z4, e8, hs_me, c1 0 (by decide), e7, hs_ne (by decide)]
        · rw [e10, hg_set_ne (by decide), e9, hs_ne hm, e8, hg_set_ne (by decide), c1 6 (by decide), e7, hg_set_ne (by decide)]
        · rw [e10, hg_set_ne (by decide), e9, hs_me]
        · rw [e10, hs_ne hm, e9, hg_set_ne (by decide), e8, hg_set_ne (by decide), c1 7 (by decide), e7, hg_set_ne (by decide)]
        · rw [e10, hs_me]
      have g10 : gR9 σ σ10 := by
        refine ⟨fun q hq => ?_, fun i hi => y0 i (by omega)⟩
        rw [e10, e9, e8, hg_set_ne (by omega), hg_set_ne (by omega), hg_set_ne (by omega), c1 q (by omega), e7, hg_set_ne (by omega)]
      have hl10 : σ10 0 5 < σ10 0 4 := by rw [y0 5 (by decide), y0 4 (by decide)]; exact hl
      have a10 : σ10 0 5 = σ 0 5 := y0 5 (by decide)
      have out : ∀ σ', jT σ' → gT σ10 σ' → σ10 0 5 + 1 ≤ σ' 0 5 → P σ' := fun σ' w g a => hP σ' w (n10.ofT g) (g10.trans g.r9) (Or.inr (by rw [← a10]; exact a))
      have simple : ∀ v σ2 σ3, σ2 = hg_set σ10 0 5 (σ10 0 5 + 1) → σ3 = hg_set σ2 4 (9 * s + 0).toNatClampNeg v → jT σ3 ∧ gT σ10 σ3 ∧ σ10 0 5 + 1 ≤ σ3 0 5 := by
        intro v σ2 σ3 e2 e3
        rw [i0.1] at e3
        have w2 : jT σ2 := by rw [e2]; exact qM_up w10 hl10
        have g2 : gT σ10 σ2 := by rw [e2]; exact qM_ug w10 hl10
        refine ⟨by rw [e3]; exact qM_ent w2 (by omega), by rw [e3]; exact g2.trans (gT.ent (by omega)), ?_⟩
        rw [e3, hg_set_ne (by decide), e2, hs_me]
        grind
      have later : ∀ σ3 σ', gT σ3 σ' → σ10 0 5 + 1 ≤ σ3 0 5 → σ10 0 5 + 1 ≤ σ' 0 5 := fun σ3 σ' g a => by have := g.2.2.2; grind
      unfold bM_X6_readStatement_326
      refine qM_isVariable (fun hnv => ⟨fun _ => ⟨fun h64 => ⟨fun h33 => ?_, fun _ σ17 e17 => ⟨i0.2, fun σ18 e18 => ?_⟩⟩, fun _ σ21 e21 => ⟨i0.2, fun σ22 e22 => ?_⟩⟩, fun h => absurd rfl h⟩) (fun v0 v1 => ⟨fun h => absurd h (by decide), fun _ => ?_⟩)
      · have ex : x = 63 := by grind
        have ho6 := h63 ex
        refine qM_readTest w10 s0 s60 hl10 (fun σ13 w13 g13 a13 => ?_)
        have n13 := n10.ofT g13
        have eo : σ13 0 18 = σ 0 18 := (g13.2.1 18 (by decide) (by decide) (by decide)).trans (y0 18 (by decide))
        obtain ⟨⟨p0, p60⟩, ⟨o0, o6⟩, hnn, hoo, hzz⟩ := n13
        have o5 : (σ13 0 18).toNatClampNeg < 6 := by
          have : (σ13 0 18).toNatClampNeg ≠ 6 := fun e => ho6 (by rw [← eo]; exact (hm_eq o0 (by decide)).mpr (by rw [e, tn6]))
          omega
        have oi : vp_in (σ13 0 18) 7 := hm_in o0 (by omega)
        refine ⟨oi, fun σ14 e14 => ?_⟩
        have f14 : σ14 0 = σ13 0 := by rw [e14, hg_set_ne (by decide)]
        rw [f14]
        refine ⟨oi, fun σ15 e15 σ16 e16 => ?_⟩
        have f15 : σ15 0 = σ13 0 := by rw [e15, hg_set_ne (by decide), f14]
        have k16 : ∀ i, i ≠ 18 → σ16 0 i = σ13 0 i := fun i hi => by rw [e16, hs_ne hi, f15]
        have c16 : ∀ q, q ≠ 0 → q ≠ 10 → q ≠ 11 → σ16 q = σ13 q := fun q h1 h2 h3 => by rw [e16, hg_set_ne h1, e15, hg_set_ne h3, e14, hg_set_ne h2]
        have so := hm_add (N := 100) (s := σ13 0 18) (k := 1) o0 (by decide) (by rw [tn1]; omega) (by omega)
        rw [tn1] at so
        have m18 : σ16 0 18 = σ13 0 18 + 1 := by rw [e16, hs_me, f15]
        have e13n : (σ13 0 8).toNatClampNeg = s.toNatClampNeg + 1 := by
          rw [g13.2.1 8 (by decide) (by decide) (by decide), z0, e7, hs_me, ← es]
          have := hm_add (N := 100) (s := s) (k := 1) s0 (by decide) (by rw [tn1]; have := (hm_lt s0 (by decide)).mp s60; rw [tn60] at this; omega) (by omega)
          rw [tn1] at this
          exact this.1
        have t10 : ∀ j, σ16 10 j = if j = (σ13 0 18).toNatClampNeg then s else σ13 10 j := fun j => by rw [e16, hg_set_ne (by decide), e15, hg_set_ne (by decide), e14, hs_eq]
        refine hP σ16 (w13.of (k16 5 (by decide)) (k16 4 (by decide)) (k16 6 (by decide)) (c16 4 (by decide) (by decide) (by decide))) ?_ ?_ (Or.inr (by rw [k16 5 (by decide), ← a10]; exact a13))
        · refine ⟨by rw [k16 8 (by decide)]; exact ⟨p0, p60⟩, by rw [m18]; exact ⟨so.2.1, by rw [so.1]; omega⟩, ?_, ?_, ?_⟩
          · rw [k16 8 (by decide), c16 6 (by decide) (by decide) (by decide), c16 7 (by decide) (by decide) (by decide), c16 4 (by decide) (by decide) (by decide)]
            exact hnn
          · rw [k16 8 (by decide), c16 7 (by decide) (by decide) (by decide), c16 4 (by decide) (by decide) (by decide), m18, so.1]
            refine hoo.more (fun q hq => (hnn.1 q hq).2.2.1) s.toNatClampNeg e13n.symm (fun q hq => ?_) (fun j hj => ?_) ?_ ?_
            · show (σ13 7 q).toNatClampNeg ≤ _
              rw [g13.1 7 (by decide) (by decide)]
              have hh := hn.2.2.1.1 q (by rw [← es]; exact hq)
              have : σ10 7 q = σ 7 q := by rw [e10, hs_ne (by omega), e9, hg_set_ne (by decide), e8, hg_set_ne (by decide), c1 7 (by decide), e7, hg_set_ne (by decide)]
              rw [this, es]
              exact hh.2.2.1
            · show (σ16 10 j).toNatClampNeg = (σ13 10 j).toNatClampNeg
              rw [t10, if_neg (by omega)]
            · show (σ16 10 _).toNatClampNeg = _
              rw [t10, if_pos rfl]
            · show (σ13 4 (9 * s.toNatClampNeg + 7)).toNatClampNeg = _
              rw [g13.2.2.1, z4, e8, hs_me, c1 0 (by decide), e7, hs_ne (by decide), eo]
          · intro j hj
            rw [m18, so.1] at hj
            rw [t10]
            split
            · exact s0
            · exact hzz j (by omega)
        · refine (g10.trans g13.r9).trans ?_
          rw [e16, e15, e14]
          exact ((gR9.c (by omega)).trans (gR9.c (by omega))).trans (gR9.o (by omega))
      · obtain ⟨w3, g3, a3⟩ := simple _ σ17 σ18 e17 e18
        exact qM_readValue w3 s0 s60 (by decide) (fun σ4 w4 g4 => qM_take w4 (by decide) (fun σ5 w5 g5 => out σ5 w5 ((g3.trans g4).trans g5) (later _ _ (g4.trans g5) a3)))
      · obtain ⟨w3, g3, a3⟩ := simple _ σ21 σ22 e21 e22
        exact qM_readValue w3 s0 s60 (by decide) (fun σ4 w4 g4 => qM_take w4 (by decide) (fun σ5 w5 g5 => qM_readValue w5 s0 s60 (by decide) (fun σ6 w6 g6 => qM_take w6 (by decide) (fun σ8' w8' g8' => out σ8' w8' ((((g3.trans g4).trans g5).trans g6).trans g8') (later _ _ (((g4.trans g5).trans g6).trans g8') a3)))))
      · refine qM_readSet w10 s0 s60 hl10 ?_ ?_ out
        · rw [z3, a10, ← hv]; exact v0
        · rw [z3, a10, ← hv]; exact v1
    have key : ∀ n (k : Int32) (σ1 : hg_M), 0 ≤ k → k ≤ 9 → (∀ q, q ≠ 4 → σ1 q = σ7 q) → (∀ m j, m ≠ s.toNatClampNeg → j < 9 → σ1 4 (9 * m + j) = σ7 4 (9 * m + j)) → jE σ1 → hp_n (9 - k) < n → lM_X6_readStatement_118 P n x s k σ1 := by
      intro n
      induction n with
      | zero => intro k σ1 _ _ _ _ _ h; omega
      | succ n ih =>
        intro k σ1 k0 k9 c1 c4 j1 hn9
        by_cases ek : k = 9
        · rw [ek]; exact fin σ1 c1 c4 j1 n
        · have kl : k < 9 := by grind
          have ik := hm9 s0 s60 k0 kl
          rw [lM_X6_readStatement_118]
          refine ⟨fun e => absurd e (by grind), fun _ => ⟨ik.2, fun σ2 e2 v ev => ?_⟩⟩
          rw [ik.1] at e2
          have kt : k.toNatClampNeg < 9 := by
            have := (hm_lt k0 (by decide)).mp kl
            have e9 : (9 : Int32).toNatClampNeg = 9 := by decide
            rw [e9] at this
            exact this
          have hlt := hp_n_lt (a := k) (b := v) (c := 9) k0 (by grind) (by grind)
          refine ih v σ2 (by grind) (by grind) (fun q hq => by rw [e2, hg_set_ne hq]; exact c1 q hq) (fun m j hm hj => by rw [e2, hs_ne (by omega)]; exact c4 m j hm hj) ?_ (by omega)
          rw [e2]
          exact j1.ent kt (fun _ => by decide) (fun _ => by decide) (fun _ => by decide) (fun _ => Or.inr (by decide)) (fun _ => Or.inr (by decide))
    exact ⟨hp_n (9 - 0) + 1, key _ 0 σ7 (by decide) (by decide) (fun _ _ => rfl) (fun _ _ _ _ => rfl) w7.2.1 (by omega)⟩
  have h25 : (97 ≤ x ∧ x ≤ 112 ∨ x = 64 ∨ x = 33 ∨ x = 63) → bM_X6_readStatement_25 P x σ := by
    intro hb
    unfold bM_X6_readStatement_25 bM_X6_readStatement_30
    exact ⟨fun _ => ⟨fun h60 => ⟨fun h63 => h92 hb h60 (fun e => absurd e h63), fun e63 => ⟨fun h6 => h92 hb h60 (fun _ => h6), fun _ => hfl 4 _ (by decide)⟩⟩, fun _ => hfl 3 _ (by decide)⟩, fun h => absurd h (by decide)⟩
  unfold wM_X6_readStatement
  refine qM_isVariable (fun hnv => ⟨fun h => absurd rfl h, fun _ => ⟨fun e => h25 (by grind), fun _ => ⟨fun e => h25 (by grind), fun _ => ⟨fun _ => ?_, fun e => h25 (by grind)⟩⟩⟩⟩) (fun v0 v1 => ⟨fun _ => h25 (by grind), fun e => absurd e (by decide)⟩)
  unfold bM_X6_readStatement_30
  exact ⟨fun h => absurd rfl h, fun _ => hfl 1 _ (by decide)⟩
theorem qM_closeSide (h : jT σ) (hn : jN σ) (ho : ¬ σ 0 18 ≤ 0) (hl : σ 0 5 < σ 0 4) (hP : ∀ σ', jT σ' → jN σ' → gR9 σ σ' → σ 0 5 + 1 ≤ σ' 0 5 → P σ') : wM_X6_closeSide σ P := by
  obtain ⟨⟨p0, p60⟩, ⟨o0, o6⟩, hnn, hoo, hzz⟩ := id hn
  have op : 0 < (σ 0 18).toNatClampNeg := by
    have : 0 < σ 0 18 := by grind
    have := (hm_lt (x := 0) (y := σ 0 18) (by decide) o0).mp this
    rw [tn0] at this
    exact this
  have sb := hm_sub (s := σ 0 18) (k := 1) o0 (by decide) (by rw [tn1]; omega)
  rw [tn1] at sb
  have bi : vp_in (σ 0 18 - 1) 7 := hm_in sb.2 (by rw [sb.1]; omega)
  obtain ⟨q1, q2, q3, q4⟩ := hoo ((σ 0 18).toNatClampNeg - 1) (by omega)
  unfold wM_X6_closeSide
  refine ⟨bi, fun q eq σ2 e2 => ?_⟩
  rw [sb.1] at eq
  have qt : q.toNatClampNeg < (σ 0 8).toNatClampNeg := by rw [eq]; exact q1
  have q0 : 0 ≤ q := by rw [eq]; exact hzz _ (by omega)
  have qi : vp_in q 60 := hm_in q0 (by omega)
  refine ⟨qi, fun σ3 e3 => ?_⟩
  have y3 : ∀ i, i ≠ 5 → σ3 0 i = σ 0 i := fun i hi => by rw [e3, hg_set_ne (by decide), e2, hs_ne hi]
  have a3 : σ3 0 5 = σ 0 5 + 1 := by rw [e3, hg_set_ne (by decide), e2, hs_me]
  have c3 : ∀ r, r ≠ 0 → r ≠ 7 → σ3 r = σ r := fun r h1 h2 => by rw [e3, hg_set_ne h2, e2, hg_set_ne h1]
  have s3 : ∀ r, σ3 7 r = if r = q.toNatClampNeg then σ 0 8 else σ 7 r := fun r => by rw [e3, hs_eq, e2, hs_ne (by decide), hg_set_ne (by decide)]
  have w3 : jT σ3 := (qM_up h hl).of (by rw [a3, hs_me]) (by rw [y3 4 (by decide), hs_ne (by decide)]) (by rw [y3 6 (by decide), hs_ne (by decide)]) (by rw [c3 4 (by decide) (by decide), hg_set_ne (by decide)])
  have g3 : gR9 σ σ3 := by rw [e3, e2]; exact (gR9.o (by omega)).trans (gR9.c (by omega))
  -- what the two ends share
  have shut : ∀ σ5, jT σ5 → jN σ5 → gR9 σ σ5 → σ 0 5 + 1 ≤ σ5 0 5 → σ5 0 18 = σ 0 18 → bM_X6_closeSide_88 P σ5 := by
    intro σ5 w5 n5 g5 a5 eo
    unfold bM_X6_closeSide_88
    intro σ9 e9
    have k9 : ∀ i, i ≠ 18 → σ9 0 i = σ5 0 i := fun i hi => by rw [e9, hs_ne hi]
    have c9 : ∀ r, r ≠ 0 → σ9 r = σ5 r := fun r hr => by rw [e9, hg_set_ne hr]
    have m9 : σ9 0 18 = σ 0 18 - 1 := by rw [e9, hs_me, eo]
    obtain ⟨u1, u2, u3, u4, u5⟩ := n5
    refine hP σ9 (w5.of (k9 5 (by decide)) (k9 4 (by decide)) (k9 6 (by decide)) (c9 4 (by decide))) ⟨by rw [k9 8 (by decide)]; exact u1, by rw [m9]; exact ⟨sb.2, by rw [sb.1]; omega⟩, ?_, ?_, ?_⟩ (g5.trans (by rw [e9]; exact gR9.o (by omega))) (by rw [k9 5 (by decide)]; exact a5)
    · rw [k9 8 (by decide), c9 6 (by decide), c9 7 (by decide), c9 4 (by decide)]; exact u3
    · rw [k9 8 (by decide), c9 7 (by decide), c9 4 (by decide), c9 10 (by decide), m9, sb.1]
      exact fun j hj => u4 j (by rw [eo]; omega)
    · rw [m9, sb.1, c9 10 (by decide)]
      exact fun j hj => u5 j (by rw [eo]; omega)
  have jn : ∀ σ4 : hg_M, (∀ i, i ≠ 5 → i ≠ 6 → i ≠ 7 → σ4 0 i = σ 0 i) → (∀ m, σ4 4 (9 * m + 7) = σ 4 (9 * m + 7)) → σ4 10 = σ 10 → (∀ r, σ4 7 r = if r = q.toNatClampNeg then σ 0 8 else σ 7 r) → (∀ r, r ≠ q.toNatClampNeg → σ4 6 r = σ 6 r) → (σ4 6 q.toNatClampNeg = σ 0 8 ∨ σ4 6 q.toNatClampNeg = σ 6 q.toNatClampNeg) → jN σ4 := by
    intro σ4 y d c10 c7 c6 c6q
    have ed : (fun m => (σ4 4 (9 * m + 7)).toNatClampNeg) = fun m => (σ 4 (9 * m + 7)).toNatClampNeg := by funext m; rw [d m]
    have cl := nOK.close (q := q.toNatClampNeg) (F' := fun r => (σ4 6 r).toNatClampNeg) (S' := fun r => (σ4 7 r).toNatClampNeg) hnn hoo op (by show (σ 10 _).toNatClampNeg = _; rw [← eq]) (fun r hr => ⟨by show (σ4 6 r).toNatClampNeg = _; rw [c6 r hr], by show (σ4 7 r).toNatClampNeg = _; rw [c7, if_neg hr]⟩) (by show (σ4 7 _).toNatClampNeg = _; rw [c7, if_pos rfl]) (by
      rcases c6q with e | e
      · left; show (σ4 6 _).toNatClampNeg = _; rw [e]
      · right; show (σ4 6 _).toNatClampNeg = _; rw [e])
    refine ⟨by rw [y 8 (by decide) (by decide) (by decide)]; exact ⟨p0, p60⟩, by rw [y 18 (by decide) (by decide) (by decide)]; exact ⟨o0, o6⟩, ?_, ?_, ?_⟩
    · rw [y 8 (by decide) (by decide) (by decide), ed]; exact cl.1
    · rw [y 8 (by decide) (by decide) (by decide), y 18 (by decide) (by decide) (by decide), ed, c10]; exact cl.2
    · rw [y 18 (by decide) (by decide) (by decide), c10]; exact hzz
  have e18 : σ3 0 18 = σ 0 18 := y3 18 (by decide)
  rw [e18]
  refine ⟨bi, fun _ => ?_, fun _ => ⟨qi, fun σ4 e4 => ?_⟩⟩
  · refine shut σ3 w3 (jn σ3 (fun i h1 _ _ => y3 i h1) (fun m => by rw [c3 4 (by decide) (by decide)]) (c3 10 (by decide) (by decide)) s3 (fun r _ => by rw [c3 6 (by decide) (by decide)]) (Or.inr (by rw [c3 6 (by decide) (by decide)]))) g3 (by rw [a3]; grind) e18
  · have y4 : ∀ i, σ4 0 i = σ3 0 i := fun i => by rw [e4, hg_set_ne (by decide)]
    have c4 : ∀ r, r ≠ 6 → σ4 r = σ3 r := fun r hr => by rw [e4, hg_set_ne hr]
    have w4 : jT σ4 := w3.of (y4 5) (y4 4) (y4 6) (c4 4 (by decide))
    have n4 : jN σ4 := by
      refine jn σ4 (fun i h1 _ _ => by rw [y4]; exact y3 i h1) (fun m => by rw [c4 4 (by decide), c3 4 (by decide) (by decide)]) (by rw [c4 10 (by decide), c3 10 (by decide) (by decide)]) (fun r => by rw [c4 7 (by decide)]; exact s3 r) (fun r hr => by rw [e4, hs_ne hr, c3 6 (by decide) (by decide)]) (Or.inl (by rw [e4, hs_me]; exact y3 8 (by decide)))
    have g4 : gR9 σ σ4 := by rw [e4]; exact g3.trans (gR9.c (by omega))
    have a4 : σ4 0 5 = σ 0 5 + 1 := by rw [y4]; exact a3
    refine qM_nx w4 (fun r σ5 w5 g5 _ hr => ?_)
    have n5 := n4.ofT g5
    have G5 := g4.trans g5.r9
    have a5 : σ 0 5 + 1 ≤ σ5 0 5 := by have := g5.2.2.2; rw [a4] at this; exact this
    have o5 : σ5 0 18 = σ 0 18 := by rw [g5.2.1 18 (by decide) (by decide) (by decide), y4]; exact e18
    refine ⟨fun _ => shut σ5 w5 n5 G5 a5 o5, fun er σ7 e7 => ?_⟩
    have hl5 := (hr (by rw [er]; decide)).1
    have w7 : jT σ7 := by rw [e7]; exact qM_up w5 hl5
    have g7 : gT σ5 σ7 := by rw [e7]; exact qM_ug w5 hl5
    have o7 : σ7 0 18 = σ 0 18 := by rw [g7.2.1 18 (by decide) (by decide) (by decide)]; exact o5
    rw [o7]
    refine ⟨bi, fun σ8 e8 => ?_⟩
    have c8 : ∀ r, r ≠ 11 → σ8 r = σ7 r := fun r hr => by rw [e8, hg_set_ne hr]
    have n7 := n5.ofT g7
    refine hP σ8 (w7.of (by rw [c8 0 (by decide)]) (by rw [c8 0 (by decide)]) (by rw [c8 0 (by decide)]) (c8 4 (by decide))) ?_ ((G5.trans g7.r9).trans (by rw [e8]; exact gR9.c (by omega))) (by rw [c8 0 (by decide)]; have := g7.2.2.2; grind)
    unfold jN
    rw [c8 0 (by decide), c8 6 (by decide), c8 7 (by decide), c8 4 (by decide), c8 10 (by decide)]
    exact n7
end MR3
/-- the text as the later methods see it -/
def xOK (σ : hg_M) : Prop := (0 ≤ σ 0 9 ∧ (σ 0 9).toNatClampNeg ≤ 60) ∧ (∀ n, n < 60 → eOK (σ 5) n) ∧ nOK (σ 0 9).toNatClampNeg (fun q => (σ 8 q).toNatClampNeg) (fun q => (σ 9 q).toNatClampNeg) (fun q => (σ 5 (9 * q + 7)).toNatClampNeg)
/-- what read leaves alone -/
def gR0 (σ σ' : hg_M) : Prop := (∀ q, 14 ≤ q → σ' q = σ q) ∧ (σ' 12 = σ 12) ∧ σ' 1 = σ 1 ∧ σ' 2 = σ 2 ∧ ∀ i, 23 ≤ i → σ' 0 i = σ 0 i
theorem gR9.r0 {a b : hg_M} (g : gR9 a b) : gR0 a b := ⟨fun q hq => g.1 q (by omega), g.1 12 (by omega), g.1 1 (by omega), g.1 2 (by omega), fun i hi => g.2 i (by omega)⟩
theorem qM_read {σ : hg_M} {P : Int32 → hg_M → Prop} (t0 : 0 ≤ σ 0 4) (t1 : σ 0 4 ≤ 600) (je : jE σ) (h0 : ∀ r σ', jE σ' → σ' 0 4 = 0 → gR9 (hg_set (hg_set σ 0 0 0) 0 4 0) σ' → P r σ') (h1 : ∀ r σ', jE σ' → σ' 0 4 = 0 → xOK σ' → gR0 σ σ' → σ' 0 20 = 0 → (∀ i, i < 60 → σ' 13 i = 0) → P r σ') : wM_X6_read σ P := by
  unfold wM_X6_read
  intro σ1 e1 σ2 e2 σ3 e3 σ4 e4 σ5 e5
  have k5 : ∀ i, i ≠ 0 → i ≠ 5 → i ≠ 6 → i ≠ 8 → i ≠ 18 → σ5 0 i = σ 0 i := fun i h0 h5 h6 h8 h18 => by rw [e5, hs_ne h18, e4, hs_ne h8, e3, hs_ne h5, e2, hs_ne h6, e1, hs_ne h0]
  have c5 : ∀ q, q ≠ 0 → σ5 q = σ q := fun q hq => by rw [e5, hg_set_ne hq, e4, hg_set_ne hq, e3, hg_set_ne hq, e2, hg_set_ne hq, e1, hg_set_ne hq]
  have f5 : σ5 0 5 = 0 := by rw [e5, hs_ne (by decide), e4, hs_ne (by decide), e3, hs_me]
  have f6 : σ5 0 6 = 0 := by rw [e5, hs_ne (by decide), e4, hs_ne (by decide), e3, hs_ne (by decide), e2, hs_me]
  have f8 : σ5 0 8 = 0 := by rw [e5, hs_ne (by decide), e4, hs_me]
  have f18 : σ5 0 18 = 0 := by rw [e5, hs_me]
  have fz : σ5 0 0 = 0 := by rw [e5, hs_ne (by decide), e4, hs_ne (by decide), e3, hs_ne (by decide), e2, hs_ne (by decide), e1, hs_me]
  have w5 : jT σ5 := ⟨⟨by rw [f5]; decide, by rw [f5, k5 4 (by decide) (by decide) (by decide) (by decide) (by decide)]; exact t0, by rw [k5 4 (by decide) (by decide) (by decide) (by decide) (by decide)]; exact t1⟩, je.of (c5 4 (by decide)), by rw [f6]; decide⟩
  have n5 : jN σ5 := by
    refine ⟨by rw [f8]; decide, by rw [f18]; decide, ?_, ?_, ?_⟩
    · rw [f8, tn0]; exact ⟨fun q hq => by omega, fun q s hq => by omega⟩
    · rw [f18, tn0]; exact fun j hj => by omega
    · rw [f18, tn0]; exact fun j hj => by omega
  -- behind the loop
  have h93 : ∀ σ', jT σ' → jN σ' → gR9 σ5 σ' → bM_X6_read_93 P σ' := by
    intro σ' w n g
    unfold bM_X6_read_93
    intro σ12 e12
    have y12 : ∀ i, i ≠ 4 → σ12 0 i = σ' 0 i := fun i hi => by rw [e12, hs_ne hi]
    have c12 : ∀ q, q ≠ 0 → σ12 q = σ' q := fun q hq => by rw [e12, hg_set_ne hq]
    refine ⟨fun _ σ13 e13 => ?_, fun _ => ?_⟩
    · have y13 : ∀ i, i ≠ 9 → i ≠ 4 → σ13 0 i = σ' 0 i := fun i h1 h2 => by rw [e13, hs_ne h1, y12 i h2]
      have c13 : ∀ q, q ≠ 0 → σ13 q = σ' q := fun q hq => by rw [e13, hg_set_ne hq, c12 q hq]
      have f9 : σ13 0 9 = σ' 0 8 := by rw [e13, hs_me, y12 8 (by decide)]
      have f4 : σ13 0 4 = 0 := by rw [e13, hs_ne (by decide), e12, hs_me]
      have key2 : ∀ m (k : Int32) (τ : hg_M), 0 ≤ k → k ≤ 60 → (∀ q, q ≠ 5 → q ≠ 8 → q ≠ 9 → q ≠ 13 → τ q = σ13 q) → (∀ i, i < 540 → τ 5 i = σ13 4 i) → (∀ i, i < k.toNatClampNeg → τ 8 i = σ13 6 i ∧ τ 9 i = σ13 7 i ∧ τ 13 i = 0) → hp_n (60 - k) < m → lM_X6_read_149 P m k τ := by
        intro m
        induction m with
        | zero => intro k τ _ _ _ _ _ h; omega
        | succ m ih =>
          intro k τ k0 k60 c d e hm
          rw [lM_X6_read_149]
          refine ⟨fun hk => ⟨Or.inl rfl, fun σ16 e16 σ17 e17 σ18 e18 => ?_⟩, fun hk => ?_⟩
          · have ek : k = 60 := by grind
            rw [ek, tn60] at e
            have y18 : ∀ i, i ≠ 20 → i ≠ 21 → i ≠ 22 → σ18 0 i = σ13 0 i := fun i a1 a2 a3 => by rw [e18, hs_ne a2, e17, hs_ne a1, e16, hs_ne a3, c 0 (by decide) (by decide) (by decide) (by decide)]
            have c18 : ∀ q, q ≠ 0 → σ18 q = τ q := fun q hq => by rw [e18, hg_set_ne hq, e17, hg_set_ne hq, e16, hg_set_ne hq]
            refine h1 _ σ18 ?_ (by rw [y18 4 (by decide) (by decide) (by decide)]; exact f4) ?_ ?_ (by rw [e18, hs_ne (by decide), e17, hs_me]) (fun i hi => by rw [c18 13 (by decide)]; exact (e i hi).2.2)
            · exact w.2.1.of (by rw [c18 4 (by decide), c 4 (by decide) (by decide) (by decide) (by decide), c13 4 (by decide)])
            · refine ⟨by rw [y18 9 (by decide) (by decide) (by decide), f9]; exact n.1, fun m9 hm9 => ?_, ?_⟩
              · have hh := w.2.1 m9 hm9
                refine hh.congr (fun j hj => ?_)
                rw [c18 5 (by decide), d _ (by omega), c13 4 (by decide)]
              · rw [y18 9 (by decide) (by decide) (by decide), f9]
                have hh := n.2.2.1
                refine ⟨fun q hq => ?_, fun q s hq hs hn => ?_⟩
                · have hq60 : q < 60 := by have := n.1.2; omega
                  dsimp only
                  rw [show σ18 8 q = σ' 6 q by rw [c18 8 (by decide), (e q hq60).1, c13 6 (by decide)], show σ18 9 q = σ' 7 q by rw [c18 9 (by decide), (e q hq60).2.1, c13 7 (by decide)], show σ18 5 (9 * q + 7) = σ' 4 (9 * q + 7) by rw [c18 5 (by decide), d _ (by omega), c13 4 (by decide)]]
                  exact hh.1 q hq
                · have hq60 : q < 60 := by have := n.1.2; omega
                  have hs60 : s < 60 := by have := n.1.2; omega
                  dsimp only
                  rw [show σ18 8 q = σ' 6 q by rw [c18 8 (by decide), (e q hq60).1, c13 6 (by decide)], show σ18 9 q = σ' 7 q by rw [c18 9 (by decide), (e q hq60).2.1, c13 7 (by decide)], show σ18 5 (9 * q + 7) = σ' 4 (9 * q + 7) by rw [c18 5 (by decide), d _ (by omega), c13 4 (by decide)], show σ18 9 s = σ' 7 s by rw [c18 9 (by decide), (e s hs60).2.1, c13 7 (by decide)], show σ18 5 (9 * s + 7) = σ' 4 (9 * s + 7) by rw [c18 5 (by decide), d _ (by omega), c13 4 (by decide)]]
                  exact hh.2 q s hq hs hn
            · have full : ∀ q, q ≠ 0 → q ≠ 5 → q ≠ 8 → q ≠ 9 → q ≠ 13 → ¬ (q = 0 ∨ q = 4 ∨ q = 6 ∨ q = 7 ∨ q = 10 ∨ q = 11) → σ18 q = σ q := fun q a1 a2 a3 a4 a5 a6 => by rw [c18 q a1, c q a2 a3 a4 a5, c13 q a1, g.1 q a6, c5 q a1]
              refine ⟨fun q hq => full q (by omega) (by omega) (by omega) (by omega) (by omega) (by omega), full 12 (by omega) (by omega) (by omega) (by omega) (by omega) (by omega), full 1 (by omega) (by omega) (by omega) (by omega) (by omega) (by omega), full 2 (by omega) (by omega) (by omega) (by omega) (by omega) (by omega), fun i hi => ?_⟩
              rw [y18 i (by omega) (by omega) (by omega), y13 i (by omega) (by omega), g.2 i (by omega), k5 i (by omega) (by omega) (by omega) (by omega) (by omega)]
          · have ki := hp_60 k0 (by grind)
            have kt : k.toNatClampNeg < 60 := hg_lt ki
            refine ⟨ki, ki, fun σ19 e19 => ⟨ki, ki, fun σ20 e20 => ⟨ki, fun σ21 e21 v ev => ?_⟩⟩⟩
            have es : v.toNatClampNeg = k.toNatClampNeg + 1 := by
              have := hm_add (N := 100) (s := k) (k := 1) k0 (by decide) (by rw [tn1]; omega) (by omega)
              rw [tn1] at this
              rw [ev]; exact this.1
            have hlt := hp_n_lt (a := k) (b := v) (c := 60) k0 (by grind) (by grind)
            refine ih v σ21 (by grind) (by grind) (fun q h5 h8 h9 h13 => by rw [e21, hg_set_ne h13, e20, hg_set_ne h9, e19, hg_set_ne h8]; exact c q h5 h8 h9 h13) (fun i hi => by rw [e21, hg_set_ne (by decide), e20, hg_set_ne (by decide), e19, hg_set_ne (by decide)]; exact d i hi) (fun i hi => ?_) (by omega)
            have d8 : σ21 8 i = if i = k.toNatClampNeg then τ 6 i else τ 8 i := by
              rw [e21, hg_set_ne (by decide), e20, hg_set_ne (by decide), e19, hs_eq]
              split
              · next e9 => rw [e9]
              · rfl
            have d9 : σ21 9 i = if i = k.toNatClampNeg then τ 7 i else τ 9 i := by
              rw [e21, hg_set_ne (by decide), e20, hs_eq, e19, hg_set_ne (by decide), hg_set_ne (by decide)]
              split
              · next e9 => rw [e9]
              · rfl
            have d13 : σ21 13 i = if i = k.toNatClampNeg then 0 else τ 13 i := by
              rw [e21, hs_eq, nar0, e20, hg_set_ne (by decide), e19, hg_set_ne (by decide)]
            rw [d8, d9, d13]
            by_cases e9 : i = k.toNatClampNeg
            · rw [if_pos e9, if_pos e9, if_pos e9, c 6 (by decide) (by decide) (by decide) (by decide), c 7 (by decide) (by decide) (by decide) (by decide)]
              exact ⟨rfl, rfl, rfl⟩
            · rw [if_neg e9, if_neg e9, if_neg e9]; exact e i (by omega)
      have key1 : ∀ m (k : Int32) (τ : hg_M), 0 ≤ k → k ≤ 540 → (∀ q, q ≠ 5 → τ q = σ13 q) → (∀ i, i < k.toNatClampNeg → τ 5 i = σ13 4 i) → hp_n (540 - k) < m → lM_X6_read_122 P m k τ := by
        intro m
        induction m with
        | zero => intro k τ _ _ _ _ h; omega
        | succ m ih =>
          intro k τ k0 k540 c d hm
          rw [lM_X6_read_122]
          have e540 : (540 : Int32).toNatClampNeg = 540 := by decide
          refine ⟨fun hk => ?_, fun hk => ?_⟩
          · have ek : k = 540 := by grind
            rw [ek, e540] at d
            exact ⟨hp_n (60 - 0) + 1, key2 _ 0 τ (by decide) (by decide) (fun q h5 _ _ _ => c q h5) d (fun i hi => by rw [tn0] at hi; omega) (by omega)⟩
          · have kt : k.toNatClampNeg < 540 := by
              have := (hm_lt (x := k) (y := 540) k0 (by decide)).mp (by grind)
              rw [e540] at this
              exact this
            have ki : vp_in k 540 := hm_in k0 kt
            refine ⟨ki, ki, fun σ14 e14 v ev => ?_⟩
            have es : v.toNatClampNeg = k.toNatClampNeg + 1 := by
              have := hm_add (N := 1000) (s := k) (k := 1) k0 (by decide) (by rw [tn1]; omega) (by omega)
              rw [tn1] at this
              rw [ev]; exact this.1
            have hlt := hp_n_lt (a := k) (b := v) (c := 540) k0 (by grind) (by grind)
            refine ih v σ14 (by grind) (by grind) (fun q h5 => by rw [e14, hg_set_ne h5]; exact c q h5) (fun i hi => ?_) (by omega)
            rw [e14, hs_eq]
            split
            · next e9 => rw [e9, c 4 (by decide)]
            · exact d i (by omega)
      exact ⟨hp_n (540 - 0) + 1, key1 _ 0 σ13 (by decide) (by decide) (fun _ _ => rfl) (fun i hi => by rw [tn0] at hi; omega) (by omega)⟩
    · refine h0 _ σ12 (w.2.1.of (c12 4 (by decide))) (by rw [e12, hs_me]) ⟨fun q hq => ?_, fun i hi => ?_⟩
      · rw [c12 q (by omega), g.1 q hq, c5 q (by omega), hg_set_ne (by omega), hg_set_ne (by omega)]
      · by_cases e9 : i = 4
        · subst e9; rw [e12, hs_me, hs_me]
        · rw [y12 i e9, g.2 i hi, hs_ne e9]
          by_cases e8 : i = 0
          · subst e8; rw [fz, hs_me]
          · rw [hs_ne e8, k5 i e8 (by omega) (by omega) (by omega) (by omega)]
  have key : ∀ m (c : Int32) (σ' : hg_M), jT σ' → jN σ' → gR9 σ5 σ' → (c ≠ -1 → σ' 0 5 < σ' 0 4 ∧ c = σ' 3 (σ' 0 5).toNatClampNeg) → (σ' 0 6 = 0 → hp_n (600 - σ' 0 5) + 1 < m) → 0 < m → lM_X6_read_30 P m c σ' := by
    intro m
    induction m with
    | zero => intro c σ' _ _ _ _ _ h; omega
    | succ m ih =>
      intro c σ' w n g hc hm _
      rw [lM_X6_read_30]
      refine ⟨fun _ => h93 σ' w n g, fun ez => ?_⟩
      have hm := hm ez
      have h74 : ∀ σ8, jT σ8 → jN σ8 → gR9 σ' σ8 → (0 < σ8 0 6 ∨ σ' 0 5 + 1 ≤ σ8 0 5) → bM_X6_read_74 P (fun k0 k1 => lM_X6_read_30 P m k0 k1) σ8 := by
        intro σ8 w8 n8 g8 a8
        unfold bM_X6_read_74 bM_X6_read_89
        refine ⟨fun _ => qM_nx w8 (fun r σ9 w9 g9 f9 hr => ?_), fun hpos => ?_⟩
        · refine ih r σ9 w9 (n8.ofT g9) ((g.trans g8).trans g9.r9) hr (fun ez9 => ?_) (by omega)
          rcases a8 with a8 | a8
          · rw [f9] at ez9; exact absurd ez9 (by grind)
          · have q1 := w.1.1
            have q2 := w9.1.2.1
            have q3 := w9.1.2.2
            have q4 := g9.2.2.2
            have q5 := w.1.2.1
            have q6 := w.1.2.2
            have := hp_n_lt (a := σ' 0 5) (b := σ9 0 5) (c := 600) q1 (by grind) (by grind)
            omega
        · exact ih (-1) σ8 w8 n8 (g.trans g8) (fun h => absurd rfl h) (fun e => absurd e (by grind)) (by omega)
      have h69 : bM_X6_read_69 P (fun k0 k1 => lM_X6_read_30 P m k0 k1) c σ' := qM_readStatement w n ez hc (fun σ8 w8 n8 g8 a8 => h74 σ8 w8 n8 g8 a8)
      have h49 : bM_X6_read_49 P (fun k0 k1 => lM_X6_read_30 P m k0 k1) c σ' := by
        unfold bM_X6_read_49
        exact ⟨fun _ => h69, fun e => ⟨fun _ => h69, fun ho => qM_closeSide w n ho (hc (by rw [e]; decide)).1 (fun σ8 w8 n8 g8 a8 => h74 σ8 w8 n8 g8 (Or.inr a8))⟩⟩
      exact ⟨fun _ => h49, fun _ => ⟨fun _ => h93 σ' w n g, fun _ => h49⟩⟩
  refine qM_nx w5 (fun r σ6 w6 g6 _ hr => ⟨hp_n (600 - σ6 0 5) + 3, key _ r σ6 w6 (n5.ofT g6) g6.r9 hr (fun _ => by omega) (by omega)⟩)
