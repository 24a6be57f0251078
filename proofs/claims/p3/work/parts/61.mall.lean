/-! THE REFERENCE between calls, and its public methods. -/
def iB (σ : hg_M) : Prop := (0 ≤ σ 0 4 ∧ σ 0 4 ≤ 600) ∧ jE σ ∧ xOK σ ∧ mOK σ ∧ cOK σ ∧ (0 ≤ σ 0 39 ∧ (σ 0 39).toNatClampNeg ≤ 60)
theorem mOK.of {a b : hg_M} (h : mOK a) (c : ∀ q, q = 13 ∨ q = 14 ∨ q = 18 ∨ q = 19 ∨ q = 21 ∨ q = 22 → b q = a q) : mOK b := by
  unfold mOK
  rw [c 14 (by omega), c 18 (by omega), c 19 (by omega), c 21 (by omega), c 22 (by omega), c 13 (by omega)]
  exact h
theorem cOK.of {a b : hg_M} (h : cOK a) (e1 : b 0 20 = a 0 20) (e2 : b 12 = a 12) : cOK b := by
  unfold cOK
  rw [e1, e2]
  exact h
theorem iB.of {a b : hg_M} (h : iB a) (c : ∀ q, q = 4 ∨ q = 5 ∨ q = 8 ∨ q = 9 ∨ q = 12 ∨ q = 13 ∨ q = 14 ∨ q = 18 ∨ q = 19 ∨ q = 21 ∨ q = 22 → b q = a q) (y : ∀ i, i = 4 ∨ i = 9 ∨ i = 20 ∨ i = 39 → b 0 i = a 0 i) : iB b := by
  obtain ⟨h1, h2, h3, h4, h5, h6⟩ := h
  exact ⟨by rw [y 4 (by omega)]; exact h1, h2.of (c 4 (by omega)), h3.of (y 9 (by omega)) (c 5 (by omega)) (c 8 (by omega)) (c 9 (by omega)), h4.of (fun q hq => c q (by omega)), h5.of (y 20 (by omega)) (c 12 (by omega)), by rw [y 39 (by omega)]; exact h6⟩
section MB
variable {σ : hg_M} {P : Int32 → hg_M → Prop}
theorem iB.thr {t : Int32} (h : iB σ) : iB (hg_set σ 0 0 t) := h.of (fun q hq => hg_set_ne (by omega)) (fun i hi => hs_ne (by omega))
theorem qB_thrown (h : P (σ 0 0) σ) : wM_X6_thrown σ P := h
/-- variable: thrown() then says 0, or 1 if v is none -/
theorem qB_variable {v x : Int32} {P : hg_M → Prop} (h : iB σ) (hP : ∀ σ', iB σ' → ((0 ≤ v ∧ v < 16 ∧ σ' 0 0 = 0) ∨ ((v < 0 ∨ 16 ≤ v) ∧ σ' 0 0 = 1)) → P σ') : wM_X6_variable v x σ P := by
  unfold wM_X6_variable bM_X6_variable_24
  have e0 : (0 : Int64).toInt = 0 := by decide
  have e15 : (15 : Int64).toInt = 15 := by decide
  have z0 : (0 : Int32).toInt = 0 := by decide
  have z16 : (16 : Int32).toInt = 16 := by decide
  refine qM_inn (fun hb => ?_) (fun l u => ?_)
  · rw [i64, e0, e15] at hb
    have hv : v < 0 ∨ 16 ≤ v := by
      rw [Int32.lt_iff_toInt_lt, Int32.le_iff_toInt_le, z0, z16]
      omega
    unfold wM_X6_may bM_X6_may_18 bM_X6_may_33
    refine ⟨fun h => absurd rfl h, fun _ σ1 e1 => ?_⟩
    subst e1
    rw [hs_me]
    exact ⟨fun _ => ⟨Or.inl rfl, fun _ => hP _ h.thr (Or.inr ⟨hv, hs_me⟩), fun h => absurd rfl h⟩, fun h => absurd h (by decide)⟩
  · rw [i64, e0] at l
    rw [i64, e15] at u
    have v0 : 0 ≤ v := by rw [Int32.le_iff_toInt_le, z0]; exact l
    have v1 : v < 16 := by rw [Int32.lt_iff_toInt_lt, z16]; omega
    unfold wM_X6_may bM_X6_may_18 bM_X6_may_33
    refine ⟨fun _ => ⟨fun _ σ1 e1 => ?_, fun h => absurd h (by decide)⟩, fun h => absurd h (by decide)⟩
    subst e1
    rw [hs_me]
    refine ⟨fun h => absurd rfl h, fun _ => ⟨Or.inr rfl, fun h => absurd h (by decide), fun _ => ⟨hp_16 v0 v1, fun σ5 e5 => ?_⟩⟩⟩
    subst e5
    exact hP _ (h.thr.of (fun q hq => hg_set_ne (by omega)) (fun i _ => by rw [hg_set_ne (by decide)])) (Or.inl ⟨v0, v1, by rw [hg_set_ne (by decide), hs_me]⟩)
theorem qB_word {v x : Int32} {P : hg_M → Prop} (h : iB σ) (hP : ∀ σ', iB σ' → ((0 ≤ v ∧ v < 32 ∧ σ' 0 0 = 0) ∨ ((v < 0 ∨ 32 ≤ v) ∧ σ' 0 0 = 1)) → P σ') : wM_X6_word v x σ P := by
  unfold wM_X6_word bM_X6_word_24
  have e0 : (0 : Int64).toInt = 0 := by decide
  have e31 : (31 : Int64).toInt = 31 := by decide
  have z0 : (0 : Int32).toInt = 0 := by decide
  have z32 : (32 : Int32).toInt = 32 := by decide
  refine qM_inn (fun hb => ?_) (fun l u => ?_)
  · rw [i64, e0, e31] at hb
    have hv : v < 0 ∨ 32 ≤ v := by
      rw [Int32.lt_iff_toInt_lt, Int32.le_iff_toInt_le, z0, z32]
      omega
    unfold wM_X6_may bM_X6_may_18 bM_X6_may_33
    refine ⟨fun h => absurd rfl h, fun _ σ1 e1 => ?_⟩
    subst e1
    rw [hs_me]
    exact ⟨fun _ => ⟨Or.inl rfl, fun _ => hP _ h.thr (Or.inr ⟨hv, hs_me⟩), fun h => absurd rfl h⟩, fun h => absurd h (by decide)⟩
  · rw [i64, e0] at l
    rw [i64, e31] at u
    have v0 : 0 ≤ v := by rw [Int32.le_iff_toInt_le, z0]; exact l
    have v1 : v < 32 := by rw [Int32.lt_iff_toInt_lt, z32]; omega
    unfold wM_X6_may bM_X6_may_18 bM_X6_may_33
    refine ⟨fun _ => ⟨fun _ σ1 e1 => ?_, fun h => absurd h (by decide)⟩, fun h => absurd h (by decide)⟩
    subst e1
    rw [hs_me]
    refine ⟨fun h => absurd rfl h, fun _ => ⟨Or.inr rfl, fun h => absurd h (by decide), fun _ => ⟨hp_32 v0 v1, fun σ5 e5 => ?_⟩⟩⟩
    subst e5
    exact hP _ (h.thr.of (fun q hq => hg_set_ne (by omega)) (fun i _ => by rw [hg_set_ne (by decide)])) (Or.inl ⟨v0, v1, by rw [hg_set_ne (by decide), hs_me]⟩)
theorem qB_feed {b : Int64} {n : Int32} (h : iB σ) (hP : ∀ r σ', iB σ' → P r σ') : wM_X6_feed b n σ P := by
  have e1 : (1 : Int64).toInt = 1 := by decide
  have e8 : (8 : Int64).toInt = 8 := by decide
  have z1 : (1 : Int32).toInt = 1 := by decide
  have z8 : (8 : Int32).toInt = 8 := by decide
  obtain ⟨t0, t1⟩ := h.1
  have key : ∀ m (k : Int32) (τ : hg_M), -1 ≤ k → k < 8 → iB τ → 0 ≤ τ 0 4 + (k + 1) → τ 0 4 + (k + 1) ≤ 600 → hp_n (k + 1) < m → lM_X6_feed_40 P m b k τ := by
    intro m
    induction m with
    | zero => intro k τ _ _ _ _ _ h; omega
    | succ m ih =>
      intro k τ k0 k1 w a0 a1 hn
      rw [lM_X6_feed_40]
      obtain ⟨u0, u1⟩ := w.1
      refine ⟨fun _ => hP _ τ w, fun hk => ⟨hp_600 u0 (by grind), fun σ6 e6 σ7 e7 v ev => ?_⟩⟩
      have e : v + 1 = k := by grind
      have hlt := hp_n_lt (a := 8 - (k + 1)) (b := 8 - k) (c := 8) (by grind) (by grind) (by grind)
      have q1 : (8 : Int32) - (8 - k) = k := by grind
      have q2 : (8 : Int32) - (8 - (k + 1)) = k + 1 := by grind
      rw [q1, q2] at hlt
      have f4 : σ7 0 4 = τ 0 4 + 1 := by rw [e7, hs_me, e6, hg_set_ne (by decide)]
      have w7 : iB σ7 := by
        obtain ⟨h1, h2, h3, h4, h5, h6⟩ := w
        have c7 : ∀ q, q ≠ 0 → q ≠ 3 → σ7 q = τ q := fun q a b => by rw [e7, hg_set_ne a, e6, hg_set_ne b]
        have y7 : ∀ i, i ≠ 4 → σ7 0 i = τ 0 i := fun i hi => by rw [e7, hs_ne hi, e6, hg_set_ne (by decide)]
        exact ⟨by rw [f4]; exact ⟨by grind, by grind⟩, h2.of (c7 4 (by decide) (by decide)), h3.of (y7 9 (by decide)) (c7 5 (by decide) (by decide)) (c7 8 (by decide) (by decide)) (c7 9 (by decide) (by decide)), h4.of (fun q hq => c7 q (by omega) (by omega)), h5.of (y7 20 (by decide)) (c7 12 (by decide) (by decide)), by rw [y7 39 (by decide)]; exact h6⟩
      exact ih v σ7 (by grind) (by grind) w7 (by rw [f4, e]; grind) (by rw [f4, e]; grind) (by rw [e]; omega)
  unfold wM_X6_feed
  refine qM_inn (fun _ => ?_) (fun l u => ?_)
  · have : ∀ t2, bM_X6_feed_27 P b n 0 t2 σ := by
      intro t2
      unfold bM_X6_feed_27 wM_X6_may bM_X6_may_18 bM_X6_may_33
      refine ⟨fun h => absurd rfl h, fun _ σ1 e1 => ?_⟩
      subst e1
      rw [hs_me]
      exact ⟨fun _ => ⟨Or.inl rfl, fun h => absurd rfl h, fun _ => hP _ _ h.thr⟩, fun h => absurd h (by decide)⟩
    exact ⟨fun _ => this 0, fun _ => this 1⟩
  · rw [i64, e1] at l
    rw [i64, e8] at u
    have n1 : 1 ≤ n := by rw [Int32.le_iff_toInt_le, z1]; exact l
    have n8 : n ≤ 8 := by rw [Int32.le_iff_toInt_le, z8]; exact u
    refine ⟨fun _ => ?_, fun hle => ?_⟩
    · unfold bM_X6_feed_27 wM_X6_may bM_X6_may_18 bM_X6_may_33
      refine ⟨fun _ => ⟨fun h => absurd rfl h, fun _ σ1 e1 => ?_⟩, fun h => absurd h (by decide)⟩
      subst e1
      rw [hs_me]
      exact ⟨fun _ => ⟨Or.inl rfl, fun h => absurd rfl h, fun _ => hP _ _ h.thr⟩, fun h => absurd h (by decide)⟩
    · unfold bM_X6_feed_27
      refine qM_may (fun t => ⟨fun h => absurd rfl h, fun _ => hP _ _ h.thr⟩) ⟨fun _ v ev => ⟨hp_n (v + 1) + 1, key _ v _ (by grind) (by grind) h.thr ?_ ?_ (by omega)⟩, fun h => absurd h (by decide)⟩
      · rw [hs_ne (by decide)]; grind
      · rw [hs_ne (by decide)]; grind
theorem qB_read (h : iB σ) (hP : ∀ r σ', iB σ' → P r σ') : wM_X6_read σ P := by
  obtain ⟨h1, h2, h3, h4, h5, h6⟩ := id h
  refine qM_read h1.1 h1.2 h2 (fun r σ' je e4 g => hP r σ' ?_) (fun r σ' je e4 x g e20 z13 => hP r σ' ?_)
  · have y : ∀ i, i ≠ 0 → i ≠ 4 → ¬ ((5 ≤ i ∧ i ≤ 8) ∨ i = 18) → σ' 0 i = σ 0 i := fun i a b c => by rw [g.2 i c, hs_ne b, hs_ne a]
    have c : ∀ q, q ≠ 0 → ¬ (q = 0 ∨ q = 4 ∨ q = 6 ∨ q = 7 ∨ q = 10 ∨ q = 11) → σ' q = σ q := fun q a b => by rw [g.1 q b, hg_set_ne a, hg_set_ne a]
    exact ⟨by rw [e4]; decide, je, h3.of (y 9 (by decide) (by decide) (by omega)) (c 5 (by decide) (by omega)) (c 8 (by decide) (by omega)) (c 9 (by decide) (by omega)), h4.of (fun q hq => c q (by omega) (by omega)), h5.of (y 20 (by decide) (by decide) (by omega)) (c 12 (by decide) (by omega)), by rw [y 39 (by decide) (by decide) (by omega)]; exact h6⟩
  · obtain ⟨g1, g2, g3, g4, g5⟩ := g
    obtain ⟨m1, m2, m3, m4, m5, m6⟩ := h4
    refine ⟨by rw [e4]; decide, je, x, ⟨by rw [g1 14 (by omega)]; exact m1, by rw [g1 18 (by omega)]; exact m2, by rw [g1 19 (by omega)]; exact m3, by rw [g1 21 (by omega)]; exact m4, by rw [g1 22 (by omega)]; exact m5, fun i hi => Or.inl (z13 i hi)⟩, ⟨by rw [e20]; decide, ?_, ?_⟩, by rw [g5 39 (by omega)]; exact h6⟩
    · rw [e20, tn0]; exact fun i hi => by omega
    · rw [e20, tn0]; exact Nat.zero_le _
theorem qB_fault (h : iB σ) (hP : ∀ r σ', iB σ' → P r σ') : wM_X6_fault σ P := by
  intro σ1 e1
  subst e1
  exact hP _ _ h.thr
theorem gQ.B {a b : hg_M} (g : gQ a b) (h : iB a) (o0 : 0 ≤ b 0 39) (o1 : (b 0 39).toNatClampNeg ≤ 60) : iB b := by
  obtain ⟨h1, h2, h3, h4, h5, h6⟩ := h
  exact ⟨by rw [g.2 4 (by omega)]; exact h1, h2.of (g.1 4 (by omega) (by omega)), g.x h3, h4.of (fun q hq => g.1 q (by omega) (by omega)), g.cc h5, o0, o1⟩
theorem qB_tell (h : iB σ) (hP : ∀ r σ', iB σ' → P r σ') : wM_X6_tell σ P := qM_tell h.2.2.1 (fun r σ' g o0 o1 => hP r σ' (g.B h.thr o0 o1))
theorem qB_run (h : iB σ) (hP : ∀ r σ', iB σ' → P r σ') : wM_X6_run σ P := qM_run h.2.2.2.2.1 (fun t r => hP r _ h.thr) (fun r σ' g o0 o1 => hP r σ' (g.B h.thr o0 o1))
theorem qB_trim (h : iB σ) (hP : ∀ r σ', iB σ' → P r σ') : wM_X6_trim σ P := by
  refine qM_trim h.2.2.2.2.1 (fun r σ' g c => hP r σ' ?_)
  obtain ⟨h1, h2, h3, h4, h5, h6⟩ := h
  exact ⟨by rw [g.2 4 (by decide) (by decide)]; exact h1, h2.of (g.1 4 (by decide) (by decide) (by decide)), h3.of (g.2 9 (by decide) (by decide)) (g.1 5 (by decide) (by decide) (by decide)) (g.1 8 (by decide) (by decide) (by decide)) (g.1 9 (by decide) (by decide) (by decide)), h4.of (fun q hq => g.1 q (by omega) (by omega) (by omega)), c, by rw [g.2 39 (by decide) (by decide)]; exact h6⟩
theorem qB_lower {l : Int32} (h : iB σ) (hP : ∀ r σ', iB σ' → P r σ') : wM_X6_lower l σ P := by
  refine qM_lower h.2.2.1 h.2.2.2.1 (fun t r => hP r _ h.thr) (fun r σ' g m c => hP r _ ?_)
  obtain ⟨h1, h2, h3, h4, h5, h6⟩ := h
  have y : ∀ i, i ≠ 0 → i ≠ 20 → i ≠ 21 → i ≠ 22 → i ≠ 24 → i ≠ 26 → hg_set σ' 0 22 1 0 i = σ 0 i := fun i a0 a20 a21 a22 a24 a26 => by rw [g.2 i a20 a21 a24 a26, hs_ne a22, hs_ne a0]
  have q : ∀ q, ¬ (q = 0 ∨ (12 ≤ q ∧ q ≤ 22)) → hg_set σ' 0 22 1 q = σ q := fun q hq => by rw [g.1 q hq, hg_set_ne (by omega), hg_set_ne (by omega)]
  exact ⟨by rw [y 4 (by decide) (by decide) (by decide) (by decide) (by decide) (by decide)]; exact h1, h2.of (q 4 (by omega)), h3.of (y 9 (by decide) (by decide) (by decide) (by decide) (by decide) (by decide)) (q 5 (by omega)) (q 8 (by omega)) (q 9 (by omega)), m.of (fun r hr => hg_set_ne (by omega)), c.of (hs_ne (by decide)) (hg_set_ne (by decide)), by rw [y 39 (by decide) (by decide) (by decide) (by decide) (by decide) (by decide)]; exact h6⟩
/-- a number between 0 and one below n -/
theorem inLow {x n : Int32} (n0 : 0 ≤ n) (l : (0 : Int64).toInt ≤ x.toInt64.toInt) (u : x.toInt64.toInt ≤ (n - 1).toInt64.toInt) : 0 ≤ x ∧ x.toNatClampNeg < n.toNatClampNeg := by
  rw [i64] at l u
  rw [i64] at u
  have e0 : (0 : Int64).toInt = 0 := by decide
  have z0 : (0 : Int32).toInt = 0 := by decide
  rw [e0] at l
  have x0 : 0 ≤ x := by rw [Int32.le_iff_toInt_le, z0]; exact l
  refine ⟨x0, ?_⟩
  by_cases hz : n.toNatClampNeg = 0
  · have : n = 0 := (hm_eq n0 (by decide)).mpr (by rw [hz, tn0])
    rw [this] at u
    have : ((0 : Int32) - 1).toInt = -1 := by decide
    omega
  · have sb := hm_sub (s := n) (k := 1) n0 (by decide) (by rw [tn1]; omega)
    rw [tn1] at sb
    have := hm_t sb.2
    have := hm_t x0
    omega
theorem inTo {x : Int32} {c : Int64} {m : Nat} (hc : c.toInt = (m : Int)) (l : (0 : Int64).toInt ≤ x.toInt64.toInt) (u : x.toInt64.toInt ≤ c.toInt) : 0 ≤ x ∧ x.toNatClampNeg ≤ m := by
  rw [i64] at l u
  have e0 : (0 : Int64).toInt = 0 := by decide
  have z0 : (0 : Int32).toInt = 0 := by decide
  rw [e0] at l
  have x0 : 0 ≤ x := by rw [Int32.le_iff_toInt_le, z0]; exact l
  exact ⟨x0, by have := hm_t x0; omega⟩
/-- may, where the second question is asked behind the first -/
theorem qM_may0 {y : Int32} {Q : Int32 → hg_M → Prop} (h0 : ∀ t, Q 0 (hg_set σ 0 0 t)) : wM_X6_may 0 y σ Q := by
  unfold wM_X6_may bM_X6_may_18 bM_X6_may_33
  refine ⟨fun h => absurd rfl h, fun _ σ1 e1 => ?_⟩
  subst e1
  rw [hs_me]
  exact ⟨fun _ => ⟨Or.inl rfl, h0 1⟩, fun h => absurd h (by decide)⟩
theorem qM_may10 {Q : Int32 → hg_M → Prop} (h0 : ∀ t, Q 0 (hg_set σ 0 0 t)) : wM_X6_may 1 0 σ Q := by
  unfold wM_X6_may bM_X6_may_18 bM_X6_may_33
  refine ⟨fun _ => ⟨fun h => absurd rfl h, fun _ σ1 e1 => ?_⟩, fun h => absurd h (by decide)⟩
  subst e1
  rw [hs_me]
  exact ⟨fun _ => ⟨Or.inl rfl, h0 2⟩, fun h => absurd h (by decide)⟩
theorem qB_step {i w : Int32} (h : iB σ) (hP : ∀ r σ', iB σ' → P r σ') : wM_X6_step i w σ P := by
  obtain ⟨h1, h2, h3, h4, h5, h6⟩ := id h
  unfold wM_X6_step
  have z : ∀ t : Int32, (((0 : Int32) ≠ 0 → vp_in (6 * i + w) 24000 ∧ P (hg_set σ 0 0 t 12 (6 * i + w).toNatClampNeg) (hg_set σ 0 0 t)) ∧ ((0 : Int32) = 0 → P 0 (hg_set σ 0 0 t))) := fun t => ⟨fun h => absurd rfl h, fun _ => hP _ _ h.thr⟩
  refine qM_inn (fun _ => qM_isIn (qM_may0 z) (qM_may0 z)) (fun l u => qM_inn (fun _ => qM_may10 z) (fun l2 u2 => qM_may z ⟨fun _ => ⟨?_, hP _ _ h.thr⟩, fun h => absurd h (by decide)⟩))
  have a := inLow h5.1.1 l u
  have b := inTo (m := 5) (by decide) l2 u2
  exact (hm6 (j := i) (c := w) rfl b.1 (by omega) a.1 (by have := h5.1.2; omega)).2
theorem qB_statement {s w : Int32} (h : iB σ) (hP : ∀ r σ', iB σ' → P r σ') : wM_X6_statement s w σ P := by
  obtain ⟨h1, h2, h3, h4, h5, h6⟩ := id h
  have n60 := h3.1.2
  unfold wM_X6_statement
  refine qM_inn (fun _ => qM_isIn (qM_may0 (fun t => ⟨fun h => absurd rfl h, fun _ => hP _ _ h.thr⟩)) (qM_may0 (fun t => ⟨fun h => absurd rfl h, fun _ => hP _ _ h.thr⟩))) (fun l u => qM_isIn (qM_may10 (fun t => ⟨fun h => absurd rfl h, fun _ => hP _ _ h.thr⟩)) (qM_may (fun t => ⟨fun h => absurd rfl h, fun _ => hP _ _ h.thr⟩) ⟨fun _ => ?_, fun h => absurd h (by decide)⟩))
  have a := inLow h3.1.1 l u
  have s1 : s < 60 := (hm_lt a.1 (by decide)).mpr (by rw [tn60]; omega)
  obtain ⟨τ, et⟩ : ∃ z, z = hg_set σ 0 0 0 := ⟨_, rfl⟩
  rw [← et]
  have wt : iB τ := by rw [et]; exact h.thr
  have ct := wt.2.2.2.2.1
  refine ⟨fun _ => ⟨fun _ => ⟨fun _ => ?_, fun _ => ⟨hp_60 a.1 s1, fun _ => hP _ _ wt, fun _ => hP _ _ wt⟩⟩, fun _ => qM_of a.1 s1 (by decide) (by decide) (hP _ _ wt)⟩, fun _ => qM_of a.1 s1 (by decide) (by decide) (hP _ _ wt)⟩
  have key : ∀ n (c k : Int32), 0 ≤ k → k.toNatClampNeg ≤ 4000 → 4000 - k.toNatClampNeg < n → lM_X6_statement_80 P n s c k τ := by
    intro n
    induction n with
    | zero => intro c k _ _ h; omega
    | succ n ih =>
      intro c k k0 k1 hn
      rw [lM_X6_statement_80]
      refine ⟨fun _ => hP _ _ wt, fun hk => ?_⟩
      have kl := hm_nle ct.1.1 k0 hk
      have ix := hm6 (j := k) tn5 (by decide) (by omega) k0 (by have := ct.1.2; omega)
      have go : ∀ t, bM_X6_statement_111 P (fun k0 k1 k2 k3 => lM_X6_statement_80 P n k0 k1 k2 k3) s k c t τ := by
        intro t
        unfold bM_X6_statement_111
        intro v1 _ v2 e2
        have es := hm_s k0 (by have := ct.1.2; omega) e2
        exact ih v1 v2 es.2 (by have := ct.1.2; omega) (by have := ct.1.2; omega)
      exact ⟨ix.2, fun _ => go 0, fun _ => go 1⟩
  exact ⟨4001, key _ 0 0 (by decide) (by rw [tn0]; omega) (by rw [tn0]; omega)⟩
theorem qB_left {v : Int32} (h : iB σ) (hP : ∀ r σ', iB σ' → P r σ') : wM_X6_left v σ P := by
  unfold wM_X6_left bM_X6_left_27
  refine qM_inn (fun _ => qM_may0 (fun t => ⟨fun _ => hP _ _ h.thr, fun h => absurd rfl h⟩)) (fun l u => qM_may (fun t => ⟨fun _ => hP _ _ h.thr, fun h => absurd rfl h⟩) ⟨fun h => absurd h (by decide), fun _ => ⟨?_, hP _ _ h.thr⟩⟩)
  have b := inTo (m := 15) (by decide) l u
  exact hm_in b.1 (by omega)
theorem qB_kept {v : Int32} (h : iB σ) (hP : ∀ r σ', iB σ' → P r σ') : wM_X6_kept v σ P := by
  unfold wM_X6_kept bM_X6_kept_27
  refine qM_inn (fun _ => qM_may0 (fun t => ⟨fun _ => hP _ _ h.thr, fun h => absurd rfl h⟩)) (fun l u => qM_may (fun t => ⟨fun _ => hP _ _ h.thr, fun h => absurd rfl h⟩) ⟨fun h => absurd h (by decide), fun _ => ⟨?_, hP _ _ h.thr⟩⟩)
  have b := inTo (m := 31) (by decide) l u
  exact hm_in b.1 (by omega)
theorem qB_output {v : Int32} (h : iB σ) (hP : ∀ r σ', iB σ' → P r σ') : wM_X6_output v σ P := by
  unfold wM_X6_output bM_X6_output_31
  refine qM_inn (fun _ => qM_may0 (fun t => ⟨fun _ => hP _ _ h.thr, fun h => absurd rfl h⟩)) (fun l u => qM_may (fun t => ⟨fun _ => hP _ _ h.thr, fun h => absurd rfl h⟩) ⟨fun h => absurd h (by decide), fun _ => ⟨?_, hP _ _ h.thr⟩⟩)
  have b := inLow h.2.2.2.2.2.1 l u
  exact hm_in b.1 (by have := h.2.2.2.2.2.2; omega)
theorem qB_count {w : Int32} (h : iB σ) (hP : ∀ r σ', iB σ' → P r σ') : wM_X6_count w σ P := by
  have body : ∀ τ, iB τ → wM_X6_countJumps τ (fun r6 σ5 => P r6 σ5) ∧ wM_X6_countConverted τ (fun r6 σ5 => P r6 σ5) := by
    intro τ wt
    have ct := wt.2.2.2.2.1
    have xt := wt.2.2.1
    constructor
    · have key : ∀ n (c k : Int32), 0 ≤ k → k.toNatClampNeg ≤ 4000 → 4000 - k.toNatClampNeg < n → lM_X6_countJumps_4 (fun r6 σ5 => P r6 σ5) n c k τ := by
        intro n
        induction n with
        | zero => intro c k _ _ h; omega
        | succ n ih =>
          intro c k k0 k1 hn
          rw [lM_X6_countJumps_4]
          refine ⟨fun _ => hP _ _ wt, fun hk => ?_⟩
          have kl := hm_nle ct.1.1 k0 hk
          have ix := hm60 (j := k) k0 (by have := ct.1.2; omega)
          have go : ∀ t, bM_X6_countJumps_46 (fun r6 σ5 => P r6 σ5) (fun k0 k1 k2 => lM_X6_countJumps_4 (fun r6 σ5 => P r6 σ5) n k0 k1 k2) k c t τ := by
            intro t
            unfold bM_X6_countJumps_46
            intro v1 _ v2 e2
            have es := hm_s k0 (by have := ct.1.2; omega) e2
            exact ih v1 v2 es.2 (by have := ct.1.2; omega) (by have := ct.1.2; omega)
          have g41 : bM_X6_countJumps_41 (fun r6 σ5 => P r6 σ5) (fun k0 k1 k2 => lM_X6_countJumps_4 (fun r6 σ5 => P r6 σ5) n k0 k1 k2) k c τ := go 1
          exact ⟨ix.2.2, fun _ => g41, fun _ => ⟨ix.2.2, fun _ => go 0, fun _ => g41⟩⟩
      exact ⟨4001, key _ 0 0 (by decide) (by rw [tn0]; omega) (by rw [tn0]; omega)⟩
    · have key : ∀ n (c k : Int32), 0 ≤ k → k.toNatClampNeg ≤ 60 → 60 - k.toNatClampNeg < n → lM_X6_countConverted_4 (fun r6 σ5 => P r6 σ5) n c k τ := by
        intro n
        induction n with
        | zero => intro c k _ _ h; omega
        | succ n ih =>
          intro c k k0 k1 hn
          rw [lM_X6_countConverted_4]
          refine ⟨fun _ => hP _ _ wt, fun hk => ?_⟩
          have kl := hm_nle xt.1.1 k0 hk
          have n60 := xt.1.2
          have go : ∀ t, bM_X6_countConverted_27 (fun r6 σ5 => P r6 σ5) (fun k0 k1 k2 => lM_X6_countConverted_4 (fun r6 σ5 => P r6 σ5) n k0 k1 k2) k c t τ := by
            intro t
            unfold bM_X6_countConverted_27
            intro v1 _ v2 e2
            have es := hm_s k0 (by omega) e2
            exact ih v1 v2 es.2 (by omega) (by omega)
          exact ⟨hm_in k0 (by omega), fun _ => go 0, fun _ => go 1⟩
      exact ⟨61, key _ 0 0 (by decide) (by rw [tn0]; omega) (by rw [tn0]; omega)⟩
  unfold wM_X6_count
  have z : ∀ τ, iB τ → (((w.toInt < 0 ∨ 7 < w.toInt) → P (τ 0 41) τ) ∧ (w.toInt = 0 → P (τ 0 9) τ) ∧ (w.toInt = 1 → P (τ 0 20) τ) ∧ (w.toInt = 2 → P (τ 0 21) τ) ∧ (w.toInt = 3 → wM_X6_countJumps τ (fun r6 σ5 => P r6 σ5)) ∧ (w.toInt = 4 → wM_X6_countConverted τ (fun r8 σ7 => P r8 σ7)) ∧ (w.toInt = 5 → P (τ 0 39) τ) ∧ (w.toInt = 6 → P (τ 0 4) τ) ∧ (w.toInt = 7 → P (τ 0 40) τ)) := fun τ wt => ⟨fun _ => hP _ _ wt, fun _ => hP _ _ wt, fun _ => hP _ _ wt, fun _ => hP _ _ wt, fun _ => (body τ wt).1, fun _ => (body τ wt).2, fun _ => hP _ _ wt, fun _ => hP _ _ wt, fun _ => hP _ _ wt⟩
  exact qM_isIn (qM_may (fun t => ⟨fun h => absurd rfl h, fun _ => hP _ _ h.thr⟩) ⟨fun _ => z _ h.thr, fun h => absurd h (by decide)⟩) (qM_may (fun t => ⟨fun h => absurd rfl h, fun _ => hP _ _ h.thr⟩) ⟨fun _ => z _ h.thr, fun h => absurd h (by decide)⟩)
end MB
