/-! THE REFERENCE: runs, and its public methods. -/
theorem i64 (x : Int32) : x.toInt64.toInt = x.toInt := by simp
section MN
variable {σ : hg_M}
theorem qM_inn {a b c : Int64} {Q : Int32 → hg_M → Prop} (h0 : (a.toInt < b.toInt ∨ c.toInt < a.toInt) → Q 0 σ) (h1 : b.toInt ≤ a.toInt → a.toInt ≤ c.toInt → Q 1 σ) : wM_X6_isIn a b c σ Q := by
  unfold wM_X6_isIn bM_X6_isIn_17 bM_X6_isIn_18
  rw [lg_cmp_lt, lg_cmp_gt, Int64.lt_iff_toInt_lt, Int64.lt_iff_toInt_lt]
  exact ⟨fun h => ⟨Or.inl rfl, h0 (Or.inl h)⟩, fun h => ⟨fun g => ⟨Or.inl rfl, h0 (Or.inr g)⟩, fun g => ⟨Or.inr rfl, h1 (by omega) (by omega)⟩⟩⟩
/-- a run changes these alone -/
def gQ (σ σ' : hg_M) : Prop := (∀ q, q ≠ 0 → ¬ (24 ≤ q ∧ q ≤ 28) → σ' q = σ q) ∧ ∀ i, ¬ (39 ≤ i ∧ i ≤ 42) → σ' 0 i = σ 0 i
theorem gQ.refl (σ : hg_M) : gQ σ σ := ⟨fun _ _ _ => rfl, fun _ _ => rfl⟩
theorem gQ.trans {a b c : hg_M} (h : gQ a b) (g : gQ b c) : gQ a c := ⟨fun q h1 h2 => (g.1 q h1 h2).trans (h.1 q h1 h2), fun i hi => (g.2 i hi).trans (h.2 i hi)⟩
theorem gQ.c {q i : Nat} {v : Int32} (h : 24 ≤ q ∧ q ≤ 28) : gQ σ (hg_set σ q i v) := ⟨fun p _ hp => hg_set_ne (by omega), fun j _ => by rw [hg_set_ne (by omega)]⟩
theorem gQ.o {i : Nat} {v : Int32} (h : 39 ≤ i ∧ i ≤ 42) : gQ σ (hg_set σ 0 i v) := ⟨fun p hp _ => hg_set_ne hp, fun j hj => hs_ne (by omega)⟩
theorem gQ.x {a b : hg_M} (g : gQ a b) (h : xOK a) : xOK b := h.of (g.2 9 (by omega)) (g.1 5 (by omega) (by omega)) (g.1 8 (by omega) (by omega)) (g.1 9 (by omega) (by omega))
theorem gQ.cc {a b : hg_M} (g : gQ a b) (h : cOK a) : cOK b := by
  unfold cOK
  rw [g.2 20 (by omega), g.1 12 (by omega) (by omega)]
  exact h
theorem qM_stop {a b : Int32} {P : hg_M → Prop} (h : P (hg_set (hg_set σ 0 42 a) 0 40 b)) : wM_X6_stop a b σ P := by
  intro σ1 e1 σ2 e2
  subst e1; subst e2
  exact h
theorem gQ.stop {a b : Int32} : gQ σ (hg_set (hg_set σ 0 42 a) 0 40 b) := (gQ.o (by omega)).trans (gQ.o (by omega))
theorem st39 {a b : Int32} : hg_set (hg_set σ 0 42 a) 0 40 b 0 39 = σ 0 39 := by rw [hs_ne (by decide), hs_ne (by decide)]
theorem qM_isWord {a s : Int32} {Q : Int32 → hg_M → Prop} (h0 : Q 0 (hg_set (hg_set σ 0 42 2) 0 40 s)) (h1 : vp_in a 32 → Q 1 σ) : wM_X6_isWord a s σ Q := by
  unfold wM_X6_isWord bM_X6_isWord_20
  refine qM_inn (fun _ => ⟨fun h => absurd rfl h, fun _ => qM_stop ⟨Or.inl rfl, h0⟩⟩) (fun l u => ⟨fun _ => ⟨Or.inr rfl, h1 ?_⟩, fun h => absurd h (by decide)⟩)
  rw [i64] at l u
  have e0 : (0 : Int64).toInt = 0 := by decide
  have e31 : (31 : Int64).toInt = 31 := by decide
  rw [e0] at l; rw [e31] at u
  have a0 : 0 ≤ a := by
    rw [Int32.le_iff_toInt_le]
    have : (0 : Int32).toInt = 0 := by decide
    rw [this]; exact l
  exact hm_in a0 (by have := hm_t a0; omega)
theorem nz64 {x : Int32} (h : x ≠ 0) : ¬ x.toInt64 = 0 := by
  intro e
  apply h
  apply Int32.toInt_inj.mp
  have : x.toInt64.toInt = (0 : Int64).toInt := by rw [e]
  rw [i64] at this
  rw [this]; decide
theorem qM_reach {op a b s : Int32} {Q : Int32 → hg_M → Prop} (h : ∀ r, Q r σ) (h0 : ∀ r, Q r (hg_set (hg_set σ 0 42 1) 0 40 s)) : wM_X6_reach op a b s σ Q := by
  unfold wM_X6_reach bM_X6_reach_152 bM_X6_reach_141 bM_X6_reach_130 bM_X6_reach_106
  exact ⟨fun _ => ⟨fun _ => h _, fun _ => h _⟩, fun _ => h _, fun _ => h _, fun _ => h _, fun _ => ⟨fun hb => ⟨nz64 hb, fun v _ => ⟨fun _ => h _, fun _ => h _⟩⟩, fun _ => qM_stop (h0 0)⟩, fun _ => ⟨fun hb => ⟨nz64 hb, fun v _ => ⟨fun _ => h _, fun _ => h _⟩⟩, fun _ => qM_stop (h0 0)⟩, fun _ => h _, fun _ => h _, fun _ => h _, fun _ => ⟨fun _ => h _, fun _ => h _⟩, fun _ => ⟨fun _ => h _, fun _ => h _⟩⟩
theorem rgi {x : Int32} (h : rg x) : vp_in x 4100 := hp_in (z := 4100) (by decide) h.1 h.2
theorem rg16 {x : Int32} (h0 : 0 ≤ x) (h1 : x < 16) : rg x := ⟨h0, by grind⟩
theorem qM_begin {P : hg_M → Prop} (hP : ∀ σ', gQ σ σ' → σ' 0 39 = 0 → P σ') : wM_X6_begin σ P := by
  have key2 : ∀ n (v : Int32) (τ : hg_M), 0 ≤ v → v ≤ 32 → gQ σ τ → hp_n (32 - v) < n → lM_X6_begin_28 P n v τ := by
    intro n
    induction n with
    | zero => intro v τ _ _ _ h; omega
    | succ n ih =>
      intro v τ v0 v1 g hn
      rw [lM_X6_begin_28]
      refine ⟨fun _ σ3 e3 σ4 e4 σ5 e5 σ6 e6 => ?_, fun hl => ?_⟩
      · refine hP σ6 (g.trans ?_) (by rw [e6, hs_ne (by decide), e5, hs_ne (by decide), e4, hs_ne (by decide), e3, hs_me])
        rw [e6, e5, e4, e3]
        exact (((gQ.o (by omega)).trans (gQ.o (by omega))).trans (gQ.o (by omega))).trans (gQ.o (by omega))
      · have vi := hp_32 v0 (by grind)
        refine ⟨vi, vi, fun σ7 e7 v8 ev => ?_⟩
        have hlt := hp_n_lt (a := v) (b := v8) (c := 32) v0 (by grind) (by grind)
        exact ih v8 σ7 (by grind) (by grind) (by rw [e7]; exact g.trans (gQ.c (by omega))) (by omega)
  have key1 : ∀ n (v : Int32) (τ : hg_M), 0 ≤ v → v ≤ 16 → gQ σ τ → hp_n (16 - v) < n → lM_X6_begin_2 P n v τ := by
    intro n
    induction n with
    | zero => intro v τ _ _ _ h; omega
    | succ n ih =>
      intro v τ v0 v1 g hn
      rw [lM_X6_begin_2]
      refine ⟨fun _ => ⟨hp_n (32 - 0) + 1, key2 _ 0 τ (by decide) (by decide) g (by omega)⟩, fun hl => ?_⟩
      have vi := hp_16 v0 (by grind)
      refine ⟨vi, rgi (rg16 v0 (by grind)), fun σ7 e7 v8 ev => ?_⟩
      have hlt := hp_n_lt (a := v) (b := v8) (c := 16) v0 (by grind) (by grind)
      exact ih v8 σ7 (by grind) (by grind) (by rw [e7]; exact g.trans (gQ.c (by omega))) (by omega)
  exact ⟨hp_n (16 - 0) + 1, key1 _ 0 σ (by decide) (by decide) (gQ.refl σ) (by omega)⟩
theorem qM_leave {P : hg_M → Prop} (hP : ∀ σ', gQ σ σ' → σ' 0 39 = σ 0 39 → P σ') : wM_X6_leave σ P := by
  have key1 : ∀ n (v : Int32) (τ : hg_M), 0 ≤ v → v ≤ 16 → gQ σ τ → τ 0 39 = σ 0 39 → hp_n (16 - v) < n → lM_X6_leave_2 P n v τ := by
    intro n
    induction n with
    | zero => intro v τ _ _ _ _ h; omega
    | succ n ih =>
      intro v τ v0 v1 g e39 hn
      rw [lM_X6_leave_2]
      refine ⟨fun _ => hP τ g e39, fun hl => ?_⟩
      have vi := hp_16 v0 (by grind)
      refine ⟨rgi (rg16 v0 (by grind)), vi, fun σ7 e7 v8 ev => ?_⟩
      have hlt := hp_n_lt (a := v) (b := v8) (c := 16) v0 (by grind) (by grind)
      exact ih v8 σ7 (by grind) (by grind) (by rw [e7]; exact g.trans (gQ.c (by omega))) (by rw [e7, hg_set_ne (by decide)]; exact e39) (by omega)
  exact ⟨hp_n (16 - 0) + 1, key1 _ 0 σ (by decide) (by decide) (gQ.refl σ) rfl (by omega)⟩
theorem qM_toldValue {s k : Int32} {Q : Int32 → hg_M → Prop} (hx : xOK σ) (s0 : 0 ≤ s) (s1 : s < 60) (h9 : k = 3 ∨ k = 5) (h : ∀ r, Q r σ) : wM_X6_toldValue s k σ Q := by
  have st : s.toNatClampNeg < 60 := hg_lt (hp_60 s0 s1)
  have he := hx.2.1 s.toNatClampNeg st
  have ek : (k + 1).toNatClampNeg = k.toNatClampNeg + 1 := by rcases h9 with rfl | rfl <;> decide
  unfold wM_X6_toldValue bM_X6_toldValue_34
  refine qM_of s0 s1 (by grind) (by grind) ⟨fun _ => qM_of s0 s1 (by grind) (by grind) (h _), fun e1 => qM_of s0 s1 (by grind) (by grind) ⟨?_, h _⟩⟩
  rw [ek]
  rcases h9 with rfl | rfl
  · have := he.2.2.1 e1
    exact rgi (rg16 this.1 this.2)
  · have := he.2.2.2 e1
    exact rgi (rg16 this.1 this.2)
theorem qM_doStatement {s : Int32} {Q : Int32 → hg_M → Prop} (hx : xOK σ) (s0 : 0 ≤ s) (s1 : s.toNatClampNeg < (σ 0 9).toNatClampNeg) (o0 : 0 ≤ σ 0 39) (o1 : (σ 0 39).toNatClampNeg < 60) (h : ∀ r σ', gQ σ σ' → 0 ≤ r → s.toNatClampNeg < r.toNatClampNeg → r.toNatClampNeg ≤ (σ 0 9).toNatClampNeg → 0 ≤ σ' 0 39 → (σ' 0 39).toNatClampNeg ≤ (σ 0 39).toNatClampNeg + 1 → Q r σ') : wM_X6_doStatement s σ Q := by
  have n60 := hx.1.2
  have nF := hx.at s1
  have s60 : s < 60 := (hm_lt s0 (by decide)).mpr (by rw [tn60]; omega)
  have si := hp_60 s0 s60
  have he := hx.2.1 s.toNatClampNeg (by omega)
  have vr := rgi (rg16 he.1.1 he.1.2)
  have nx := hm_s (i := s) (v := s + 1) s0 (by omega) rfl
  have h236 : ∀ σ', gQ σ σ' → 0 ≤ σ' 0 39 → (σ' 0 39).toNatClampNeg ≤ (σ 0 39).toNatClampNeg + 1 → bM_X6_doStatement_236 Q s σ' := fun σ' g a b => h _ σ' g nx.2 (by omega) (by omega) a b
  have hq : ∀ σ', gQ σ σ' → σ' 0 39 = σ 0 39 → bM_X6_doStatement_236 Q s σ' := fun σ' g e => h236 σ' g (by rw [e]; exact o0) (by rw [e]; omega)
  unfold wM_X6_doStatement
  refine qM_toldValue hx s0 s60 (by decide) (fun ra => qM_toldValue hx s0 s60 (by decide) (fun rb => qM_of s0 s60 (by decide) (by decide) (qM_of s0 s60 (by decide) (by decide) ?_)))
  rw [tn1]
  refine ⟨fun _ => qM_of s0 s60 (by decide) (by decide) ?_, fun _ => ⟨vr, fun σ13 e13 => ?_⟩, fun _ => qM_of s0 s60 (by decide) (by decide) ?_, fun _ => ?_, fun _ => ?_, fun _ => ⟨hm_in o0 (by omega), fun σ24 e24 σ25 e25 => ?_⟩⟩
  · have h213 : ∀ t σ', gQ σ σ' → σ' 0 39 = σ 0 39 → bM_X6_doStatement_213 Q s s t σ' := by
      intro t σ' g e
      unfold bM_X6_doStatement_213 bM_X6_doStatement_235
      refine ⟨si, fun σ27 e27 => ⟨si, fun _ => ⟨si, ?_⟩, fun _ => ?_⟩⟩
      · have g27 : gQ σ σ27 := by rw [e27]; exact g.trans (gQ.c (by omega))
        have q8 : σ27 8 = σ 8 := g27.1 8 (by omega) (by omega)
        rw [q8]
        refine h _ σ27 g27 (hm_pos (by omega)) (by omega) (by omega) ?_ ?_
        · rw [e27, hg_set_ne (by decide), e]; exact o0
        · rw [e27, hg_set_ne (by decide), e]; omega
      · have g27 : gQ σ σ27 := by rw [e27]; exact g.trans (gQ.c (by omega))
        refine h _ σ27 g27 nx.2 (by omega) (by omega) ?_ ?_
        · rw [e27, hg_set_ne (by decide), e]; exact o0
        · rw [e27, hg_set_ne (by decide), e]; omega
    exact qM_reach (fun r => ⟨fun _ => h213 0 σ (gQ.refl σ) rfl, fun _ => h213 1 σ (gQ.refl σ) rfl⟩) (fun r => ⟨fun _ => h213 0 _ gQ.stop st39, fun _ => h213 1 _ gQ.stop st39⟩)
  · rw [e13]
    exact hq _ (gQ.c (by omega)) (by rw [hg_set_ne (by decide)])
  · have h115 : ∀ t σ', gQ σ σ' → σ' 0 39 = σ 0 39 → bM_X6_doStatement_115 Q s (σ 5 (9 * s.toNatClampNeg + 1)) t σ' := by
      intro t σ' g e
      unfold bM_X6_doStatement_115
      refine ⟨vr, fun σ26 e26 => ?_⟩
      rw [e26]
      exact hq _ (g.trans (gQ.c (by omega))) (by rw [hg_set_ne (by decide)]; exact e)
    exact qM_reach (fun r => ⟨fun _ => ⟨vr, h115 _ σ (gQ.refl σ) rfl⟩, fun _ => h115 _ σ (gQ.refl σ) rfl⟩) (fun r => ⟨fun _ => ⟨vr, h115 _ _ gQ.stop st39⟩, fun _ => h115 _ _ gQ.stop st39⟩)
  · refine qM_isWord ⟨fun _ => hq _ gQ.stop st39, fun h => absurd rfl h⟩ (fun wi => ⟨fun h => absurd h (by decide), fun _ => ⟨wi, vr, fun σ20 e20 => ?_⟩⟩)
    rw [e20]
    exact hq _ (gQ.c (by omega)) (by rw [hg_set_ne (by decide)])
  · refine qM_isWord ⟨fun _ => hq _ gQ.stop st39, fun h => absurd rfl h⟩ (fun wi => ⟨fun h => absurd h (by decide), fun _ => ⟨wi, fun σ23 e23 => ?_⟩⟩)
    rw [e23]
    exact hq _ (gQ.c (by omega)) (by rw [hg_set_ne (by decide)])
  · have e39 : σ25 0 39 = σ 0 39 + 1 := by rw [e25, hs_me, e24, hg_set_ne (by decide)]
    have es := hm_s (i := σ 0 39) o0 (by omega) e39
    refine h236 σ25 ?_ es.2 (by omega)
    rw [e25, e24]
    exact (gQ.c (by omega)).trans (gQ.o (by omega))
theorem qM_behind {s : Int32} {Q : Int32 → hg_M → Prop} (hx : xOK σ) (s0 : 0 ≤ s) (s1 : s.toNatClampNeg ≤ (σ 0 9).toNatClampNeg) (h : ∀ r, 0 ≤ r → s.toNatClampNeg ≤ r.toNatClampNeg → r.toNatClampNeg ≤ (σ 0 9).toNatClampNeg → Q r σ) : wM_X6_behind s σ Q := by
  have n60 := hx.1.2
  have key : ∀ n (u x : Int32), 0 ≤ u → s.toNatClampNeg ≤ u.toNatClampNeg → u.toNatClampNeg ≤ (σ 0 9).toNatClampNeg → (x ≠ 0 → 60 - u.toNatClampNeg + 1 < n) → 0 < n → lM_X6_behind_4 Q n u x σ := by
    intro n
    induction n with
    | zero => intro u x _ _ _ _ h; omega
    | succ n ih =>
      intro u x u0 u1 u2 hn _
      rw [lM_X6_behind_4]
      refine ⟨fun _ => h u u0 u1 u2, fun hx9 => ?_⟩
      have hn := hn hx9
      have key2 : ∀ m (u2 y q : Int32), 0 ≤ u2 → (y = 0 → u2 = u) → (y ≠ 0 → u.toNatClampNeg < u2.toNatClampNeg) → u.toNatClampNeg ≤ u2.toNatClampNeg → u2.toNatClampNeg ≤ (σ 0 9).toNatClampNeg → 0 ≤ q → q.toNatClampNeg ≤ 60 → 60 - q.toNatClampNeg < m → lM_X6_behind_13 Q (fun k0 k1 k2 => lM_X6_behind_4 Q n k0 k1 k2) m u2 y q σ := by
        intro m
        induction m with
        | zero => intro u2 y q _ _ _ _ _ _ _ h; omega
        | succ m ihm =>
          intro u2 y q v0 vy vn vl vN q0 q60 hm
          rw [lM_X6_behind_13]
          have out : bM_X6_behind_85 Q (fun k0 k1 k2 => lM_X6_behind_4 Q n k0 k1 k2) u2 y σ := by
            unfold bM_X6_behind_85
            exact ih u2 y v0 (by omega) vN (fun e => by have := vn e; omega) (by omega)
          refine ⟨fun _ => out, fun hq => ⟨fun _ => out, fun ey => ?_⟩⟩
          have ql := hm_nle hx.1.1 q0 hq
          have q1 : q < 60 := (hm_lt q0 (by decide)).mpr (by rw [tn60]; omega)
          have qi := hp_60 q0 q1
          have nF := hx.at ql
          have es := hm_s (i := q) (v := q + 1) q0 (by omega) rfl
          have go : bM_X6_behind_79 Q (fun k0 k1 k2 => lM_X6_behind_4 Q n k0 k1 k2) (fun k0 k1 k2 k3 => lM_X6_behind_13 Q (fun k0 k1 k2 => lM_X6_behind_4 Q n k0 k1 k2) m k0 k1 k2 k3) u2 y q σ := by
            unfold bM_X6_behind_79
            intro v ev
            rw [ev]
            exact ihm u2 y (q + 1) v0 vy vn vl vN es.2 (by omega) (by omega)
          refine qM_of q0 q1 (by decide) (by decide) ⟨fun _ => go, fun _ => ⟨qi, fun _ => go, fun ef => ⟨qi, fun _ => go, fun hs => ⟨qi, fun _ => go, fun _ => ⟨qi, fun v3 e3 => ?_⟩⟩⟩⟩⟩
          have f0 : 0 ≤ σ 9 q.toNatClampNeg := hm_pos (by omega)
          have gt := hm_nle f0 v0 hs
          have eu := vy ey
          unfold bM_X6_behind_79
          intro v4 e4
          rw [e4]
          exact ihm v3 1 (q + 1) (by rw [e3]; exact f0) (fun h => absurd h (by decide)) (fun _ => by rw [e3]; rw [eu] at gt; exact gt) (by rw [e3]; omega) (by rw [e3]; omega) es.2 (by omega) (by omega)
      exact ⟨62, key2 _ u 0 0 u0 (fun _ => rfl) (fun h => absurd rfl h) (Nat.le_refl _) u2 (by decide) (by rw [tn0]; omega) (by rw [tn0]; omega)⟩
  exact ⟨63, key _ s 1 s0 (Nat.le_refl _) s1 (fun _ => by omega) (by omega)⟩
theorem qM_tell {Q : Int32 → hg_M → Prop} (hx : xOK σ) (hP : ∀ r σ', gQ (hg_set σ 0 0 0) σ' → 0 ≤ σ' 0 39 → (σ' 0 39).toNatClampNeg ≤ 60 → Q r σ') : wM_X6_tell σ Q := by
  unfold wM_X6_tell
  intro σ1 e1
  have x1 : xOK σ1 := hx.of (by rw [e1, hs_ne (by decide)]) (by rw [e1, hg_set_ne (by decide)]) (by rw [e1, hg_set_ne (by decide)]) (by rw [e1, hg_set_ne (by decide)])
  rw [← e1] at hP
  refine qM_begin (fun σ2 g2 o2 => ?_)
  have x2 := g2.x x1
  have n60 := x2.1.2
  have key : ∀ n (s : Int32) (τ : hg_M), gQ σ2 τ → 0 ≤ s → s.toNatClampNeg ≤ (σ2 0 9).toNatClampNeg → 0 ≤ τ 0 39 → (τ 0 39).toNatClampNeg ≤ s.toNatClampNeg → 60 - s.toNatClampNeg < n → lM_X6_tell_11 Q n s τ := by
    intro n
    induction n with
    | zero => intro s τ _ _ _ _ _ h; omega
    | succ n ih =>
      intro s τ g s0 s1 o0 o1 hn
      rw [lM_X6_tell_11]
      have xt := g.x x2
      have e9 : τ 0 9 = σ2 0 9 := g.2 9 (by omega)
      have end9 : bM_X6_tell_49 Q τ := by
        unfold bM_X6_tell_49
        exact qM_leave (fun σ8 g8 e8 => hP _ σ8 ((g2.trans g).trans g8) (by rw [e8]; exact o0) (by rw [e8]; omega))
      refine ⟨fun _ => end9, fun hs => ⟨fun _ => end9, fun _ σ3 e3 => ?_⟩⟩
      have sl := hm_nle xt.1.1 s0 hs
      have g3 : gQ τ σ3 := by rw [e3]; exact gQ.o (by omega)
      have x3 := g3.x xt
      have e39 : σ3 0 39 = τ 0 39 := by rw [e3, hs_ne (by decide)]
      have e93 : σ3 0 9 = τ 0 9 := g3.2 9 (by omega)
      refine qM_doStatement x3 s0 (by rw [e93]; exact sl) (by rw [e39]; exact o0) (by rw [e39, ]; rw [e9] at sl; omega) (fun r σ4 g4 r0 r1 r2 p0 p1 => ?_)
      have x4 := g4.x x3
      have e94 : σ4 0 9 = σ3 0 9 := g4.2 9 (by omega)
      rw [e39] at p1
      refine qM_behind x4 r0 (by rw [e94]; exact r2) (fun r7 a0 a1 a2 => ?_)
      rw [e94, e93, e9] at a2
      exact ih r7 σ4 ((g.trans g3).trans g4) a0 a2 p0 (by omega) (by omega)
  exact ⟨61, key _ 0 σ2 (gQ.refl σ2) (by decide) (by rw [tn0]; omega) (by rw [o2]; decide) (by rw [o2]; exact Nat.le_refl _) (by rw [tn0]; omega)⟩
theorem ti {k : Int32} {n : Int32} (h : k.toInt = n.toInt) : k = n := Int32.toInt_inj.mp h
set_option maxHeartbeats 1000000 in
theorem qM_doStep {i : Int32} {Q : Int32 → hg_M → Prop} (hc : cOK σ) (i0 : 0 ≤ i) (i1 : i.toNatClampNeg < (σ 0 20).toNatClampNeg) (o0 : 0 ≤ σ 0 39) (o1 : (σ 0 39).toNatClampNeg ≤ tl (σ 12) i.toNatClampNeg) (h : ∀ r σ', gQ σ σ' → 0 ≤ r → i.toNatClampNeg < r.toNatClampNeg → r.toNatClampNeg ≤ (σ 0 20).toNatClampNeg → 0 ≤ σ' 0 39 → (σ' 0 39).toNatClampNeg ≤ tl (σ 12) (i.toNatClampNeg + 1) → Q r σ') : wM_X6_doStep i σ Q := by
  obtain ⟨⟨n0, n1⟩, hs, ht⟩ := hc
  obtain ⟨⟨k0, k1, ka, kb, kc, ke⟩, j1, j2⟩ := hs i.toNatClampNeg i1
  have b0 := hm60 i0 (by omega)
  have nx := hm_s (i := i) (v := i + 1) i0 (by omega) rfl
  have tls : tl (σ 12) (i.toNatClampNeg + 1) = tl (σ 12) i.toNatClampNeg + (if σ 12 (6 * i.toNatClampNeg) = 18 then 1 else 0) := rfl
  have tlm : tl (σ 12) (i.toNatClampNeg + 1) ≤ tl (σ 12) (σ 0 20).toNatClampNeg := tl_mono i1
  unfold wM_X6_doStep
  intro v ev
  rw [← ev] at b0
  have ad : ∀ (c : Int32) (m : Nat), c.toNatClampNeg = m → 0 ≤ c → m < 6 → (v + c).toNatClampNeg = 6 * i.toNatClampNeg + m ∧ vp_in (v + c) 24000 := by
    intro c m hc c0 hm
    have := hm_add (N := 24000) b0.2.1 c0 (by rw [b0.1, hc]; omega) (by omega)
    rw [b0.1, hc] at this
    exact ⟨this.1, this.2.2⟩
  have a1 := ad 1 1 tn1 (by decide) (by omega)
  have a2 := ad 2 2 tn2 (by decide) (by omega)
  have a3 := ad 3 3 tn3 (by decide) (by omega)
  have a4 := ad 4 4 tn4 (by decide) (by omega)
  have a5 := ad 5 5 tn5 (by decide) (by omega)
  simp only [a1.1, a2.1, a3.1, a4.1, a5.1, b0.1]
  obtain ⟨K, eK⟩ : ∃ z, z = σ 12 (6 * i.toNatClampNeg) := ⟨_, rfl⟩
  obtain ⟨A, eA⟩ : ∃ z, z = σ 12 (6 * i.toNatClampNeg + 1) := ⟨_, rfl⟩
  obtain ⟨B, eB⟩ : ∃ z, z = σ 12 (6 * i.toNatClampNeg + 2) := ⟨_, rfl⟩
  obtain ⟨C, eC⟩ : ∃ z, z = σ 12 (6 * i.toNatClampNeg + 3) := ⟨_, rfl⟩
  obtain ⟨G, eG⟩ : ∃ z, z = σ 12 (6 * i.toNatClampNeg + 4) := ⟨_, rfl⟩
  rw [← eK] at k0 k1 ka kb kc ke j1 j2 tls
  rw [← eA] at ka j1
  rw [← eB] at kb j2
  rw [← eC] at kc
  rw [← eG] at ke
  rw [← eK, ← eA, ← eB, ← eC, ← eG]
  have h422 : ∀ σ', gQ σ σ' → σ' 0 39 = σ 0 39 → bM_X6_doStep_422 Q i σ' := fun σ' g e => h _ σ' g nx.2 (by omega) (by omega) (by rw [e]; exact o0) (by rw [e]; omega)
  refine ⟨a1.2, fun v2 e2 => ⟨a5.2, fun v3 e3 => ⟨b0.2.2, ?_⟩⟩⟩
  have e2 := e2.symm
  subst e2
  have h421 : rg A → ∀ t σ', gQ σ σ' → σ' 0 39 = σ 0 39 → bM_X6_doStep_421 Q i A t σ' := by
    intro hA t σ' g e
    unfold bM_X6_doStep_421
    refine ⟨rgi hA, fun σ39 e39 => ?_⟩
    rw [e39]
    exact h422 _ (g.trans (gQ.c (by omega))) (by rw [hg_set_ne (by decide)]; exact e)
  have op : 2 ≤ K → K ≤ 12 → vp_in v 24000 ∧ (vp_in (v + 2) 24000 ∧ (vp_in B 4100 ∧ (vp_in (v + 3) 24000 ∧ (vp_in C 4100 ∧ (wM_X6_reach K (σ 27 B.toNatClampNeg) (σ 27 C.toNatClampNeg) v3 σ (fun r5 σ4 => (((σ4 0 42) ≠ 0 → vp_in A 4100 ∧ (bM_X6_doStep_421 Q i A (σ4 27 A.toNatClampNeg) σ4)) ∧ ((σ4 0 42) = 0 → bM_X6_doStep_421 Q i A r5 σ4)))))))) := by
    intro l u
    have hA := ka (by grind)
    have hB := kb (by grind) (by grind)
    have hC := kc l (by grind)
    exact ⟨b0.2.2, a2.2, rgi hB, a3.2, rgi hC, qM_reach (fun r => ⟨fun _ => ⟨rgi hA, h421 hA _ σ (gQ.refl σ) rfl⟩, fun _ => h421 hA _ σ (gQ.refl σ) rfl⟩) (fun r => ⟨fun _ => ⟨rgi hA, h421 hA _ _ gQ.stop st39⟩, fun _ => h421 hA _ _ gQ.stop st39⟩)⟩
  refine ⟨fun e => ?_, fun e => ?_, fun e => ?_, fun e => op ?_ ?_, fun e => op ?_ ?_, fun e => op ?_ ?_, fun e => op ?_ ?_, fun e => op ?_ ?_, fun e => op ?_ ?_, fun e => op ?_ ?_, fun e => op ?_ ?_, fun e => op ?_ ?_, fun e => op ?_ ?_, fun e => op ?_ ?_, fun e => ?_, fun e => ?_, fun e => ?_, fun e => ?_, fun e => ?_, fun e => ?_⟩
  · exfalso
    have u := Int32.le_iff_toInt_le.mp k0
    have w := Int32.lt_iff_toInt_lt.mp k1
    have z0 : (0 : Int32).toInt = 0 := by decide
    have z19 : (19 : Int32).toInt = 19 := by decide
    rw [z0] at u; rw [z19] at w
    omega
  · have eK2 : K = 0 := ti (e.trans (by decide))
    refine ⟨a2.2, rgi (ka (by rw [eK2]; decide)), fun σ6 e6 => ?_⟩
    rw [e6]
    exact h422 _ (gQ.c (by omega)) (by rw [hg_set_ne (by decide)])
  · have eK2 : K = 1 := ti (e.trans (by decide))
    refine ⟨a2.2, rgi (kb (by rw [eK2]; decide) (by rw [eK2]; decide)), rgi (ka (by rw [eK2]; decide)), fun σ6 e6 => ?_⟩
    rw [e6]
    exact h422 _ (gQ.c (by omega)) (by rw [hg_set_ne (by decide)])
  all_goals try (rw [Int32.le_iff_toInt_le, e]; decide)
  · have eK2 : K = 13 := ti (e.trans (by decide))
    have hA := ka (by rw [eK2]; decide)
    have h209 : ∀ t, bM_X6_doStep_209 Q i A t σ := by
      intro t
      unfold bM_X6_doStep_209
      refine ⟨rgi hA, fun σ38 e38 => ?_⟩
      rw [e38]
      exact h422 _ (gQ.c (by omega)) (by rw [hg_set_ne (by decide)])
    exact ⟨a2.2, rgi (kb (by rw [eK2]; decide) (by rw [eK2]; decide)), fun _ => ⟨a4.2, rgi (ke eK2), h209 _⟩, fun _ => ⟨a3.2, rgi (kc (by rw [eK2]; decide) (by rw [eK2]; decide)), h209 _⟩⟩
  · have eK2 : K = 14 := ti (e.trans (by decide))
    have hA := ka (by rw [eK2]; decide)
    have hB := kb (by rw [eK2]; decide) (by rw [eK2]; decide)
    refine ⟨a2.2, rgi hB, qM_isWord ⟨fun _ => h422 _ gQ.stop st39, fun h => absurd rfl h⟩ (fun wi => ⟨fun h => absurd h (by decide), fun _ => ?_⟩)⟩
    rw [← eB]
    refine ⟨a2.2, rgi hB, wi, rgi hA, fun σ32 e32 => ?_⟩
    rw [e32]
    exact h422 _ (gQ.c (by omega)) (by rw [hg_set_ne (by decide)])
  · have eK2 : K = 15 := ti (e.trans (by decide))
    have hA := ka (by rw [eK2]; decide)
    have hB := kb (by rw [eK2]; decide) (by rw [eK2]; decide)
    refine ⟨rgi hA, qM_isWord ⟨fun _ => h422 _ gQ.stop st39, fun h => absurd rfl h⟩ (fun wi => ⟨fun h => absurd h (by decide), fun _ => ?_⟩)⟩
    rw [← eB]
    refine ⟨rgi hA, a2.2, rgi hB, wi, fun σ32 e32 => ?_⟩
    rw [e32]
    exact h422 _ (gQ.c (by omega)) (by rw [hg_set_ne (by decide)])
  · have eK2 : K = 16 := ti (e.trans (by decide))
    have := j1 eK2
    exact h _ σ (gQ.refl σ) this.1 this.2.1 this.2.2 o0 (by omega)
  · have eK2 : K = 17 := ti (e.trans (by decide))
    have := j2 eK2
    unfold bM_X6_doStep_329
    exact ⟨rgi (ka (by rw [eK2]; decide)), fun _ => h _ σ (gQ.refl σ) nx.2 (by omega) (by omega) o0 (by omega), fun _ => ⟨a2.2, h _ σ (gQ.refl σ) this.1 this.2.1 this.2.2 o0 (by omega)⟩⟩
  · have eK2 : K = 18 := ti (e.trans (by decide))
    rw [if_pos eK2] at tls
    refine ⟨rgi (ka (by rw [eK2]; decide)), hm_in o0 (by omega), fun σ36 e36 σ37 e37 => ?_⟩
    have e39 : σ37 0 39 = σ 0 39 + 1 := by rw [e37, hs_me, e36, hg_set_ne (by decide)]
    have es := hm_s (i := σ 0 39) o0 (by omega) e39
    unfold bM_X6_doStep_422
    refine h _ σ37 ?_ nx.2 (by omega) (by omega) es.2 (by omega)
    rw [e37, e36]
    exact (gQ.c (by omega)).trans (gQ.o (by omega))
theorem qM_run {Q : Int32 → hg_M → Prop} (hc : cOK σ) (h0 : ∀ t r, Q r (hg_set σ 0 0 t)) (hP : ∀ r σ', gQ (hg_set σ 0 0 0) σ' → 0 ≤ σ' 0 39 → (σ' 0 39).toNatClampNeg ≤ 60 → Q r σ') : wM_X6_run σ Q := by
  unfold wM_X6_run
  refine qM_may (fun t => ⟨fun h => absurd rfl h, fun _ => h0 t 0⟩) ⟨fun _ => ?_, fun h => absurd h (by decide)⟩
  obtain ⟨σ1, e1⟩ : ∃ z, z = hg_set σ 0 0 0 := ⟨_, rfl⟩
  rw [← e1] at hP ⊢
  have c1 : cOK σ1 := by unfold cOK; rw [e1, hs_ne (by decide), hg_set_ne (by decide)]; exact hc
  refine qM_begin (fun σ2 g2 o2 => ?_)
  have c2 := g2.cc c1
  have key : ∀ n (i : Int32) (τ : hg_M), gQ σ2 τ → 0 ≤ i → i.toNatClampNeg ≤ (σ2 0 20).toNatClampNeg → 0 ≤ τ 0 39 → (τ 0 39).toNatClampNeg ≤ tl (σ2 12) i.toNatClampNeg → 4000 - i.toNatClampNeg < n → lM_X6_run_20 Q n i τ := by
    intro n
    induction n with
    | zero => intro i τ _ _ _ _ _ h; have := c2.1.2; omega
    | succ n ih =>
      intro i τ g i0 i1 o0 o1 hn
      rw [lM_X6_run_20]
      have ct := g.cc c2
      have e20 : τ 0 20 = σ2 0 20 := g.2 20 (by omega)
      have e12 : τ 12 = σ2 12 := g.1 12 (by omega) (by omega)
      have t60 : (τ 0 39).toNatClampNeg ≤ 60 := by
        have := tl_mono (f := σ2 12) i1
        have := c2.2.2
        omega
      have end9 : bM_X6_run_54 Q τ := by
        unfold bM_X6_run_54
        exact qM_leave (fun σ8 g8 e8 => hP _ σ8 ((g2.trans g).trans g8) (by rw [e8]; exact o0) (by rw [e8]; exact t60))
      refine ⟨fun _ => end9, fun hs => ⟨fun _ => end9, fun _ σ3 e3 => ?_⟩⟩
      have il := hm_nle ct.1.1 i0 hs
      have g3 : gQ τ σ3 := by rw [e3]; exact gQ.o (by omega)
      have c3 := g3.cc ct
      have e39 : σ3 0 39 = τ 0 39 := by rw [e3, hs_ne (by decide)]
      have f20 : σ3 0 20 = σ2 0 20 := (g3.2 20 (by omega)).trans e20
      have f12 : σ3 12 = σ2 12 := (g3.1 12 (by omega) (by omega)).trans e12
      refine qM_doStep c3 i0 (by rw [f20, ← e20]; exact il) (by rw [e39]; exact o0) (by rw [e39, f12]; exact o1) (fun r σ4 g4 r0 r1 r2 p0 p1 => ?_)
      rw [f20] at r2
      rw [f12] at p1
      have := tl_mono (f := σ2 12) (show i.toNatClampNeg + 1 ≤ r.toNatClampNeg by omega)
      have := c2.1.2
      exact ih r σ4 ((g.trans g3).trans g4) r0 r2 p0 (by omega) (by omega)
  exact ⟨4001, key _ 0 σ2 (gQ.refl σ2) (by decide) (by rw [tn0]; omega) (by rw [o2]; decide) (by rw [o2, tn0]; exact Nat.zero_le _) (by rw [tn0]; omega)⟩
end MN
