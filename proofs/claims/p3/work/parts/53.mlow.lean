/-! THE REFERENCE: code, lowering's small methods. -/
def rg (x : Int32) : Prop := 0 ≤ x ∧ x < 4100
def vR (f : Nat → Int32) (n : Nat) : Prop := ∀ i, i < n → rg (f i)
/-- kinds and registers of a step -/
def kOK (k a b c e : Int32) : Prop := 0 ≤ k ∧ k < 19 ∧ (k ≠ 16 → rg a) ∧ (1 ≤ k → k ≤ 15 → rg b) ∧ (2 ≤ k → k ≤ 13 → rg c) ∧ (k = 13 → rg e)
def sOK (f : Nat → Int32) (i : Nat) : Prop := kOK (f (6 * i)) (f (6 * i + 1)) (f (6 * i + 2)) (f (6 * i + 3)) (f (6 * i + 4))
def tl (f : Nat → Int32) : Nat → Nat
  | 0 => 0
  | n + 1 => tl f n + (if f (6 * n) = 18 then 1 else 0)
theorem tl_congr {f g : Nat → Int32} : ∀ n, (∀ i, i < n → f (6 * i) = g (6 * i)) → tl f n = tl g n
  | 0, _ => rfl
  | n + 1, h => by
    show tl f n + _ = tl g n + _
    rw [tl_congr n (fun i hi => h i (by omega)), h n (by omega)]
theorem tl_mono {f : Nat → Int32} {a b : Nat} (h : a ≤ b) : tl f a ≤ tl f b := by
  induction b with
  | zero => have : a = 0 := by omega
            subst this; exact Nat.le_refl _
  | succ b ih =>
    by_cases e : a = b + 1
    · subst e; exact Nat.le_refl _
    · have := ih (by omega)
      show tl f a ≤ tl f b + _
      omega
theorem sOK.congr {f g : Nat → Int32} {i : Nat} (h : sOK f i) (e : ∀ j, j < 6 → g (6 * i + j) = f (6 * i + j)) : sOK g i := by
  unfold sOK
  have e0 := e 0 (by omega)
  rw [Nat.add_zero] at e0
  rw [e0, e 1 (by omega), e 2 (by omega), e 3 (by omega), e 4 (by omega)]
  exact h
/-- how many steps and registers at most -/
def bud (σ : hg_M) (k : Nat) : Prop := (0 ≤ σ 0 20 ∧ (σ 0 20).toNatClampNeg ≤ k) ∧ (0 ≤ σ 0 21 ∧ (σ 0 21).toNatClampNeg ≤ 16 + k)
theorem bud.mono {σ : hg_M} {a b : Nat} (h : bud σ a) (e : a ≤ b) : bud σ b := ⟨⟨h.1.1, by have := h.1.2; omega⟩, ⟨h.2.1, by have := h.2.2; omega⟩⟩
theorem bud.of {σ τ : hg_M} {a : Nat} (h : bud σ a) (e1 : τ 0 20 = σ 0 20) (e2 : τ 0 21 = σ 0 21) : bud τ a := by unfold bud; rw [e1, e2]; exact h
def jL (σ : hg_M) : Prop := xOK σ ∧ vR (σ 14) 16 ∧ vR (σ 18) 8 ∧ vR (σ 19) 8 ∧ vR (σ 21) 128 ∧ vR (σ 22) 128 ∧ ∀ i, i < (σ 0 20).toNatClampNeg → sOK (σ 12) i
/-- steps are added, no jump and no TELL among them; map changes -/
def gE (σ σ' : hg_M) : Prop := (∀ q, q ≠ 0 → q ≠ 12 → q ≠ 14 → σ' q = σ q) ∧ (∀ i, i ≠ 20 → i ≠ 21 → i ≠ 24 → σ' 0 i = σ 0 i) ∧ (σ 0 20).toNatClampNeg ≤ (σ' 0 20).toNatClampNeg ∧ (∀ j, j < 6 * (σ 0 20).toNatClampNeg → σ' 12 j = σ 12 j) ∧ ∀ i, (σ 0 20).toNatClampNeg ≤ i → i < (σ' 0 20).toNatClampNeg → σ' 12 (6 * i) ≠ 16 ∧ σ' 12 (6 * i) ≠ 17 ∧ σ' 12 (6 * i) ≠ 18
theorem gE.refl (σ : hg_M) : gE σ σ := ⟨fun _ _ _ _ => rfl, fun _ _ _ _ => rfl, Nat.le_refl _, fun _ _ => rfl, fun i h1 h2 => by omega⟩
theorem gE.trans {a b c : hg_M} (h : gE a b) (g : gE b c) : gE a c := by
  obtain ⟨h1, h2, h3, h4, h5⟩ := h
  obtain ⟨g1, g2, g3, g4, g5⟩ := g
  refine ⟨fun q a1 a2 a3 => (g1 q a1 a2 a3).trans (h1 q a1 a2 a3), fun i a1 a2 a3 => (g2 i a1 a2 a3).trans (h2 i a1 a2 a3), by omega, fun j hj => (g4 j (by omega)).trans (h4 j hj), fun i i1 i2 => ?_⟩
  by_cases e : i < (b 0 20).toNatClampNeg
  · rw [g4 (6 * i) (by omega)]; exact h5 i i1 e
  · exact g5 i (by omega) i2
theorem xOK.of {a b : hg_M} (h : xOK a) (e9 : b 0 9 = a 0 9) (e5 : b 5 = a 5) (e8 : b 8 = a 8) (e : b 9 = a 9) : xOK b := by
  unfold xOK
  rw [e9, e5, e8, e]
  exact h
theorem xOK.at {σ : hg_M} (h : xOK σ) {q : Nat} (hq : q < (σ 0 9).toNatClampNeg) : q + 1 ≤ (σ 8 q).toNatClampNeg ∧ (σ 8 q).toNatClampNeg ≤ (σ 9 q).toNatClampNeg ∧ (σ 9 q).toNatClampNeg ≤ (σ 0 9).toNatClampNeg ∧ (σ 5 (9 * q + 7)).toNatClampNeg ≤ 6 := h.2.2.1 q hq
theorem xOK.in {σ : hg_M} (h : xOK σ) {q s : Nat} (hq : q < (σ 0 9).toNatClampNeg) (hqs : q < s) (hs : s < (σ 0 9).toNatClampNeg) : (s < (σ 8 q).toNatClampNeg → (σ 9 s).toNatClampNeg ≤ (σ 8 q).toNatClampNeg ∧ (σ 5 (9 * q + 7)).toNatClampNeg < (σ 5 (9 * s + 7)).toNatClampNeg) ∧ ((σ 8 q).toNatClampNeg ≤ s → s < (σ 9 q).toNatClampNeg → (σ 9 s).toNatClampNeg ≤ (σ 9 q).toNatClampNeg ∧ (σ 5 (9 * q + 7)).toNatClampNeg < (σ 5 (9 * s + 7)).toNatClampNeg) := h.2.2.2 q s hq hqs hs
theorem gE.x {a b : hg_M} (g : gE a b) (h : xOK a) : xOK b := h.of (g.2.1 9 (by decide) (by decide) (by decide)) (g.1 5 (by decide) (by decide) (by decide)) (g.1 8 (by decide) (by decide) (by decide)) (g.1 9 (by decide) (by decide) (by decide))
section ML
variable {σ : hg_M}
theorem qM_of {s k : Int32} {Q : Int32 → hg_M → Prop} (s0 : 0 ≤ s) (s1 : s < 60) (k0 : 0 ≤ k) (k1 : k < 9) (h : Q (σ 5 (9 * s.toNatClampNeg + k.toNatClampNeg)) σ) : wM_X6_of s k σ Q := by
  have i := hm9 s0 s1 k0 k1
  unfold wM_X6_of
  rw [i.1]
  exact ⟨i.2, h⟩
/-- a step is added -/
theorem qM_emit {x1 x2 x3 x4 x5 : Int32} {k : Nat} {Q : Int32 → hg_M → Prop} (hb : bud σ k) (hk : k < 3990)
    (hP : ∀ σ', (∀ q, q ≠ 0 → q ≠ 12 → σ' q = σ q) → (∀ i, i ≠ 20 → σ' 0 i = σ 0 i) → σ' 0 20 = σ 0 20 + 1 → (σ' 0 20).toNatClampNeg = (σ 0 20).toNatClampNeg + 1 → bud σ' (k + 1) → (∀ j, j < 6 * (σ 0 20).toNatClampNeg → σ' 12 j = σ 12 j) → (σ' 12 (6 * (σ 0 20).toNatClampNeg) = x1 ∧ σ' 12 (6 * (σ 0 20).toNatClampNeg + 1) = x2 ∧ σ' 12 (6 * (σ 0 20).toNatClampNeg + 2) = x3 ∧ σ' 12 (6 * (σ 0 20).toNatClampNeg + 3) = x4 ∧ σ' 12 (6 * (σ 0 20).toNatClampNeg + 4) = x5) → Q (σ 0 20) σ') : wM_X6_emit x1 x2 x3 x4 x5 σ Q := by
  obtain ⟨⟨n0, nk⟩, r0, rk⟩ := id hb
  obtain ⟨n, en⟩ : ∃ n, n = (σ 0 20).toNatClampNeg := ⟨_, rfl⟩
  unfold wM_X6_emit
  intro v ev
  have a0 := hm_lin (a := 6) (A := 6) (s := σ 0 20) (k := 0) (N := 24000) (by decide) n0 (by decide) (by rw [tn0]; omega) (by omega) (by omega)
  have ez : (6 : Int32) * σ 0 20 + 0 = v := by rw [ev]; grind
  rw [ez, tn0, ← en] at a0
  have ad : ∀ (c : Int32) (m : Nat), c.toNatClampNeg = m → 0 ≤ c → m < 6 → (v + c).toNatClampNeg = 6 * n + m ∧ vp_in (v + c) 24000 := by
    intro c m hc c0 hm
    have := hm_add (N := 24000) a0.2.1 c0 (by rw [a0.1, hc]; omega) (by omega)
    rw [a0.1, hc] at this
    exact ⟨by omega, this.2.2⟩
  have a1 := ad 1 1 tn1 (by decide) (by omega)
  have a2 := ad 2 2 tn2 (by decide) (by omega)
  have a3 := ad 3 3 tn3 (by decide) (by omega)
  have a4 := ad 4 4 tn4 (by decide) (by omega)
  have a5 := ad 5 5 tn5 (by decide) (by omega)
  refine ⟨a0.2.2, fun σ2 e2 => ⟨a1.2, fun σ3 e3 => ⟨a2.2, fun σ4 e4 => ⟨a3.2, fun σ5 e5 => ⟨a4.2, fun σ6 e6 => ⟨a5.2, fun σ7 e7 σ8 e8 => ?_⟩⟩⟩⟩⟩⟩
  rw [a0.1] at e2; rw [a1.1] at e3; rw [a2.1] at e4; rw [a3.1] at e5; rw [a4.1] at e6; rw [a5.1] at e7
  have c7 : ∀ q, q ≠ 12 → σ7 q = σ q := fun q hq => by rw [e7, hg_set_ne hq, e6, hg_set_ne hq, e5, hg_set_ne hq, e4, hg_set_ne hq, e3, hg_set_ne hq, e2, hg_set_ne hq]
  have f20 : σ8 0 20 = σ 0 20 + 1 := by rw [e8, hs_me, c7 0 (by decide)]
  have hn := hm_add (N := 5000) (s := σ 0 20) (k := 1) n0 (by decide) (by rw [tn1]; omega) (by omega)
  rw [tn1] at hn
  have z : σ8 0 20 - 1 = σ 0 20 := by rw [f20]; grind
  have d12 : ∀ j, σ8 12 j = if j = 6 * n + 5 then σ6 0 24 else if j = 6 * n + 4 then x5 else if j = 6 * n + 3 then x4 else if j = 6 * n + 2 then x3 else if j = 6 * n + 1 then x2 else if j = 6 * n + 0 then x1 else σ 12 j := fun j => by rw [e8, hg_set_ne (by decide), e7, hs_eq, e6, hs_eq, e5, hs_eq, e4, hs_eq, e3, hs_eq, e2, hs_eq]
  rw [z]
  refine hP σ8 (fun q h0 h12 => by rw [e8, hg_set_ne h0, c7 q h12]) (fun i hi => by rw [e8, hs_ne hi, c7 0 (by decide)]) f20 (by rw [f20]; exact hn.1) ⟨⟨by rw [f20]; exact hn.2.1, by rw [f20, hn.1]; omega⟩, ⟨by rw [e8, hs_ne (by decide), c7 0 (by decide)]; exact r0, by rw [e8, hs_ne (by decide), c7 0 (by decide)]; omega⟩⟩ (fun j hj => ?_) ?_
  · rw [← en] at hj
    rw [d12]
    repeat rw [if_neg (by omega)]
  · rw [← en]
    refine ⟨?_, ?_, ?_, ?_, ?_⟩
    · rw [d12]; repeat rw [if_neg (by omega)]
      rw [if_pos (by omega)]
    · rw [d12]; repeat rw [if_neg (by omega)]
      rw [if_pos (by omega)]
    · rw [d12]; repeat rw [if_neg (by omega)]
      rw [if_pos (by omega)]
    · rw [d12]; repeat rw [if_neg (by omega)]
      rw [if_pos (by omega)]
    · rw [d12]; repeat rw [if_neg (by omega)]
      rw [if_pos (by omega)]
/-- what an added step leaves of jL -/
theorem jL.add {σ' : hg_M} {x1 x2 x3 x4 x5 : Int32} (h : jL σ) (hk : kOK x1 x2 x3 x4 x5) (c : ∀ q, q ≠ 0 → q ≠ 12 → σ' q = σ q) (y : ∀ i, i ≠ 20 → σ' 0 i = σ 0 i) (n1 : (σ' 0 20).toNatClampNeg = (σ 0 20).toNatClampNeg + 1) (o : ∀ j, j < 6 * (σ 0 20).toNatClampNeg → σ' 12 j = σ 12 j) (nw : σ' 12 (6 * (σ 0 20).toNatClampNeg) = x1 ∧ σ' 12 (6 * (σ 0 20).toNatClampNeg + 1) = x2 ∧ σ' 12 (6 * (σ 0 20).toNatClampNeg + 2) = x3 ∧ σ' 12 (6 * (σ 0 20).toNatClampNeg + 3) = x4 ∧ σ' 12 (6 * (σ 0 20).toNatClampNeg + 4) = x5) : jL σ' := by
  obtain ⟨h1, h2, h3, h4, h5, h6, h7⟩ := h
  refine ⟨h1.of (y 9 (by decide)) (c 5 (by decide) (by decide)) (c 8 (by decide) (by decide)) (c 9 (by decide) (by decide)), by rw [c 14 (by decide) (by decide)]; exact h2, by rw [c 18 (by decide) (by decide)]; exact h3, by rw [c 19 (by decide) (by decide)]; exact h4, by rw [c 21 (by decide) (by decide)]; exact h5, by rw [c 22 (by decide) (by decide)]; exact h6, fun i hi => ?_⟩
  by_cases e : i < (σ 0 20).toNatClampNeg
  · exact (h7 i e).congr (fun j hj => o _ (by omega))
  · have : i = (σ 0 20).toNatClampNeg := by omega
    subst this
    unfold sOK
    rw [nw.1, nw.2.1, nw.2.2.1, nw.2.2.2.1, nw.2.2.2.2]
    exact hk
/-- a step that is no jump and no TELL -/
theorem qM_em {x1 x2 x3 x4 x5 : Int32} {k : Nat} {Q : Int32 → hg_M → Prop} (h : jL σ) (hb : bud σ k) (hk : k < 3990) (ho : kOK x1 x2 x3 x4 x5) (hn : x1 ≠ 16 ∧ x1 ≠ 17 ∧ x1 ≠ 18) (hP : ∀ r σ', jL σ' → bud σ' (k + 1) → gE σ σ' → σ' 14 = σ 14 → σ' 0 21 = σ 0 21 → Q r σ') : wM_X6_emit x1 x2 x3 x4 x5 σ Q := by
  refine qM_emit hb hk (fun σ' c y f20 n1 b o nw => hP _ σ' (h.add ho c y n1 o nw) b ⟨fun q h0 h12 _ => c q h0 h12, fun i h20 _ _ => y i h20, by omega, o, fun i i1 i2 => ?_⟩ (c 14 (by decide) (by decide)) (y 21 (by decide)))
  have : i = (σ 0 20).toNatClampNeg := by omega
  subst this
  rw [nw.1]
  exact hn
theorem qM_fresh1 {k : Nat} {Q : Int32 → hg_M → Prop} (h : jL σ) (hb : bud σ k) (hk : k < 3990) (hP : ∀ r σ', rg r → jL σ' → bud σ' (k + 1) → gE σ σ' → σ' 14 = σ 14 → Q r σ') : wM_X6_fresh1 σ Q := by
  obtain ⟨⟨n0, nk⟩, r0, rk⟩ := id hb
  intro σ1 e1
  have hr := hm_add (N := 5000) (s := σ 0 21) (k := 1) r0 (by decide) (by rw [tn1]; omega) (by omega)
  rw [tn1] at hr
  have f21 : σ1 0 21 = σ 0 21 + 1 := by rw [e1, hs_me]
  have z : σ1 0 21 - 1 = σ 0 21 := by rw [f21]; grind
  have c : ∀ q, q ≠ 0 → σ1 q = σ q := fun q hq => by rw [e1, hg_set_ne hq]
  have y : ∀ i, i ≠ 21 → σ1 0 i = σ 0 i := fun i hi => by rw [e1, hs_ne hi]
  rw [z]
  obtain ⟨h1, h2, h3, h4, h5, h6, h7⟩ := h
  have e4100 : (4100 : Int32).toNatClampNeg = 4100 := by decide
  refine hP _ σ1 ⟨r0, (hm_lt r0 (by decide)).mpr (by rw [e4100]; omega)⟩ ⟨h1.of (y 9 (by decide)) (c 5 (by decide)) (c 8 (by decide)) (c 9 (by decide)), by rw [c 14 (by decide)]; exact h2, by rw [c 18 (by decide)]; exact h3, by rw [c 19 (by decide)]; exact h4, by rw [c 21 (by decide)]; exact h5, by rw [c 22 (by decide)]; exact h6, by rw [y 20 (by decide), c 12 (by decide)]; exact h7⟩ ⟨by rw [y 20 (by decide)]; exact ⟨n0, by omega⟩, by rw [f21]; exact ⟨hr.2.1, by rw [hr.1]; omega⟩⟩ ⟨fun q h0 _ _ => c q h0, fun i _ h _ => y i h, by rw [y 20 (by decide)]; exact Nat.le_refl _, fun j _ => by rw [c 12 (by decide)], fun i i1 i2 => by rw [y 20 (by decide)] at i2; omega⟩ (c 14 (by decide))
theorem rgu {x : Int32} (h : rg x) : 0 ≤ x ∧ x < 4100 := h
theorem k0 {a b : Int32} (h : rg a) : kOK 0 a b 0 0 := by unfold kOK; refine ⟨by decide, by decide, fun _ => h, fun h => absurd h (by decide), fun h => absurd h (by decide), fun h => absurd h (by decide)⟩
theorem k13 {a b c e : Int32} (ha : rg a) (hb : rg b) (hc : rg c) (he : rg e) : kOK 13 a b c e := ⟨by decide, by decide, fun _ => ha, fun _ _ => hb, fun _ _ => hc, fun _ => he⟩
theorem kop {k a b c : Int32} (k0 : 0 ≤ k) (k1 : k < 13) (ha : rg a) (hb : rg b) (hc : rg c) : kOK k a b c 0 := ⟨k0, by grind, fun _ => ha, fun _ _ => hb, fun _ _ => hc, fun e => by grind⟩
theorem k14 {a b : Int32} (ha : rg a) (hb : rg b) : kOK 14 a b 0 0 := ⟨by decide, by decide, fun _ => ha, fun _ _ => hb, fun _ h => absurd h (by decide), fun h => absurd h (by decide)⟩
theorem k15 {a b : Int32} (ha : rg a) (hb : rg b) : kOK 15 a b 0 0 := ⟨by decide, by decide, fun _ => ha, fun _ _ => hb, fun _ h => absurd h (by decide), fun h => absurd h (by decide)⟩
theorem k1 {a b : Int32} (ha : rg a) (hb : rg b) : kOK 1 a b 0 0 := ⟨by decide, by decide, fun _ => ha, fun _ _ => hb, fun h => absurd h (by decide), fun h => absurd h (by decide)⟩
theorem k18 {a : Int32} (ha : rg a) : kOK 18 a 0 0 0 := ⟨by decide, by decide, fun _ => ha, fun _ h => absurd h (by decide), fun _ h => absurd h (by decide), fun h => absurd h (by decide)⟩
theorem k17 {a : Int32} (ha : rg a) : kOK 17 a 0 0 0 := ⟨by decide, by decide, fun _ => ha, fun _ h => absurd h (by decide), fun _ h => absurd h (by decide), fun h => absurd h (by decide)⟩
theorem k16 : kOK 16 0 0 0 0 := ⟨by decide, by decide, fun h => absurd rfl h, fun _ h => absurd h (by decide), fun _ h => absurd h (by decide), fun h => absurd h (by decide)⟩
theorem qM_setNew {x : Int32} {k : Nat} {Q : Int32 → hg_M → Prop} (h : jL σ) (hb : bud σ k) (hk : k + 2 ≤ 3990) (hP : ∀ r σ', rg r → jL σ' → bud σ' (k + 2) → gE σ σ' → σ' 14 = σ 14 → Q r σ') : wM_X6_setNew x σ Q := by
  unfold wM_X6_setNew
  refine qM_fresh1 h hb (by omega) (fun r σ1 hr w1 b1 g1 m1 => qM_em w1 b1 (by omega) (k0 hr) (by decide) (fun r4 σ3 w3 b3 g3 m3 _ => hP r σ3 hr w3 b3 (g1.trans g3) (m3.trans m1)))
theorem qM_value {s k9 : Int32} {k : Nat} {Q : Int32 → hg_M → Prop} (h : jL σ) (hb : bud σ k) (hk : k + 2 ≤ 3990) (s0 : 0 ≤ s) (s1 : s < 60) (h9 : k9 = 3 ∨ k9 = 5) (hP : ∀ r σ', rg r → jL σ' → bud σ' (k + 2) → gE σ σ' → σ' 14 = σ 14 → Q r σ') : wM_X6_value s k9 σ Q := by
  have st : s.toNatClampNeg < 60 := hg_lt (hp_60 s0 s1)
  have he := h.1.2.1 s.toNatClampNeg st
  have ek : (k9 + 1).toNatClampNeg = k9.toNatClampNeg + 1 := by rcases h9 with rfl | rfl <;> decide
  unfold wM_X6_value bM_X6_value_38
  refine qM_of s0 s1 (by grind) (by grind) ⟨fun _ => qM_of s0 s1 (by grind) (by grind) (qM_setNew h hb hk hP), fun e1 => qM_of s0 s1 (by grind) (by grind) ?_⟩
  have hv : 0 ≤ σ 5 (9 * s.toNatClampNeg + (k9 + 1).toNatClampNeg) ∧ σ 5 (9 * s.toNatClampNeg + (k9 + 1).toNatClampNeg) < 16 := by
    rw [ek]
    rcases h9 with rfl | rfl
    · exact he.2.2.1 e1
    · exact he.2.2.2 e1
  have vi := hp_16 hv.1 hv.2
  exact ⟨vi, hP _ σ (h.2.1 _ (hg_lt vi)) h (hb.mono (by omega)) (gE.refl σ) rfl⟩
/-- the levels in use -/
def lv (σ : hg_M) : Prop := 0 ≤ σ 0 26 ∧ (σ 0 26).toNatClampNeg ≤ 7
theorem lv.top (h : lv σ) (hp : ¬ σ 0 26 ≤ 0) : (σ 0 26 - 1).toNatClampNeg + 1 = (σ 0 26).toNatClampNeg ∧ 0 ≤ σ 0 26 - 1 ∧ vp_in (σ 0 26 - 1) 8 := by
  have hz : 0 < (σ 0 26).toNatClampNeg := by
    have := (hm_lt (x := 0) (y := σ 0 26) (by decide) h.1).mp (by grind)
    rw [tn0] at this
    exact this
  have sb := hm_sub (s := σ 0 26) (k := 1) h.1 (by decide) (by rw [tn1]; omega)
  rw [tn1] at sb
  exact ⟨by omega, sb.2, hm_in sb.2 (by have := h.2; omega)⟩
theorem qM_isOnSide {Q : Int32 → hg_M → Prop} (h : lv σ) (h0 : Q 0 σ) (h1 : ¬ σ 0 26 ≤ 0 → Q 1 σ) : wM_X6_isOnSide σ Q := by
  unfold wM_X6_isOnSide bM_X6_isOnSide_25 bM_X6_isOnSide_26
  exact ⟨fun _ => ⟨Or.inl rfl, h0⟩, fun hp => ⟨(h.top hp).2.2, fun _ => ⟨Or.inl rfl, h0⟩, fun _ => ⟨Or.inr rfl, h1 hp⟩⟩⟩
theorem lv.of {a b : hg_M} (h : lv a) (g : gE a b) : lv b := by unfold lv; rw [g.2.1 26 (by decide) (by decide) (by decide)]; exact h
theorem qM_guarded {L x : Int32} {k : Nat} {Q : Int32 → hg_M → Prop} (h : jL σ) (hb : bud σ k) (hk : k + 2 ≤ 3990) (l0 : 0 ≤ L) (l8 : L.toNatClampNeg ≤ 8) (hx : rg x) (hP : ∀ r σ', rg r → jL σ' → bud σ' (k + 2) → gE σ σ' → σ' 14 = σ 14 → Q r σ') : wM_X6_guarded L x σ Q := by
  unfold wM_X6_guarded bM_X6_guarded_15
  have e0 := hP x σ hx h (hb.mono (by omega)) (gE.refl σ) rfl
  refine ⟨fun _ => e0, fun hne => ?_⟩
  have hz : 0 < L.toNatClampNeg := by
    have := (hm_lt (x := 0) (y := L) (by decide) l0).mp (by grind)
    rw [tn0] at this
    exact this
  have sb := hm_sub (s := L) (k := 1) l0 (by decide) (by rw [tn1]; omega)
  rw [tn1] at sb
  have li : vp_in (L - 1) 8 := hm_in sb.2 (by omega)
  refine ⟨li, fun _ => ?_, fun _ => e0⟩
  refine qM_fresh1 h hb (by omega) (fun r σ1 hr w1 b1 g1 m1 => ⟨li, ?_⟩)
  exact qM_em w1 b1 (by omega) (kop (by decide) (by decide) hr (w1.2.2.2.1 _ (hg_lt li)) hx) (by decide) (fun r4 σ3 w3 b3 g3 m3 _ => hP r σ3 hr w3 b3 (g1.trans g3) (m3.trans m1))
theorem qM_harmless {r x : Int32} {k : Nat} {Q : Int32 → hg_M → Prop} (h : jL σ) (hb : bud σ k) (hk : k + 4 ≤ 3990) (hl : lv σ) (hp : ¬ σ 0 26 ≤ 0) (hr : rg r) (hP : ∀ r σ', rg r → jL σ' → bud σ' (k + 4) → gE σ σ' → σ' 14 = σ 14 → Q r σ') : wM_X6_harmless r x σ Q := by
  unfold wM_X6_harmless
  refine qM_setNew h hb (by omega) (fun r1 σ1 h1 w1 b1 g1 m1 => qM_fresh1 w1 b1 (by omega) (fun r2 σ2 h2 w2 b2 g2 m2 => ?_))
  have e : σ2 0 26 = σ 0 26 := (g1.trans g2).2.1 26 (by decide) (by decide) (by decide)
  rw [e]
  have li := (hl.top hp).2.2
  exact ⟨li, qM_em w2 b2 (by omega) (k13 h2 (w2.2.2.2.1 _ (hg_lt li)) hr h1) (by decide) (fun r4 σ3 w3 b3 g3 m3 _ => hP r2 σ3 h2 w3 b3 ((g1.trans g2).trans g3) (m3.trans (m2.trans m1)))⟩
theorem qM_isIn {a b c : Int64} {Q : Int32 → hg_M → Prop} (h0 : Q 0 σ) (h1 : Q 1 σ) : wM_X6_isIn a b c σ Q := by
  unfold wM_X6_isIn bM_X6_isIn_17 bM_X6_isIn_18
  exact ⟨fun _ => ⟨Or.inl rfl, h0⟩, fun _ => ⟨fun _ => ⟨Or.inl rfl, h0⟩, fun _ => ⟨Or.inr rfl, h1⟩⟩⟩
theorem qM_isPlainIndex {s : Int32} {Q : Int32 → hg_M → Prop} (s0 : 0 ≤ s) (s1 : s < 60) (h0 : Q 0 σ) (h1 : Q 1 σ) : wM_X6_isPlainIndex s σ Q := by
  unfold wM_X6_isPlainIndex bM_X6_isPlainIndex_30 bM_X6_isPlainIndex_31
  exact qM_of s0 s1 (by decide) (by decide) ⟨fun _ => ⟨Or.inl rfl, h0⟩, fun _ => qM_of s0 s1 (by decide) (by decide) (qM_isIn ⟨fun _ => ⟨Or.inl rfl, h0⟩, fun h => absurd rfl h⟩ ⟨fun h => absurd h (by decide), fun _ => ⟨Or.inr rfl, h1⟩⟩)⟩
theorem jL.map {v : Nat} {r : Int32} (h : jL σ) (hr : rg r) : jL (hg_set σ 14 v r) := by
  obtain ⟨h1, h2, h3, h4, h5, h6, h7⟩ := h
  have c : ∀ q, q ≠ 14 → hg_set σ 14 v r q = σ q := fun q hq => hg_set_ne hq
  refine ⟨h1.of (by rw [c 0 (by decide)]) (c 5 (by decide)) (c 8 (by decide)) (c 9 (by decide)), fun i hi => ?_, by rw [c 18 (by decide)]; exact h3, by rw [c 19 (by decide)]; exact h4, by rw [c 21 (by decide)]; exact h5, by rw [c 22 (by decide)]; exact h6, by rw [c 0 (by decide), c 12 (by decide)]; exact h7⟩
  rw [hs_eq]
  split
  · exact hr
  · exact h2 i hi
theorem gE.map {v : Nat} {r : Int32} : gE σ (hg_set σ 14 v r) := ⟨fun q _ _ h => hg_set_ne h, fun i _ _ _ => by rw [hg_set_ne (by decide)], by rw [hg_set_ne (by decide)]; exact Nat.le_refl _, fun j _ => by rw [hg_set_ne (by decide)], fun i i1 i2 => by rw [hg_set_ne (by decide)] at i2; omega⟩
theorem bud.map {v k : Nat} {r : Int32} (h : bud σ k) : bud (hg_set σ 14 v r) k := h.of (by rw [hg_set_ne (by decide)]) (by rw [hg_set_ne (by decide)])
theorem qM_target {s : Int32} {k : Nat} {Q : Int32 → hg_M → Prop} (h : jL σ) (hb : bud σ k) (hk : k + 1 ≤ 3990) (hl : lv σ) (s0 : 0 ≤ s) (s1 : s < 60) (hP : ∀ r σ', rg r → jL σ' → bud σ' (k + 1) → gE σ σ' → Q r σ') : wM_X6_target s σ Q := by
  have st : s.toNatClampNeg < 60 := hg_lt (hp_60 s0 s1)
  have he := (h.1.2.1 s.toNatClampNeg st).1
  have vi := hp_16 he.1 he.2
  unfold wM_X6_target
  refine qM_of s0 s1 (by decide) (by decide) ?_
  rw [tn1]
  refine qM_isOnSide hl ⟨fun h => absurd rfl h, fun _ => hP _ σ ⟨he.1, by grind⟩ h (hb.mono (by omega)) (gE.refl σ)⟩ (fun _ => ⟨fun _ => ?_, fun h => absurd h (by decide)⟩)
  refine qM_fresh1 h hb (by omega) (fun r σ1 hr w1 b1 g1 m1 => ⟨vi, fun σ7 e7 => ⟨vi, ?_⟩⟩)
  subst e7
  rw [hs_me]
  exact hP r _ hr (w1.map hr) b1.map (g1.trans gE.map)
theorem gE.now {v : Int32} : gE σ (hg_set σ 0 24 v) := ⟨fun q h _ _ => hg_set_ne h, fun i _ _ h => hs_ne h, by rw [hs_ne (by decide)]; exact Nat.le_refl _, fun j _ => by rw [hg_set_ne (by decide)], fun i i1 i2 => by rw [hs_ne (by decide)] at i2; omega⟩
theorem jL.now {v : Int32} (h : jL σ) : jL (hg_set σ 0 24 v) := by
  obtain ⟨h1, h2, h3, h4, h5, h6, h7⟩ := h
  have c : ∀ q, q ≠ 0 → hg_set σ 0 24 v q = σ q := fun q hq => hg_set_ne hq
  exact ⟨h1.of (hs_ne (by decide)) (c 5 (by decide)) (c 8 (by decide)) (c 9 (by decide)), by rw [c 14 (by decide)]; exact h2, by rw [c 18 (by decide)]; exact h3, by rw [c 19 (by decide)]; exact h4, by rw [c 21 (by decide)]; exact h5, by rw [c 22 (by decide)]; exact h6, by rw [hs_ne (by decide), c 12 (by decide)]; exact h7⟩
theorem bud.now {v : Int32} {k : Nat} (h : bud σ k) : bud (hg_set σ 0 24 v) k := h.of (hs_ne (by decide)) (hs_ne (by decide))
end ML
