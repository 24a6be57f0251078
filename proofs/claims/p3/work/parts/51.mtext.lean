/-! THE REFERENCE: statements read; how they lie one within the other. -/
def nOK (n : Nat) (F S d : Nat → Nat) : Prop := (∀ q, q < n → q + 1 ≤ F q ∧ F q ≤ S q ∧ S q ≤ n ∧ d q ≤ 6) ∧ ∀ q s, q < n → q < s → s < n → (s < F q → S s ≤ F q ∧ d q < d s) ∧ (F q ≤ s → s < S q → S s ≤ S q ∧ d q < d s)
def oOK (n o : Nat) (S d st : Nat → Nat) : Prop := ∀ j, j < o → st j < n ∧ d (st j) = j ∧ (∀ s, st j < s → s < n → j < d s) ∧ ∀ q, q < st j → S q ≤ st j
theorem nOK.push {n o : Nat} {F S d F' S' d' : Nat → Nat} (h : nOK n F S d) (ho : o ≤ 6) (e : ∀ q, q < n → F' q = F q ∧ S' q = S q ∧ d' q = d q) (e1 : F' n = n + 1) (e2 : S' n = n + 1) (e3 : d' n = o) : nOK (n + 1) F' S' d' := by
  refine ⟨fun q hq => ?_, fun q s hq hs hn => ?_⟩
  · by_cases hl : q < n
    · obtain ⟨a, b, c⟩ := e q hl
      obtain ⟨h1, h2, h3, h4⟩ := h.1 q hl
      rw [a, b, c]
      omega
    · have : q = n := by omega
      subst this
      rw [e1, e2, e3]
      omega
  · obtain ⟨a, b, c⟩ := e q (by omega)
    obtain ⟨h1, h2, h3, h4⟩ := h.1 q (by omega)
    rw [a, b, c]
    by_cases hl : s < n
    · obtain ⟨a1, b1, c1⟩ := e s hl
      rw [b1, c1]
      exact h.2 q s (by omega) hs hl
    · constructor <;> intros <;> omega
theorem oOK.push {n o : Nat} {S d st S' d' : Nat → Nat} (h : oOK n o S d st) (e : ∀ q, q < n → S' q = S q ∧ d' q = d q) (e3 : d' n = o) : oOK (n + 1) o S' d' st := by
  intro j hj
  obtain ⟨h1, h2, h3, h4⟩ := h j hj
  refine ⟨by omega, by rw [(e _ h1).2]; exact h2, fun s hs hn => ?_, fun q hq => ?_⟩
  · by_cases hl : s < n
    · rw [(e s hl).2]; exact h3 s hs hl
    · have : s = n := by omega
      subst this
      omega
  · rw [(e q (by omega)).1]; exact h4 q hq
theorem oOK.more {n o : Nat} {S d st st' : Nat → Nat} (h : oOK n o S d st) (hn : ∀ q, q < n → S q ≤ n) (m : Nat) (hm : m + 1 = n) (hs : ∀ q, q < m → S q ≤ m) (e : ∀ j, j < o → st' j = st j) (e1 : st' o = m) (e2 : d m = o) : oOK n (o + 1) S d st' := by
  intro j hj
  by_cases hl : j < o
  · rw [e j hl]; exact h j hl
  · have : j = o := by omega
    subst this
    rw [e1]
    exact ⟨by omega, e2, fun s h1 h2 => by omega, hs⟩
theorem oOK.lt {n o j : Nat} {S d st : Nat → Nat} (h : oOK n o S d st) (hj : j + 1 < o) : st j < st (o - 1) := by
  obtain ⟨a1, a2, a3, a4⟩ := h j (by omega)
  obtain ⟨b1, b2, b3, b4⟩ := h (o - 1) (by omega)
  by_cases e : st j = st (o - 1)
  · rw [e, b2] at a2; omega
  · by_cases g : st (o - 1) < st j
    · have := b3 _ g a1
      omega
    · omega
theorem nOK.close {n o q : Nat} {F S d st F' S' : Nat → Nat} (h : nOK n F S d) (k : oOK n o S d st) (ho : 0 < o) (hq : st (o - 1) = q) (e : ∀ r, r ≠ q → F' r = F r ∧ S' r = S r) (e1 : S' q = n) (e2 : F' q = n ∨ F' q = F q) : nOK n F' S' d ∧ oOK n o S' d st := by
  obtain ⟨b1, b2, b3, b4⟩ := k (o - 1) (by omega)
  rw [hq] at b1 b2 b3 b4
  refine ⟨⟨fun r hr => ?_, fun r s hr hs hn => ?_⟩, fun j hj => ?_⟩
  · by_cases er : r = q
    · subst er
      obtain ⟨h1, h2, h3, h4⟩ := h.1 r hr
      omega
    · rw [(e r er).1, (e r er).2]; exact h.1 r hr
  · by_cases er : r = q
    · subst er
      have es : s ≠ r := by omega
      rw [(e s es).2]
      obtain ⟨h1, h2, h3, h4⟩ := h.1 s hn
      have := b3 s hs hn
      have hh := h.2 r s hr hs hn
      refine ⟨fun hf => ?_, fun _ _ => by omega⟩
      rcases e2 with e2 | e2
      · omega
      · rw [e2] at hf ⊢; exact hh.1 hf
    · obtain ⟨h1, h2, h3, h4⟩ := h.1 r hr
      rw [(e r er).1, (e r er).2]
      by_cases es : s = q
      · subst es
        have := b4 r hs
        constructor <;> intros <;> omega
      · rw [(e s es).2]; exact h.2 r s hr hs hn
  · obtain ⟨a1, a2, a3, a4⟩ := k j hj
    refine ⟨a1, a2, a3, fun r hr => ?_⟩
    have hle : st j ≤ q := by
      by_cases hj2 : j + 1 < o
      · have := k.lt hj2; omega
      · have : j = o - 1 := by omega
        subst this
        omega
    rw [(e r (by omega)).2]; exact a4 r hr
def jN (σ : hg_M) : Prop := (0 ≤ σ 0 8 ∧ (σ 0 8).toNatClampNeg ≤ 60) ∧ (0 ≤ σ 0 18 ∧ (σ 0 18).toNatClampNeg ≤ 6) ∧ nOK (σ 0 8).toNatClampNeg (fun q => (σ 6 q).toNatClampNeg) (fun q => (σ 7 q).toNatClampNeg) (fun q => (σ 4 (9 * q + 7)).toNatClampNeg) ∧ oOK (σ 0 8).toNatClampNeg (σ 0 18).toNatClampNeg (fun q => (σ 7 q).toNatClampNeg) (fun q => (σ 4 (9 * q + 7)).toNatClampNeg) (fun j => (σ 10 j).toNatClampNeg) ∧ ∀ j, j < (σ 0 18).toNatClampNeg → 0 ≤ σ 10 j
theorem jN.ofT {a b : hg_M} (h : jN a) (g : gT a b) : jN b := by
  obtain ⟨g1, g2, g3, -⟩ := g
  have e : (fun q => (b 4 (9 * q + 7)).toNatClampNeg) = fun q => (a 4 (9 * q + 7)).toNatClampNeg := by funext q; rw [g3 q]
  unfold jN
  rw [g2 8 (by decide) (by decide) (by decide), g2 18 (by decide) (by decide) (by decide), g1 6 (by decide) (by decide), g1 7 (by decide) (by decide), g1 10 (by decide) (by decide), e]
  exact h
/-- what reading leaves alone -/
def gR9 (σ σ' : hg_M) : Prop := (∀ q, ¬ (q = 0 ∨ q = 4 ∨ q = 6 ∨ q = 7 ∨ q = 10 ∨ q = 11) → σ' q = σ q) ∧ ∀ i, ¬ ((5 ≤ i ∧ i ≤ 8) ∨ i = 18) → σ' 0 i = σ 0 i
theorem gR9.refl (σ : hg_M) : gR9 σ σ := ⟨fun _ _ => rfl, fun _ _ => rfl⟩
theorem gR9.trans {a b c : hg_M} (h : gR9 a b) (g : gR9 b c) : gR9 a c := ⟨fun q hq => (g.1 q hq).trans (h.1 q hq), fun i hi => (g.2 i hi).trans (h.2 i hi)⟩
theorem gT.r9 {a b : hg_M} (g : gT a b) : gR9 a b := ⟨fun q hq => g.1 q (by omega) (by omega), fun i hi => g.2.1 i (by omega) (by omega) (by omega)⟩
theorem gR9.c {σ : hg_M} {q i : Nat} {v : Int32} (h : q = 4 ∨ q = 6 ∨ q = 7 ∨ q = 10 ∨ q = 11) : gR9 σ (hg_set σ q i v) := ⟨fun p hp => hg_set_ne (by omega), fun j _ => by rw [hg_set_ne (by omega)]⟩
theorem gR9.o {σ : hg_M} {i : Nat} {v : Int32} (h : (5 ≤ i ∧ i ≤ 8) ∨ i = 18) : gR9 σ (hg_set σ 0 i v) := ⟨fun p hp => hg_set_ne (by omega), fun j hj => hs_ne (by omega)⟩
section MR2
variable {σ : hg_M} {P : hg_M → Prop}
theorem qM_ent {s : Int32} {k : Nat} {v : Int32} (h : jT σ) (hk : k = 0 ∨ k = 8) : jT (hg_set σ 4 (9 * s.toNatClampNeg + k) v) := h.ent (h.2.1.ent (by omega) (by omega) (by omega) (by omega) (by omega) (by omega))
theorem qM_opOf {x : Int32} {Q : Int32 → hg_M → Prop} (h0 : Q (-1) σ) (h1 : ∀ r, 0 ≤ r → r < 13 → x ≠ -1 → Q r σ) : wM_X6_opOf x σ Q := by
  unfold wM_X6_opOf bM_X6_opOf_85
  exact ⟨fun _ => ⟨fun _ => ⟨fun _ => ⟨fun _ => ⟨fun _ => ⟨fun _ => ⟨fun _ => ⟨fun _ => h0, fun e => h1 9 (by decide) (by decide) (by rw [e]; decide)⟩, fun e => h1 8 (by decide) (by decide) (by rw [e]; decide)⟩, fun e => h1 7 (by decide) (by decide) (by rw [e]; decide)⟩, fun e => h1 6 (by decide) (by decide) (by rw [e]; decide)⟩, fun e => h1 5 (by decide) (by decide) (by rw [e]; decide)⟩, fun e => h1 4 (by decide) (by decide) (by rw [e]; decide)⟩, fun e => h1 3 (by decide) (by decide) (by rw [e]; decide)⟩, fun e => h1 2 (by decide) (by decide) (by rw [e]; decide)⟩
theorem qM_relOf {x : Int32} {Q : Int32 → hg_M → Prop} (h0 : Q (-1) σ) (h1 : ∀ r, 0 ≤ r → r < 13 → x ≠ -1 → Q r σ) : wM_X6_relOf x σ Q := by
  unfold wM_X6_relOf bM_X6_relOf_34
  exact ⟨fun _ => ⟨fun _ => ⟨fun _ => h0, fun e => h1 12 (by decide) (by decide) (by rw [e]; decide)⟩, fun e => h1 11 (by decide) (by decide) (by rw [e]; decide)⟩, fun e => h1 10 (by decide) (by decide) (by rw [e]; decide)⟩
theorem qM_readSet {s : Int32} (h : jT σ) (s0 : 0 ≤ s) (s1 : s < 60) (hl : σ 0 5 < σ 0 4) (v0 : 97 ≤ σ 3 (σ 0 5).toNatClampNeg) (v1 : σ 3 (σ 0 5).toNatClampNeg ≤ 112) (hP : ∀ σ', jT σ' → gT σ σ' → σ 0 5 + 1 ≤ σ' 0 5 → P σ') : wM_X6_readSet s σ P := by
  have i0 := hm9 (k := 0) s0 s1 (by decide) (by decide)
  have i1 := hm9 (k := 1) s0 s1 (by decide) (by decide)
  have i2 := hm9 (k := 2) s0 s1 (by decide) (by decide)
  rw [tn0] at i0; rw [tn1] at i1; rw [tn2] at i2
  unfold wM_X6_readSet
  refine ⟨hp_600 h.1.1 (by have := h.1.2.2; grind), i1.2, fun σ1 e1 σ2 e2 => ?_⟩
  rw [i1.1] at e1
  have w1 : jT σ1 := by
    rw [e1]
    exact h.ent (h.2.1.ent (by omega) (fun _ => by grind) (by omega) (by omega) (by omega) (by omega))
  have g1 : gT σ σ1 := by rw [e1]; exact gT.ent (by omega)
  have hl1 : σ1 0 5 < σ1 0 4 := by rw [e1, hg_set_ne (by decide)]; exact hl
  have a1 : σ1 0 5 = σ 0 5 := by rw [e1, hg_set_ne (by decide)]
  have w2 : jT σ2 := by rw [e2]; exact qM_up w1 hl1
  have g2 : gT σ σ2 := by rw [e2]; exact g1.trans (qM_ug w1 hl1)
  have a2 : σ2 0 5 = σ 0 5 + 1 := by rw [e2, hs_me, a1]
  have fin : ∀ σ', jT σ' → gT σ2 σ' → P σ' := fun σ' w g => hP σ' w (g2.trans g) (by have := g.2.2.2; rw [a2] at this; exact this)
  have h172 : ∀ σ3, jT σ3 → gT σ2 σ3 → bM_X6_readSet_172 P σ3 := fun σ3 w3 g3 => qM_take w3 (by decide) (fun σ4 w4 g4 => fin σ4 w4 (g3.trans g4))
  have h90 : ∀ σ3, jT σ3 → gT σ2 σ3 → bM_X6_readSet_90 P s σ3 := by
    intro σ3 w3 g3
    unfold bM_X6_readSet_90
    refine ⟨i0.2, fun σ10 e10 => ?_⟩
    rw [i0.1] at e10
    have w10 : jT σ10 := by rw [e10]; exact qM_ent w3 (by omega)
    have g10 : gT σ2 σ10 := by rw [e10]; exact g3.trans (gT.ent (by omega))
    refine qM_readValue w10 s0 s1 (by decide) (fun σ11 w11 g11 => ?_)
    have G11 := g10.trans g11
    refine ⟨fun _ => qM_nx w11 (fun r13 σ12 w12 g12 _ hr => qM_opOf ?_ (fun r q0 q1 hx => ?_)), fun _ => ?_⟩
    · unfold bM_X6_readSet_126
      exact ⟨fun _ => h172 σ12 w12 (G11.trans g12), fun h => absurd rfl h⟩
    · unfold bM_X6_readSet_126
      have hl12 := (hr hx).1
      refine ⟨fun h => absurd h (by grind), fun _ σ16 e16 => ⟨i0.2, fun σ17 e17 => ⟨i2.2, fun σ18 e18 => ?_⟩⟩⟩
      rw [i0.1] at e17; rw [i2.1] at e18
      have w16 : jT σ16 := by rw [e16]; exact qM_up w12 hl12
      have g16 : gT σ2 σ16 := by rw [e16]; exact (G11.trans g12).trans (qM_ug w12 hl12)
      have w17 : jT σ17 := by rw [e17]; exact qM_ent w16 (by omega)
      have g17 : gT σ2 σ17 := by rw [e17]; exact g16.trans (gT.ent (by omega))
      have w18 : jT σ18 := by
        rw [e18]
        exact w17.ent (w17.2.1.ent (by omega) (by omega) (fun _ => ⟨q0, q1⟩) (by omega) (by omega) (by omega))
      have g18 : gT σ2 σ18 := by rw [e18]; exact g17.trans (gT.ent (by omega))
      exact qM_readValue w18 s0 s1 (by decide) (fun σ19 w19 g19 => h172 σ19 w19 (g18.trans g19))
    · unfold bM_X6_readSet_126
      exact ⟨fun _ => h172 σ11 w11 G11, fun h => absurd rfl h⟩
  refine qM_take w2 (by decide) (fun σ3 w3 g3 => ⟨fun _ => h90 σ3 w3 g3, fun _ => qM_nx w3 (fun r5 σ4 w4 g4 _ hr => ⟨fun _ => h90 σ4 w4 (g3.trans g4), fun e5 σ6 e6 => ⟨i0.2, fun σ7 e7 => ?_⟩⟩)⟩)
  have hl4 := (hr (by rw [e5]; decide)).1
  rw [i0.1] at e7
  have w6 : jT σ6 := by rw [e6]; exact qM_up w4 hl4
  have g6 : gT σ2 σ6 := by rw [e6]; exact (g3.trans g4).trans (qM_ug w4 hl4)
  have w7 : jT σ7 := by rw [e7]; exact qM_ent w6 (by omega)
  have g7 : gT σ2 σ7 := by rw [e7]; exact g6.trans (gT.ent (by omega))
  exact qM_readValue w7 s0 s1 (by decide) (fun σ8 w8 g8 => qM_take w8 (by decide) (fun σ9 w9 g9 => fin σ9 w9 ((g7.trans g8).trans g9)))
theorem qM_readTest {s : Int32} (h : jT σ) (s0 : 0 ≤ s) (s1 : s < 60) (hl : σ 0 5 < σ 0 4) (hP : ∀ σ', jT σ' → gT σ σ' → σ 0 5 + 1 ≤ σ' 0 5 → P σ') : wM_X6_readTest s σ P := by
  have i0 := hm9 (k := 0) s0 s1 (by decide) (by decide)
  have i2 := hm9 (k := 2) s0 s1 (by decide) (by decide)
  rw [tn0] at i0; rw [tn2] at i2
  unfold wM_X6_readTest
  intro σ1 e1
  refine ⟨i0.2, fun σ2 e2 => ?_⟩
  rw [i0.1] at e2
  have w1 : jT σ1 := by rw [e1]; exact qM_up h hl
  have g1 : gT σ σ1 := by rw [e1]; exact qM_ug h hl
  have a1 : σ1 0 5 = σ 0 5 + 1 := by rw [e1, hs_me]
  have w2 : jT σ2 := by rw [e2]; exact qM_ent w1 (by omega)
  have g2 : gT σ1 σ2 := by rw [e2]; exact gT.ent (by omega)
  have fin : ∀ σ', jT σ' → gT σ1 σ' → P σ' := fun σ' w g => hP σ' w (g1.trans g) (by have := g.2.2.2; rw [a1] at this; exact this)
  refine qM_readValue w2 s0 s1 (by decide) (fun σ3 w3 g3 => ?_)
  have G3 := g2.trans g3
  refine ⟨fun _ => qM_nx w3 (fun r5 σ4 w4 g4 _ hr => qM_relOf ⟨fun h => absurd rfl h, fun _ => qM_fail w4 (by decide) (fun σ5 w5 g5 _ => fin σ5 w5 ((G3.trans g4).trans g5))⟩ (fun r q0 q1 hx => ⟨fun _ σ8 e8 => ⟨i2.2, fun σ9 e9 => ?_⟩, fun e => absurd e (by grind)⟩)), fun _ => fin σ3 w3 G3⟩
  have hl4 := (hr hx).1
  rw [i2.1] at e9
  have w8 : jT σ8 := by rw [e8]; exact qM_up w4 hl4
  have g8 : gT σ1 σ8 := by rw [e8]; exact (G3.trans g4).trans (qM_ug w4 hl4)
  have w9 : jT σ9 := by
    rw [e9]
    exact w8.ent (w8.2.1.ent (by omega) (by omega) (fun _ => ⟨q0, q1⟩) (by omega) (by omega) (by omega))
  have g9 : gT σ1 σ9 := by rw [e9]; exact g8.trans (gT.ent (by omega))
  exact qM_readValue w9 s0 s1 (by decide) (fun σ10 w10 g10 => qM_take w10 (by decide) (fun σ11 w11 g11 => fin σ11 w11 ((g9.trans g10).trans g11)))
end MR2
