/-! THE REFERENCE, pure part: numbers, the reader's small methods. -/
theorem hm_t {x : Int32} (h : 0 ≤ x) : x.toInt = (x.toNatClampNeg : Int) := by
  have a0 := Int32.le_iff_toInt_le.mp h
  have e0 : (0 : Int32).toInt = 0 := by decide
  rw [e0] at a0
  show x.toInt = (x.toInt.toNat : Int)
  omega
theorem hm_in {x : Int32} {n : Nat} (h : 0 ≤ x) (h1 : x.toNatClampNeg < n) : vp_in x n := by
  rintro (h2 | h2)
  · have a0 := Int32.le_iff_toInt_le.mp h
    have a1 := Int32.lt_iff_toInt_lt.mp h2
    omega
  · omega
theorem hm_le {x y : Int32} (h : 0 ≤ x) (h1 : 0 ≤ y) : x ≤ y ↔ x.toNatClampNeg ≤ y.toNatClampNeg := by
  rw [Int32.le_iff_toInt_le, hm_t h, hm_t h1]
  omega
theorem hm_lt {x y : Int32} (h : 0 ≤ x) (h1 : 0 ≤ y) : x < y ↔ x.toNatClampNeg < y.toNatClampNeg := by
  rw [Int32.lt_iff_toInt_lt, hm_t h, hm_t h1]
  omega
theorem hm_eq {x y : Int32} (h : 0 ≤ x) (h1 : 0 ≤ y) : x = y ↔ x.toNatClampNeg = y.toNatClampNeg := by
  rw [← Int32.toInt_inj, hm_t h, hm_t h1]
  omega
theorem hm_0 {x : Int32} (h : x.toInt = (x.toNatClampNeg : Int)) : 0 ≤ x := by
  rw [Int32.le_iff_toInt_le, h]
  have e0 : (0 : Int32).toInt = 0 := by decide
  rw [e0]
  omega
theorem hm_pos {x : Int32} (h : 0 < x.toNatClampNeg) : 0 ≤ x := by
  rw [Int32.le_iff_toInt_le]
  have e0 : (0 : Int32).toInt = 0 := by decide
  rw [e0]
  have : x.toNatClampNeg = x.toInt.toNat := rfl
  omega
theorem hm_lin {a s k : Int32} {A N : Nat} (ha : a.toInt = (A : Int)) (s0 : 0 ≤ s) (k0 : 0 ≤ k) (hb : A * s.toNatClampNeg + k.toNatClampNeg < N) (hN : N ≤ 1000000) (hA : 1 ≤ A) : (a * s + k).toNatClampNeg = A * s.toNatClampNeg + k.toNatClampNeg ∧ 0 ≤ a * s + k ∧ vp_in (a * s + k) N := by
  have e1 : (a * s).toInt = (A * s.toNatClampNeg : Nat) := by
    rw [Int32.toInt_mul, ha, hm_t s0]
    have : ((A : Int) * (s.toNatClampNeg : Int)) = ((A * s.toNatClampNeg : Nat) : Int) := by simp
    rw [this]
    apply Int.bmod_eq_of_le <;> omega
  have e2 : (a * s + k).toInt = ((A * s.toNatClampNeg + k.toNatClampNeg : Nat) : Int) := by
    rw [Int32.toInt_add, e1, hm_t k0]
    have : ((A * s.toNatClampNeg : Nat) : Int) + (k.toNatClampNeg : Int) = ((A * s.toNatClampNeg + k.toNatClampNeg : Nat) : Int) := by simp
    rw [this]
    apply Int.bmod_eq_of_le <;> omega
  have e3 : (a * s + k).toNatClampNeg = A * s.toNatClampNeg + k.toNatClampNeg := by
    show (a * s + k).toInt.toNat = _
    rw [e2]; exact Int.toNat_natCast _
  have e4 : 0 ≤ a * s + k := hm_0 (by rw [e2, e3])
  exact ⟨e3, e4, hm_in e4 (by rw [e3]; exact hb)⟩
theorem hm_add {s k : Int32} {N : Nat} (s0 : 0 ≤ s) (k0 : 0 ≤ k) (hb : s.toNatClampNeg + k.toNatClampNeg < N) (hN : N ≤ 1000000) : (s + k).toNatClampNeg = s.toNatClampNeg + k.toNatClampNeg ∧ 0 ≤ s + k ∧ vp_in (s + k) N := by
  have e2 : (s + k).toInt = ((s.toNatClampNeg + k.toNatClampNeg : Nat) : Int) := by
    rw [Int32.toInt_add, hm_t s0, hm_t k0]
    have : (s.toNatClampNeg : Int) + (k.toNatClampNeg : Int) = ((s.toNatClampNeg + k.toNatClampNeg : Nat) : Int) := by simp
    rw [this]
    apply Int.bmod_eq_of_le <;> omega
  have e3 : (s + k).toNatClampNeg = s.toNatClampNeg + k.toNatClampNeg := by
    show (s + k).toInt.toNat = _
    rw [e2]; exact Int.toNat_natCast _
  have e4 : 0 ≤ s + k := hm_0 (by rw [e2, e3])
  exact ⟨e3, e4, hm_in e4 (by rw [e3]; exact hb)⟩
theorem hm_sub {s k : Int32} (s0 : 0 ≤ s) (k0 : 0 ≤ k) (h : k.toNatClampNeg ≤ s.toNatClampNeg) : (s - k).toNatClampNeg = s.toNatClampNeg - k.toNatClampNeg ∧ 0 ≤ s - k := by
  have c1 := Int32.toInt_lt s
  have t1 := hm_t s0
  have e2 : (s - k).toInt = ((s.toNatClampNeg - k.toNatClampNeg : Nat) : Int) := by
    rw [Int32.toInt_sub, hm_t s0, hm_t k0]
    have : (s.toNatClampNeg : Int) - (k.toNatClampNeg : Int) = ((s.toNatClampNeg - k.toNatClampNeg : Nat) : Int) := by omega
    rw [this]
    apply Int.bmod_eq_of_le <;> omega
  have e3 : (s - k).toNatClampNeg = s.toNatClampNeg - k.toNatClampNeg := by
    show (s - k).toInt.toNat = _
    rw [e2]; exact Int.toNat_natCast _
  exact ⟨e3, hm_0 (by rw [e2, e3])⟩
theorem tn0 : (0 : Int32).toNatClampNeg = 0 := by decide
theorem tn1 : (1 : Int32).toNatClampNeg = 1 := by decide
theorem tn2 : (2 : Int32).toNatClampNeg = 2 := by decide
theorem tn3 : (3 : Int32).toNatClampNeg = 3 := by decide
theorem tn4 : (4 : Int32).toNatClampNeg = 4 := by decide
theorem tn5 : (5 : Int32).toNatClampNeg = 5 := by decide
theorem tn6 : (6 : Int32).toNatClampNeg = 6 := by decide
theorem tn7 : (7 : Int32).toNatClampNeg = 7 := by decide
theorem tn16 : (16 : Int32).toNatClampNeg = 16 := by decide
theorem tn60 : (60 : Int32).toNatClampNeg = 60 := by decide
theorem tn600 : (600 : Int32).toNatClampNeg = 600 := by decide
theorem hs_eq {σ : hg_M} {q a b : Nat} {v : Int32} : hg_set σ q a v q b = if b = a then v else σ q b := by simp [hg_set]
theorem hs_me {σ : hg_M} {q a : Nat} {v : Int32} : hg_set σ q a v q a = v := by simp [hg_set]
theorem hs_ne {σ : hg_M} {q a b : Nat} {v : Int32} (h : b ≠ a) : hg_set σ q a v q b = σ q b := by simp [hg_set, h]
/-- an entry of the text -/
def eOK (f : Nat → Int32) (n : Nat) : Prop := (0 ≤ f (9 * n + 1) ∧ f (9 * n + 1) < 16) ∧ (0 ≤ f (9 * n + 2) ∧ f (9 * n + 2) < 13) ∧ (f (9 * n + 3) = 1 → 0 ≤ f (9 * n + 4) ∧ f (9 * n + 4) < 16) ∧ (f (9 * n + 5) = 1 → 0 ≤ f (9 * n + 6) ∧ f (9 * n + 6) < 16)
theorem eOK.congr {f g : Nat → Int32} {n : Nat} (h : eOK f n) (e : ∀ j, j < 9 → g (9 * n + j) = f (9 * n + j)) : eOK g n := by
  unfold eOK
  rw [e 1 (by omega), e 2 (by omega), e 3 (by omega), e 4 (by omega), e 5 (by omega), e 6 (by omega)]
  exact h
def jR (σ : hg_M) : Prop := 0 ≤ σ 0 5 ∧ σ 0 5 ≤ σ 0 4 ∧ σ 0 4 ≤ 600
def jE (σ : hg_M) : Prop := ∀ n, n < 60 → eOK (σ 4) n
def jT (σ : hg_M) : Prop := jR σ ∧ jE σ ∧ 0 ≤ σ 0 6
def gT (σ σ' : hg_M) : Prop := (∀ q, q ≠ 0 → q ≠ 4 → σ' q = σ q) ∧ (∀ i, i ≠ 5 → i ≠ 6 → i ≠ 7 → σ' 0 i = σ 0 i) ∧ (∀ n, σ' 4 (9 * n + 7) = σ 4 (9 * n + 7)) ∧ σ 0 5 ≤ σ' 0 5
theorem gT.refl (σ : hg_M) : gT σ σ := ⟨fun _ _ _ => rfl, fun _ _ _ _ => rfl, fun _ => rfl, by grind⟩
theorem gT.trans {a b c : hg_M} (h : gT a b) (g : gT b c) : gT a c := ⟨fun q h1 h2 => (g.1 q h1 h2).trans (h.1 q h1 h2), fun i h1 h2 h3 => (g.2.1 i h1 h2 h3).trans (h.2.1 i h1 h2 h3), fun n => (g.2.2.1 n).trans (h.2.2.1 n), by have := h.2.2.2; have := g.2.2.2; grind⟩
theorem gT.at {σ : hg_M} {p : Int32} (h : σ 0 5 ≤ p) : gT σ (hg_set σ 0 5 p) := ⟨fun q h1 _ => hg_set_ne h1, fun i h1 _ _ => hs_ne h1, fun n => by rw [hg_set_ne (by decide)], by rw [hs_me]; exact h⟩
theorem gT.flt {σ : hg_M} {i : Nat} {v : Int32} (h : i = 6 ∨ i = 7) : gT σ (hg_set σ 0 i v) := ⟨fun q h1 _ => hg_set_ne h1, fun j _ h2 h3 => hs_ne (by omega), fun n => by rw [hg_set_ne (by decide)], by rw [hs_ne (by omega)]; grind⟩
theorem gT.ent {σ : hg_M} {n k : Nat} {v : Int32} (h : k < 7) : gT σ (hg_set σ 4 (9 * n + k) v) := ⟨fun q _ h2 => hg_set_ne h2, fun j _ _ _ => by rw [hg_set_ne (by decide)], fun m => hs_ne (by omega), by rw [hg_set_ne (by decide)]; grind⟩
theorem jE.of {a b : hg_M} (h : jE a) (e : b 4 = a 4) : jE b := by unfold jE; rw [e]; exact h
theorem jE.ent {σ : hg_M} {n k : Nat} {v : Int32} (h : jE σ) (hk : k < 9) (h1 : k = 1 → 0 ≤ v ∧ v < 16) (h2 : k = 2 → 0 ≤ v ∧ v < 13) (h3 : k = 3 ∨ k = 5 → v ≠ 1) (h4 : k = 4 → σ 4 (9 * n + 3) ≠ 1 ∨ (0 ≤ v ∧ v < 16)) (h6 : k = 6 → σ 4 (9 * n + 5) ≠ 1 ∨ (0 ≤ v ∧ v < 16)) : jE (hg_set σ 4 (9 * n + k) v) := by
  intro m hm
  have hh := h m hm
  by_cases e : m = n
  · subst e
    unfold eOK at hh ⊢
    simp only [hs_eq]
    grind
  · exact hh.congr (fun j hj => hs_ne (by omega))
theorem jE.pair {σ : hg_M} {n k : Nat} {v : Int32} (h : jE σ) (hk : k = 3 ∨ k = 5) (h0 : 0 ≤ v) (h1 : v < 16) : jE (hg_set (hg_set σ 4 (9 * n + k) 1) 4 (9 * n + k + 1) v) := by
  intro m hm
  have hh := h m hm
  by_cases e : m = n
  · subst e
    unfold eOK at hh ⊢
    simp only [hs_eq]
    rcases hk with rfl | rfl <;> grind
  · exact hh.congr (fun j hj => by rw [hs_ne (by omega), hs_ne (by omega)])
theorem jT.at {σ : hg_M} {p : Int32} (h : jT σ) (h0 : 0 ≤ p) (h1 : p ≤ σ 0 4) : jT (hg_set σ 0 5 p) := ⟨⟨by rw [hs_me]; exact h0, by rw [hs_me, hs_ne (by decide)]; exact h1, by rw [hs_ne (by decide)]; exact h.1.2.2⟩, h.2.1.of (hg_set_ne (by decide)), by rw [hs_ne (by decide)]; exact h.2.2⟩
theorem jT.flt {σ : hg_M} {i : Nat} {v : Int32} (h : jT σ) (hi : i = 6 ∨ i = 7) (hv : i = 6 → 0 ≤ v) : jT (hg_set σ 0 i v) := ⟨⟨by rw [hs_ne (by omega)]; exact h.1.1, by rw [hs_ne (by omega), hs_ne (by omega)]; exact h.1.2.1, by rw [hs_ne (by omega)]; exact h.1.2.2⟩, h.2.1.of (hg_set_ne (by decide)), by
  rw [hs_eq]
  split
  · exact hv (by omega)
  · exact h.2.2⟩
theorem jT.ent {σ : hg_M} {a : Nat} {v : Int32} (h : jT σ) (e : jE (hg_set σ 4 a v)) : jT (hg_set σ 4 a v) := ⟨by unfold jR; rw [hg_set_ne (by decide)]; exact h.1, e, by rw [hg_set_ne (by decide)]; exact h.2.2⟩
section MR
variable {σ : hg_M} {P : hg_M → Prop}
theorem qM_next {Q : Int32 → hg_M → Prop} (h : jR σ) (hP : ∀ r p, σ 0 5 ≤ p → p ≤ σ 0 4 → (r ≠ -1 → p < σ 0 4 ∧ r = σ 3 p.toNatClampNeg) → Q r (hg_set σ 0 5 p)) : wM_X6_next σ Q := by
  have key : ∀ n (σ : hg_M), jR σ → hp_n (600 - σ 0 5) < n → (∀ r p, σ 0 5 ≤ p → p ≤ σ 0 4 → (r ≠ -1 → p < σ 0 4 ∧ r = σ 3 p.toNatClampNeg) → Q r (hg_set σ 0 5 p)) → lM_X6_next_0 Q n σ := by
    intro n
    induction n with
    | zero => intro σ _ h; omega
    | succ n ih =>
      intro σ hI hn hP
      obtain ⟨i0, i1, i2⟩ := hI
      have hid : hg_set σ 0 5 (σ 0 5) = σ := by funext a b; simp only [hg_set]; split <;> simp_all
      have hex : bM_X6_next_52 Q σ := by
        unfold bM_X6_next_52 bM_X6_next_76
        refine ⟨fun h => ?_, fun h => ⟨hp_600 i0 (by grind), ?_⟩⟩
        · have := hP (-1) (σ 0 5) (by grind) i1 (by grind)
          rwa [hid] at this
        · have := hP (σ 3 (σ 0 5).toNatClampNeg) (σ 0 5) (by grind) i1 (by grind)
          rwa [hid] at this
      have hgo : ¬ σ 0 4 ≤ σ 0 5 → bM_X6_next_39 Q (fun k0 => lM_X6_next_0 Q n k0) σ := by
        intro h
        unfold bM_X6_next_39
        intro σ1 e1
        have f6 : σ1 0 5 = σ 0 5 + 1 := by rw [e1]; simp [hg_set]
        have f1 : σ1 0 4 = σ 0 4 := by rw [e1]; simp [hg_set]
        have f3 : σ1 3 = σ 3 := by rw [e1]; exact hg_set_ne (by decide)
        refine ih σ1 ⟨by rw [f6]; grind, by rw [f6, f1]; grind, by rw [f1]; exact i2⟩ ?_ ?_
        · have := hp_n_lt (a := σ 0 5) (b := σ1 0 5) (c := 600) i0 (by rw [f6]; grind) (by rw [f6]; grind)
          omega
        · intro r p h1 h2 h3
          rw [f6] at h1; rw [f1] at h2 h3; rw [f3] at h3
          have e : hg_set σ1 0 5 p = hg_set σ 0 5 p := by rw [e1]; funext a b; simp only [hg_set]; split <;> simp_all
          rw [e]
          exact hP r p (by grind) h2 h3
      rw [lM_X6_next_0]
      refine ⟨fun _ => hex, fun h => ⟨hp_600 i0 (by grind), fun _ => hgo h, fun _ => ⟨hp_600 i0 (by grind), fun _ => hex, fun _ => hgo h⟩⟩⟩
  exact ⟨hp_n (600 - σ 0 5) + 1, key _ σ h (by omega) hP⟩
/-- next(), with what stays -/
theorem qM_nx {Q : Int32 → hg_M → Prop} (h : jT σ) (hP : ∀ r σ', jT σ' → gT σ σ' → σ' 0 6 = σ 0 6 → (r ≠ -1 → σ' 0 5 < σ' 0 4 ∧ r = σ' 3 (σ' 0 5).toNatClampNeg) → Q r σ') : wM_X6_next σ Q :=
  qM_next h.1 (fun r p h1 h2 h3 => hP r _ (h.at (by have := h.1.1; grind) h2) (gT.at h1) (hs_ne (by decide)) (fun hr => by rw [hs_me, hs_ne (by decide), hg_set_ne (by decide)]; exact h3 hr))
theorem qM_fail {a b : Int32} (h : jT σ) (ha : 0 < a) (hP : ∀ σ', jT σ' → gT σ σ' → 0 < σ' 0 6 → P σ') : wM_X6_fail a b σ P := by
  unfold wM_X6_fail bM_X6_fail_17
  refine ⟨fun hne => hP σ h (gT.refl σ) (by have := h.2.2; grind), fun _ σ1 e1 σ2 e2 => ?_⟩
  subst e1; subst e2
  have f : hg_set (hg_set σ 0 6 a) 0 7 b 0 6 = a := by simp [hg_set]
  exact hP _ ((h.flt (Or.inl rfl) (fun _ => by grind)).flt (Or.inr rfl) (fun e => absurd e (by decide))) ((gT.flt (Or.inl rfl)).trans (gT.flt (Or.inr rfl))) (by rw [f]; exact ha)
theorem qM_up (h : jT σ) (hl : σ 0 5 < σ 0 4) : jT (hg_set σ 0 5 (σ 0 5 + 1)) := h.at (by have := h.1.1; have := h.1.2.2; grind) (by have := h.1.2.2; grind)
theorem qM_ug (h : jT σ) (hl : σ 0 5 < σ 0 4) : gT σ (hg_set σ 0 5 (σ 0 5 + 1)) := gT.at (by have := h.1.2.2; grind)
theorem qM_take {x : Int32} (h : jT σ) (hx : x ≠ -1) (hP : ∀ σ', jT σ' → gT σ σ' → P σ') : wM_X6_take x σ P := by
  unfold wM_X6_take
  refine ⟨fun _ => qM_nx h (fun r σ1 w1 g1 _ hr => ⟨fun e σ3 e3 => ?_, fun _ => qM_fail w1 (by decide) (fun σ2 w2 g2 _ => hP σ2 w2 (g1.trans g2))⟩), fun _ => hP σ h (gT.refl σ)⟩
  have hl := (hr (by rw [e]; exact hx)).1
  subst e3
  exact hP _ (qM_up w1 hl) (g1.trans (qM_ug w1 hl))
theorem qM_isVariable {x : Int32} {Q : Int32 → hg_M → Prop} (h0 : (x < 97 ∨ 112 < x) → Q 0 σ) (h1 : 97 ≤ x → x ≤ 112 → Q 1 σ) : wM_X6_isVariable x σ Q := by
  unfold wM_X6_isVariable bM_X6_isVariable_16 bM_X6_isVariable_17
  exact ⟨fun h => ⟨Or.inl rfl, h0 (Or.inl h)⟩, fun h => ⟨fun g => ⟨Or.inl rfl, h0 (Or.inr g)⟩, fun g => ⟨Or.inr rfl, h1 (by grind) (by grind)⟩⟩⟩
theorem qM_isFigure {x : Int32} {Q : Int32 → hg_M → Prop} (h0 : Q 0 σ) (h1 : Q 1 σ) : wM_X6_isFigure x σ Q := by
  unfold wM_X6_isFigure bM_X6_isFigure_16 bM_X6_isFigure_17
  exact ⟨fun _ => ⟨Or.inl rfl, h0⟩, fun _ => ⟨fun _ => ⟨Or.inl rfl, h0⟩, fun _ => ⟨Or.inr rfl, h1⟩⟩⟩
theorem hm9 {s k : Int32} (s0 : 0 ≤ s) (s1 : s < 60) (k0 : 0 ≤ k) (k1 : k < 9) : (9 * s + k).toNatClampNeg = 9 * s.toNatClampNeg + k.toNatClampNeg ∧ vp_in (9 * s + k) 540 := by
  have a := (hm_lt s0 (by decide)).mp s1
  have b := (hm_lt k0 (by decide)).mp k1
  have e : (9 : Int32).toNatClampNeg = 9 := by decide
  rw [tn60] at a
  rw [e] at b
  have r := hm_lin (a := 9) (A := 9) (N := 540) (by decide) s0 k0 (by omega) (by omega) (by omega)
  exact ⟨r.1, r.2.2⟩
theorem qM_readNumber {s k b : Int32} (h : jT σ) (s0 : 0 ≤ s) (s1 : s < 60) (hk : k = 3 ∨ k = 5) (hP : ∀ σ', jT σ' → gT σ σ' → P σ') : wM_X6_readNumber s k b σ P := by
  have k0 : 0 ≤ k := by grind
  have k9 : k < 8 := by grind
  have ix := hm9 s0 s1 k0 (by grind)
  have iy := hm9 (k := k + 1) s0 s1 (by grind) (by grind)
  have ek : (k + 1).toNatClampNeg = k.toNatClampNeg + 1 := by rcases hk with rfl | rfl <;> decide
  have kk : k.toNatClampNeg = 3 ∨ k.toNatClampNeg = 5 := by rcases hk with rfl | rfl <;> decide
  have ea : 9 * s + k + 1 = 9 * s + (k + 1) := by grind
  have h122 : ∀ v σ1, jT σ1 → gT σ σ1 → bM_X6_readNumber_122 P s k b v σ1 := by
    intro v σ1 w1 g1
    unfold bM_X6_readNumber_122 bM_X6_readNumber_158
    refine ⟨ix.2, fun σ7 e7 => ?_⟩
    rw [ix.1] at e7
    have w7 : jT σ7 := by
      rw [e7]
      exact w1.ent (w1.2.1.ent (by omega) (by omega) (by omega) (fun _ => by decide) (by omega) (by omega))
    have g7 : gT σ1 σ7 := by rw [e7]; exact gT.ent (by omega)
    have f7 : σ7 4 (9 * s.toNatClampNeg + k.toNatClampNeg) = 0 := by rw [e7, hs_me]
    have fin : ∀ u : Int32, P (hg_set σ7 4 (9 * s + k + 1).toNatClampNeg u) := by
      intro u
      rw [ea, iy.1, ek]
      refine hP _ (w7.ent (w7.2.1.ent (by omega) (by omega) (by omega) (by omega) (fun e => ?_) (fun e => ?_))) ((g1.trans g7).trans (gT.ent (by omega)))
      · have : k.toNatClampNeg = 3 := by omega
        left; rw [this] at f7; rw [f7]; decide
      · have : k.toNatClampNeg = 5 := by omega
        left; rw [this] at f7; rw [f7]; decide
    exact ⟨fun _ => ⟨by rw [ea]; exact iy.2, fun σ8 e8 => by rw [e8]; exact fin _⟩, fun _ => ⟨by rw [ea]; exact iy.2, fun σ8 e8 => by rw [e8]; exact fin _⟩⟩
  have h85 : ∀ f v σ1, jT σ1 → gT σ σ1 → bM_X6_readNumber_85 P s k b f v σ1 := by
    intro f v σ1 w1 g1
    unfold bM_X6_readNumber_85
    exact ⟨fun _ => ⟨fun _ => h122 v σ1 w1 g1, fun _ => qM_fail w1 (by decide) (fun σ2 w2 g2 _ => h122 v σ2 w2 (g1.trans g2))⟩, fun _ => qM_fail w1 (by decide) (fun σ2 w2 g2 _ => h122 v σ2 w2 (g1.trans g2))⟩
  have key : ∀ n (f : Int32) (v : Int64) (σ1 : hg_M), jT σ1 → gT σ σ1 → hp_n (600 - σ1 0 5) < n → lM_X6_readNumber_9 P n s k b f v σ1 := by
    intro n
    induction n with
    | zero => intro f v σ1 _ _ h; omega
    | succ n ih =>
      intro f v σ1 w1 g1 hn
      rw [lM_X6_readNumber_9]
      refine ⟨fun _ => h85 f v σ1 w1 g1, fun hl => ?_⟩
      have hl : σ1 0 5 < σ1 0 4 := by grind
      obtain ⟨i0, i1, i2⟩ := w1.1
      have hi := hp_600 i0 (by grind)
      have go : ∀ u, bM_X6_readNumber_70 P (fun k0 k1 k2 k3 k4 k5 => lM_X6_readNumber_9 P n k0 k1 k2 k3 k4 k5) s k b f u σ1 := by
        intro u
        unfold bM_X6_readNumber_70
        intro σ4 e4
        subst e4
        refine ih f u _ (qM_up w1 hl) (g1.trans (qM_ug w1 hl)) ?_
        rw [hs_me]
        have := hp_n_lt (a := σ1 0 5) (b := σ1 0 5 + 1) (c := 600) i0 (by grind) (by grind)
        omega
      exact ⟨hi, qM_isFigure ⟨fun _ => h85 f v σ1 w1 g1, fun h => absurd rfl h⟩ ⟨fun h => absurd h (by decide), fun _ => ⟨fun _ => ⟨hi, go _⟩, fun _ => go _⟩⟩⟩
  intro v1 e1
  exact ⟨hp_n (600 - σ 0 5) + 1, key _ v1 0 σ h (gT.refl σ) (by omega)⟩
theorem qM_readValue {s k : Int32} (h : jT σ) (s0 : 0 ≤ s) (s1 : s < 60) (hk : k = 3 ∨ k = 5) (hP : ∀ σ', jT σ' → gT σ σ' → P σ') : wM_X6_readValue s k σ P := by
  have ix := hm9 (k := k) s0 s1 (by grind) (by grind)
  have iy := hm9 (k := k + 1) s0 s1 (by grind) (by grind)
  have ek : (k + 1).toNatClampNeg = k.toNatClampNeg + 1 := by rcases hk with rfl | rfl <;> decide
  have kk : k.toNatClampNeg = 3 ∨ k.toNatClampNeg = 5 := by rcases hk with rfl | rfl <;> decide
  have ea : 9 * s + k + 1 = 9 * s + (k + 1) := by grind
  have h93 : ∀ b σ1, jT σ1 → gT σ σ1 → bM_X6_readValue_93 P s k b σ1 := fun b σ1 w1 g1 => qM_readNumber w1 s0 s1 hk (fun σ2 w2 g2 => hP σ2 w2 (g1.trans g2))
  unfold wM_X6_readValue
  refine ⟨fun _ => qM_nx h (fun r σ1 w1 g1 _ hr => ?_), fun _ => hP σ h (gT.refl σ)⟩
  refine qM_isVariable (fun _ => ⟨fun _ => ⟨fun _ => ?_, fun e => ?_⟩, fun h => absurd rfl h⟩) (fun v0 v1 => ⟨fun h => absurd h (by decide), fun _ => ⟨ix.2, fun σ5 e5 => ⟨by rw [ea]; exact iy.2, fun σ6 e6 σ7 e7 => ?_⟩⟩⟩)
  · unfold bM_X6_readValue_71
    exact ⟨fun _ => h93 0 σ1 w1 g1, fun h => absurd rfl h⟩
  · unfold bM_X6_readValue_71
    refine ⟨fun h => absurd h (by decide), fun _ σ8 e8 => ?_⟩
    have hl := (hr (by rw [e]; decide)).1
    subst e8
    exact qM_nx (qM_up w1 hl) (fun r9 σ9 w9 g9 _ _ => h93 1 σ9 w9 ((g1.trans (qM_ug w1 hl)).trans g9))
  · have hl := (hr (by grind)).1
    rw [ix.1] at e5
    rw [ea, iy.1, ek] at e6
    have w6 : jT σ6 := by
      rw [e6, e5]
      refine ⟨?_, ?_⟩
      · unfold jR; rw [hg_set_ne (by decide), hg_set_ne (by decide)]; exact w1.1
      · exact ⟨w1.2.1.pair kk (by grind) (by grind), by rw [hg_set_ne (by decide), hg_set_ne (by decide)]; exact w1.2.2⟩
    have g6 : gT σ1 σ6 := by
      rw [e6, e5]
      exact (gT.ent (by omega)).trans (gT.ent (k := k.toNatClampNeg + 1) (by omega))
    have hl6 : σ6 0 5 < σ6 0 4 := by rw [e6, e5, hg_set_ne (by decide), hg_set_ne (by decide)]; exact hl
    subst e7
    exact hP _ (qM_up w6 hl6) ((g1.trans g6).trans (qM_ug w6 hl6))
theorem jT.of {a b : hg_M} (h : jT a) (e5 : b 0 5 = a 0 5) (e4 : b 0 4 = a 0 4) (e6 : b 0 6 = a 0 6) (e : b 4 = a 4) : jT b := by
  unfold jT jR jE
  rw [e5, e4, e6, e]
  exact h
end MR
