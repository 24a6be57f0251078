/-! THE REFERENCE: sides, their tests and ends. -/
def ce (σ : hg_M) (i : Nat) : Nat := if σ 16 i = 0 then (σ 8 (σ 15 i).toNatClampNeg).toNatClampNeg else (σ 9 (σ 15 i).toNatClampNeg).toNatClampNeg
/-- a level: where it stands at statement s, its jump -/
def LF (σ : hg_M) (s t i : Nat) : Prop := (0 ≤ σ 15 i ∧ (σ 15 i).toNatClampNeg < s ∧ (σ 15 i).toNatClampNeg < t) ∧ s ≤ ce σ i ∧ (σ 9 (σ 15 i).toNatClampNeg).toNatClampNeg ≤ t ∧ (σ 16 i ≠ 0 → (σ 8 (σ 15 i).toNatClampNeg).toNatClampNeg ≤ s) ∧ i ≤ (σ 5 (9 * (σ 15 i).toNatClampNeg + 7)).toNatClampNeg ∧ (σ 17 i = 0 → (σ 16 i = 0 → 0 ≤ σ 20 i ∧ (σ 20 i).toNatClampNeg < (σ 0 20).toNatClampNeg ∧ σ 12 (6 * (σ 20 i).toNatClampNeg) = 17) ∧ (σ 16 i ≠ 0 → σ 20 i = -1 ∨ (0 ≤ σ 20 i ∧ (σ 20 i).toNatClampNeg < (σ 0 20).toNatClampNeg ∧ σ 12 (6 * (σ 20 i).toNatClampNeg) = 16)))
def jS (σ : hg_M) (s t : Nat) : Prop := 0 ≤ σ 0 26 ∧ (∀ i, i < (σ 0 26).toNatClampNeg → LF σ s t i) ∧ ∀ i, i + 1 < (σ 0 26).toNatClampNeg → (σ 9 (σ 15 (i + 1)).toNatClampNeg).toNatClampNeg ≤ ce σ i
def jk (f : Nat → Int32) (n i : Nat) : Prop := (f (6 * i) = 16 → 0 ≤ f (6 * i + 1) ∧ i < (f (6 * i + 1)).toNatClampNeg ∧ (f (6 * i + 1)).toNatClampNeg ≤ n) ∧ (f (6 * i) = 17 → 0 ≤ f (6 * i + 2) ∧ i < (f (6 * i + 2)).toNatClampNeg ∧ (f (6 * i + 2)).toNatClampNeg ≤ n)
def pn (σ : hg_M) (L i : Nat) : Prop := σ 17 L = 0 ∧ 0 ≤ σ 20 L ∧ (σ 20 L).toNatClampNeg = i ∧ ((σ 16 L = 0 ∧ σ 12 (6 * i) = 17) ∨ (σ 16 L ≠ 0 ∧ σ 12 (6 * i) = 16))
def jJ (σ : hg_M) : Prop := ∀ i, i < (σ 0 20).toNatClampNeg → jk (σ 12) (σ 0 20).toNatClampNeg i ∨ ∃ L, L < (σ 0 26).toNatClampNeg ∧ pn σ L i
/-- texts, levels below m, kinds of steps are the same -/
def gM (m : Nat) (σ σ' : hg_M) : Prop := (σ' 5 = σ 5 ∧ σ' 8 = σ 8 ∧ σ' 9 = σ 9) ∧ (∀ i, i < m → σ' 15 i = σ 15 i ∧ σ' 16 i = σ 16 i ∧ σ' 17 i = σ 17 i ∧ σ' 20 i = σ 20 i) ∧ (∀ j, j < (σ 0 20).toNatClampNeg → σ' 12 (6 * j) = σ 12 (6 * j)) ∧ (σ 0 20).toNatClampNeg ≤ (σ' 0 20).toNatClampNeg
theorem LF.of {m i s t : Nat} {a b : hg_M} (h : LF a s t i) (g : gM m a b) (hi : i < m) : LF b s t i := by
  obtain ⟨⟨c5, c8, c9⟩, hl, hk, hn⟩ := g
  obtain ⟨e15, e16, e17, e20⟩ := hl i hi
  obtain ⟨h1, h2, h3, h4, h5, h6⟩ := h
  unfold LF ce at *
  rw [c5, c8, c9, e15, e16, e17, e20]
  refine ⟨h1, h2, h3, h4, h5, fun hz => ⟨fun hs => ?_, fun hs => ?_⟩⟩
  · obtain ⟨p1, p2, p3⟩ := (h6 hz).1 hs
    exact ⟨p1, by omega, by rw [hk _ p2]; exact p3⟩
  · rcases (h6 hz).2 hs with p | ⟨p1, p2, p3⟩
    · exact Or.inl p
    · exact Or.inr ⟨p1, by omega, by rw [hk _ p2]; exact p3⟩
theorem ce.of {m i : Nat} {a b : hg_M} (g : gM m a b) (hi : i < m) : ce b i = ce a i := by
  obtain ⟨⟨c5, c8, c9⟩, hl, hk, hn⟩ := g
  obtain ⟨e15, e16, e17, e20⟩ := hl i hi
  unfold ce
  rw [c8, c9, e15, e16]
theorem pn.of {m L i : Nat} {a b : hg_M} (h : pn a L i) (g : gM m a b) (hL : L < m) (hi : i < (a 0 20).toNatClampNeg) : pn b L i := by
  obtain ⟨-, hl, hk, hn⟩ := g
  obtain ⟨e15, e16, e17, e20⟩ := hl L hL
  unfold pn at *
  rw [e16, e17, e20, hk i hi]
  exact h
theorem gF9.M {a b : hg_M} (g : gF9 a b) (m : Nat) : gM m a b := ⟨⟨g.1 5 (by decide) (by decide) (by decide), g.1 8 (by decide) (by decide) (by decide), g.1 9 (by decide) (by decide) (by decide)⟩, fun i _ => by rw [g.1 15 (by decide) (by decide) (by decide), g.1 16 (by decide) (by decide) (by decide), g.1 17 (by decide) (by decide) (by decide), g.1 20 (by decide) (by decide) (by decide)]; exact ⟨rfl, rfl, rfl, rfl⟩, fun j hj => g.2.2.2.1 _ (by omega), g.2.2.1⟩
theorem jk.mono {f : Nat → Int32} {n m i : Nat} (h : jk f n i) (e : n ≤ m) : jk f m i := ⟨fun a => ⟨(h.1 a).1, (h.1 a).2.1, by have := (h.1 a).2.2; omega⟩, fun a => ⟨(h.2 a).1, (h.2 a).2.1, by have := (h.2 a).2.2; omega⟩⟩
theorem jk.congr {f g : Nat → Int32} {n i : Nat} (h : jk f n i) (e : ∀ j, j < 6 → g (6 * i + j) = f (6 * i + j)) : jk g n i := by
  have e0 := e 0 (by omega)
  rw [Nat.add_zero] at e0
  unfold jk
  rw [e0, e 1 (by omega), e 2 (by omega)]
  exact h
theorem jS.F {s t : Nat} {a b : hg_M} (h : jS a s t) (g : gF9 a b) : jS b s t := by
  have e26 : b 0 26 = a 0 26 := g.2.1 26 (by decide) (by decide) (by decide)
  unfold jS
  rw [e26]
  refine ⟨h.1, fun i hi => (h.2.1 i hi).of (g.M _) hi, fun i hi => ?_⟩
  rw [ce.of (g.M (i + 1)) (by omega), g.1 9 (by decide) (by decide) (by decide), g.1 15 (by decide) (by decide) (by decide)]
  exact h.2.2 i hi
theorem jJ.F {a b : hg_M} (h : jJ a) (g : gF9 a b) : jJ b := by
  intro i hi
  by_cases e : i < (a 0 20).toNatClampNeg
  · rcases h i e with p | ⟨L, hL, p⟩
    · exact Or.inl ((p.congr (fun j hj => g.2.2.2.1 _ (by omega))).mono g.2.2.1)
    · exact Or.inr ⟨L, by rw [g.2.1 26 (by decide) (by decide) (by decide)]; exact hL, p.of (g.M (L + 1)) (by omega) e⟩
  · have := g.2.2.2.2.1 i (by omega) hi
    exact Or.inl ⟨fun e => absurd e this.1, fun e => absurd e this.2⟩
/-- what is still to come of the sides that stand open -/
def rem (f : Nat → Int32) : Nat → Nat
  | 0 => 0
  | n + 1 => rem f n + 48 + (if f n = 0 then 6 else 0)
theorem rem_congr {f g : Nat → Int32} : ∀ n, (∀ i, i < n → f i = g i) → rem f n = rem g n
  | 0, _ => rfl
  | n + 1, h => by
    show rem f n + 48 + _ = rem g n + 48 + _
    rw [rem_congr n (fun i hi => h i (by omega)), h n (by omega)]
/-- lowering between two statements -/
def jW (σ : hg_M) (fr s t : Nat) : Prop := jL σ ∧ jS σ s t ∧ jJ σ ∧ (∃ k, bud σ k ∧ k + rem (σ 16) (σ 0 26).toNatClampNeg ≤ 62 * (s - fr)) ∧ tl (σ 12) (σ 0 20).toNatClampNeg ≤ s - fr ∧ ∀ i, i < 60 → σ 13 i = 0 ∨ σ 13 i = 1
theorem jS.lv {σ : hg_M} {s t : Nat} (h : jS σ s t) (hx : xOK σ) (ht : t ≤ (σ 0 9).toNatClampNeg) : lv σ := by
  refine ⟨h.1, ?_⟩
  by_cases e : (σ 0 26).toNatClampNeg = 0
  · omega
  · obtain ⟨⟨-, -, a3⟩, -, -, -, a5, -⟩ := h.2.1 ((σ 0 26).toNatClampNeg - 1) (by omega)
    have := (hx.at (Nat.lt_of_lt_of_le a3 ht)).2.2.2
    omega
/-- from statement s to the next: all levels go on -/
theorem jS.next {σ : hg_M} {s t : Nat} (h : jS σ s t) (hst : s < t) (hx : xOK σ) (ht : t ≤ (σ 0 9).toNatClampNeg) (htop : ∀ i, i + 1 = (σ 0 26).toNatClampNeg → s ≠ ce σ i) : ∀ i, i < (σ 0 26).toNatClampNeg → s < ce σ i := by
  obtain ⟨h0, h1, h2⟩ := h
  have step : ∀ m i, i + m + 1 = (σ 0 26).toNatClampNeg → s < ce σ i := by
    intro m
    induction m with
    | zero =>
      intro i hi
      have := htop i (by omega)
      have := (h1 i (by omega)).2.1
      omega
    | succ m ih =>
      intro i hi
      have a := ih (i + 1) (by omega)
      have b := h2 i (by omega)
      obtain ⟨⟨-, -, q3⟩, q4, q5, q6, -, -⟩ := h1 (i + 1) (by omega)
      have n := hx.at (Nat.lt_of_lt_of_le q3 ht)
      have : ce σ (i + 1) ≤ (σ 9 (σ 15 (i + 1)).toNatClampNeg).toNatClampNeg := by
        unfold ce
        split
        · exact n.2.1
        · exact Nat.le_refl _
      omega
  intro i hi
  exact step ((σ 0 26).toNatClampNeg - i - 1) i (by omega)
theorem LF.next {σ : hg_M} {s t i : Nat} (h : LF σ s t i) (hlt : s < ce σ i) : LF σ (s + 1) t i := by
  obtain ⟨⟨a1, a2, a3⟩, h2, h3, h4, h5, h6⟩ := h
  exact ⟨⟨a1, by omega, a3⟩, by omega, h3, fun e => by have := h4 e; omega, h5, h6⟩
theorem jW.plain {σ σ' : hg_M} {fr s t : Nat} (h : jW σ fr s t) (hst : s < t) (hfr : fr ≤ s) (ht : t ≤ (σ 0 9).toNatClampNeg) (htop : ∀ i, i + 1 = (σ 0 26).toNatClampNeg → s ≠ ce σ i) (w : jL σ') {k : Nat} (hk : k + rem (σ 16) (σ 0 26).toNatClampNeg ≤ 62 * (s - fr)) (b : bud σ' (k + 13)) (g : gF9 σ σ') : jW σ' fr (s + 1) t := by
  obtain ⟨h1, h2, h3, -, h5, h6⟩ := h
  have nx := h2.next hst h1.1 ht htop
  have e26 : σ' 0 26 = σ 0 26 := g.2.1 26 (by decide) (by decide) (by decide)
  have s' := h2.F g
  refine ⟨w, ⟨s'.1, fun i hi => (s'.2.1 i hi).next ?_, s'.2.2⟩, h3.F g, ⟨k + 13, b, ?_⟩, ?_, by rw [g.1 13 (by decide) (by decide) (by decide)]; exact h6⟩
  · rw [ce.of (g.M (i + 1)) (by omega)]; exact nx i (by rw [← e26]; exact hi)
  · rw [e26, g.1 16 (by decide) (by decide) (by decide)]; omega
  · have := g.2.2.2.2.2; omega
theorem jS.low {m s t : Nat} {a b : hg_M} (h : jS a s t) (g : gM m a b) (hm : m ≤ (a 0 26).toNatClampNeg) : (∀ i, i < m → LF b s t i) ∧ ∀ i, i + 1 < m → (b 9 (b 15 (i + 1)).toNatClampNeg).toNatClampNeg ≤ ce b i := by
  refine ⟨fun i hi => (h.2.1 i (by omega)).of g hi, fun i hi => ?_⟩
  rw [ce.of g (by omega), g.1.2.2, (g.2.1 (i + 1) hi).1]
  exact h.2.2 i (by omega)
section MS
variable {σ : hg_M} {P : hg_M → Prop}
theorem jL.cell {q i : Nat} {v : Int32} (h : jL σ) (hq : q = 15 ∨ q = 16 ∨ q = 17 ∨ q = 20 ∨ q = 13) : jL (hg_set σ q i v) := by
  obtain ⟨h1, h2, h3, h4, h5, h6, h7⟩ := h
  have c : ∀ r, r ≠ q → hg_set σ q i v r = σ r := fun r hr => hg_set_ne hr
  exact ⟨h1.of (by rw [c 0 (by omega)]) (c 5 (by omega)) (c 8 (by omega)) (c 9 (by omega)), by rw [c 14 (by omega)]; exact h2, by rw [c 18 (by omega)]; exact h3, by rw [c 19 (by omega)]; exact h4, by rw [c 21 (by omega)]; exact h5, by rw [c 22 (by omega)]; exact h6, by rw [c 0 (by omega), c 12 (by omega)]; exact h7⟩
theorem jL.reg {q i : Nat} {v : Int32} (h : jL σ) (hq : q = 18 ∨ q = 19 ∨ q = 21 ∨ q = 22) (hv : rg v) : jL (hg_set σ q i v) := by
  obtain ⟨h1, h2, h3, h4, h5, h6, h7⟩ := h
  have c : ∀ r, r ≠ q → hg_set σ q i v r = σ r := fun r hr => hg_set_ne hr
  have u : ∀ r n, vR (σ r) n → vR (hg_set σ q i v r) n := by
    intro r n hr j hj
    by_cases e : r = q
    · subst e
      rw [hs_eq]
      split
      · exact hv
      · exact hr j hj
    · rw [c r e]; exact hr j hj
  exact ⟨h1.of (by rw [c 0 (by omega)]) (c 5 (by omega)) (c 8 (by omega)) (c 9 (by omega)), u _ _ h2, u _ _ h3, u _ _ h4, u _ _ h5, u _ _ h6, by rw [c 0 (by omega), c 12 (by omega)]; exact h7⟩
theorem bud.cell {q i k : Nat} {v : Int32} (h : bud σ k) (hq : q ≠ 0) : bud (hg_set σ q i v) k := h.of (by rw [hg_set_ne (fun e => hq e.symm)]) (by rw [hg_set_ne (fun e => hq e.symm)])
theorem jL.sides {v : Int32} (h : jL σ) : jL (hg_set σ 0 26 v) := by
  obtain ⟨h1, h2, h3, h4, h5, h6, h7⟩ := h
  have c : ∀ q, q ≠ 0 → hg_set σ 0 26 v q = σ q := fun q hq => hg_set_ne hq
  exact ⟨h1.of (hs_ne (by decide)) (c 5 (by decide)) (c 8 (by decide)) (c 9 (by decide)), by rw [c 14 (by decide)]; exact h2, by rw [c 18 (by decide)]; exact h3, by rw [c 19 (by decide)]; exact h4, by rw [c 21 (by decide)]; exact h5, by rw [c 22 (by decide)]; exact h6, by rw [hs_ne (by decide), c 12 (by decide)]; exact h7⟩
/-- a jump's place is filled in -/
theorem jL.patch {i n : Nat} {v : Int32} (h : jL σ) (hi : i < (σ 0 20).toNatClampNeg) (hk : (n = 1 ∧ σ 12 (6 * i) = 16) ∨ (n = 2 ∧ σ 12 (6 * i) = 17)) : jL (hg_set σ 12 (6 * i + n) v) := by
  obtain ⟨h1, h2, h3, h4, h5, h6, h7⟩ := h
  have c : ∀ r, r ≠ 12 → hg_set σ 12 (6 * i + n) v r = σ r := fun r hr => hg_set_ne hr
  refine ⟨h1.of (by rw [c 0 (by omega)]) (c 5 (by omega)) (c 8 (by omega)) (c 9 (by omega)), by rw [c 14 (by omega)]; exact h2, by rw [c 18 (by omega)]; exact h3, by rw [c 19 (by omega)]; exact h4, by rw [c 21 (by omega)]; exact h5, by rw [c 22 (by omega)]; exact h6, fun j hj => ?_⟩
  rw [c 0 (by omega)] at hj
  by_cases e : j = i
  · subst e
    have hh := h7 j hj
    unfold sOK at hh ⊢
    rcases hk with ⟨rfl, e2⟩ | ⟨rfl, e2⟩
    · rw [hs_ne (by omega), hs_me, hs_ne (by omega), hs_ne (by omega), hs_ne (by omega), e2]
      exact ⟨by decide, by decide, fun h => absurd rfl h, fun _ h => absurd h (by decide), fun _ h => absurd h (by decide), fun h => absurd h (by decide)⟩
    · rw [hs_ne (by omega), hs_ne (by omega), hs_me, hs_ne (by omega), hs_ne (by omega), e2]
      rw [e2] at hh
      exact ⟨by decide, by decide, fun _ => hh.2.2.1 (by decide), fun _ h => absurd h (by decide), fun _ h => absurd h (by decide), fun h => absurd h (by decide)⟩
  · exact (h7 j hj).congr (fun m hm => hs_ne (by omega))
end MS
/-- what lowering leaves alone -/
def gK9 (σ σ' : hg_M) : Prop := (∀ q, ¬ (q = 0 ∨ q = 12 ∨ (14 ≤ q ∧ q ≤ 22)) → σ' q = σ q) ∧ ∀ i, i ≠ 20 → i ≠ 21 → i ≠ 24 → i ≠ 26 → σ' 0 i = σ 0 i
theorem gK9.refl (σ : hg_M) : gK9 σ σ := ⟨fun _ _ => rfl, fun _ _ _ _ _ => rfl⟩
theorem gK9.trans {a b c : hg_M} (h : gK9 a b) (g : gK9 b c) : gK9 a c := ⟨fun q hq => (g.1 q hq).trans (h.1 q hq), fun i a1 a2 a3 a4 => (g.2 i a1 a2 a3 a4).trans (h.2 i a1 a2 a3 a4)⟩
theorem gE.K {a b : hg_M} (g : gE a b) : gK9 a b := ⟨fun q hq => g.1 q (by omega) (by omega) (by omega), fun i a1 a2 a3 _ => g.2.1 i a1 a2 a3⟩
theorem gF9.K {a b : hg_M} (g : gF9 a b) : gK9 a b := ⟨fun q hq => g.1 q (by omega) (by omega) (by omega), fun i a1 a2 a3 _ => g.2.1 i a1 a2 a3⟩
theorem gK9.c {σ : hg_M} {q i : Nat} {v : Int32} (h : q = 12 ∨ (14 ≤ q ∧ q ≤ 22)) : gK9 σ (hg_set σ q i v) := ⟨fun p hp => hg_set_ne (by omega), fun j _ _ _ _ => by rw [hg_set_ne (by omega)]⟩
theorem gK9.o {σ : hg_M} {i : Nat} {v : Int32} (h : i = 20 ∨ i = 21 ∨ i = 24 ∨ i = 26) : gK9 σ (hg_set σ 0 i v) := ⟨fun p hp => hg_set_ne (by omega), fun j _ _ _ _ => hs_ne (by omega)⟩
