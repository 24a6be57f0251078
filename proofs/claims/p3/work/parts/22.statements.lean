/-! The reader's statements: what holds of it all along. -/
def iO (σ : hg_M) : Prop := 0 ≤ σ 3 5 ∧ σ 3 5 ≤ 6 ∧ ∀ k, k < 6 → 0 ≤ σ 5 k ∧ σ 5 k < 60
def iQ (σ : hg_M) : Prop := 0 ≤ σ 7 8 ∧ σ 7 8 ≤ 60 ∧ ∀ s, s < 60 → (0 ≤ σ 10 s ∧ σ 10 s < 16) ∧ (0 ≤ σ 11 s ∧ σ 11 s < 13) ∧ (0 ≤ σ 12 s ∧ σ 12 s ≤ 60) ∧ (0 ≤ σ 13 s ∧ σ 13 s ≤ 60)
def iW (σ : hg_M) : Prop := iV σ ∧ iO σ ∧ iQ σ
/-- what the reader leaves alone -/
def gW (σ σ' : hg_M) : Prop := (∀ q, q ≠ 3 → q ≠ 5 → q ≠ 6 → ¬ (7 ≤ q ∧ q ≤ 15) → σ' q = σ q) ∧ (∀ k, k ≠ 5 → k ≠ 6 → k ≠ 7 → k ≠ 8 → σ' 3 k = σ 3 k)
theorem gW.refl (σ : hg_M) : gW σ σ := ⟨fun _ _ _ _ _ => rfl, fun _ _ _ _ _ => rfl⟩
theorem gW.trans {a b c : hg_M} (h : gW a b) (g : gW b c) : gW a c := ⟨fun q h1 h2 h3 h4 => (g.1 q h1 h2 h3 h4).trans (h.1 q h1 h2 h3 h4), fun k h1 h2 h3 h4 => (g.2 k h1 h2 h3 h4).trans (h.2 k h1 h2 h3 h4)⟩
theorem gV.W {a b : hg_M} (h : gV a b) : gW a b := ⟨fun q h1 h2 h3 h4 => h.1 q h1 (by omega) (by omega), fun k h1 h2 h3 h4 => h.2 k h2 h3 h4⟩
theorem gW.s {σ : hg_M} {q i : Nat} {v : Int32} (h : q = 5 ∨ q = 6 ∨ (7 ≤ q ∧ q ≤ 15) ∨ (q = 3 ∧ 5 ≤ i ∧ i ≤ 8)) : gW σ (hg_set σ q i v) := by
  refine ⟨fun r h1 h2 h3 h4 => hg_set_ne (by omega), fun k h1 h2 h3 h4 => ?_⟩
  have : ¬ (3 = q ∧ k = i) := by omega
  simp only [hg_set, this, if_false]
theorem gW.len {a b : hg_M} (h : gW a b) : b 3 1 = a 3 1 := h.2 1 (by decide) (by decide) (by decide) (by decide)
theorem iW.ofV {a b : hg_M} (h : iW a) (v : iV b) (g : gV a b) : iW b := by
  obtain ⟨h1, ⟨o1, o2, o3⟩, q1, q2, q3⟩ := h
  have e5 : b 3 5 = a 3 5 := g.2 5 (by decide) (by decide) (by decide)
  have c5 := g.1 5 (by decide) (by decide) (by decide)
  have c7 := g.1 7 (by decide) (by decide) (by decide)
  have c10 := g.1 10 (by decide) (by decide) (by decide)
  have c11 := g.1 11 (by decide) (by decide) (by decide)
  have c12 := g.1 12 (by decide) (by decide) (by decide)
  have c13 := g.1 13 (by decide) (by decide) (by decide)
  refine ⟨v, ⟨by rw [e5]; exact o1, by rw [e5]; exact o2, by rw [c5]; exact o3⟩, by rw [c7]; exact q1, by rw [c7]; exact q2, ?_⟩
  rw [c10, c11, c12, c13]
  exact q3
theorem iW.s6 {σ : hg_M} {i : Nat} {v : Int32} (h : iW σ) : iW (hg_set σ 6 i v) := by
  obtain ⟨⟨⟨a1, a2, a3⟩, b⟩, ⟨o1, o2, o3⟩, q1, q2, q3⟩ := h
  exact ⟨⟨⟨by simpa [hg_set] using a1, by simpa [hg_set] using a2, by simpa [hg_set] using a3⟩, fun j hj => by simpa [hg_set] using b j hj⟩, ⟨by simpa [hg_set] using o1, by simpa [hg_set] using o2, fun k hk => by simpa [hg_set] using o3 k hk⟩, by simpa [hg_set] using q1, by simpa [hg_set] using q2, fun s hs => by simpa [hg_set] using q3 s hs⟩
theorem iW.s8 {σ : hg_M} {i : Nat} {v : Int32} (h : iW σ) : iW (hg_set σ 8 i v) := by
  obtain ⟨⟨⟨a1, a2, a3⟩, b⟩, ⟨o1, o2, o3⟩, q1, q2, q3⟩ := h
  exact ⟨⟨⟨by simpa [hg_set] using a1, by simpa [hg_set] using a2, by simpa [hg_set] using a3⟩, fun j hj => by simpa [hg_set] using b j hj⟩, ⟨by simpa [hg_set] using o1, by simpa [hg_set] using o2, fun k hk => by simpa [hg_set] using o3 k hk⟩, by simpa [hg_set] using q1, by simpa [hg_set] using q2, fun s hs => by simpa [hg_set] using q3 s hs⟩
theorem iW.s9 {σ : hg_M} {i : Nat} {v : Int32} (h : iW σ) : iW (hg_set σ 9 i v) := by
  obtain ⟨⟨⟨a1, a2, a3⟩, b⟩, ⟨o1, o2, o3⟩, q1, q2, q3⟩ := h
  exact ⟨⟨⟨by simpa [hg_set] using a1, by simpa [hg_set] using a2, by simpa [hg_set] using a3⟩, fun j hj => by simpa [hg_set] using b j hj⟩, ⟨by simpa [hg_set] using o1, by simpa [hg_set] using o2, fun k hk => by simpa [hg_set] using o3 k hk⟩, by simpa [hg_set] using q1, by simpa [hg_set] using q2, fun s hs => by simpa [hg_set] using q3 s hs⟩
theorem iW.s10 {σ : hg_M} {i : Nat} {v : Int32} (h : iW σ) (h0 : 0 ≤ v) (h1 : v < 16) : iW (hg_set σ 10 i v) := by
  obtain ⟨⟨⟨a1, a2, a3⟩, b⟩, ⟨o1, o2, o3⟩, q1, q2, q3⟩ := h
  exact ⟨⟨⟨by simpa [hg_set] using a1, by simpa [hg_set] using a2, by simpa [hg_set] using a3⟩, fun j hj => by simpa [hg_set] using b j hj⟩, ⟨by simpa [hg_set] using o1, by simpa [hg_set] using o2, fun k hk => by simpa [hg_set] using o3 k hk⟩, by simpa [hg_set] using q1, by simpa [hg_set] using q2, fun s hs => by
    by_cases e : s = i
    · subst e; simpa [hg_set] using (⟨⟨h0, h1⟩, (q3 s hs).2.1, (q3 s hs).2.2.1, (q3 s hs).2.2.2⟩ : (_ ∧ _) ∧ (_ ∧ _) ∧ (_ ∧ _) ∧ (_ ∧ _))
    · simpa [hg_set, e] using q3 s hs⟩
theorem iW.s11 {σ : hg_M} {i : Nat} {v : Int32} (h : iW σ) (h0 : 0 ≤ v) (h1 : v < 13) : iW (hg_set σ 11 i v) := by
  obtain ⟨⟨⟨a1, a2, a3⟩, b⟩, ⟨o1, o2, o3⟩, q1, q2, q3⟩ := h
  exact ⟨⟨⟨by simpa [hg_set] using a1, by simpa [hg_set] using a2, by simpa [hg_set] using a3⟩, fun j hj => by simpa [hg_set] using b j hj⟩, ⟨by simpa [hg_set] using o1, by simpa [hg_set] using o2, fun k hk => by simpa [hg_set] using o3 k hk⟩, by simpa [hg_set] using q1, by simpa [hg_set] using q2, fun s hs => by
    by_cases e : s = i
    · subst e; simpa [hg_set] using (⟨(q3 s hs).1, ⟨h0, h1⟩, (q3 s hs).2.2.1, (q3 s hs).2.2.2⟩ : (_ ∧ _) ∧ (_ ∧ _) ∧ (_ ∧ _) ∧ (_ ∧ _))
    · simpa [hg_set, e] using q3 s hs⟩
theorem iW.s12 {σ : hg_M} {i : Nat} {v : Int32} (h : iW σ) (h0 : 0 ≤ v) (h1 : v ≤ 60) : iW (hg_set σ 12 i v) := by
  obtain ⟨⟨⟨a1, a2, a3⟩, b⟩, ⟨o1, o2, o3⟩, q1, q2, q3⟩ := h
  exact ⟨⟨⟨by simpa [hg_set] using a1, by simpa [hg_set] using a2, by simpa [hg_set] using a3⟩, fun j hj => by simpa [hg_set] using b j hj⟩, ⟨by simpa [hg_set] using o1, by simpa [hg_set] using o2, fun k hk => by simpa [hg_set] using o3 k hk⟩, by simpa [hg_set] using q1, by simpa [hg_set] using q2, fun s hs => by
    by_cases e : s = i
    · subst e; simpa [hg_set] using (⟨(q3 s hs).1, (q3 s hs).2.1, ⟨h0, h1⟩, (q3 s hs).2.2.2⟩ : (_ ∧ _) ∧ (_ ∧ _) ∧ (_ ∧ _) ∧ (_ ∧ _))
    · simpa [hg_set, e] using q3 s hs⟩
theorem iW.s13 {σ : hg_M} {i : Nat} {v : Int32} (h : iW σ) (h0 : 0 ≤ v) (h1 : v ≤ 60) : iW (hg_set σ 13 i v) := by
  obtain ⟨⟨⟨a1, a2, a3⟩, b⟩, ⟨o1, o2, o3⟩, q1, q2, q3⟩ := h
  exact ⟨⟨⟨by simpa [hg_set] using a1, by simpa [hg_set] using a2, by simpa [hg_set] using a3⟩, fun j hj => by simpa [hg_set] using b j hj⟩, ⟨by simpa [hg_set] using o1, by simpa [hg_set] using o2, fun k hk => by simpa [hg_set] using o3 k hk⟩, by simpa [hg_set] using q1, by simpa [hg_set] using q2, fun s hs => by
    by_cases e : s = i
    · subst e; simpa [hg_set] using (⟨(q3 s hs).1, (q3 s hs).2.1, (q3 s hs).2.2.1, ⟨h0, h1⟩⟩ : (_ ∧ _) ∧ (_ ∧ _) ∧ (_ ∧ _) ∧ (_ ∧ _))
    · simpa [hg_set, e] using q3 s hs⟩
theorem iW.s5 {σ : hg_M} {i : Nat} {v : Int32} (h : iW σ) (h0 : 0 ≤ v) (h1 : v < 60) : iW (hg_set σ 5 i v) := by
  obtain ⟨⟨⟨a1, a2, a3⟩, b⟩, ⟨o1, o2, o3⟩, q1, q2, q3⟩ := h
  exact ⟨⟨⟨by simpa [hg_set] using a1, by simpa [hg_set] using a2, by simpa [hg_set] using a3⟩, fun j hj => by simpa [hg_set] using b j hj⟩, ⟨by simpa [hg_set] using o1, by simpa [hg_set] using o2, fun k hk => by
    by_cases e : k = i
    · subst e; simpa [hg_set] using (⟨h0, h1⟩ : _ ∧ _)
    · simpa [hg_set, e] using o3 k hk⟩, by simpa [hg_set] using q1, by simpa [hg_set] using q2, fun s hs => by simpa [hg_set] using q3 s hs⟩
theorem iW.s35 {σ : hg_M} {v : Int32} (h : iW σ) (h0 : 0 ≤ v) (h1 : v ≤ 6) : iW (hg_set σ 3 5 v) := by
  obtain ⟨⟨⟨a1, a2, a3⟩, b⟩, ⟨o1, o2, o3⟩, q1, q2, q3⟩ := h
  exact ⟨⟨⟨by simpa [hg_set] using a1, by simpa [hg_set] using a2, by simpa [hg_set] using a3⟩, fun j hj => by simpa [hg_set] using b j hj⟩, ⟨by simpa [hg_set] using h0, by simpa [hg_set] using h1, fun k hk => by simpa [hg_set] using o3 k hk⟩, by simpa [hg_set] using q1, by simpa [hg_set] using q2, fun s hs => by simpa [hg_set] using q3 s hs⟩
theorem iW.s36 {σ : hg_M} {v : Int32} (h : iW σ) (h0 : 0 ≤ v) (h1 : v ≤ σ 3 1) : iW (hg_set σ 3 6 v) := by
  obtain ⟨⟨⟨a1, a2, a3⟩, b⟩, ⟨o1, o2, o3⟩, q1, q2, q3⟩ := h
  exact ⟨⟨⟨by simpa [hg_set] using h0, by simpa [hg_set] using h1, by simpa [hg_set] using a3⟩, fun j hj => by simpa [hg_set] using b j hj⟩, ⟨by simpa [hg_set] using o1, by simpa [hg_set] using o2, fun k hk => by simpa [hg_set] using o3 k hk⟩, by simpa [hg_set] using q1, by simpa [hg_set] using q2, fun s hs => by simpa [hg_set] using q3 s hs⟩
theorem iW.s37 {σ : hg_M} {v : Int32} (h : iW σ) : iW (hg_set σ 3 7 v) := by
  obtain ⟨⟨⟨a1, a2, a3⟩, b⟩, ⟨o1, o2, o3⟩, q1, q2, q3⟩ := h
  exact ⟨⟨⟨by simpa [hg_set] using a1, by simpa [hg_set] using a2, by simpa [hg_set] using a3⟩, fun j hj => by simpa [hg_set] using b j hj⟩, ⟨by simpa [hg_set] using o1, by simpa [hg_set] using o2, fun k hk => by simpa [hg_set] using o3 k hk⟩, by simpa [hg_set] using q1, by simpa [hg_set] using q2, fun s hs => by simpa [hg_set] using q3 s hs⟩
theorem iW.s38 {σ : hg_M} {v : Int32} (h : iW σ) : iW (hg_set σ 3 8 v) := by
  obtain ⟨⟨⟨a1, a2, a3⟩, b⟩, ⟨o1, o2, o3⟩, q1, q2, q3⟩ := h
  exact ⟨⟨⟨by simpa [hg_set] using a1, by simpa [hg_set] using a2, by simpa [hg_set] using a3⟩, fun j hj => by simpa [hg_set] using b j hj⟩, ⟨by simpa [hg_set] using o1, by simpa [hg_set] using o2, fun k hk => by simpa [hg_set] using o3 k hk⟩, by simpa [hg_set] using q1, by simpa [hg_set] using q2, fun s hs => by simpa [hg_set] using q3 s hs⟩
theorem iW.s78 {σ : hg_M} {v : Int32} (h : iW σ) (h0 : 0 ≤ v) (h1 : v ≤ 60) : iW (hg_set σ 7 8 v) := by
  obtain ⟨⟨⟨a1, a2, a3⟩, b⟩, ⟨o1, o2, o3⟩, q1, q2, q3⟩ := h
  exact ⟨⟨⟨by simpa [hg_set] using a1, by simpa [hg_set] using a2, by simpa [hg_set] using a3⟩, fun j hj => by simpa [hg_set] using b j hj⟩, ⟨by simpa [hg_set] using o1, by simpa [hg_set] using o2, fun k hk => by simpa [hg_set] using o3 k hk⟩, by simpa [hg_set] using h0, by simpa [hg_set] using h1, fun s hs => by simpa [hg_set] using q3 s hs⟩
theorem pW_refuse {x : Int32} {σ : hg_M} {P : Int32 → hg_M → Prop} (h : iW σ) (hP : ∀ σ', iW σ' → gW σ σ' → P 0 σ') : wC_X4_refuse x σ P := pV_refuse h.1 (fun σ' v g => hP σ' (h.ofV v g) g.W)
theorem pW_takeByte {x : Int32} {σ : hg_M} {P : Int32 → hg_M → Prop} (h : iW σ) (hx : 0 ≤ x) (hP : ∀ r σ', (r = 0 ∨ r = 1) → iW σ' → gV σ σ' → P r σ') : wC_X4_takeByte x σ P := pV_takeByte h.1 hx (fun r σ' hr v g => hP r σ' hr (h.ofV v g) g)
theorem pW_takeValue {a : Int32} {σ : hg_M} {P : Int32 → hg_M → Prop} (h : iW σ) (ha0 : 0 ≤ a) (ha : a < 120) (hP : ∀ r σ', (r = 0 ∨ r = 1) → iW σ' → gV σ σ' → P r σ') : wC_X4_takeValue a σ P := pV_takeValue h.1 ha0 ha (fun r σ' hr v g => hP r σ' hr (h.ofV v g) g)
theorem pW_nextByte {σ : hg_M} {P : Int32 → hg_M → Prop} (h : iW σ) (hP : ∀ r σ', iW σ' → gV σ σ' → σ' 3 1 = σ 3 1 → (r ≠ -1 → σ' 3 6 < σ 3 1) → P r σ') : wC_X4_nextByte σ P := pV_nextByte h.1 (fun r σ' v g e m => hP r σ' (h.ofV v g) g e m)
theorem pC_placeIn {i0 : Nat} {x : Int32} {σ : hg_M} {P : Int32 → hg_M → Prop} (hi : hg_len i0 < 100) (h1 : P (-1) σ) (h2 : ∀ r, 0 ≤ r → r < Int32.ofNat (hg_len i0) → hg_ch i0 r.toNatClampNeg = x → P r σ) : wC_X4_placeIn i0 x σ P := by
  have hz : (Int32.ofNat (hg_len i0)).toInt = ((hg_len i0 : Nat) : Int) := toInt_of rfl (by omega)
  have hb : Int32.ofNat (hg_len i0) < 100 := by
    rw [Int32.lt_iff_toInt_lt, hz]
    have : (100 : Int32).toInt = 100 := by decide
    rw [this]; omega
  have key : ∀ n (k : Int32), 0 ≤ k → k ≤ 100 → hp_n (100 - k) < n → lC_X4_placeIn_2 i0 P n x k σ := by
    intro n
    induction n with
    | zero => intro k _ _ h; omega
    | succ n ih =>
      intro k k0 k1 hn
      rw [lC_X4_placeIn_2]
      refine ⟨fun _ => h1, fun hlt => ⟨⟨hp_in hz k0 (by grind), by grind, by grind⟩, fun _ v e => ?_, fun e => h2 k k0 (by grind) e⟩⟩
      refine ih v (by grind) (by grind) ?_
      have := hp_n_lt (a := k) (b := v) (c := 100) k0 (by grind) (by grind)
      omega
  exact ⟨hp_n (100 - 0) + 1, key _ 0 (by decide) (by decide) (by omega)⟩
theorem pW_takeWrite {s : Int32} {σ : hg_M} {P : Int32 → hg_M → Prop} (h : iW σ) (hs0 : 0 ≤ s) (hs : s < 60) (hP : ∀ r σ', (r = 0 ∨ r = 1) → iW σ' → gW σ σ' → P r σ') : wC_X4_takeWrite s σ P := by
  unfold wC_X4_takeWrite bC_X4_takeWrite_54 bC_X4_takeWrite_55
  refine ⟨hp_60 hs0 hs, fun σ1 e1 => ?_⟩
  have w1 : iW σ1 := by rw [e1]; exact h.s8
  have g1 : gW σ σ1 := by rw [e1]; exact gW.s (by omega)
  refine pW_takeValue w1 (by grind) (by grind) (fun r2 σ2 _ w2 g2 => ?_)
  have g2 := g1.trans g2.W
  refine ⟨fun _ => ⟨Or.inl rfl, hP 0 σ2 (Or.inl rfl) w2 g2⟩, fun _ => ?_⟩
  refine pW_takeByte w2 (by decide) (fun r3 σ3 _ w3 g3 => ?_)
  have g3 := g2.trans g3.W
  refine ⟨fun _ => ⟨Or.inl rfl, hP 0 σ3 (Or.inl rfl) w3 g3⟩, fun _ => ?_⟩
  refine pW_takeValue w3 (by grind) (by grind) (fun r4 σ4 _ w4 g4 => ?_)
  have g4 := g3.trans g4.W
  refine ⟨fun _ => ⟨Or.inl rfl, hP 0 σ4 (Or.inl rfl) w4 g4⟩, fun _ => ?_⟩
  refine pW_takeByte w4 (by decide) (fun r5 σ5 _ w5 g5 => ?_)
  have g5 := g4.trans g5.W
  exact ⟨fun _ => ⟨Or.inl rfl, hP 0 σ5 (Or.inl rfl) w5 g5⟩, fun _ => ⟨Or.inr rfl, hP 1 σ5 (Or.inr rfl) w5 g5⟩⟩
theorem pW_takeTelling {s : Int32} {σ : hg_M} {P : Int32 → hg_M → Prop} (h : iW σ) (hs0 : 0 ≤ s) (hs : s < 60) (hP : ∀ r σ', (r = 0 ∨ r = 1) → iW σ' → gW σ σ' → P r σ') : wC_X4_takeTelling s σ P := by
  unfold wC_X4_takeTelling bC_X4_takeTelling_33 bC_X4_takeTelling_34
  refine ⟨hp_60 hs0 hs, fun σ1 e1 => ?_⟩
  have w1 : iW σ1 := by rw [e1]; exact h.s8
  have g1 : gW σ σ1 := by rw [e1]; exact gW.s (by omega)
  refine pW_takeValue w1 (by grind) (by grind) (fun r2 σ2 _ w2 g2 => ?_)
  have g2 := g1.trans g2.W
  refine ⟨fun _ => ⟨Or.inl rfl, hP 0 σ2 (Or.inl rfl) w2 g2⟩, fun _ => ?_⟩
  refine pW_takeByte w2 (by decide) (fun r3 σ3 _ w3 g3 => ?_)
  have g3 := g2.trans g3.W
  exact ⟨fun _ => ⟨Or.inl rfl, hP 0 σ3 (Or.inl rfl) w3 g3⟩, fun _ => ⟨Or.inr rfl, hP 1 σ3 (Or.inr rfl) w3 g3⟩⟩
