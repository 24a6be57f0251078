/-! read(), as the object's own step: the texts change places. -/
theorem pA_takeTape {σ : hg_M} {P : Int32 → hg_M → Prop} (h : iA σ) (hP : ∀ r σ', (r = 0 ∨ r = 1) → iW σ' → gW σ σ' → P r σ') : wC_X4_takeTape σ P := by
  obtain ⟨⟨l0, l1⟩, hn, ⟨o1, o2, o3⟩, hq, -, -, -, -⟩ := h
  have w0 : iW (hg_set σ 3 6 0) := by
    refine ⟨⟨⟨by simp [hg_set], by simpa [hg_set] using l0, by simpa [hg_set] using l1⟩, fun j hj => by simpa [hg_set] using hn j hj⟩, ⟨by simpa [hg_set] using o1, by simpa [hg_set] using o2, fun k hk => by simpa [hg_set] using o3 k hk⟩, ?_⟩
    unfold iQ
    rw [hg_set_ne (by decide), hg_set_ne (by decide), hg_set_ne (by decide), hg_set_ne (by decide), hg_set_ne (by decide)]
    exact hq
  have g0 : gW σ (hg_set σ 3 6 0) := gW.s (by omega)
  have key : wC_X4_takeTape (hg_set σ 3 6 0) P := pW_takeTape w0 (fun r σ' hr w g => hP r σ' hr w (g0.trans g))
  unfold wC_X4_takeTape at key ⊢
  intro σ1 e1 σ2 e2 σ3 e3 σ4 e4 σ5 e5
  have k := key _ rfl _ rfl _ rfl _ rfl _ rfl
  have e : σ5 = hg_set (hg_set (hg_set (hg_set (hg_set (hg_set σ 3 6 0) 7 8 0) 3 5 0) 3 6 0) 3 7 0) 3 8 0 := by
    rw [e5, e4, e3, e2, e1]
    funext a b
    simp only [hg_set]
    grind
  rw [e]
  exact k
theorem iA.ofW {a b : hg_M} (h : iA a) (w : iW b) (g : gW a b) : iA b := by
  obtain ⟨h1, h2, h3, h4, h5, h6, h7, h8⟩ := h
  have c : ∀ q, 16 ≤ q → b q = a q := fun q hq => g.1 q (by omega) (by omega) (by omega) (by omega)
  refine ⟨by rw [g.len]; exact h1, w.1.2, w.2.1, w.2.2, ?_, ?_, ?_, ?_⟩
  · unfold iX; rw [c 16 (by decide), c 19 (by decide), c 20 (by decide), c 21 (by decide), c 22 (by decide), c 23 (by decide), c 24 (by decide)]; exact h5
  · unfold iC; rw [c 42 (by decide), c 44 (by decide), c 45 (by decide), c 46 (by decide), c 47 (by decide), c 48 (by decide)]; exact h6
  · unfold iP; rw [c 52 (by decide)]; exact h7
  · unfold iD; rw [c 53 (by decide)]; exact h8
theorem iA.swap {σ : hg_M} (h : iA σ) : iA (fun q => σ (hg_sw q)) := by
  obtain ⟨h1, h2, h3, ⟨q1, q2, q3⟩, ⟨⟨x0, x1⟩, x2, x3⟩, h6, h7, h8⟩ := h
  exact ⟨h1, x3, h3, ⟨x0, x1, x2⟩, ⟨⟨q1, q2⟩, q3, h2⟩, h6, h7, h8⟩
theorem pA_read {σ : hg_M} {P0 P1 : Int32 → hg_M → Prop} (h : iA σ) (hP0 : ∀ r σ', iA σ' → P0 r σ') (hP1 : ∀ r σ', iA (fun q => σ' (hg_sw q)) → P1 r σ') : wC_X5_read σ P0 P1 := by
  unfold wC_X5_read
  refine pA_takeTape h (fun r σ1 hr w g => ?_)
  have w1 := h.ofW w g
  refine ⟨fun _ σ2 e2 σ3 e3 => hP1 _ σ3 ?_, fun _ => hP0 _ σ1 w1⟩
  have w2 : iA σ2 := by
    obtain ⟨h1, h2, h3, h4, h5, h6, h7, h8⟩ := w1
    have f1 : σ2 3 1 = 0 := by rw [e2]; simp [hg_set]
    have f5 : σ2 3 5 = σ1 3 5 := by rw [e2]; simp [hg_set]
    have c : ∀ q, q ≠ 3 → σ2 q = σ1 q := fun q hq => by rw [e2, hg_set_ne hq]
    refine ⟨by rw [f1]; decide, ?_, ?_, ?_, ?_, ?_, ?_, ?_⟩
    · unfold iN; rw [c 14 (by decide), c 15 (by decide)]; exact h2
    · unfold iO; rw [f5, c 5 (by decide)]; exact h3
    · unfold iQ; rw [c 7 (by decide), c 10 (by decide), c 11 (by decide), c 12 (by decide), c 13 (by decide)]; exact h4
    · unfold iX; rw [c 16 (by decide), c 19 (by decide), c 20 (by decide), c 21 (by decide), c 22 (by decide), c 23 (by decide), c 24 (by decide)]; exact h5
    · unfold iC; rw [c 42 (by decide), c 44 (by decide), c 45 (by decide), c 46 (by decide), c 47 (by decide), c 48 (by decide)]; exact h6
    · unfold iP; rw [c 52 (by decide)]; exact h7
    · unfold iD; rw [c 53 (by decide)]; exact h8
  have w3 : iA σ3 := w2.at (fun q h0 _ _ _ => by rw [e3, hg_set_ne h0])
  exact w3.swap
