/-! THE PURE PART: bounds and invariants over the predicates. -/
theorem hp_in {x z : Int32} {n : Nat} (hz : z.toInt = (n : Int)) (h0 : 0 ≤ x) (h1 : x < z) : vp_in x n := by
  have a0 := Int32.le_iff_toInt_le.mp h0
  have a1 := Int32.lt_iff_toInt_lt.mp h1
  have e0 : (0 : Int32).toInt = 0 := by decide
  rw [e0] at a0
  rw [hz] at a1
  rintro (h | h)
  · have := Int32.lt_iff_toInt_lt.mp h
    rw [e0] at this
    omega
  · have e : x.toNatClampNeg = x.toInt.toNat := rfl
    rw [e] at h
    omega
theorem hp_lt {x z : Int32} {n : Nat} (hz : z.toInt = (n : Int)) (h0 : 0 ≤ x) (h1 : x < z) : x.toNatClampNeg < n := hg_lt (hp_in hz h0 h1)
theorem hp_60 {x : Int32} (h0 : 0 ≤ x) (h1 : x < 60) : vp_in x 60 := hp_in (z := 60) (by decide) h0 h1
theorem hp_120 {x : Int32} (h0 : 0 ≤ x) (h1 : x < 120) : vp_in x 120 := hp_in (z := 120) (by decide) h0 h1
theorem hp_600 {x : Int32} (h0 : 0 ≤ x) (h1 : x < 600) : vp_in x 600 := hp_in (z := 600) (by decide) h0 h1
theorem hp_720 {x : Int32} (h0 : 0 ≤ x) (h1 : x < 720) : vp_in x 720 := hp_in (z := 720) (by decide) h0 h1
theorem hp_736 {x : Int32} (h0 : 0 ≤ x) (h1 : x < 736) : vp_in x 736 := hp_in (z := 736) (by decide) h0 h1
theorem hp_16 {x : Int32} (h0 : 0 ≤ x) (h1 : x < 16) : vp_in x 16 := hp_in (z := 16) (by decide) h0 h1
theorem hp_6 {x : Int32} (h0 : 0 ≤ x) (h1 : x < 6) : vp_in x 6 := hp_in (z := 6) (by decide) h0 h1
/-- a bound for fuel -/
def hp_n (x : Int32) : Nat := x.toInt.toNat
theorem hp_n_lt {a b c : Int32} (h0 : 0 ≤ a) (h1 : a < b) (h2 : b ≤ c) : hp_n (c - b) < hp_n (c - a) := by
  unfold hp_n
  have a0 := Int32.le_iff_toInt_le.mp h0
  have a1 := Int32.lt_iff_toInt_lt.mp h1
  have a2 := Int32.le_iff_toInt_le.mp h2
  have e0 : (0 : Int32).toInt = 0 := by decide
  rw [e0] at a0
  have c1 := Int32.toInt_lt c
  have e1 : (c - b).toInt = c.toInt - b.toInt := by
    rw [Int32.toInt_sub]
    apply Int.bmod_eq_of_le <;> omega
  have e2 : (c - a).toInt = c.toInt - a.toInt := by
    rw [Int32.toInt_sub]
    apply Int.bmod_eq_of_le <;> omega
  rw [e1, e2]
  omega
def iR (σ : hg_M) : Prop := 0 ≤ σ 3 6 ∧ σ 3 6 ≤ σ 3 1 ∧ σ 3 1 ≤ 600
theorem pC_nextByte {σ : hg_M} {P : Int32 → hg_M → Prop} (h : iR σ) (hP : ∀ r p, σ 3 6 ≤ p → p ≤ σ 3 1 → (r ≠ -1 → p < σ 3 1) → P r (hg_set σ 3 6 p)) : wC_X4_nextByte σ P := by
  have key : ∀ n (σ : hg_M), iR σ → hp_n (600 - σ 3 6) < n → (∀ r p, σ 3 6 ≤ p → p ≤ σ 3 1 → (r ≠ -1 → p < σ 3 1) → P r (hg_set σ 3 6 p)) → lC_X4_nextByte_0 P n σ := by
    intro n
    induction n with
    | zero => intro σ _ h; omega
    | succ n ih =>
      intro σ hI hn hP
      obtain ⟨i0, i1, i2⟩ := hI
      have hid : hg_set σ 3 6 (σ 3 6) = σ := by funext a b; simp only [hg_set]; split <;> simp_all
      have hex : bC_X4_nextByte_52 P σ := by
        unfold bC_X4_nextByte_52 bC_X4_nextByte_76
        refine ⟨fun h => ?_, fun h => ⟨hp_600 i0 (by grind), ?_⟩⟩
        · have := hP (-1) (σ 3 6) (by grind) i1 (by grind)
          rwa [hid] at this
        · have := hP (σ 4 (σ 3 6).toNatClampNeg) (σ 3 6) (by grind) i1 (by grind)
          rwa [hid] at this
      have hgo : ¬ σ 3 1 ≤ σ 3 6 → bC_X4_nextByte_39 P (fun k0 => lC_X4_nextByte_0 P n k0) σ := by
        intro h
        unfold bC_X4_nextByte_39
        intro σ1 e1
        have f6 : σ1 3 6 = σ 3 6 + 1 := by rw [e1]; simp [hg_set]
        have f1 : σ1 3 1 = σ 3 1 := by rw [e1]; simp [hg_set]
        refine ih σ1 ⟨by rw [f6]; grind, by rw [f6, f1]; grind, by rw [f1]; exact i2⟩ ?_ ?_
        · have := hp_n_lt (a := σ 3 6) (b := σ1 3 6) (c := 600) i0 (by rw [f6]; grind) (by rw [f6]; grind)
          omega
        · intro r p h1 h2 h3
          rw [f6] at h1; rw [f1] at h2 h3
          have e : hg_set σ1 3 6 p = hg_set σ 3 6 p := by rw [e1]; funext a b; simp only [hg_set]; split <;> simp_all
          rw [e]
          exact hP r p (by grind) h2 h3
      rw [lC_X4_nextByte_0]
      refine ⟨fun _ => hex, fun h => ⟨hp_600 i0 (by grind), fun _ => hgo h, fun _ => ⟨hp_600 i0 (by grind), fun _ => hex, fun _ => hgo h⟩⟩⟩
  exact ⟨hp_n (600 - σ 3 6) + 1, key _ σ h (by omega) hP⟩
theorem pC_refuse {x : Int32} {σ : hg_M} {P : Int32 → hg_M → Prop} (hP : ∀ σ', σ' = hg_set (hg_set σ 3 7 x) 3 8 (σ 3 6) → P 0 σ') : wC_X4_refuse x σ P := by
  intro σ1 e1 σ2 e2
  refine ⟨Or.inl rfl, hP σ2 ?_⟩
  rw [e2, e1]; simp [hg_set]
