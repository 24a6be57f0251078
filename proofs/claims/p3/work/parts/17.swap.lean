/-! the texts change places: seen with the numbers changed, all is as before (written by a program) -/
theorem hg_sw_lt {q : Nat} (h : q < 57) : hg_sw q < 57 := by
  unfold hg_sw
  split
  · omega
  · split <;> omega
theorem hg_sw_sw (q : Nat) : hg_sw (hg_sw q) = q := by unfold hg_sw; repeat' split
                                                       all_goals omega
theorem hg_sw_id {q : Nat} (h : 25 ≤ q) : hg_sw q = q := by unfold hg_sw; rw [if_neg (by omega), if_neg (by omega)]
set_option maxRecDepth 4000 in
theorem hg_sw_cell (t : hg_T) (ad : Nat → Nat) (σ : hg_M) (k : Nat) (hk : k < 57) : hg_cell hg_FC t (fun q => ad (hg_sw q)) (fun q => σ (hg_sw q)) hg_rC k = hg_cell hg_FC t ad σ hg_rS (hg_sw k) := by
  have hrow : ∀ b, 25 ≤ b → (fun i => some (ad (hg_sw (b + i)))) = fun i => some (ad (b + i)) := by
    intro b hb
    funext i
    rw [hg_sw_id (by omega)]
  rcases (show k = 0 ∨ k = 1 ∨ k = 2 ∨ k = 3 ∨ k = 4 ∨ k = 5 ∨ k = 6 ∨ k = 7 ∨ k = 8 ∨ k = 9 ∨ k = 10 ∨ k = 11 ∨ k = 12 ∨ k = 13 ∨ k = 14 ∨ k = 15 ∨ k = 16 ∨ k = 17 ∨ k = 18 ∨ k = 19 ∨ k = 20 ∨ k = 21 ∨ k = 22 ∨ k = 23 ∨ k = 24 ∨ k = 25 ∨ k = 26 ∨ k = 27 ∨ k = 28 ∨ k = 29 ∨ k = 30 ∨ k = 31 ∨ k = 32 ∨ k = 33 ∨ k = 34 ∨ k = 35 ∨ k = 36 ∨ k = 37 ∨ k = 38 ∨ k = 39 ∨ k = 40 ∨ k = 41 ∨ k = 42 ∨ k = 43 ∨ k = 44 ∨ k = 45 ∨ k = 46 ∨ k = 47 ∨ k = 48 ∨ k = 49 ∨ k = 50 ∨ k = 51 ∨ k = 52 ∨ k = 53 ∨ k = 54 ∨ k = 55 ∨ k = 56 by omega) with rfl | rfl | rfl | rfl | rfl | rfl | rfl | rfl | rfl | rfl | rfl | rfl | rfl | rfl | rfl | rfl | rfl | rfl | rfl | rfl | rfl | rfl | rfl | rfl | rfl | rfl | rfl | rfl | rfl | rfl | rfl | rfl | rfl | rfl | rfl | rfl | rfl | rfl | rfl | rfl | rfl | rfl | rfl | rfl | rfl | rfl | rfl | rfl | rfl | rfl | rfl | rfl | rfl | rfl | rfl | rfl | rfl
  all_goals first
    | rfl
    | (show Sum.inl (t.2.2, 6, Sum.inr (Sum.inr (Sum.inr (Sum.inr (fun i => some (ad (hg_sw (29 + i)))))))) = _; rw [hrow 29 (by decide)]; rfl)
    | (show Sum.inl (t.2.2, 6, Sum.inr (Sum.inr (Sum.inr (Sum.inr (fun i => some (ad (hg_sw (36 + i)))))))) = _; rw [hrow 36 (by decide)]; rfl)
    | (show Sum.inl (t.2.2, 6, Sum.inr (Sum.inr (Sum.inr (Sum.inr (fun i => some (ad (hg_sw (44 + i)))))))) = _; rw [hrow 44 (by decide)]; rfl)
theorem hg_swP {D : va_G} {t : hg_T} {ad : Nat → Nat} {σ : hg_M} {H : Heap} (h : va_P D vwCl (hg_ws hg_FC t ad σ hg_rS) H) : va_P D vwCl (hg_ws hg_FC t (fun q => ad (hg_sw q)) (fun q => σ (hg_sw q)) hg_rC) H := by
  refine h.by hg_sw ?_
  intro k q hk
  by_cases hl : k < 57
  · have h1 : (hg_ws hg_FC t (fun q => ad (hg_sw q)) (fun q => σ (hg_sw q)) hg_rC)[k]? = some (ad (hg_sw k), hg_cell hg_FC t (fun q => ad (hg_sw q)) (fun q => σ (hg_sw q)) hg_rC k) := hg_at hl
    rw [h1] at hk
    have h2 : (hg_ws hg_FC t ad σ hg_rS)[hg_sw k]? = some (ad (hg_sw k), hg_cell hg_FC t ad σ hg_rS (hg_sw k)) := hg_at (hg_sw_lt hl)
    rw [h2, ← hg_sw_cell t ad σ k hl]
    exact hk
  · have h1 : (hg_ws hg_FC t (fun q => ad (hg_sw q)) (fun q => σ (hg_sw q)) hg_rC)[k]? = none := hg_no hl
    rw [h1] at hk
    cases hk
theorem hg_swD {ad : Nat → Nat} {A : Nat → Prop} (h : hg_Dd hg_FC ad A) : hg_Dd hg_FC (fun q => ad (hg_sw q)) A := by
  refine ⟨fun i j hi hj e => ?_, fun i hi => h.2 _ (hg_sw_lt hi)⟩
  have e1 := h.1 _ _ (hg_sw_lt hi) (hg_sw_lt hj) e
  rw [← hg_sw_sw i, ← hg_sw_sw j, e1]
