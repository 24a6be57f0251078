/-! The object between calls, and its public methods (but read). -/
def iA (σ : hg_M) : Prop := (0 ≤ σ 3 1 ∧ σ 3 1 ≤ 600) ∧ iN σ ∧ iO σ ∧ iQ σ ∧ iX σ ∧ iC σ ∧ iP σ ∧ iD σ
theorem iA.at {a b : hg_M} (h : iA a) (c : ∀ q, q ≠ 0 → q ≠ 1 → q ≠ 2 → q ≠ 4 → b q = a q) : iA b := by
  unfold iA iN iO iQ iX iC iP iD
  rw [c 3 (by decide) (by decide) (by decide) (by decide), c 5 (by decide) (by decide) (by decide) (by decide), c 7 (by decide) (by decide) (by decide) (by decide), c 10 (by decide) (by decide) (by decide) (by decide), c 11 (by decide) (by decide) (by decide) (by decide), c 12 (by decide) (by decide) (by decide) (by decide), c 13 (by decide) (by decide) (by decide) (by decide), c 14 (by decide) (by decide) (by decide) (by decide), c 15 (by decide) (by decide) (by decide) (by decide), c 16 (by decide) (by decide) (by decide) (by decide), c 19 (by decide) (by decide) (by decide) (by decide), c 20 (by decide) (by decide) (by decide) (by decide), c 21 (by decide) (by decide) (by decide) (by decide), c 22 (by decide) (by decide) (by decide) (by decide), c 23 (by decide) (by decide) (by decide) (by decide), c 24 (by decide) (by decide) (by decide) (by decide), c 42 (by decide) (by decide) (by decide) (by decide), c 44 (by decide) (by decide) (by decide) (by decide), c 45 (by decide) (by decide) (by decide) (by decide), c 46 (by decide) (by decide) (by decide) (by decide), c 47 (by decide) (by decide) (by decide) (by decide), c 48 (by decide) (by decide) (by decide) (by decide), c 52 (by decide) (by decide) (by decide) (by decide), c 53 (by decide) (by decide) (by decide) (by decide)]
  exact h
/-- the parts that lie below cell 25 -/
theorem iA.up {a b : hg_M} (h : iA a) (c : ∀ q, q < 25 → b q = a q) (hc : iC b) (hp : iP b) (hd : iD b) : iA b := by
  obtain ⟨h1, h2, h3, h4, h5, -, -, -⟩ := h
  refine ⟨?_, ?_, ?_, ?_, ?_, hc, hp, hd⟩
  · rw [c 3 (by decide)]; exact h1
  · unfold iN; rw [c 14 (by decide), c 15 (by decide)]; exact h2
  · unfold iO; rw [c 3 (by decide), c 5 (by decide)]; exact h3
  · unfold iQ; rw [c 7 (by decide), c 10 (by decide), c 11 (by decide), c 12 (by decide), c 13 (by decide)]; exact h4
  · unfold iX; rw [c 16 (by decide), c 19 (by decide), c 20 (by decide), c 21 (by decide), c 22 (by decide), c 23 (by decide), c 24 (by decide)]; exact h5
section PUB
variable {σ : hg_M} {PX : String → hg_M → Prop}
theorem pA_variable {v x : Int32} {P : hg_M → Prop} (h : iA σ) (hP : 0 ≤ v → v < 16 → ∀ σ', iA σ' → P σ') (hX : (v < 0 ∨ 16 ≤ v) → PX "java/lang/IndexOutOfBoundsException" σ) : wC_X5_variable v x σ P PX := by
  unfold wC_X5_variable bC_X5_variable_10
  refine ⟨fun e => hX (Or.inl e), fun n => ⟨fun l => ⟨hp_16 (by grind) l, fun σ1 e1 => hP (by grind) l σ1 ?_⟩, fun l => hX (Or.inr (by grind))⟩⟩
  exact h.at (fun q _ h1 _ _ => by rw [e1, hg_set_ne h1])
theorem pA_word {v x : Int32} {P : hg_M → Prop} (h : iA σ) (hP : 0 ≤ v → v < 32 → ∀ σ', iA σ' → P σ') (hX : (v < 0 ∨ 32 ≤ v) → PX "java/lang/IndexOutOfBoundsException" σ) : wC_X5_word v x σ P PX := by
  unfold wC_X5_word bC_X5_word_10
  refine ⟨fun e => hX (Or.inl e), fun n => ⟨fun l => ⟨hp_32 (by grind) l, fun σ1 e1 => hP (by grind) l σ1 ?_⟩, fun l => hX (Or.inr (by grind))⟩⟩
  exact h.at (fun q _ _ h2 _ => by rw [e1, hg_set_ne h2])
theorem pA_append {x : Int32} {P : hg_M → Prop} (h : iA σ) (hP : ∀ σ', iA σ' → P σ') : wC_X4_append x σ P := by
  unfold wC_X4_append bC_X4_append_30
  refine ⟨fun _ => hP σ h, fun hl => ⟨hp_600 h.1.1 (by grind), fun σ1 e1 σ2 e2 => hP σ2 ?_⟩⟩
  have w1 : iA σ1 := h.at (fun q _ _ _ h4 => by rw [e1, hg_set_ne h4])
  have f0 : σ1 3 1 = σ 3 1 := by rw [e1]; simp [hg_set]
  have f1 : σ2 3 1 = σ 3 1 + 1 := by rw [e2]; simp [hg_set, f0]
  have f5 : σ2 3 5 = σ1 3 5 := by rw [e2]; simp [hg_set]
  have c : ∀ q, q ≠ 3 → σ2 q = σ1 q := fun q hq => by rw [e2, hg_set_ne hq]
  obtain ⟨h1, h2, h3, h4, h5, h6, h7, h8⟩ := w1
  obtain ⟨l0, l1⟩ := h.1
  refine ⟨⟨by rw [f1]; grind, by rw [f1]; grind⟩, ?_, ?_, ?_, ?_, ?_, ?_, ?_⟩
  · unfold iN; rw [c 14 (by decide), c 15 (by decide)]; exact h2
  · unfold iO; rw [f5, c 5 (by decide)]; exact h3
  · unfold iQ; rw [c 7 (by decide), c 10 (by decide), c 11 (by decide), c 12 (by decide), c 13 (by decide)]; exact h4
  · unfold iX; rw [c 16 (by decide), c 19 (by decide), c 20 (by decide), c 21 (by decide), c 22 (by decide), c 23 (by decide), c 24 (by decide)]; exact h5
  · unfold iC; rw [c 42 (by decide), c 44 (by decide), c 45 (by decide), c 46 (by decide), c 47 (by decide), c 48 (by decide)]; exact h6
  · unfold iP; rw [c 52 (by decide)]; exact h7
  · unfold iD; rw [c 53 (by decide)]; exact h8
theorem pA_feed {b : Int64} {n : Int32} {P : Int32 → hg_M → Prop} (h : iA σ) (hP : ∀ r σ', iA σ' → P r σ') (hX : ∀ e, e = "java/lang/IllegalArgumentException" ∨ e = "java/lang/IllegalStateException" → PX e σ) : wC_X5_feed b n σ P PX := by
  unfold wC_X5_feed bC_X5_feed_11
  have key : ∀ m (k : Int32) (σ' : hg_M), -1 ≤ k → k < 8 → iA σ' → hp_n (k + 1) < m → lC_X5_feed_51 P PX m b k σ' := by
    intro m
    induction m with
    | zero => intro k σ' _ _ _ h; omega
    | succ m ih =>
      intro k σ' k0 k1 w hn
      rw [lC_X5_feed_51]
      refine ⟨fun _ => hP _ σ' w, fun hk => pA_append w (fun σ2 w2 v ev => ?_)⟩
      have e : v + 1 = k := by grind
      have hlt := hp_n_lt (a := 8 - (k + 1)) (b := 8 - k) (c := 8) (by grind) (by grind) (by grind)
      have e1 : (8 : Int32) - (8 - k) = k := by grind
      have e2 : (8 : Int32) - (8 - (k + 1)) = k + 1 := by grind
      rw [e1, e2] at hlt
      exact ih v σ2 (by grind) (by grind) w2 (by rw [e]; omega)
  refine ⟨fun _ => hX _ (Or.inl rfl), fun n1 => ⟨fun n2 => ⟨fun _ v ev => ⟨hp_n (v + 1) + 1, key _ v σ (by grind) (by grind) h (by omega)⟩, fun _ => hX _ (Or.inr rfl)⟩, fun _ => hX _ (Or.inl rfl)⟩⟩
theorem pA_statement {s w : Int32} {P : Int32 → hg_M → Prop} (h : iA σ) (hP : ∀ r, P r σ) (hX : ∀ e, e = "java/lang/IndexOutOfBoundsException" ∨ e = "java/lang/IllegalArgumentException" → PX e σ) : wC_X5_statement s w σ P PX := by
  unfold wC_X5_statement bC_X5_statement_15 bC_X5_statement_99 bC_X5_statement_100 bC_X5_statement_120
  have hx := h.2.2.2.2.1.1
  refine ⟨fun _ => hX _ (Or.inl rfl), fun n => ⟨fun l => ?_, fun _ => hX _ (Or.inl rfl)⟩⟩
  have si := hp_60 (x := s) (by grind) (by grind)
  exact ⟨fun _ => hX _ (Or.inr rfl), fun _ => ⟨si, hP _⟩, fun _ => ⟨si, hP _⟩, fun _ => ⟨fun _ => hP _, fun _ => ⟨si, fun _ => hP _, fun _ => hP _⟩⟩, fun _ => ⟨fun _ => hP _, fun _ => pC_stepsOf h.2.2.2.2.2.1 (fun r => hP r)⟩⟩
theorem pA_lower {l : Int32} {P : Int32 → hg_M → Prop} (h : iA σ) (hP : ∀ r σ', iA σ' → P r σ') (hX : PX "java/lang/IllegalArgumentException" σ) : wC_X5_lower l σ P PX := by
  unfold wC_X5_lower bC_X5_lower_11
  refine ⟨fun _ => hX, fun _ => ⟨fun _ => ?_, fun _ => hX⟩⟩
  refine pL_makeCode h.2.2.2.2.2.1 h.2.2.2.2.1 (fun σ1 c1 g1 => ⟨Or.inr rfl, fun σ2 e2 => hP _ σ2 ?_⟩)
  have w1 : iA σ1 := h.up (fun q hq => g1 q (by omega) (by omega) (by omega) (by omega) (by omega) (by omega) (by omega)) c1 (by unfold iP; rw [g1 52 (by omega) (by omega) (by omega) (by omega) (by omega) (by omega) (by omega)]; exact h.2.2.2.2.2.2.1) (by unfold iD; rw [g1 53 (by omega) (by omega) (by omega) (by omega) (by omega) (by omega) (by omega)]; exact h.2.2.2.2.2.2.2)
  exact w1.at (fun q h0 _ _ _ => by rw [e2, hg_set_ne h0])
theorem pA_trim {P : Int32 → hg_M → Prop} (h : iA σ) (hP : ∀ r σ', iA σ' → P r σ') : wC_X5_trim σ P := by
  unfold wC_X5_trim bC_X5_trim_18
  refine ⟨fun _ => hP _ σ h, fun _ => pC_dropUseless ⟨h.2.2.2.2.2.1, h.2.2.2.2.2.2.1⟩ (fun r σ1 k1 g1 => hP r σ1 ?_)⟩
  exact h.up (fun q hq => g1 q (by omega)) k1.1 k1.2 (by unfold iD; rw [g1 53 (by omega)]; exact h.2.2.2.2.2.2.2)
theorem iA.run {a b : hg_M} (h : iA a) (d : iD b) (g : gD a b) : iA b :=
  h.up (fun q hq => g q (by omega)) (h.2.2.2.2.2.1.ofD g) (by unfold iP; rw [g 52 (by omega)]; exact h.2.2.2.2.2.2.1) d
theorem pA_tell {P : Int32 → hg_M → Prop} (h : iA σ) (hP : ∀ r σ', iA σ' → P r σ') : wC_X5_tell σ P := by
  unfold wC_X5_tell
  exact pR_begin (fun σ1 d1 g1 => pR_doText (h.2.2.2.2.1.ofD g1) d1 (fun σ2 d2 g2 => hP _ σ2 (h.run d2 (g1.trans g2))))
theorem pA_run {P : Int32 → hg_M → Prop} (h : iA σ) (hP : ∀ r σ', iA σ' → P r σ') (hX : PX "java/lang/IllegalStateException" σ) : wC_X5_run σ P PX := by
  unfold wC_X5_run
  exact ⟨fun _ => pR_begin (fun σ1 d1 g1 => pR_doCode (h.2.2.2.2.2.1.ofD g1) d1 (fun σ2 d2 g2 => hP _ σ2 (h.run d2 (g1.trans g2)))), fun _ => hX⟩
theorem pA_step {i w : Int32} {P : Int32 → hg_M → Prop} (h : iA σ) (hP : ∀ r, P r σ) (hX : ∀ e, e = "java/lang/IndexOutOfBoundsException" ∨ e = "java/lang/IllegalArgumentException" → PX e σ) : wC_X5_step i w σ P PX := by
  unfold wC_X5_step bC_X5_step_22 bC_X5_step_42
  have hs := h.2.2.2.2.2.1.2.1
  exact ⟨fun _ => hX _ (Or.inl rfl), fun _ => ⟨fun _ => hX _ (Or.inl rfl), fun n => ⟨fun l => ⟨fun _ => hX _ (Or.inr rfl), fun m => ⟨fun l2 => ⟨hp_6 (by grind) l2, hp_720 (by grind) (by grind), hP _⟩, fun _ => hX _ (Or.inr rfl)⟩⟩, fun _ => hX _ (Or.inl rfl)⟩⟩⟩
theorem pA_left {v : Int32} {P : Int32 → hg_M → Prop} (hP : ∀ r, P r σ) (hX : PX "java/lang/IndexOutOfBoundsException" σ) : wC_X5_left v σ P PX := by
  unfold wC_X5_left bC_X5_left_10
  exact ⟨fun _ => hX, fun n => ⟨fun l => ⟨hp_736 (by grind) (by grind), hP _⟩, fun _ => hX⟩⟩
theorem pA_kept {v : Int32} {P : Int32 → hg_M → Prop} (hP : ∀ r, P r σ) (hX : PX "java/lang/IndexOutOfBoundsException" σ) : wC_X5_kept v σ P PX := by
  unfold wC_X5_kept bC_X5_kept_10
  exact ⟨fun _ => hX, fun n => ⟨fun l => ⟨hp_32 (by grind) l, hP _⟩, fun _ => hX⟩⟩
theorem pA_output {v : Int32} {P : Int32 → hg_M → Prop} (h : iA σ) (hP : ∀ r, P r σ) (hX : PX "java/lang/IndexOutOfBoundsException" σ) : wC_X5_output v σ P PX := by
  unfold wC_X5_output bC_X5_output_15
  have hd := h.2.2.2.2.2.2.2.2
  exact ⟨fun _ => hX, fun n => ⟨fun l => ⟨hp_60 (by grind) (by grind), hP _⟩, fun _ => hX⟩⟩
theorem pA_count {w : Int32} {P : Int32 → hg_M → Prop} (h : iA σ) (hP : ∀ r, P r σ) (hX : PX "java/lang/IllegalArgumentException" σ) : wC_X5_count w σ P PX := by
  unfold wC_X5_count bC_X5_count_78 bC_X5_count_98 bC_X5_count_117 bC_X5_count_136
  exact ⟨fun _ => hX, fun _ => hP _, fun _ => ⟨fun _ => hP _, fun _ => hP _⟩, fun _ => ⟨fun _ => hP _, fun _ => hP _⟩, fun _ => ⟨fun _ => hP _, fun _ => pC_jumps h.2.2.2.2.2.1 (fun r => hP r)⟩, fun _ => ⟨fun _ => hP _, fun _ => pL_convertedBranches (fun r => hP r)⟩, fun _ => hP _, fun _ => hP _, fun _ => hP _, fun _ => hP _⟩
theorem pA_fault {P : Int32 → hg_M → Prop} (hP : ∀ r, P r σ) : wC_X5_fault σ P := hP _
end PUB
