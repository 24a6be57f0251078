/-! THE FLAT MEMORY: numbers by cell and place; references by cell and place; a judgement that hides heap and frame. -/
abbrev hg_M : Type := Nat → Nat → Int32
abbrev hg_R : Type := Nat → Nat → Nat
/-- a family of cells: how many; the kind of each (0 ints, 1 booleans, 2 rows, k + 3 an object of class k) with its length; which fields are references -/
abbrev hg_F : Type := Nat × (Nat → Nat × Nat) × (Nat → Nat → Bool)
abbrev hg_T : Type := ClassId × ClassId × ClassId
def hg_set (σ : hg_M) (q i : Nat) (v : Int32) : hg_M := fun a b => if a = q ∧ b = i then v else σ a b
def hg_rset (ρ : hg_R) (q i : Nat) (v : Nat) : hg_R := fun a b => if a = q ∧ b = i then v else ρ a b
def hg_fv (F : hg_F) (ad : Nat → Nat) (σ : hg_M) (ρ : hg_R) (q k i : Nat) : Value := if F.2.2 k i = true then .ref (ad (ρ q i)) else .int (σ q i)
def hg_cell (F : hg_F) (t : hg_T) (ad : Nat → Nat) (σ : hg_M) (ρ : hg_R) (q : Nat) : va_E := match (F.2.1 q).1 with
  | 0 => .inl (t.1, (F.2.1 q).2, .inl (σ q))
  | 1 => .inl (t.2.1, (F.2.1 q).2, .inl (σ q))
  | 2 => .inl (t.2.2, (F.2.1 q).2, .inr (.inr (.inr (.inr (fun i => some (ad (ρ q i)))))))
  | k + 3 => .inr (k, (List.range (F.2.1 q).2).map (hg_fv F ad σ ρ q k))
def hg_ws (F : hg_F) (t : hg_T) (ad : Nat → Nat) (σ : hg_M) (ρ : hg_R) : va_W := (List.range F.1).map (fun q => (ad q, hg_cell F t ad σ ρ q))
theorem hg_at {F : hg_F} {t : hg_T} {ad : Nat → Nat} {σ : hg_M} {ρ : hg_R} {q : Nat} (h : q < F.1) : (hg_ws F t ad σ ρ)[q]? = some (ad q, hg_cell F t ad σ ρ q) := by
  simp [hg_ws, h]
theorem hg_no {F : hg_F} {t : hg_T} {ad : Nat → Nat} {σ : hg_M} {ρ : hg_R} {q : Nat} (h : ¬ q < F.1) : (hg_ws F t ad σ ρ)[q]? = none := by
  simp [hg_ws]; omega
theorem hg_put {F : hg_F} {t : hg_T} {ad : Nat → Nat} {σ σ' : hg_M} {ρ ρ' : hg_R} {q : Nat} (hq : q < F.1) {e : va_E} (he : hg_cell F t ad σ' ρ' q = e)
    (h : ∀ r, r ≠ q → hg_cell F t ad σ' ρ' r = hg_cell F t ad σ ρ r) : (hg_ws F t ad σ ρ).set q (ad q, e) = hg_ws F t ad σ' ρ' := by
  subst he
  apply List.ext_getElem?
  intro i
  rw [List.getElem?_set]
  by_cases hi : q = i
  · subst hi
    rw [if_pos rfl, hg_at hq]
    have : q < (hg_ws F t ad σ ρ).length := by simp [hg_ws, hq]
    rw [if_pos this]
  · rw [if_neg hi]
    by_cases hl : i < F.1
    · rw [hg_at hl, hg_at hl, h i (fun z => hi z.symm)]
    · rw [hg_no hl, hg_no hl]
theorem hg_set_ne {σ : hg_M} {q i r : Nat} {v : Int32} (h : r ≠ q) : hg_set σ q i v r = σ r := by
  funext b; simp [hg_set, h]
theorem hg_set_eq {σ : hg_M} {q i : Nat} {v : Int32} : hg_set σ q i v q = upd (σ q) i v := by
  funext b; simp [hg_set, upd]
theorem hg_rset_ne {ρ : hg_R} {q i r : Nat} {v : Nat} (h : r ≠ q) : hg_rset ρ q i v r = ρ r := by
  funext b; simp [hg_rset, h]
theorem hg_cell_ne {F : hg_F} {t : hg_T} {ad : Nat → Nat} {σ σ' : hg_M} {ρ ρ' : hg_R} {r : Nat} (h1 : σ' r = σ r) (h2 : ρ' r = ρ r) : hg_cell F t ad σ' ρ' r = hg_cell F t ad σ ρ r := by
  unfold hg_cell
  have e : hg_fv F ad σ' ρ' r = hg_fv F ad σ ρ r := by funext k i; simp [hg_fv, h1, h2]
  rw [h1, h2, e]
theorem hg_cell0 {F : hg_F} {t : hg_T} {ad : Nat → Nat} {σ : hg_M} {ρ : hg_R} {q n : Nat} (h : F.2.1 q = (0, n)) : hg_cell F t ad σ ρ q = .inl (t.1, n, .inl (σ q)) := by
  unfold hg_cell; rw [h]
theorem hg_cell1 {F : hg_F} {t : hg_T} {ad : Nat → Nat} {σ : hg_M} {ρ : hg_R} {q n : Nat} (h : F.2.1 q = (1, n)) : hg_cell F t ad σ ρ q = .inl (t.2.1, n, .inl (σ q)) := by
  unfold hg_cell; rw [h]
theorem hg_cell2 {F : hg_F} {t : hg_T} {ad : Nat → Nat} {σ : hg_M} {ρ : hg_R} {q n : Nat} (h : F.2.1 q = (2, n)) : hg_cell F t ad σ ρ q = .inl (t.2.2, n, .inr (.inr (.inr (.inr (fun i => some (ad (ρ q i))))))) := by
  unfold hg_cell; rw [h]
theorem hg_cell3 {F : hg_F} {t : hg_T} {ad : Nat → Nat} {σ : hg_M} {ρ : hg_R} {q n k : Nat} (h : F.2.1 q = (k + 3, n)) : hg_cell F t ad σ ρ q = .inr (k, (List.range n).map (hg_fv F ad σ ρ q k)) := by
  unfold hg_cell; rw [h]
theorem hg_put0 {F : hg_F} {t : hg_T} {ad : Nat → Nat} {σ : hg_M} {ρ : hg_R} {q n i : Nat} {v : Int32} (hq : q < F.1) (h : F.2.1 q = (0, n)) :
    (hg_ws F t ad σ ρ).set q (ad q, .inl (t.1, n, .inl (upd (σ q) i v))) = hg_ws F t ad (hg_set σ q i v) ρ :=
  hg_put hq (by rw [hg_cell0 h, hg_set_eq]) (fun r hr => hg_cell_ne (hg_set_ne hr) rfl)
theorem hg_put1 {F : hg_F} {t : hg_T} {ad : Nat → Nat} {σ : hg_M} {ρ : hg_R} {q n i : Nat} {v : Int32} (hq : q < F.1) (h : F.2.1 q = (1, n)) :
    (hg_ws F t ad σ ρ).set q (ad q, .inl (t.2.1, n, .inl (upd (σ q) i v))) = hg_ws F t ad (hg_set σ q i v) ρ :=
  hg_put hq (by rw [hg_cell1 h, hg_set_eq]) (fun r hr => hg_cell_ne (hg_set_ne hr) rfl)
theorem hg_put3 {F : hg_F} {t : hg_T} {ad : Nat → Nat} {σ : hg_M} {ρ : hg_R} {q n i k : Nat} {v : Int32} (hq : q < F.1) (h : F.2.1 q = (k + 3, n)) (hi : i < n) (hf : F.2.2 k i = false) :
    (hg_ws F t ad σ ρ).set q (ad q, .inr (k, ((List.range n).map (hg_fv F ad σ ρ q k)).set i (.int v))) = hg_ws F t ad (hg_set σ q i v) ρ := by
  refine hg_put hq ?_ (fun r hr => hg_cell_ne (hg_set_ne hr) rfl)
  rw [hg_cell3 h]
  congr 2
  apply List.ext_getElem?
  intro j
  rw [List.getElem?_set]
  by_cases hj : i = j
  · subst hj; simp [hi, hg_fv, hf, hg_set]
  · rw [if_neg hj]
    by_cases hl : j < n
    · have : ¬ j = i := fun z => hj z.symm
      simp [hl, hg_fv, hg_set, this]
    · simp [hl]
theorem hg_put3r {F : hg_F} {t : hg_T} {ad : Nat → Nat} {σ : hg_M} {ρ : hg_R} {q n i k : Nat} {v : Nat} (hq : q < F.1) (h : F.2.1 q = (k + 3, n)) (hi : i < n) (hf : F.2.2 k i = true) :
    (hg_ws F t ad σ ρ).set q (ad q, .inr (k, ((List.range n).map (hg_fv F ad σ ρ q k)).set i (.ref (ad v)))) = hg_ws F t ad σ (hg_rset ρ q i v) := by
  refine hg_put hq ?_ (fun r hr => hg_cell_ne rfl (hg_rset_ne hr))
  rw [hg_cell3 h]
  congr 2
  apply List.ext_getElem?
  intro j
  rw [List.getElem?_set]
  by_cases hj : i = j
  · subst hj; simp [hi, hg_fv, hf, hg_rset]
  · rw [if_neg hj]
    by_cases hl : j < n
    · have : ¬ j = i := fun z => hj z.symm
      simp [hl, hg_fv, hg_rset, this]
    · simp [hl]
/-- the addresses of the family, and all that come from sz on -/
def hg_A (F : hg_F) (ad : Nat → Nat) (sz : Nat) : Nat → Prop := fun q => (∃ k, k < F.1 ∧ q = ad k) ∨ sz ≤ q
def hg_Dd (F : hg_F) (ad : Nat → Nat) (A : Nat → Prop) : Prop := (∀ i j, i < F.1 → j < F.1 → ad i = ad j → i = j) ∧ ∀ i, i < F.1 → A (ad i)
theorem hg_Dd.va {F : hg_F} {ad : Nat → Nat} {A : Nat → Prop} (h : hg_Dd F ad A) (t : hg_T) (σ : hg_M) (ρ : hg_R) : va_D A (hg_ws F t ad σ ρ) := by
  have key : ∀ (i : Nat) (p : Nat × va_E), (hg_ws F t ad σ ρ)[i]? = some p → i < F.1 ∧ p.1 = ad i := by
    intro i p hp
    by_cases hi : i < F.1
    · rw [hg_at hi] at hp; cases hp; exact ⟨hi, rfl⟩
    · rw [hg_no hi] at hp; cases hp
  refine ⟨fun i j p q hp hq e => ?_, fun k q hq => ?_⟩
  · obtain ⟨a1, a2⟩ := key i p hp
    obtain ⟨b1, b2⟩ := key j q hq
    exact h.1 i j a1 b1 (by rw [← a2, ← b2]; exact e)
  · obtain ⟨a1, a2⟩ := key k q hq
    rw [a2]; exact h.2 k a1
theorem hg_Dd.of {F : hg_F} {ad : Nat → Nat} {A : Nat → Prop} {t : hg_T} {σ : hg_M} {ρ : hg_R} (h : va_D A (hg_ws F t ad σ ρ)) : hg_Dd F ad A :=
  ⟨fun i j hi hj e => h.1 i j _ _ (hg_at hi) (hg_at hj) e, fun i hi => h.2 i _ (hg_at hi)⟩
abbrev hg_tys (t : hg_T) : List (ClassId × FieldType) := [(t.1, .int), (t.2.1, .boolean), (t.2.2, .array .int)]
