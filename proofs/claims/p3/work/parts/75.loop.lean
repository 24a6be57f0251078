/-! THE LAW'S LOOP (written by mkL.py): both objects in their invariants, the long[1] beside. -/
abbrev hk_A (s : State) : Nat → Prop := fun q => s.heap.size ≤ q
abbrev hk_X : Type := Program × Launch × Env × State × MethodId × List Frame × Method × Code × (va_G × hg_T × ClassId) × (Nat × Nat × (Nat → Int32)) × (Nat × (Nat → Nat) × Nat) × hg_Et
abbrev hk_l (X : hk_X) : Launch := X.2.1
abbrev hk_b (X : hk_X) : Nat := X.2.2.2.2.2.2.2.2.2.1.1
abbrev hk_n (X : hk_X) : Nat := X.2.2.2.2.2.2.2.2.2.1.2.1
abbrev hk_xs (X : hk_X) : Nat → Int32 := X.2.2.2.2.2.2.2.2.2.1.2.2
abbrev hk_a (X : hk_X) : Nat := X.2.2.2.2.2.2.2.2.2.2.1.1
abbrev hk_M (X : hk_X) : Nat → Nat := X.2.2.2.2.2.2.2.2.2.2.1.2.1
abbrev hk_o (X : hk_X) : Nat := X.2.2.2.2.2.2.2.2.2.2.1.2.2
abbrev hk_E (X : hk_X) : hg_Et := X.2.2.2.2.2.2.2.2.2.2.2
def hk_C (X : hk_X) : Prop := match X with
  | (p, l, e, s, m, below, meth, c, (D, t, tl), (b, Ln, xs), (a0, aM, o), E) => (p.tables.exec = Jvm.exec ∧ c.code = cL_law ∧ meth.sig.returnType = ret ∧ c.maxLocals = 7 ∧ s.vm.findClass RL = some m.cls ∧ (∀ w ∈ hg_tbl, w.before #[Value.ref b] s = true) ∧ va_X b Ln xs s s.heap ∧ b < s.heap.size ∧ meth.locks = false) ∧ Ln ≤ 2048 ∧ l.stackTraces = false ∧ va_K D vwCl (hj_tys t tl) s ∧ (hg_Eok E ∧ hg_Xa E ∧ hj_Ca E) ∧ E (hk_A s) s s.heap ∧ hg_Dd hg_FM aM (hk_A s) ∧ hk_A s o ∧ (∀ i, i < hg_FM.1 → aM i ≠ o)
def hk_I (D : va_G) (t : hg_T) (tl : ClassId) (A : Nat → Prop) (a0 : Nat) (aM : Nat → Nat) (o : Nat) (ad : Nat → Nat) (σC σM : hg_M) (H : Heap) : Prop :=
  ad 0 = a0 ∧ hg_Dd hg_FC ad A ∧ (∀ i, i < hg_FC.1 → ad i ≠ o) ∧ (∀ i k, i < hg_FC.1 → k < hg_FM.1 → ad i ≠ aM k) ∧ (iA σC ∧ iB σM) ∧ va_P D vwCl (hg_ws hg_FC t ad σC hg_rC) H ∧ va_P D vwCl (hg_ws hg_FM t aM σM hg_rM) H ∧ ∃ f, va_P D vwCl (hj_o tl o f) H
def hk_G (X : hk_X) (Rr : hg_M → Prop) (pc : Nat) (L : List (Nat × Value)) (st : List Value) (j : Nat) : Prop := match X with
  | (p, l, e, s, m, below, meth, c, (D, t, tl), (b, Ln, xs), (a0, aM, o), E) => ∀ (ad : Nat → Nat) (σC σM : hg_M) (H : Heap) (locs : List Loc) (ls : Array Slot), lv_has ls 7 L → hk_I D t tl (hk_A s) a0 aM o ad σC σM H → Rr σM → va_S (hk_A s) s.heap H locs → W p l e room_1 s m #[Value.ref b] below meth c H locs (100 + j) (50000 + 6 * j) (lw_Z below #[Value.ref b] s) (F0 m pc ls st)
/-- after a helper's call -/
theorem hk_I.helper {D : va_G} {t : hg_T} {tl : ClassId} {s : State} {a0 : Nat} {aM : Nat → Nat} {o : Nat} {ad : Nat → Nat} {σC σM σ1 : hg_M} {H H1 : Heap} (h : hk_I D t tl (hk_A s) a0 aM o ad σC σM H) (hMo : ∀ i, i < hg_FM.1 → aM i ≠ o) (hi : iA σ1) (hP : va_P D vwCl (hg_ws hg_FC t ad σ1 hg_rC) H1) (hO : ∃ f, va_P D vwCl (hj_o tl o f) H1) (hk : ∀ q : Nat, q < H.size → ¬ hj_A ad o H.size q → H1[q]? = H[q]?) : hk_I D t tl (hk_A s) a0 aM o ad σ1 σM H1 := by
  obtain ⟨h1, h2, h3, h4, h5, h6, h7, h8⟩ := h
  refine ⟨h1, h2, h3, h4, ⟨hi, h5.2⟩, hP, hj_keep h7 hk (fun i hi9 => ?_), hO⟩
  rintro ((⟨k, hk9, e9⟩ | h9) | h9)
  · exact h4 k i hk9 hi9 e9.symm
  · exact absurd (hj_adlt h7 hi9) (by omega)
  · exact hMo i hi9 h9
/-- after a call of the class's object -/
theorem hk_I.cls {D : va_G} {t : hg_T} {tl : ClassId} {s : State} {a0 : Nat} {aM : Nat → Nat} {o : Nat} {ad ad1 : Nat → Nat} {σC σM σ1 : hg_M} {H H1 : Heap} (h : hk_I D t tl (hk_A s) a0 aM o ad σC σM H) (hi : iA σ1) (hP : va_P D vwCl (hg_ws hg_FC t ad1 σ1 hg_rC) H1) (hk : ∀ q : Nat, q < H.size → ¬ hg_A hg_FC ad H.size q → H1[q]? = H[q]?) (e0 : ad1 0 = ad 0) (eD : hg_Dd hg_FC ad1 (hk_A s)) (eo : ∀ i, i < hg_FC.1 → ∃ k, k < hg_FC.1 ∧ ad1 i = ad k) : hk_I D t tl (hk_A s) a0 aM o ad1 σ1 σM H1 := by
  obtain ⟨h1, h2, h3, h4, h5, h6, h7, f, h8⟩ := h
  refine ⟨e0.trans h1, eD, fun i hi9 => ?_, fun i k hi9 hk9 => ?_, ⟨hi, h5.2⟩, hP, hj_keep h7 hk (fun i hi9 => ?_), f, hj_keepo h8 hk ?_⟩
  · obtain ⟨j, a, b⟩ := eo i hi9
    rw [b]; exact h3 j a
  · obtain ⟨j, a, b⟩ := eo i hi9
    rw [b]; exact h4 j k a hk9
  · rintro (⟨k, hk9, e9⟩ | h9)
    · exact h4 k i hk9 hi9 e9.symm
    · exact absurd (hj_adlt h7 hi9) (by omega)
  · rintro (⟨k, hk9, e9⟩ | h9)
    · exact h3 k hk9 e9.symm
    · exact absurd (hj_olt h8) (by omega)
/-- after a call of the reference -/
theorem hk_I.mod {D : va_G} {t : hg_T} {tl : ClassId} {s : State} {a0 : Nat} {aM : Nat → Nat} {o : Nat} {ad : Nat → Nat} {σC σM σ1 : hg_M} {H H1 : Heap} (h : hk_I D t tl (hk_A s) a0 aM o ad σC σM H) (hMo : ∀ i, i < hg_FM.1 → aM i ≠ o) (hi : iB σ1) (hP : va_P D vwCl (hg_ws hg_FM t aM σ1 hg_rM) H1) (hk : ∀ q : Nat, q < H.size → ¬ hg_A hg_FM aM H.size q → H1[q]? = H[q]?) : hk_I D t tl (hk_A s) a0 aM o ad σC σ1 H1 := by
  obtain ⟨h1, h2, h3, h4, h5, h6, h7, f, h8⟩ := h
  refine ⟨h1, h2, h3, h4, ⟨h5.1, hi⟩, hj_keep h6 hk (fun i hi9 => ?_), hP, f, hj_keepo h8 hk ?_⟩
  · rintro (⟨k, hk9, e9⟩ | h9)
    · exact h4 i k hi9 hk9 e9
    · exact absurd (hj_adlt h6 hi9) (by omega)
  · rintro (⟨k, hk9, e9⟩ | h9)
    · exact hMo k hk9 e9.symm
    · exact absurd (hj_olt h8) (by omega)
section HK
variable {X : hk_X} {Rr R1 : hg_M → Prop} {pc j : Nat} {L : List (Nat × Value)} {st : List Value}
theorem hk_iconst (hC : hk_C X) {z : Int} {v : Int32} (hd : decode cL_law pc = .ok (.iconst z, 1)) (hv : Int32.ofInt z = v) {n : Nat} (hn : pc + 1 = n) (k : hk_G X Rr n L (.int v :: st) j) : hk_G X Rr pc L (st) j := by
  obtain ⟨p, l, e, s, m, below, meth, c, ⟨D, t, tl⟩, ⟨b, Ln, xs⟩, ⟨a0, aM, o⟩, E⟩ := X
  obtain ⟨⟨hx, hb, hr, hml, hown, hts, hX, hbl, hlk⟩, hL, hlt, hK, ⟨hEok, hXa, hCa⟩, hE, hDM, ho, hMo⟩ := hC
  intro ad σC σM H locs ls hl hI hR hS
  subst hn
  exact lv_iconst hx hb hd hv (k ad σC σM H locs ls hl hI hR hS)
theorem hk_bipush (hC : hk_C X) {z : Int} {v : Int32} (hd : decode cL_law pc = .ok (.bipush z, 2)) (hv : (Int8.ofInt z).toInt32 = v) {n : Nat} (hn : pc + 2 = n) (k : hk_G X Rr n L (.int v :: st) j) : hk_G X Rr pc L (st) j := by
  obtain ⟨p, l, e, s, m, below, meth, c, ⟨D, t, tl⟩, ⟨b, Ln, xs⟩, ⟨a0, aM, o⟩, E⟩ := X
  obtain ⟨⟨hx, hb, hr, hml, hown, hts, hX, hbl, hlk⟩, hL, hlt, hK, ⟨hEok, hXa, hCa⟩, hE, hDM, ho, hMo⟩ := hC
  intro ad σC σM H locs ls hl hI hR hS
  subst hn
  exact lv_bipush hx hb hd hv (k ad σC σM H locs ls hl hI hR hS)
theorem hk_aload_n (hC : hk_C X) {j9 : Fin 4} {i : Nat} {x : Nat} (hd : decode cL_law pc = .ok (.aload_n j9, 1)) (hi : (j9 : Nat) = i) (a : Nat) (ha : L[a]? = some (i, .ref x)) {n : Nat} (hn : pc + 1 = n) (k : hk_G X Rr n L (.ref x :: st) j) : hk_G X Rr pc L (st) j := by
  obtain ⟨p, l, e, s, m, below, meth, c, ⟨D, t, tl⟩, ⟨b, Ln, xs⟩, ⟨a0, aM, o⟩, E⟩ := X
  obtain ⟨⟨hx, hb, hr, hml, hown, hts, hX, hbl, hlk⟩, hL, hlt, hK, ⟨hEok, hXa, hCa⟩, hE, hDM, ho, hMo⟩ := hC
  intro ad σC σM H locs ls hl hI hR hS
  subst hn
  exact lv_aload_n hx hb hd hi (lv_at hl a ha) (k ad σC σM H locs ls hl hI hR hS)
theorem hk_iload (hC : hk_C X) {i : Nat} {x : Int32} (hd : decode cL_law pc = .ok (.iload i, 2)) (a : Nat) (ha : L[a]? = some (i, .int x)) {n : Nat} (hn : pc + 2 = n) (k : hk_G X Rr n L (.int x :: st) j) : hk_G X Rr pc L (st) j := by
  obtain ⟨p, l, e, s, m, below, meth, c, ⟨D, t, tl⟩, ⟨b, Ln, xs⟩, ⟨a0, aM, o⟩, E⟩ := X
  obtain ⟨⟨hx, hb, hr, hml, hown, hts, hX, hbl, hlk⟩, hL, hlt, hK, ⟨hEok, hXa, hCa⟩, hE, hDM, ho, hMo⟩ := hC
  intro ad σC σM H locs ls hl hI hR hS
  subst hn
  exact lv_iload hx hb hd (lv_at hl a ha) (k ad σC σM H locs ls hl hI hR hS)
theorem hk_iadd (hC : hk_C X) {x y : Int32} (hd : decode cL_law pc = .ok (.iadd, 1)) {n : Nat} (hn : pc + 1 = n) (k : hk_G X Rr n L (.int (x + y) :: st) j) : hk_G X Rr pc L (.int y :: .int x :: st) j := by
  obtain ⟨p, l, e, s, m, below, meth, c, ⟨D, t, tl⟩, ⟨b, Ln, xs⟩, ⟨a0, aM, o⟩, E⟩ := X
  obtain ⟨⟨hx, hb, hr, hml, hown, hts, hX, hbl, hlk⟩, hL, hlt, hK, ⟨hEok, hXa, hCa⟩, hE, hDM, ho, hMo⟩ := hC
  intro ad σC σM H locs ls hl hI hR hS
  subst hn
  exact lv_iadd hx hb hd (k ad σC σM H locs ls hl hI hR hS)
theorem hk_isub (hC : hk_C X) {x y : Int32} (hd : decode cL_law pc = .ok (.isub, 1)) {n : Nat} (hn : pc + 1 = n) (k : hk_G X Rr n L (.int (x - y) :: st) j) : hk_G X Rr pc L (.int y :: .int x :: st) j := by
  obtain ⟨p, l, e, s, m, below, meth, c, ⟨D, t, tl⟩, ⟨b, Ln, xs⟩, ⟨a0, aM, o⟩, E⟩ := X
  obtain ⟨⟨hx, hb, hr, hml, hown, hts, hX, hbl, hlk⟩, hL, hlt, hK, ⟨hEok, hXa, hCa⟩, hE, hDM, ho, hMo⟩ := hC
  intro ad σC σM H locs ls hl hI hR hS
  subst hn
  exact lv_isub hx hb hd (k ad σC σM H locs ls hl hI hR hS)
theorem hk_iand (hC : hk_C X) {x y : Int32} (hd : decode cL_law pc = .ok (.iand, 1)) {n : Nat} (hn : pc + 1 = n) (k : hk_G X Rr n L (.int (x &&& y) :: st) j) : hk_G X Rr pc L (.int y :: .int x :: st) j := by
  obtain ⟨p, l, e, s, m, below, meth, c, ⟨D, t, tl⟩, ⟨b, Ln, xs⟩, ⟨a0, aM, o⟩, E⟩ := X
  obtain ⟨⟨hx, hb, hr, hml, hown, hts, hX, hbl, hlk⟩, hL, hlt, hK, ⟨hEok, hXa, hCa⟩, hE, hDM, ho, hMo⟩ := hC
  intro ad σC σM H locs ls hl hI hR hS
  subst hn
  exact lv_iand hx hb hd (k ad σC σM H locs ls hl hI hR hS)
theorem hk_pop (hC : hk_C X) {v : Value} (hd : decode cL_law pc = .ok (.pop, 1)) (hv : v.category = 1) {n : Nat} (hn : pc + 1 = n) (k : hk_G X Rr n L (st) j) : hk_G X Rr pc L (v :: st) j := by
  obtain ⟨p, l, e, s, m, below, meth, c, ⟨D, t, tl⟩, ⟨b, Ln, xs⟩, ⟨a0, aM, o⟩, E⟩ := X
  obtain ⟨⟨hx, hb, hr, hml, hown, hts, hX, hbl, hlk⟩, hL, hlt, hK, ⟨hEok, hXa, hCa⟩, hE, hDM, ho, hMo⟩ := hC
  intro ad σC σM H locs ls hl hI hR hS
  subst hn
  exact lv_pop hx hb hd hv (k ad σC σM H locs ls hl hI hR hS)
theorem hk_i2l (hC : hk_C X) {x : Int32} {v : Int64} (hd : decode cL_law pc = .ok (.i2l, 1)) (hv : x.toInt64 = v) {n : Nat} (hn : pc + 1 = n) (k : hk_G X Rr n L (.long v :: st) j) : hk_G X Rr pc L (.int x :: st) j := by
  obtain ⟨p, l, e, s, m, below, meth, c, ⟨D, t, tl⟩, ⟨b, Ln, xs⟩, ⟨a0, aM, o⟩, E⟩ := X
  obtain ⟨⟨hx, hb, hr, hml, hown, hts, hX, hbl, hlk⟩, hL, hlt, hK, ⟨hEok, hXa, hCa⟩, hE, hDM, ho, hMo⟩ := hC
  intro ad σC σM H locs ls hl hI hR hS
  subst hn
  exact lv_i2l hx hb hd hv (k ad σC σM H locs ls hl hI hR hS)
theorem hk_land (hC : hk_C X) {x y : Int64} (hd : decode cL_law pc = .ok (.land, 1)) {n : Nat} (hn : pc + 1 = n) (k : hk_G X Rr n L (.long (x &&& y) :: st) j) : hk_G X Rr pc L (.long y :: .long x :: st) j := by
  obtain ⟨p, l, e, s, m, below, meth, c, ⟨D, t, tl⟩, ⟨b, Ln, xs⟩, ⟨a0, aM, o⟩, E⟩ := X
  obtain ⟨⟨hx, hb, hr, hml, hown, hts, hX, hbl, hlk⟩, hL, hlt, hK, ⟨hEok, hXa, hCa⟩, hE, hDM, ho, hMo⟩ := hC
  intro ad σC σM H locs ls hl hI hR hS
  subst hn
  exact lv_land hx hb hd (k ad σC σM H locs ls hl hI hR hS)
theorem hk_lor (hC : hk_C X) {x y : Int64} (hd : decode cL_law pc = .ok (.lor, 1)) {n : Nat} (hn : pc + 1 = n) (k : hk_G X Rr n L (.long (x ||| y) :: st) j) : hk_G X Rr pc L (.long y :: .long x :: st) j := by
  obtain ⟨p, l, e, s, m, below, meth, c, ⟨D, t, tl⟩, ⟨b, Ln, xs⟩, ⟨a0, aM, o⟩, E⟩ := X
  obtain ⟨⟨hx, hb, hr, hml, hown, hts, hX, hbl, hlk⟩, hL, hlt, hK, ⟨hEok, hXa, hCa⟩, hE, hDM, ho, hMo⟩ := hC
  intro ad σC σM H locs ls hl hI hR hS
  subst hn
  exact lv_lor hx hb hd (k ad σC σM H locs ls hl hI hR hS)
theorem hk_lshl (hC : hk_C X) {x v : Int64} {y : Int32} (hd : decode cL_law pc = .ok (.lshl, 1)) (hv : x <<< (y.toInt64 &&& 63) = v) {n : Nat} (hn : pc + 1 = n) (k : hk_G X Rr n L (.long v :: st) j) : hk_G X Rr pc L (.int y :: .long x :: st) j := by
  obtain ⟨p, l, e, s, m, below, meth, c, ⟨D, t, tl⟩, ⟨b, Ln, xs⟩, ⟨a0, aM, o⟩, E⟩ := X
  obtain ⟨⟨hx, hb, hr, hml, hown, hts, hX, hbl, hlk⟩, hL, hlt, hK, ⟨hEok, hXa, hCa⟩, hE, hDM, ho, hMo⟩ := hC
  intro ad σC σM H locs ls hl hI hR hS
  subst hn
  exact lv_lshl hx hb hd hv (k ad σC σM H locs ls hl hI hR hS)
theorem hk_ldc2 (hC : hk_C X) {index : Nat} {v : Int64} (hd : decode cL_law pc = .ok (.ldc2_w index, 3)) (hk : Cond.constantLong RL index v ∈ hg_tbl) {n : Nat} (hn : pc + 3 = n) (k : hk_G X Rr n L (.long v :: st) j) : hk_G X Rr pc L (st) j := by
  obtain ⟨p, l, e, s, m, below, meth, c, ⟨D, t, tl⟩, ⟨b, Ln, xs⟩, ⟨a0, aM, o⟩, E⟩ := X
  obtain ⟨⟨hx, hb, hr, hml, hown, hts, hX, hbl, hlk⟩, hL, hlt, hK, ⟨hEok, hXa, hCa⟩, hE, hDM, ho, hMo⟩ := hC
  intro ad σC σM H locs ls hl hI hR hS
  subst hn
  exact lv_ldc2 hx hb hown (hts _ hk) hd (k ad σC σM H locs ls hl hI hR hS)
theorem hk_sld (hC : hk_C X) {i : Int32} (hd : decode cL_law pc = .ok (.iaload, 1)) (hi : vp_in i (hk_n X)) {n : Nat} (hn : pc + 1 = n) (k : hk_G X Rr n L (.int (hk_xs X i.toNatClampNeg) :: st) j) : hk_G X Rr pc L (.int i :: .ref (hk_b X) :: st) j := by
  obtain ⟨p, l, e, s, m, below, meth, c, ⟨D, t, tl⟩, ⟨b, Ln, xs⟩, ⟨a0, aM, o⟩, E⟩ := X
  obtain ⟨⟨hx, hb, hr, hml, hown, hts, hX, hbl, hlk⟩, hL, hlt, hK, ⟨hEok, hXa, hCa⟩, hE, hDM, ho, hMo⟩ := hC
  intro ad σC σM H locs ls hl hI hR hS
  subst hn
  exact va_sld hx hb hX hbl (Nat.not_le.mpr hbl) hS hi hd (k ad σC σM H locs ls hl hI hR hS)
theorem hk_slen (hC : hk_C X) (hd : decode cL_law pc = .ok (.arraylength, 1)) {n : Nat} (hn : pc + 1 = n) (k : hk_G X Rr n L (.int (Int32.ofNat (hk_n X)) :: st) j) : hk_G X Rr pc L (.ref (hk_b X) :: st) j := by
  obtain ⟨p, l, e, s, m, below, meth, c, ⟨D, t, tl⟩, ⟨b, Ln, xs⟩, ⟨a0, aM, o⟩, E⟩ := X
  obtain ⟨⟨hx, hb, hr, hml, hown, hts, hX, hbl, hlk⟩, hL, hlt, hK, ⟨hEok, hXa, hCa⟩, hE, hDM, ho, hMo⟩ := hC
  intro ad σC σM H locs ls hl hI hR hS
  subst hn
  exact va_slen hx hb hX hbl (Nat.not_le.mpr hbl) hS hd (k ad σC σM H locs ls hl hI hR hS)
theorem hk_istore (hC : hk_C X) {i : Nat} {x : Int32} {L1 : List (Nat × Value)} (hd : decode cL_law pc = .ok (.istore i, 2)) (hb1 : i < 7) (hL9 : (i, Value.int x) :: L.filter (fun q => !(q.1 == i) && !(q.1 + 1 == i && q.2.category == 2)) = L1) {n : Nat} (hn : pc + 2 = n) (k : hk_G X Rr n L1 st j) : hk_G X Rr pc L (.int x :: st) j := by
  obtain ⟨p, l, e, s, m, below, meth, c, ⟨D, t, tl⟩, ⟨b, Ln, xs⟩, ⟨a0, aM, o⟩, E⟩ := X
  obtain ⟨⟨hx, hb, hr, hml, hown, hts, hX, hbl, hlk⟩, hL, hlt, hK, ⟨hEok, hXa, hCa⟩, hE, hDM, ho, hMo⟩ := hC
  intro ad σC σM H locs ls hl hI hR hS
  subst hn
  exact lv_istore hx hb hd hl hb1 hL9 (fun ls1 hl1 => k ad σC σM H locs ls1 hl1 hI hR hS)
theorem hk_iinc (hC : hk_C X) {i : Nat} {z : Int} {x v : Int32} {L1 : List (Nat × Value)} (hd : decode cL_law pc = .ok (.iinc i z, 3)) (a : Nat) (ha : L[a]? = some (i, .int x)) (hv : x + Int32.ofInt z = v) (hb1 : i < 7) (hL9 : (i, Value.int v) :: L.filter (fun q => !(q.1 == i) && !(q.1 + 1 == i && q.2.category == 2)) = L1) {n : Nat} (hn : pc + 3 = n) (k : hk_G X Rr n L1 st j) : hk_G X Rr pc L st j := by
  obtain ⟨p, l, e, s, m, below, meth, c, ⟨D, t, tl⟩, ⟨b, Ln, xs⟩, ⟨a0, aM, o⟩, E⟩ := X
  obtain ⟨⟨hx, hb, hr, hml, hown, hts, hX, hbl, hlk⟩, hL, hlt, hK, ⟨hEok, hXa, hCa⟩, hE, hDM, ho, hMo⟩ := hC
  intro ad σC σM H locs ls hl hI hR hS
  subst hn
  exact lv_iinc hx hb hd hl ha hv hb1 hL9 (fun ls1 hl1 => k ad σC σM H locs ls1 hl1 hI hR hS)
theorem hk_goto (hC : hk_C X) {off : Int} {tg : Nat} (hd : decode cL_law pc = .ok (.goto off, 3)) (ht : (pc : Int) + off = (tg : Int)) (k : hk_G X Rr tg L st j) : hk_G X Rr pc L st j := by
  obtain ⟨p, l, e, s, m, below, meth, c, ⟨D, t, tl⟩, ⟨b, Ln, xs⟩, ⟨a0, aM, o⟩, E⟩ := X
  obtain ⟨⟨hx, hb, hr, hml, hown, hts, hX, hbl, hlk⟩, hL, hlt, hK, ⟨hEok, hXa, hCa⟩, hE, hDM, ho, hMo⟩ := hC
  intro ad σC σM H locs ls hl hI hR hS
  exact lv_goto hx hb hd ht (k ad σC σM H locs ls hl hI hR hS)
theorem hk_icmp_eq (hC : hk_C X) {x y : Int32} {off : Int} {tg : Nat} (hd : decode cL_law pc = .ok (.if_icmp .eq off, 3)) (ht : (pc : Int) + off = (tg : Int)) {n : Nat} (hn : pc + 3 = n) (kt : x = y → hk_G X Rr tg L st j) (kf : ¬ (x = y) → hk_G X Rr n L st j) : hk_G X Rr pc L (.int y :: .int x :: st) j := by
  obtain ⟨p, l, e, s, m, below, meth, c, ⟨D, t, tl⟩, ⟨b, Ln, xs⟩, ⟨a0, aM, o⟩, E⟩ := X
  obtain ⟨⟨hx, hb, hr, hml, hown, hts, hX, hbl, hlk⟩, hL, hlt, hK, ⟨hEok, hXa, hCa⟩, hE, hDM, ho, hMo⟩ := hC
  intro ad σC σM H locs ls hl hI hR hS
  subst hn
  exact lv_icmp_eq hx hb hd ht (fun h => kt h ad σC σM H locs ls hl hI hR hS) (fun h => kf h ad σC σM H locs ls hl hI hR hS)
theorem hk_icmp_gt (hC : hk_C X) {x y : Int32} {off : Int} {tg : Nat} (hd : decode cL_law pc = .ok (.if_icmp .gt off, 3)) (ht : (pc : Int) + off = (tg : Int)) {n : Nat} (hn : pc + 3 = n) (kt : y < x → hk_G X Rr tg L st j) (kf : ¬ (y < x) → hk_G X Rr n L st j) : hk_G X Rr pc L (.int y :: .int x :: st) j := by
  obtain ⟨p, l, e, s, m, below, meth, c, ⟨D, t, tl⟩, ⟨b, Ln, xs⟩, ⟨a0, aM, o⟩, E⟩ := X
  obtain ⟨⟨hx, hb, hr, hml, hown, hts, hX, hbl, hlk⟩, hL, hlt, hK, ⟨hEok, hXa, hCa⟩, hE, hDM, ho, hMo⟩ := hC
  intro ad σC σM H locs ls hl hI hR hS
  subst hn
  exact lv_icmp_gt hx hb hd ht (fun h => kt h ad σC σM H locs ls hl hI hR hS) (fun h => kf h ad σC σM H locs ls hl hI hR hS)
theorem hk_sub {L1 : List (Nat × Value)} (ks : List Nat) (h : lv_pick L ks = L1) (k : hk_G X Rr pc L1 st j) : hk_G X Rr pc L st j := by
  obtain ⟨p, l, e, s, m, below, meth, c, ⟨D, t, tl⟩, ⟨b, Ln, xs⟩, ⟨a0, aM, o⟩, E⟩ := X
  intro ad σC σM H locs ls hl hI hR hS
  exact k ad σC σM H locs ls (lv_sub hl ks h) hI hR hS
theorem hk_weak (k : hk_G X R1 pc L st j) (h : ∀ σ, Rr σ → R1 σ) : hk_G X Rr pc L st j := by
  obtain ⟨p, l, e, s, m, below, meth, c, ⟨D, t, tl⟩, ⟨b, Ln, xs⟩, ⟨a0, aM, o⟩, E⟩ := X
  intro ad σC σM H locs ls hl hI hR hS
  exact k ad σC σM H locs ls hl hI (h _ hR) hS
/-- a fact that does not hang on the memory -/
theorem hk_know {Pz : Prop} (k : Pz → hk_G X Rr pc L st j) : hk_G X (fun σ => Rr σ ∧ Pz) pc L st j := by
  obtain ⟨p, l, e, s, m, below, meth, c, ⟨D, t, tl⟩, ⟨b, Ln, xs⟩, ⟨a0, aM, o⟩, E⟩ := X
  intro ad σC σM H locs ls hl hI hR hS
  exact k hR.2 ad σC σM H locs ls hl hI hR.1 hS
theorem hk_up (hC : hk_C X) (k : hk_G X Rr pc L st (j + 1)) : hk_G X Rr pc L st j := by
  obtain ⟨p, l, e, s, m, below, meth, c, ⟨D, t, tl⟩, ⟨b, Ln, xs⟩, ⟨a0, aM, o⟩, E⟩ := X
  obtain ⟨⟨hx, hb, hr, hml, hown, hts, hX, hbl, hlk⟩, hL, hlt, hK, ⟨hEok, hXa, hCa⟩, hE, hDM, ho, hMo⟩ := hC
  intro ad σC σM H locs ls hl hI hR hS
  exact W.widen (k := 100 + (j + 1)) (n := 50000 + 6 * (j + 1)) (by omega) (by omega) (k ad σC σM H locs ls hl hI hR hS)
theorem hk_tout (hC : hk_C X) {dflt lo hi : Int} {offs : Array Int} {len : Nat} {x : Int32} {tg : Nat} (hd : decode cL_law pc = .ok (.tableswitch dflt lo hi offs, len)) (h : x.toInt < lo ∨ hi < x.toInt) (ht : (pc : Int) + dflt = (tg : Int)) (k : hk_G X Rr tg L st j) : hk_G X Rr pc L (.int x :: st) j := by
  obtain ⟨p, l, e, s, m, below, meth, c, ⟨D, t, tl⟩, ⟨b, Ln, xs⟩, ⟨a0, aM, o⟩, E⟩ := X
  obtain ⟨⟨hx, hb, hr, hml, hown, hts, hX, hbl, hlk⟩, hL, hlt, hK, ⟨hEok, hXa, hCa⟩, hE, hDM, ho, hMo⟩ := hC
  intro ad σC σM H locs ls hl hI hR hS
  exact lv_tableOut hx hb hd h ht (k ad σC σM H locs ls hl hI hR hS)
theorem hk_tin (hC : hk_C X) {dflt lo hi : Int} {offs : Array Int} {len : Nat} {x : Int32} {off z : Int} {tg : Nat} (hd : decode cL_law pc = .ok (.tableswitch dflt lo hi offs, len)) (h : x.toInt = z) (h1 : ¬ z < lo) (h2 : ¬ hi < z) (ho9 : offs[(z - lo).toNat]? = some off) (ht : (pc : Int) + off = (tg : Int)) (k : hk_G X Rr tg L st j) : hk_G X Rr pc L (.int x :: st) j := by
  obtain ⟨p, l, e, s, m, below, meth, c, ⟨D, t, tl⟩, ⟨b, Ln, xs⟩, ⟨a0, aM, o⟩, E⟩ := X
  obtain ⟨⟨hx, hb, hr, hml, hown, hts, hX, hbl, hlk⟩, hL, hlt, hK, ⟨hEok, hXa, hCa⟩, hE, hDM, ho, hMo⟩ := hC
  intro ad σC σM H locs ls hl hI hR hS
  subst h
  exact lv_tableIn hx hb hd h1 h2 ho9 ht (k ad σC σM H locs ls hl hI hR hS)
/-- the law calls a helper -/
theorem hk_H (hC : hk_C X) {index na mL d : Nat} {y : MethodName} {bytes : ByteArray} {hh : List (Nat × Nat × Nat × Nat)} {vs : Nat → Nat → List Value} {post : Int32 → hg_M → Prop} {Pz : Int32 → Prop} (hM : hg_Eok (hk_E X) → hg_Xa (hk_E X) → hj_Ca (hk_E X) → (hk_l X).stackTraces = false → ∀ σ, iA σ → hj_H (hk_E X) (hk_l X) y bytes mL hh d vs σ post) (hpost : ∀ r σ, post r σ → iA σ ∧ Pz r)
    (hw : hj_Sh RL index y bytes mL hh na) (hd : decode cL_law pc = .ok (.invokestatic index, 3)) (hna : (vs (hk_a X) (hk_o X)).length = na) {st0 : List Value} (hst : st0 = (vs (hk_a X) (hk_o X)).reverse ++ st) (hcat : (st.map fun v => v.category).sum ≤ 8) (hdd : d ≤ 1000) (hj : j < 1000) {n : Nat} (hn : pc + 3 = n)
    (k : ∀ r, Pz r → hk_G X Rr n L (.int r :: st) (j + 1)) : hk_G X Rr pc L st0 j := by
  obtain ⟨p, l, e, s, m, below, meth, c, ⟨D, t, tl⟩, ⟨b, Ln, xs⟩, ⟨a0, aM, o⟩, E⟩ := X
  obtain ⟨⟨hx, hb, hr, hml, hown, hts, hX, hbl, hlk⟩, hL, hlt, hK, ⟨hEok, hXa, hCa⟩, hE, hDM, ho, hMo⟩ := hC
  intro ad σC σM H locs ls hl hI hR hS
  subst hn
  have hI0 := hI
  obtain ⟨rfl, h2, h3, h4, h5, h6, h7, h8⟩ := hI
  refine hj_callH (rest := st) ⟨hx, hb, hml, hown, hts⟩ hK h2 (fun _ h => h) hE hEok ho h3 (hM hEok hXa hCa hlt σC h5.1) hw hd hna hst hcat hl.1 ⟨by show d + 1 ≤ 2048; omega, by show 64 * (d + 1) ≤ 84000; omega⟩ ⟨by show 100 + j + 1 ≤ 601024; omega, by show 50000 + 6 * j + 6 ≤ 7293034; omega⟩ h6 h8 hS (fun r σ1 H1 locs1 hp hP1 hO1 hk1 hS1 => ?_)
  have hq := hpost r σ1 hp
  exact k r hq.2 ad σ1 σM H1 locs1 ls hl (hI0.helper hMo hq.1 hP1 hO1 hk1) hR hS1
/-- the law calls a method of the class's object that answers an int -/
theorem hk_Ci (hC : hk_C X) {index na mL d : Nat} {y : MethodName} {bytes : ByteArray} (hM : hg_Eok (hk_E X) → ∀ σ, iA σ → hg_Ni hg_FC (hk_E X) (hk_l X) y bytes mL (some .int) d (fun ad => [.ref (ad 0)]) hg_rC σ (fun _ σ9 => iA σ9))
    (hw : hg_Sv RL index RX5 y bytes mL (some .int) na) (hd : decode cL_law pc = .ok (.invokevirtual index, 3)) (hna : 0 = na) (hcat : (st.map fun v => v.category).sum ≤ 8) (hdd : d ≤ 1000) (hj : j < 1000) {n : Nat} (hn : pc + 3 = n)
    (k : ∀ r, hk_G X Rr n L (.int r :: st) j) : hk_G X Rr pc L (.ref (hk_a X) :: st) j := by
  obtain ⟨p, l, e, s, m, below, meth, c, ⟨D, t, tl⟩, ⟨b, Ln, xs⟩, ⟨a0, aM, o⟩, E⟩ := X
  obtain ⟨⟨hx, hb, hr, hml, hown, hts, hX, hbl, hlk⟩, hL, hlt, hK, ⟨hEok, hXa, hCa⟩, hE, hDM, ho, hMo⟩ := hC
  intro ad σC σM H locs ls hl hI hR hS
  subst hn
  have hI0 := hI
  obtain ⟨rfl, h2, h3, h4, h5, h6, h7, h8⟩ := hI
  refine hj_callFi (F := hg_FC) (ad := ad) (As := []) (rest := st) ⟨hx, hb, hml, hown, hts⟩ (hj_K hK) h2 (fun _ h => h) hE hEok (hM hEok σC h5.1) hw hd qC_0 kC_0 c_5 hna rfl hcat hl.1 ⟨by show d + 1 ≤ 2048; omega, by show 64 * (d + 1) ≤ 84000; omega⟩ ⟨by show 100 + j ≤ 601024; omega, by show 50000 + 6 * j ≤ 7293034; omega⟩ h6 hS (fun r σ1 ρ1 H1 locs1 hp hP1 hk1 hS1 => ?_)
  obtain ⟨hp, rfl⟩ := hp
  exact k r ad σ1 σM H1 locs1 ls hl (hI0.cls hp hP1 hk1 rfl h2 (fun i hi => ⟨i, hi, rfl⟩)) hR hS1
/-- read: the texts may change places -/
theorem hk_Cr (hC : hk_C X) {index : Nat} (hw : hg_Sv RL index RX5 yX5_read cX5_read 1 (some .int) 0) (hd : decode cL_law pc = .ok (.invokevirtual index, 3)) (hcat : (st.map fun v => v.category).sum ≤ 8) (hj : j < 1000) {n : Nat} (hn : pc + 3 = n)
    (k : ∀ r, hk_G X Rr n L (.int r :: st) j) : hk_G X Rr pc L (.ref (hk_a X) :: st) j := by
  obtain ⟨p, l, e, s, m, below, meth, c, ⟨D, t, tl⟩, ⟨b, Ln, xs⟩, ⟨a0, aM, o⟩, E⟩ := X
  obtain ⟨⟨hx, hb, hr, hml, hown, hts, hX, hbl, hlk⟩, hL, hlt, hK, ⟨hEok, hXa, hCa⟩, hE, hDM, ho, hMo⟩ := hC
  intro ad σC σM H locs ls hl hI hR hS
  subst hn
  have hI0 := hI
  obtain ⟨rfl, h2, h3, h4, h5, h6, h7, h8⟩ := hI
  refine hj_callFi (F := hg_FC) (ad := ad) (As := []) (rest := st) ⟨hx, hb, hml, hown, hts⟩ (hj_K hK) h2 (fun _ h => h) hE hEok (tC_X5_read hEok l 0 σC (fun _ σ9 => iA σ9) (fun _ σ9 => iA (fun q => σ9 (hg_sw q))) (pA_read h5.1 (fun _ _ h => h) (fun _ _ h => h))) hw hd qC_0 kC_0 c_5 rfl rfl hcat hl.1 ⟨by show 0 + 9 + 1 ≤ 2048; omega, by show 64 * (0 + 9 + 1) ≤ 84000; omega⟩ ⟨by show 100 + j ≤ 601024; omega, by show 50000 + 6 * j ≤ 7293034; omega⟩ h6 hS (fun r σ1 ρ1 H1 locs1 hp hP1 hk1 hS1 => ?_)
  rcases hp with ⟨hp, rfl⟩ | ⟨hp, rfl⟩
  · exact k r ad σ1 σM H1 locs1 ls hl (hI0.cls hp hP1 hk1 rfl h2 (fun i hi => ⟨i, hi, rfl⟩)) hR hS1
  · exact k r (fun q => ad (hg_sw q)) (fun q => σ1 (hg_sw q)) σM H1 locs1 ls hl (hI0.cls hp (hg_swP hP1) hk1 (by rfl) (hg_swD h2) (fun i hi => ⟨hg_sw i, hg_sw_lt hi, rfl⟩)) hR hS1
/-- the law calls the reference -/
theorem hk_Mi (hC : hk_C X) {index na mL d : Nat} {y : MethodName} {bytes : ByteArray} {As : List Value} {Pr : hg_M → Int32 → hg_M → Prop} (hM : hg_Eok (hk_E X) → ∀ σ, iB σ → Rr σ → hg_Ni hg_FM (hk_E X) (hk_l X) y bytes mL (some .int) d (fun ad => .ref (ad 0) :: As) hg_rM σ (fun r σ9 => iB σ9 ∧ Pr σ r σ9))
    (hw : hg_Sv RL index RX6 y bytes mL (some .int) na) (hd : decode cL_law pc = .ok (.invokevirtual index, 3)) (hna : As.length = na) {st0 : List Value} (hst : st0 = As.reverse ++ .ref (hk_M X 0) :: st) (hcat : (st.map fun v => v.category).sum ≤ 8) (hdd : d ≤ 1000) (hj : j < 1000) {n : Nat} (hn : pc + 3 = n)
    (k : ∀ σ r, Rr σ → hk_G X (Pr σ r) n L (.int r :: st) j) : hk_G X Rr pc L st0 j := by
  obtain ⟨p, l, e, s, m, below, meth, c, ⟨D, t, tl⟩, ⟨b, Ln, xs⟩, ⟨a0, aM, o⟩, E⟩ := X
  obtain ⟨⟨hx, hb, hr, hml, hown, hts, hX, hbl, hlk⟩, hL, hlt, hK, ⟨hEok, hXa, hCa⟩, hE, hDM, ho, hMo⟩ := hC
  intro ad σC σM H locs ls hl hI hR hS
  subst hn
  obtain ⟨h1, h2, h3, h4, h5, h6, h7, h8⟩ := id hI
  refine hj_callFi (F := hg_FM) (ad := aM) (As := As) (rest := st) ⟨hx, hb, hml, hown, hts⟩ (hj_K hK) hDM (fun _ h => h) hE hEok (hM hEok σM h5.2 hR) hw hd qM_0 kM_0 c_6 hna hst hcat hl.1 ⟨by show d + 1 ≤ 2048; omega, by show 64 * (d + 1) ≤ 84000; omega⟩ ⟨by show 100 + j ≤ 601024; omega, by show 50000 + 6 * j ≤ 7293034; omega⟩ h7 hS (fun r σ1 ρ1 H1 locs1 hp hP1 hk1 hS1 => ?_)
  obtain ⟨⟨hp, hq⟩, rfl⟩ := hp
  exact k σM r hR ad σC σ1 H1 locs1 ls hl (hI.mod hMo hp hP1 hk1) hq hS1
theorem hk_Mv (hC : hk_C X) {index na mL d : Nat} {y : MethodName} {bytes : ByteArray} {As : List Value} {Pr : hg_M → Prop} (hM : hg_Eok (hk_E X) → ∀ σ, iB σ → hg_Nv hg_FM (hk_E X) (hk_l X) y bytes mL d (fun ad => .ref (ad 0) :: As) hg_rM σ (fun σ9 => iB σ9 ∧ Pr σ9))
    (hw : hg_Sv RL index RX6 y bytes mL none na) (hd : decode cL_law pc = .ok (.invokevirtual index, 3)) (hna : As.length = na) {st0 : List Value} (hst : st0 = As.reverse ++ .ref (hk_M X 0) :: st) (hcat : (st.map fun v => v.category).sum ≤ 8) (hdd : d ≤ 1000) (hj : j < 1000) {n : Nat} (hn : pc + 3 = n)
    (k : hk_G X Pr n L st j) : hk_G X Rr pc L st0 j := by
  obtain ⟨p, l, e, s, m, below, meth, c, ⟨D, t, tl⟩, ⟨b, Ln, xs⟩, ⟨a0, aM, o⟩, E⟩ := X
  obtain ⟨⟨hx, hb, hr, hml, hown, hts, hX, hbl, hlk⟩, hL, hlt, hK, ⟨hEok, hXa, hCa⟩, hE, hDM, ho, hMo⟩ := hC
  intro ad σC σM H locs ls hl hI hR hS
  subst hn
  obtain ⟨h1, h2, h3, h4, h5, h6, h7, h8⟩ := id hI
  refine hj_callFv (F := hg_FM) (ad := aM) (As := As) (rest := st) ⟨hx, hb, hml, hown, hts⟩ (hj_K hK) hDM (fun _ h => h) hE hEok (hM hEok σM h5.2) hw hd qM_0 kM_0 c_6 hna hst hcat hl.1 ⟨by show d + 1 ≤ 2048; omega, by show 64 * (d + 1) ≤ 84000; omega⟩ ⟨by show 100 + j ≤ 601024; omega, by show 50000 + 6 * j ≤ 7293034; omega⟩ h7 hS (fun σ1 ρ1 H1 locs1 hp hP1 hk1 hS1 => ?_)
  obtain ⟨⟨hp, hq⟩, rfl⟩ := hp
  exact k ad σC σ1 H1 locs1 ls hl (hI.mod hMo hp hP1 hk1) hq hS1
/-- the law's end -/
theorem hk_end (hC : hk_C X) (hd : decode cL_law pc = .ok (.ireturn, 1)) (hj : j < 1000) : hk_G X Rr pc L [.int 1] j := by
  obtain ⟨p, l, e, s, m, below, meth, c, ⟨D, t, tl⟩, ⟨b, Ln, xs⟩, ⟨a0, aM, o⟩, E⟩ := X
  obtain ⟨⟨hx, hb, hr, hml, hown, hts, hX, hbl, hlk⟩, hL, hlt, hK, ⟨hEok, hXa, hCa⟩, hE, hDM, ho, hMo⟩ := hC
  intro ad σC σM H locs ls hl hI hR hS
  refine va_forget (fun q hq => hS.2.2 q hq) ?_
  refine W.widen (k := 601024) (n := 7293034) (by omega) (by omega) ?_
  exact lw_ret hx hb hr hlk hd
set_option maxRecDepth 4000 in
theorem hk_case_0 (hC : hk_C X) {x4 : Int32} (h1 : vp_in (x4 + 1) (hk_n X)) (h2 : vp_in (x4 + 2) (hk_n X)) (h3 : vp_in (x4 + 3) (hk_n X)) (hj : j < 1000) (hj1 : j + 1 < 1000) (k : hk_G X (fun _ => True) 557 [(0, .ref (hk_b X)), (1, .ref (hk_a X)), (2, .ref (hk_M X 0)), (3, .ref (hk_o X)), (4, .int x4)] [] (j + 1)) : hk_G X (fun _ => True) 112 [(0, .ref (hk_b X)), (1, .ref (hk_a X)), (2, .ref (hk_M X 0)), (3, .ref (hk_o X)), (4, .int x4)] [] j := by
  refine hk_aload_n hC dL_law_112 rfl 1 rfl rfl ?_
  refine hk_aload_n hC dL_law_113 rfl 0 rfl rfl ?_
  refine hk_iload hC dL_law_114 4 rfl rfl ?_
  refine hk_iconst (v := 1) hC dL_law_116 (by decide) rfl ?_
  refine hk_iadd hC dL_law_117 rfl ?_
  refine hk_sld hC dL_law_118 h1 rfl ?_
  refine hk_aload_n hC dL_law_119 rfl 0 rfl rfl ?_
  refine hk_iload hC dL_law_120 4 rfl rfl ?_
  refine hk_iconst (v := 2) hC dL_law_122 (by decide) rfl ?_
  refine hk_iadd hC dL_law_123 rfl ?_
  refine hk_sld hC dL_law_124 h2 rfl ?_
  refine hk_H (Pz := (fun r => (r = 0 ∧ 0 ≤ (hk_xs X (x4 + 1).toNatClampNeg) ∧ (hk_xs X (x4 + 1).toNatClampNeg) < 16) ∨ (r = 1 ∧ ((hk_xs X (x4 + 1).toNatClampNeg) < 0 ∨ 16 ≤ (hk_xs X (x4 + 1).toNatClampNeg))))) (st := []) hC (fun hE hX hCa hlt σ h => tH_variable hE hX hCa _ hlt ((hk_xs X (x4 + 1).toNatClampNeg)) ((hk_xs X (x4 + 2).toNatClampNeg)) σ h) (fun r σ h => h) sh_RL_57 dL_law_125 rfl rfl (Nat.le_of_ble_eq_true rfl) (by decide) hj rfl (fun r5 hr5 => ?_)
  refine hk_istore (L1 := [(5, .int r5), (0, .ref (hk_b X)), (1, .ref (hk_a X)), (2, .ref (hk_M X 0)), (3, .ref (hk_o X)), (4, .int x4)]) hC dL_law_128 (by decide) rfl rfl ?_
  refine hk_aload_n hC dL_law_130 rfl 3 rfl rfl ?_
  refine hk_aload_n hC dL_law_131 rfl 1 rfl rfl ?_
  refine hk_iload hC dL_law_132 5 rfl rfl ?_
  refine hk_iconst (v := 1) hC dL_law_134 (by decide) rfl ?_
  refine hk_iadd hC dL_law_135 rfl ?_
  refine hk_sld hC dL_law_136 h1 rfl ?_
  refine hk_aload_n hC dL_law_137 rfl 1 rfl rfl ?_
  refine hk_iload hC dL_law_138 5 rfl rfl ?_
  refine hk_iconst (v := 2) hC dL_law_140 (by decide) rfl ?_
  refine hk_iadd hC dL_law_141 rfl ?_
  refine hk_sld hC dL_law_142 h2 rfl ?_
  refine hk_Mv (As := [.int (hk_xs X (x4 + 1).toNatClampNeg), .int (hk_xs X (x4 + 2).toNatClampNeg)]) (st := []) (Pr := (fun σ9 => (0 ≤ (hk_xs X (x4 + 1).toNatClampNeg) ∧ (hk_xs X (x4 + 1).toNatClampNeg) < 16 ∧ σ9 0 0 = 0) ∨ (((hk_xs X (x4 + 1).toNatClampNeg) < 0 ∨ 16 ≤ (hk_xs X (x4 + 1).toNatClampNeg)) ∧ σ9 0 0 = 1))) hC (fun hE σ h => tM_X6_variable hE _ 0 ((hk_xs X (x4 + 1).toNatClampNeg)) ((hk_xs X (x4 + 2).toNatClampNeg)) σ _ (qB_variable h (fun σ9 a b => ⟨a, b⟩))) sv_RL_62 dL_law_143 rfl rfl (Nat.le_of_ble_eq_true rfl) (by decide) hj1 rfl ?_
  refine hk_goto (tg := 557) hC dL_law_146 (by decide) ?_
  refine hk_sub (L1 := [(0, .ref (hk_b X)), (1, .ref (hk_a X)), (2, .ref (hk_M X 0)), (3, .ref (hk_o X)), (4, .int x4)]) [1, 2, 3, 4, 5] rfl ?_
  exact hk_weak k (fun _ _ => trivial)
set_option maxRecDepth 4000 in
theorem hk_case_1 (hC : hk_C X) {x4 : Int32} (h1 : vp_in (x4 + 1) (hk_n X)) (h2 : vp_in (x4 + 2) (hk_n X)) (h3 : vp_in (x4 + 3) (hk_n X)) (hj : j < 1000) (hj1 : j + 1 < 1000) (k : hk_G X (fun _ => True) 557 [(0, .ref (hk_b X)), (1, .ref (hk_a X)), (2, .ref (hk_M X 0)), (3, .ref (hk_o X)), (4, .int x4)] [] (j + 1)) : hk_G X (fun _ => True) 149 [(0, .ref (hk_b X)), (1, .ref (hk_a X)), (2, .ref (hk_M X 0)), (3, .ref (hk_o X)), (4, .int x4)] [] j := by
  refine hk_aload_n hC dL_law_149 rfl 1 rfl rfl ?_
  refine hk_aload_n hC dL_law_150 rfl 0 rfl rfl ?_
  refine hk_iload hC dL_law_151 4 rfl rfl ?_
  refine hk_iconst (v := 1) hC dL_law_153 (by decide) rfl ?_
  refine hk_iadd hC dL_law_154 rfl ?_
  refine hk_sld hC dL_law_155 h1 rfl ?_
  refine hk_aload_n hC dL_law_156 rfl 0 rfl rfl ?_
  refine hk_iload hC dL_law_157 4 rfl rfl ?_
  refine hk_iconst (v := 2) hC dL_law_159 (by decide) rfl ?_
  refine hk_iadd hC dL_law_160 rfl ?_
  refine hk_sld hC dL_law_161 h2 rfl ?_
  refine hk_H (Pz := (fun r => (r = 0 ∧ 0 ≤ (hk_xs X (x4 + 1).toNatClampNeg) ∧ (hk_xs X (x4 + 1).toNatClampNeg) < 32) ∨ (r = 1 ∧ ((hk_xs X (x4 + 1).toNatClampNeg) < 0 ∨ 32 ≤ (hk_xs X (x4 + 1).toNatClampNeg))))) (st := []) hC (fun hE hX hCa hlt σ h => tH_word hE hX hCa _ hlt ((hk_xs X (x4 + 1).toNatClampNeg)) ((hk_xs X (x4 + 2).toNatClampNeg)) σ h) (fun r σ h => h) sh_RL_63 dL_law_162 rfl rfl (Nat.le_of_ble_eq_true rfl) (by decide) hj rfl (fun r5 hr5 => ?_)
  refine hk_istore (L1 := [(5, .int r5), (0, .ref (hk_b X)), (1, .ref (hk_a X)), (2, .ref (hk_M X 0)), (3, .ref (hk_o X)), (4, .int x4)]) hC dL_law_165 (by decide) rfl rfl ?_
  refine hk_aload_n hC dL_law_167 rfl 3 rfl rfl ?_
  refine hk_aload_n hC dL_law_168 rfl 1 rfl rfl ?_
  refine hk_iload hC dL_law_169 5 rfl rfl ?_
  refine hk_iconst (v := 1) hC dL_law_171 (by decide) rfl ?_
  refine hk_iadd hC dL_law_172 rfl ?_
  refine hk_sld hC dL_law_173 h1 rfl ?_
  refine hk_aload_n hC dL_law_174 rfl 1 rfl rfl ?_
  refine hk_iload hC dL_law_175 5 rfl rfl ?_
  refine hk_iconst (v := 2) hC dL_law_177 (by decide) rfl ?_
  refine hk_iadd hC dL_law_178 rfl ?_
  refine hk_sld hC dL_law_179 h2 rfl ?_
  refine hk_Mv (As := [.int (hk_xs X (x4 + 1).toNatClampNeg), .int (hk_xs X (x4 + 2).toNatClampNeg)]) (st := []) (Pr := (fun σ9 => (0 ≤ (hk_xs X (x4 + 1).toNatClampNeg) ∧ (hk_xs X (x4 + 1).toNatClampNeg) < 32 ∧ σ9 0 0 = 0) ∨ (((hk_xs X (x4 + 1).toNatClampNeg) < 0 ∨ 32 ≤ (hk_xs X (x4 + 1).toNatClampNeg)) ∧ σ9 0 0 = 1))) hC (fun hE σ h => tM_X6_word hE _ 0 ((hk_xs X (x4 + 1).toNatClampNeg)) ((hk_xs X (x4 + 2).toNatClampNeg)) σ _ (qB_word h (fun σ9 a b => ⟨a, b⟩))) sv_RL_65 dL_law_180 rfl rfl (Nat.le_of_ble_eq_true rfl) (by decide) hj1 rfl ?_
  refine hk_aload_n hC dL_law_183 rfl 3 rfl rfl ?_
  refine hk_Mi (As := []) (st := []) (Pr := fun σ r _ => r = σ 0 0) hC (fun hE σ h _ => tM_X6_thrown hE _ 0 σ _ (qB_thrown ⟨h, rfl⟩)) sv_RL_66 dL_law_184 rfl rfl (Nat.le_of_ble_eq_true rfl) (by decide) hj1 rfl (fun σt rt hRt => ?_)
  refine hk_weak (R1 := fun σ9 => True ∧ rt = σt 0 0) (hk_know (Rr := fun _ => True) (fun hrt => ?_)) (fun _ h9 => ⟨trivial, h9⟩)
  refine hk_iload hC dL_law_187 0 rfl rfl ?_
  have hqq : rt = r5 := by
    rcases hr5 with ⟨e1, a1, a2⟩ | ⟨e1, a1⟩ <;> rcases hRt with ⟨b1, b2, b3⟩ | ⟨b1, b3⟩
    · exact (hrt.trans b3).trans e1.symm
    · exfalso; grind
    · exfalso; grind
    · exact (hrt.trans b3).trans e1.symm
  refine hk_icmp_eq (tg := 194) hC dL_law_189 (by decide) rfl (fun _ => ?_) (fun hne => absurd hqq hne)
  refine hk_goto (tg := 557) hC dL_law_194 (by decide) ?_
  refine hk_sub (L1 := [(0, .ref (hk_b X)), (1, .ref (hk_a X)), (2, .ref (hk_M X 0)), (3, .ref (hk_o X)), (4, .int x4)]) [1, 2, 3, 4, 5] rfl ?_
  exact hk_weak k (fun _ _ => trivial)
set_option maxRecDepth 4000 in
theorem hk_case_2 (hC : hk_C X) {x4 : Int32} (h1 : vp_in (x4 + 1) (hk_n X)) (h2 : vp_in (x4 + 2) (hk_n X)) (h3 : vp_in (x4 + 3) (hk_n X)) (hj : j < 1000) (hj1 : j + 1 < 1000) (k : hk_G X (fun _ => True) 557 [(0, .ref (hk_b X)), (1, .ref (hk_a X)), (2, .ref (hk_M X 0)), (3, .ref (hk_o X)), (4, .int x4)] [] (j + 1)) : hk_G X (fun _ => True) 197 [(0, .ref (hk_b X)), (1, .ref (hk_a X)), (2, .ref (hk_M X 0)), (3, .ref (hk_o X)), (4, .int x4)] [] j := by
  refine hk_aload_n hC dL_law_197 rfl 1 rfl rfl ?_
  refine hk_aload_n hC dL_law_198 rfl 0 rfl rfl ?_
  refine hk_iload hC dL_law_199 4 rfl rfl ?_
  refine hk_iconst (v := 1) hC dL_law_201 (by decide) rfl ?_
  refine hk_iadd hC dL_law_202 rfl ?_
  refine hk_sld hC dL_law_203 h1 rfl ?_
  refine hk_i2l hC dL_law_204 rfl rfl ?_
  refine hk_bipush (v := 32) hC dL_law_205 (by decide) rfl ?_
  refine hk_lshl hC dL_law_207 rfl rfl ?_
  refine hk_aload_n hC dL_law_208 rfl 0 rfl rfl ?_
  refine hk_iload hC dL_law_209 4 rfl rfl ?_
  refine hk_iconst (v := 2) hC dL_law_211 (by decide) rfl ?_
  refine hk_iadd hC dL_law_212 rfl ?_
  refine hk_sld hC dL_law_213 h2 rfl ?_
  refine hk_i2l hC dL_law_214 rfl rfl ?_
  refine hk_ldc2 (v := 4294967295) hC dL_law_215 (hg_m5 230 (by decide +kernel) rfl) rfl ?_
  refine hk_land hC dL_law_218 rfl ?_
  refine hk_lor hC dL_law_219 rfl ?_
  refine hk_aload_n hC dL_law_220 rfl 0 rfl rfl ?_
  refine hk_iload hC dL_law_221 4 rfl rfl ?_
  refine hk_iconst (v := 3) hC dL_law_223 (by decide) rfl ?_
  refine hk_iadd hC dL_law_224 rfl ?_
  refine hk_sld hC dL_law_225 h3 rfl ?_
  refine hk_aload_n hC dL_law_226 rfl 3 rfl rfl ?_
  refine hk_H (Pz := (fun _ => True)) (st := []) hC (fun hE hX hCa hlt σ h => tH_feed hE hX hCa _ hlt (((((hk_xs X (x4 + 1).toNatClampNeg)).toInt64 <<< ((32 : Int32).toInt64 &&& 63)) ||| (((hk_xs X (x4 + 2).toNatClampNeg)).toInt64 &&& 4294967295))) ((hk_xs X (x4 + 3).toNatClampNeg)) σ h) (fun r σ h => ⟨h, trivial⟩) sh_RL_71 dL_law_227 rfl rfl (Nat.le_of_ble_eq_true rfl) (by decide) hj rfl (fun r5 hr5 => ?_)
  refine hk_istore (L1 := [(5, .int r5), (0, .ref (hk_b X)), (1, .ref (hk_a X)), (2, .ref (hk_M X 0)), (3, .ref (hk_o X)), (4, .int x4)]) hC dL_law_230 (by decide) rfl rfl ?_
  refine hk_aload_n hC dL_law_232 rfl 3 rfl rfl ?_
  refine hk_aload_n hC dL_law_233 rfl 1 rfl rfl ?_
  refine hk_iload hC dL_law_234 5 rfl rfl ?_
  refine hk_iconst (v := 1) hC dL_law_236 (by decide) rfl ?_
  refine hk_iadd hC dL_law_237 rfl ?_
  refine hk_sld hC dL_law_238 h1 rfl ?_
  refine hk_i2l hC dL_law_239 rfl rfl ?_
  refine hk_bipush (v := 32) hC dL_law_240 (by decide) rfl ?_
  refine hk_lshl hC dL_law_242 rfl rfl ?_
  refine hk_aload_n hC dL_law_243 rfl 1 rfl rfl ?_
  refine hk_iload hC dL_law_244 5 rfl rfl ?_
  refine hk_iconst (v := 2) hC dL_law_246 (by decide) rfl ?_
  refine hk_iadd hC dL_law_247 rfl ?_
  refine hk_sld hC dL_law_248 h2 rfl ?_
  refine hk_i2l hC dL_law_249 rfl rfl ?_
  refine hk_ldc2 (v := 4294967295) hC dL_law_250 (hg_m5 230 (by decide +kernel) rfl) rfl ?_
  refine hk_land hC dL_law_253 rfl ?_
  refine hk_lor hC dL_law_254 rfl ?_
  refine hk_aload_n hC dL_law_255 rfl 1 rfl rfl ?_
  refine hk_iload hC dL_law_256 5 rfl rfl ?_
  refine hk_iconst (v := 3) hC dL_law_258 (by decide) rfl ?_
  refine hk_iadd hC dL_law_259 rfl ?_
  refine hk_sld hC dL_law_260 h3 rfl ?_
  refine hk_Mi (As := [.long ((((hk_xs X (x4 + 1).toNatClampNeg)).toInt64 <<< ((32 : Int32).toInt64 &&& 63)) ||| (((hk_xs X (x4 + 2).toNatClampNeg)).toInt64 &&& 4294967295)), .int (hk_xs X (x4 + 3).toNatClampNeg)]) (st := []) (Pr := fun _ _ _ => True) hC (fun hE σ h _ => tM_X6_feed hE _ 0 (((((hk_xs X (x4 + 1).toNatClampNeg)).toInt64 <<< ((32 : Int32).toInt64 &&& 63)) ||| (((hk_xs X (x4 + 2).toNatClampNeg)).toInt64 &&& 4294967295))) ((hk_xs X (x4 + 3).toNatClampNeg)) σ _ (qB_feed h (fun r9 σ9 a => ⟨a, trivial⟩))) sv_RL_74 dL_law_261 rfl rfl (Nat.le_of_ble_eq_true rfl) (by decide) hj1 rfl (fun σt rt _ => ?_)
  refine hk_istore (L1 := [(6, .int rt), (5, .int r5), (0, .ref (hk_b X)), (1, .ref (hk_a X)), (2, .ref (hk_M X 0)), (3, .ref (hk_o X)), (4, .int x4)]) hC dL_law_264 (by decide) rfl rfl ?_
  refine hk_goto (tg := 557) hC dL_law_266 (by decide) ?_
  refine hk_sub (L1 := [(0, .ref (hk_b X)), (1, .ref (hk_a X)), (2, .ref (hk_M X 0)), (3, .ref (hk_o X)), (4, .int x4)]) [2, 3, 4, 5, 6] rfl ?_
  exact hk_weak k (fun _ _ => trivial)
set_option maxRecDepth 4000 in
theorem hk_case_3 (hC : hk_C X) {x4 : Int32} (h1 : vp_in (x4 + 1) (hk_n X)) (h2 : vp_in (x4 + 2) (hk_n X)) (h3 : vp_in (x4 + 3) (hk_n X)) (hj : j < 1000) (hj1 : j + 1 < 1000) (k : hk_G X (fun _ => True) 557 [(0, .ref (hk_b X)), (1, .ref (hk_a X)), (2, .ref (hk_M X 0)), (3, .ref (hk_o X)), (4, .int x4)] [] (j + 1)) : hk_G X (fun _ => True) 269 [(0, .ref (hk_b X)), (1, .ref (hk_a X)), (2, .ref (hk_M X 0)), (3, .ref (hk_o X)), (4, .int x4)] [] j := by
  refine hk_aload_n hC dL_law_269 rfl 1 rfl rfl ?_
  refine hk_Cr (st := []) hC sv_RL_75 dL_law_270 (Nat.le_of_ble_eq_true rfl) hj rfl (fun r5 => ?_)
  refine hk_pop hC dL_law_273 rfl rfl ?_
  refine hk_aload_n hC dL_law_274 rfl 2 rfl rfl ?_
  refine hk_Mi (As := []) (st := []) (Pr := fun _ _ _ => True) hC (fun hE σ h _ => tM_X6_read hE _ 0  σ _ (qB_read h (fun r9 σ9 a => ⟨a, trivial⟩))) sv_RL_78 dL_law_275 rfl rfl (Nat.le_of_ble_eq_true rfl) (by decide) hj rfl (fun σt rt _ => ?_)
  refine hk_pop hC dL_law_278 rfl rfl ?_
  refine hk_goto (tg := 557) hC dL_law_279 (by decide) ?_
  refine hk_sub (L1 := [(0, .ref (hk_b X)), (1, .ref (hk_a X)), (2, .ref (hk_M X 0)), (3, .ref (hk_o X)), (4, .int x4)]) [0, 1, 2, 3, 4] rfl ?_
  refine hk_up hC ?_
  exact hk_weak k (fun _ _ => trivial)
set_option maxRecDepth 4000 in
theorem hk_case_4 (hC : hk_C X) {x4 : Int32} (h1 : vp_in (x4 + 1) (hk_n X)) (h2 : vp_in (x4 + 2) (hk_n X)) (h3 : vp_in (x4 + 3) (hk_n X)) (hj : j < 1000) (hj1 : j + 1 < 1000) (k : hk_G X (fun _ => True) 557 [(0, .ref (hk_b X)), (1, .ref (hk_a X)), (2, .ref (hk_M X 0)), (3, .ref (hk_o X)), (4, .int x4)] [] (j + 1)) : hk_G X (fun _ => True) 282 [(0, .ref (hk_b X)), (1, .ref (hk_a X)), (2, .ref (hk_M X 0)), (3, .ref (hk_o X)), (4, .int x4)] [] j := by
  refine hk_aload_n hC dL_law_282 rfl 1 rfl rfl ?_
  refine hk_Ci (st := []) hC (fun hE σ h => tC_X5_fault hE _ 0 σ _ (pA_fault (fun _ => h))) sv_RL_79 dL_law_283 rfl (Nat.le_of_ble_eq_true rfl) (by decide) hj rfl (fun r5 => ?_)
  refine hk_pop hC dL_law_286 rfl rfl ?_
  refine hk_aload_n hC dL_law_287 rfl 2 rfl rfl ?_
  refine hk_Mi (As := []) (st := []) (Pr := fun _ _ _ => True) hC (fun hE σ h _ => tM_X6_fault hE _ 0  σ _ (qB_fault h (fun r9 σ9 a => ⟨a, trivial⟩))) sv_RL_82 dL_law_288 rfl rfl (Nat.le_of_ble_eq_true rfl) (by decide) hj rfl (fun σt rt _ => ?_)
  refine hk_pop hC dL_law_291 rfl rfl ?_
  refine hk_goto (tg := 557) hC dL_law_292 (by decide) ?_
  refine hk_sub (L1 := [(0, .ref (hk_b X)), (1, .ref (hk_a X)), (2, .ref (hk_M X 0)), (3, .ref (hk_o X)), (4, .int x4)]) [0, 1, 2, 3, 4] rfl ?_
  refine hk_up hC ?_
  exact hk_weak k (fun _ _ => trivial)
set_option maxRecDepth 4000 in
theorem hk_case_5 (hC : hk_C X) {x4 : Int32} (h1 : vp_in (x4 + 1) (hk_n X)) (h2 : vp_in (x4 + 2) (hk_n X)) (h3 : vp_in (x4 + 3) (hk_n X)) (hj : j < 1000) (hj1 : j + 1 < 1000) (k : hk_G X (fun _ => True) 557 [(0, .ref (hk_b X)), (1, .ref (hk_a X)), (2, .ref (hk_M X 0)), (3, .ref (hk_o X)), (4, .int x4)] [] (j + 1)) : hk_G X (fun _ => True) 295 [(0, .ref (hk_b X)), (1, .ref (hk_a X)), (2, .ref (hk_M X 0)), (3, .ref (hk_o X)), (4, .int x4)] [] j := by
  refine hk_aload_n hC dL_law_295 rfl 1 rfl rfl ?_
  refine hk_aload_n hC dL_law_296 rfl 0 rfl rfl ?_
  refine hk_iload hC dL_law_297 4 rfl rfl ?_
  refine hk_iconst (v := 1) hC dL_law_299 (by decide) rfl ?_
  refine hk_iadd hC dL_law_300 rfl ?_
  refine hk_sld hC dL_law_301 h1 rfl ?_
  refine hk_aload_n hC dL_law_302 rfl 0 rfl rfl ?_
  refine hk_iload hC dL_law_303 4 rfl rfl ?_
  refine hk_iconst (v := 2) hC dL_law_305 (by decide) rfl ?_
  refine hk_iadd hC dL_law_306 rfl ?_
  refine hk_sld hC dL_law_307 h2 rfl ?_
  refine hk_aload_n hC dL_law_308 rfl 3 rfl rfl ?_
  refine hk_H (Pz := (fun _ => True)) (st := []) hC (fun hE hX hCa hlt σ h => tH_statement hE hX hCa _ hlt ((hk_xs X (x4 + 1).toNatClampNeg)) ((hk_xs X (x4 + 2).toNatClampNeg)) σ h) (fun r σ h => ⟨h, trivial⟩) sh_RL_83 dL_law_309 rfl rfl (Nat.le_of_ble_eq_true rfl) (by decide) hj rfl (fun r5 hr5 => ?_)
  refine hk_istore (L1 := [(5, .int r5), (0, .ref (hk_b X)), (1, .ref (hk_a X)), (2, .ref (hk_M X 0)), (3, .ref (hk_o X)), (4, .int x4)]) hC dL_law_312 (by decide) rfl rfl ?_
  refine hk_aload_n hC dL_law_314 rfl 3 rfl rfl ?_
  refine hk_aload_n hC dL_law_315 rfl 1 rfl rfl ?_
  refine hk_iload hC dL_law_316 5 rfl rfl ?_
  refine hk_iconst (v := 1) hC dL_law_318 (by decide) rfl ?_
  refine hk_iadd hC dL_law_319 rfl ?_
  refine hk_sld hC dL_law_320 h1 rfl ?_
  refine hk_aload_n hC dL_law_321 rfl 1 rfl rfl ?_
  refine hk_iload hC dL_law_322 5 rfl rfl ?_
  refine hk_iconst (v := 2) hC dL_law_324 (by decide) rfl ?_
  refine hk_iadd hC dL_law_325 rfl ?_
  refine hk_sld hC dL_law_326 h2 rfl ?_
  refine hk_Mi (As := [.int (hk_xs X (x4 + 1).toNatClampNeg), .int (hk_xs X (x4 + 2).toNatClampNeg)]) (st := []) (Pr := fun _ _ _ => True) hC (fun hE σ h _ => tM_X6_statement hE _ 0 ((hk_xs X (x4 + 1).toNatClampNeg)) ((hk_xs X (x4 + 2).toNatClampNeg)) σ _ (qB_statement h (fun r9 σ9 a => ⟨a, trivial⟩))) sv_RL_86 dL_law_327 rfl rfl (Nat.le_of_ble_eq_true rfl) (by decide) hj1 rfl (fun σt rt _ => ?_)
  refine hk_istore (L1 := [(6, .int rt), (5, .int r5), (0, .ref (hk_b X)), (1, .ref (hk_a X)), (2, .ref (hk_M X 0)), (3, .ref (hk_o X)), (4, .int x4)]) hC dL_law_330 (by decide) rfl rfl ?_
  refine hk_goto (tg := 557) hC dL_law_332 (by decide) ?_
  refine hk_sub (L1 := [(0, .ref (hk_b X)), (1, .ref (hk_a X)), (2, .ref (hk_M X 0)), (3, .ref (hk_o X)), (4, .int x4)]) [2, 3, 4, 5, 6] rfl ?_
  exact hk_weak k (fun _ _ => trivial)
set_option maxRecDepth 4000 in
theorem hk_case_6 (hC : hk_C X) {x4 : Int32} (h1 : vp_in (x4 + 1) (hk_n X)) (h2 : vp_in (x4 + 2) (hk_n X)) (h3 : vp_in (x4 + 3) (hk_n X)) (hj : j < 1000) (hj1 : j + 1 < 1000) (k : hk_G X (fun _ => True) 557 [(0, .ref (hk_b X)), (1, .ref (hk_a X)), (2, .ref (hk_M X 0)), (3, .ref (hk_o X)), (4, .int x4)] [] (j + 1)) : hk_G X (fun _ => True) 335 [(0, .ref (hk_b X)), (1, .ref (hk_a X)), (2, .ref (hk_M X 0)), (3, .ref (hk_o X)), (4, .int x4)] [] j := by
  refine hk_aload_n hC dL_law_335 rfl 1 rfl rfl ?_
  refine hk_aload_n hC dL_law_336 rfl 0 rfl rfl ?_
  refine hk_iload hC dL_law_337 4 rfl rfl ?_
  refine hk_iconst (v := 1) hC dL_law_339 (by decide) rfl ?_
  refine hk_iadd hC dL_law_340 rfl ?_
  refine hk_sld hC dL_law_341 h1 rfl ?_
  refine hk_aload_n hC dL_law_342 rfl 3 rfl rfl ?_
  refine hk_H (Pz := (fun _ => True)) (st := []) hC (fun hE hX hCa hlt σ h => tH_lower hE hX hCa _ hlt ((hk_xs X (x4 + 1).toNatClampNeg)) σ h) (fun r σ h => ⟨h, trivial⟩) sh_RL_87 dL_law_343 rfl rfl (Nat.le_of_ble_eq_true rfl) (by decide) hj rfl (fun r5 hr5 => ?_)
  refine hk_istore (L1 := [(5, .int r5), (0, .ref (hk_b X)), (1, .ref (hk_a X)), (2, .ref (hk_M X 0)), (3, .ref (hk_o X)), (4, .int x4)]) hC dL_law_346 (by decide) rfl rfl ?_
  refine hk_aload_n hC dL_law_348 rfl 3 rfl rfl ?_
  refine hk_aload_n hC dL_law_349 rfl 1 rfl rfl ?_
  refine hk_iload hC dL_law_350 5 rfl rfl ?_
  refine hk_iconst (v := 1) hC dL_law_352 (by decide) rfl ?_
  refine hk_iadd hC dL_law_353 rfl ?_
  refine hk_sld hC dL_law_354 h1 rfl ?_
  refine hk_Mi (As := [.int (hk_xs X (x4 + 1).toNatClampNeg)]) (st := []) (Pr := fun _ _ _ => True) hC (fun hE σ h _ => tM_X6_lower hE _ 0 ((hk_xs X (x4 + 1).toNatClampNeg)) σ _ (qB_lower h (fun r9 σ9 a => ⟨a, trivial⟩))) sv_RL_90 dL_law_355 rfl rfl (Nat.le_of_ble_eq_true rfl) (by decide) hj1 rfl (fun σt rt _ => ?_)
  refine hk_istore (L1 := [(6, .int rt), (5, .int r5), (0, .ref (hk_b X)), (1, .ref (hk_a X)), (2, .ref (hk_M X 0)), (3, .ref (hk_o X)), (4, .int x4)]) hC dL_law_358 (by decide) rfl rfl ?_
  refine hk_goto (tg := 557) hC dL_law_360 (by decide) ?_
  refine hk_sub (L1 := [(0, .ref (hk_b X)), (1, .ref (hk_a X)), (2, .ref (hk_M X 0)), (3, .ref (hk_o X)), (4, .int x4)]) [2, 3, 4, 5, 6] rfl ?_
  exact hk_weak k (fun _ _ => trivial)
set_option maxRecDepth 4000 in
theorem hk_case_7 (hC : hk_C X) {x4 : Int32} (h1 : vp_in (x4 + 1) (hk_n X)) (h2 : vp_in (x4 + 2) (hk_n X)) (h3 : vp_in (x4 + 3) (hk_n X)) (hj : j < 1000) (hj1 : j + 1 < 1000) (k : hk_G X (fun _ => True) 557 [(0, .ref (hk_b X)), (1, .ref (hk_a X)), (2, .ref (hk_M X 0)), (3, .ref (hk_o X)), (4, .int x4)] [] (j + 1)) : hk_G X (fun _ => True) 363 [(0, .ref (hk_b X)), (1, .ref (hk_a X)), (2, .ref (hk_M X 0)), (3, .ref (hk_o X)), (4, .int x4)] [] j := by
  refine hk_aload_n hC dL_law_363 rfl 1 rfl rfl ?_
  refine hk_Ci (st := []) hC (fun hE σ h => tC_X5_trim hE _ 0 σ _ (pA_trim h (fun _ _ h => h))) sv_RL_91 dL_law_364 rfl (Nat.le_of_ble_eq_true rfl) (by decide) hj rfl (fun r5 => ?_)
  refine hk_pop hC dL_law_367 rfl rfl ?_
  refine hk_aload_n hC dL_law_368 rfl 2 rfl rfl ?_
  refine hk_Mi (As := []) (st := []) (Pr := fun _ _ _ => True) hC (fun hE σ h _ => tM_X6_trim hE _ 0  σ _ (qB_trim h (fun r9 σ9 a => ⟨a, trivial⟩))) sv_RL_94 dL_law_369 rfl rfl (Nat.le_of_ble_eq_true rfl) (by decide) hj rfl (fun σt rt _ => ?_)
  refine hk_pop hC dL_law_372 rfl rfl ?_
  refine hk_goto (tg := 557) hC dL_law_373 (by decide) ?_
  refine hk_sub (L1 := [(0, .ref (hk_b X)), (1, .ref (hk_a X)), (2, .ref (hk_M X 0)), (3, .ref (hk_o X)), (4, .int x4)]) [0, 1, 2, 3, 4] rfl ?_
  refine hk_up hC ?_
  exact hk_weak k (fun _ _ => trivial)
set_option maxRecDepth 4000 in
theorem hk_case_8 (hC : hk_C X) {x4 : Int32} (h1 : vp_in (x4 + 1) (hk_n X)) (h2 : vp_in (x4 + 2) (hk_n X)) (h3 : vp_in (x4 + 3) (hk_n X)) (hj : j < 1000) (hj1 : j + 1 < 1000) (k : hk_G X (fun _ => True) 557 [(0, .ref (hk_b X)), (1, .ref (hk_a X)), (2, .ref (hk_M X 0)), (3, .ref (hk_o X)), (4, .int x4)] [] (j + 1)) : hk_G X (fun _ => True) 376 [(0, .ref (hk_b X)), (1, .ref (hk_a X)), (2, .ref (hk_M X 0)), (3, .ref (hk_o X)), (4, .int x4)] [] j := by
  refine hk_aload_n hC dL_law_376 rfl 1 rfl rfl ?_
  refine hk_aload_n hC dL_law_377 rfl 0 rfl rfl ?_
  refine hk_iload hC dL_law_378 4 rfl rfl ?_
  refine hk_iconst (v := 1) hC dL_law_380 (by decide) rfl ?_
  refine hk_iadd hC dL_law_381 rfl ?_
  refine hk_sld hC dL_law_382 h1 rfl ?_
  refine hk_aload_n hC dL_law_383 rfl 0 rfl rfl ?_
  refine hk_iload hC dL_law_384 4 rfl rfl ?_
  refine hk_iconst (v := 2) hC dL_law_386 (by decide) rfl ?_
  refine hk_iadd hC dL_law_387 rfl ?_
  refine hk_sld hC dL_law_388 h2 rfl ?_
  refine hk_aload_n hC dL_law_389 rfl 3 rfl rfl ?_
  refine hk_H (Pz := (fun _ => True)) (st := []) hC (fun hE hX hCa hlt σ h => tH_step hE hX hCa _ hlt ((hk_xs X (x4 + 1).toNatClampNeg)) ((hk_xs X (x4 + 2).toNatClampNeg)) σ h) (fun r σ h => ⟨h, trivial⟩) sh_RL_95 dL_law_390 rfl rfl (Nat.le_of_ble_eq_true rfl) (by decide) hj rfl (fun r5 hr5 => ?_)
  refine hk_istore (L1 := [(5, .int r5), (0, .ref (hk_b X)), (1, .ref (hk_a X)), (2, .ref (hk_M X 0)), (3, .ref (hk_o X)), (4, .int x4)]) hC dL_law_393 (by decide) rfl rfl ?_
  refine hk_aload_n hC dL_law_395 rfl 3 rfl rfl ?_
  refine hk_aload_n hC dL_law_396 rfl 1 rfl rfl ?_
  refine hk_iload hC dL_law_397 5 rfl rfl ?_
  refine hk_iconst (v := 1) hC dL_law_399 (by decide) rfl ?_
  refine hk_iadd hC dL_law_400 rfl ?_
  refine hk_sld hC dL_law_401 h1 rfl ?_
  refine hk_aload_n hC dL_law_402 rfl 1 rfl rfl ?_
  refine hk_iload hC dL_law_403 5 rfl rfl ?_
  refine hk_iconst (v := 2) hC dL_law_405 (by decide) rfl ?_
  refine hk_iadd hC dL_law_406 rfl ?_
  refine hk_sld hC dL_law_407 h2 rfl ?_
  refine hk_Mi (As := [.int (hk_xs X (x4 + 1).toNatClampNeg), .int (hk_xs X (x4 + 2).toNatClampNeg)]) (st := []) (Pr := fun _ _ _ => True) hC (fun hE σ h _ => tM_X6_step hE _ 0 ((hk_xs X (x4 + 1).toNatClampNeg)) ((hk_xs X (x4 + 2).toNatClampNeg)) σ _ (qB_step h (fun r9 σ9 a => ⟨a, trivial⟩))) sv_RL_97 dL_law_408 rfl rfl (Nat.le_of_ble_eq_true rfl) (by decide) hj1 rfl (fun σt rt _ => ?_)
  refine hk_istore (L1 := [(6, .int rt), (5, .int r5), (0, .ref (hk_b X)), (1, .ref (hk_a X)), (2, .ref (hk_M X 0)), (3, .ref (hk_o X)), (4, .int x4)]) hC dL_law_411 (by decide) rfl rfl ?_
  refine hk_goto (tg := 557) hC dL_law_413 (by decide) ?_
  refine hk_sub (L1 := [(0, .ref (hk_b X)), (1, .ref (hk_a X)), (2, .ref (hk_M X 0)), (3, .ref (hk_o X)), (4, .int x4)]) [2, 3, 4, 5, 6] rfl ?_
  exact hk_weak k (fun _ _ => trivial)
set_option maxRecDepth 4000 in
theorem hk_case_9 (hC : hk_C X) {x4 : Int32} (h1 : vp_in (x4 + 1) (hk_n X)) (h2 : vp_in (x4 + 2) (hk_n X)) (h3 : vp_in (x4 + 3) (hk_n X)) (hj : j < 1000) (hj1 : j + 1 < 1000) (k : hk_G X (fun _ => True) 557 [(0, .ref (hk_b X)), (1, .ref (hk_a X)), (2, .ref (hk_M X 0)), (3, .ref (hk_o X)), (4, .int x4)] [] (j + 1)) : hk_G X (fun _ => True) 416 [(0, .ref (hk_b X)), (1, .ref (hk_a X)), (2, .ref (hk_M X 0)), (3, .ref (hk_o X)), (4, .int x4)] [] j := by
  refine hk_aload_n hC dL_law_416 rfl 1 rfl rfl ?_
  refine hk_Ci (st := []) hC (fun hE σ h => tC_X5_tell hE _ 0 σ _ (pA_tell h (fun _ _ h => h))) sv_RL_98 dL_law_417 rfl (Nat.le_of_ble_eq_true rfl) (by decide) hj rfl (fun r5 => ?_)
  refine hk_pop hC dL_law_420 rfl rfl ?_
  refine hk_aload_n hC dL_law_421 rfl 2 rfl rfl ?_
  refine hk_Mi (As := []) (st := []) (Pr := fun _ _ _ => True) hC (fun hE σ h _ => tM_X6_tell hE _ 0  σ _ (qB_tell h (fun r9 σ9 a => ⟨a, trivial⟩))) sv_RL_101 dL_law_422 rfl rfl (Nat.le_of_ble_eq_true rfl) (by decide) hj rfl (fun σt rt _ => ?_)
  refine hk_pop hC dL_law_425 rfl rfl ?_
  refine hk_goto (tg := 557) hC dL_law_426 (by decide) ?_
  refine hk_sub (L1 := [(0, .ref (hk_b X)), (1, .ref (hk_a X)), (2, .ref (hk_M X 0)), (3, .ref (hk_o X)), (4, .int x4)]) [0, 1, 2, 3, 4] rfl ?_
  refine hk_up hC ?_
  exact hk_weak k (fun _ _ => trivial)
set_option maxRecDepth 4000 in
theorem hk_case_10 (hC : hk_C X) {x4 : Int32} (h1 : vp_in (x4 + 1) (hk_n X)) (h2 : vp_in (x4 + 2) (hk_n X)) (h3 : vp_in (x4 + 3) (hk_n X)) (hj : j < 1000) (hj1 : j + 1 < 1000) (k : hk_G X (fun _ => True) 557 [(0, .ref (hk_b X)), (1, .ref (hk_a X)), (2, .ref (hk_M X 0)), (3, .ref (hk_o X)), (4, .int x4)] [] (j + 1)) : hk_G X (fun _ => True) 429 [(0, .ref (hk_b X)), (1, .ref (hk_a X)), (2, .ref (hk_M X 0)), (3, .ref (hk_o X)), (4, .int x4)] [] j := by
  refine hk_aload_n hC dL_law_429 rfl 1 rfl rfl ?_
  refine hk_aload_n hC dL_law_430 rfl 3 rfl rfl ?_
  refine hk_H (Pz := (fun _ => True)) (st := []) hC (fun hE hX hCa hlt σ h => tH_run hE hX hCa _ hlt  σ h) (fun r σ h => ⟨h, trivial⟩) sh_RL_102 dL_law_431 rfl rfl (Nat.le_of_ble_eq_true rfl) (by decide) hj rfl (fun r5 hr5 => ?_)
  refine hk_istore (L1 := [(5, .int r5), (0, .ref (hk_b X)), (1, .ref (hk_a X)), (2, .ref (hk_M X 0)), (3, .ref (hk_o X)), (4, .int x4)]) hC dL_law_434 (by decide) rfl rfl ?_
  refine hk_aload_n hC dL_law_436 rfl 3 rfl rfl ?_
  refine hk_Mi (As := []) (st := []) (Pr := fun _ _ _ => True) hC (fun hE σ h _ => tM_X6_run hE _ 0  σ _ (qB_run h (fun r9 σ9 a => ⟨a, trivial⟩))) sv_RL_105 dL_law_437 rfl rfl (Nat.le_of_ble_eq_true rfl) (by decide) hj1 rfl (fun σt rt _ => ?_)
  refine hk_istore (L1 := [(6, .int rt), (5, .int r5), (0, .ref (hk_b X)), (1, .ref (hk_a X)), (2, .ref (hk_M X 0)), (3, .ref (hk_o X)), (4, .int x4)]) hC dL_law_440 (by decide) rfl rfl ?_
  refine hk_goto (tg := 557) hC dL_law_442 (by decide) ?_
  refine hk_sub (L1 := [(0, .ref (hk_b X)), (1, .ref (hk_a X)), (2, .ref (hk_M X 0)), (3, .ref (hk_o X)), (4, .int x4)]) [2, 3, 4, 5, 6] rfl ?_
  exact hk_weak k (fun _ _ => trivial)
set_option maxRecDepth 4000 in
theorem hk_case_11 (hC : hk_C X) {x4 : Int32} (h1 : vp_in (x4 + 1) (hk_n X)) (h2 : vp_in (x4 + 2) (hk_n X)) (h3 : vp_in (x4 + 3) (hk_n X)) (hj : j < 1000) (hj1 : j + 1 < 1000) (k : hk_G X (fun _ => True) 557 [(0, .ref (hk_b X)), (1, .ref (hk_a X)), (2, .ref (hk_M X 0)), (3, .ref (hk_o X)), (4, .int x4)] [] (j + 1)) : hk_G X (fun _ => True) 445 [(0, .ref (hk_b X)), (1, .ref (hk_a X)), (2, .ref (hk_M X 0)), (3, .ref (hk_o X)), (4, .int x4)] [] j := by
  refine hk_aload_n hC dL_law_445 rfl 1 rfl rfl ?_
  refine hk_aload_n hC dL_law_446 rfl 0 rfl rfl ?_
  refine hk_iload hC dL_law_447 4 rfl rfl ?_
  refine hk_iconst (v := 1) hC dL_law_449 (by decide) rfl ?_
  refine hk_iadd hC dL_law_450 rfl ?_
  refine hk_sld hC dL_law_451 h1 rfl ?_
  refine hk_aload_n hC dL_law_452 rfl 3 rfl rfl ?_
  refine hk_H (Pz := (fun _ => True)) (st := []) hC (fun hE hX hCa hlt σ h => tH_left hE hX hCa _ hlt ((hk_xs X (x4 + 1).toNatClampNeg)) σ h) (fun r σ h => ⟨h, trivial⟩) sh_RL_106 dL_law_453 rfl rfl (Nat.le_of_ble_eq_true rfl) (by decide) hj rfl (fun r5 hr5 => ?_)
  refine hk_istore (L1 := [(5, .int r5), (0, .ref (hk_b X)), (1, .ref (hk_a X)), (2, .ref (hk_M X 0)), (3, .ref (hk_o X)), (4, .int x4)]) hC dL_law_456 (by decide) rfl rfl ?_
  refine hk_aload_n hC dL_law_458 rfl 3 rfl rfl ?_
  refine hk_aload_n hC dL_law_459 rfl 1 rfl rfl ?_
  refine hk_iload hC dL_law_460 5 rfl rfl ?_
  refine hk_iconst (v := 1) hC dL_law_462 (by decide) rfl ?_
  refine hk_iadd hC dL_law_463 rfl ?_
  refine hk_sld hC dL_law_464 h1 rfl ?_
  refine hk_Mi (As := [.int (hk_xs X (x4 + 1).toNatClampNeg)]) (st := []) (Pr := fun _ _ _ => True) hC (fun hE σ h _ => tM_X6_left hE _ 0 ((hk_xs X (x4 + 1).toNatClampNeg)) σ _ (qB_left h (fun r9 σ9 a => ⟨a, trivial⟩))) sv_RL_108 dL_law_465 rfl rfl (Nat.le_of_ble_eq_true rfl) (by decide) hj1 rfl (fun σt rt _ => ?_)
  refine hk_istore (L1 := [(6, .int rt), (5, .int r5), (0, .ref (hk_b X)), (1, .ref (hk_a X)), (2, .ref (hk_M X 0)), (3, .ref (hk_o X)), (4, .int x4)]) hC dL_law_468 (by decide) rfl rfl ?_
  refine hk_goto (tg := 557) hC dL_law_470 (by decide) ?_
  refine hk_sub (L1 := [(0, .ref (hk_b X)), (1, .ref (hk_a X)), (2, .ref (hk_M X 0)), (3, .ref (hk_o X)), (4, .int x4)]) [2, 3, 4, 5, 6] rfl ?_
  exact hk_weak k (fun _ _ => trivial)
set_option maxRecDepth 4000 in
theorem hk_case_12 (hC : hk_C X) {x4 : Int32} (h1 : vp_in (x4 + 1) (hk_n X)) (h2 : vp_in (x4 + 2) (hk_n X)) (h3 : vp_in (x4 + 3) (hk_n X)) (hj : j < 1000) (hj1 : j + 1 < 1000) (k : hk_G X (fun _ => True) 557 [(0, .ref (hk_b X)), (1, .ref (hk_a X)), (2, .ref (hk_M X 0)), (3, .ref (hk_o X)), (4, .int x4)] [] (j + 1)) : hk_G X (fun _ => True) 473 [(0, .ref (hk_b X)), (1, .ref (hk_a X)), (2, .ref (hk_M X 0)), (3, .ref (hk_o X)), (4, .int x4)] [] j := by
  refine hk_aload_n hC dL_law_473 rfl 1 rfl rfl ?_
  refine hk_aload_n hC dL_law_474 rfl 0 rfl rfl ?_
  refine hk_iload hC dL_law_475 4 rfl rfl ?_
  refine hk_iconst (v := 1) hC dL_law_477 (by decide) rfl ?_
  refine hk_iadd hC dL_law_478 rfl ?_
  refine hk_sld hC dL_law_479 h1 rfl ?_
  refine hk_aload_n hC dL_law_480 rfl 3 rfl rfl ?_
  refine hk_H (Pz := (fun _ => True)) (st := []) hC (fun hE hX hCa hlt σ h => tH_kept hE hX hCa _ hlt ((hk_xs X (x4 + 1).toNatClampNeg)) σ h) (fun r σ h => ⟨h, trivial⟩) sh_RL_109 dL_law_481 rfl rfl (Nat.le_of_ble_eq_true rfl) (by decide) hj rfl (fun r5 hr5 => ?_)
  refine hk_istore (L1 := [(5, .int r5), (0, .ref (hk_b X)), (1, .ref (hk_a X)), (2, .ref (hk_M X 0)), (3, .ref (hk_o X)), (4, .int x4)]) hC dL_law_484 (by decide) rfl rfl ?_
  refine hk_aload_n hC dL_law_486 rfl 3 rfl rfl ?_
  refine hk_aload_n hC dL_law_487 rfl 1 rfl rfl ?_
  refine hk_iload hC dL_law_488 5 rfl rfl ?_
  refine hk_iconst (v := 1) hC dL_law_490 (by decide) rfl ?_
  refine hk_iadd hC dL_law_491 rfl ?_
  refine hk_sld hC dL_law_492 h1 rfl ?_
  refine hk_Mi (As := [.int (hk_xs X (x4 + 1).toNatClampNeg)]) (st := []) (Pr := fun _ _ _ => True) hC (fun hE σ h _ => tM_X6_kept hE _ 0 ((hk_xs X (x4 + 1).toNatClampNeg)) σ _ (qB_kept h (fun r9 σ9 a => ⟨a, trivial⟩))) sv_RL_111 dL_law_493 rfl rfl (Nat.le_of_ble_eq_true rfl) (by decide) hj1 rfl (fun σt rt _ => ?_)
  refine hk_istore (L1 := [(6, .int rt), (5, .int r5), (0, .ref (hk_b X)), (1, .ref (hk_a X)), (2, .ref (hk_M X 0)), (3, .ref (hk_o X)), (4, .int x4)]) hC dL_law_496 (by decide) rfl rfl ?_
  refine hk_goto (tg := 557) hC dL_law_498 (by decide) ?_
  refine hk_sub (L1 := [(0, .ref (hk_b X)), (1, .ref (hk_a X)), (2, .ref (hk_M X 0)), (3, .ref (hk_o X)), (4, .int x4)]) [2, 3, 4, 5, 6] rfl ?_
  exact hk_weak k (fun _ _ => trivial)
set_option maxRecDepth 4000 in
theorem hk_case_13 (hC : hk_C X) {x4 : Int32} (h1 : vp_in (x4 + 1) (hk_n X)) (h2 : vp_in (x4 + 2) (hk_n X)) (h3 : vp_in (x4 + 3) (hk_n X)) (hj : j < 1000) (hj1 : j + 1 < 1000) (k : hk_G X (fun _ => True) 557 [(0, .ref (hk_b X)), (1, .ref (hk_a X)), (2, .ref (hk_M X 0)), (3, .ref (hk_o X)), (4, .int x4)] [] (j + 1)) : hk_G X (fun _ => True) 501 [(0, .ref (hk_b X)), (1, .ref (hk_a X)), (2, .ref (hk_M X 0)), (3, .ref (hk_o X)), (4, .int x4)] [] j := by
  refine hk_aload_n hC dL_law_501 rfl 1 rfl rfl ?_
  refine hk_aload_n hC dL_law_502 rfl 0 rfl rfl ?_
  refine hk_iload hC dL_law_503 4 rfl rfl ?_
  refine hk_iconst (v := 1) hC dL_law_505 (by decide) rfl ?_
  refine hk_iadd hC dL_law_506 rfl ?_
  refine hk_sld hC dL_law_507 h1 rfl ?_
  refine hk_aload_n hC dL_law_508 rfl 3 rfl rfl ?_
  refine hk_H (Pz := (fun _ => True)) (st := []) hC (fun hE hX hCa hlt σ h => tH_output hE hX hCa _ hlt ((hk_xs X (x4 + 1).toNatClampNeg)) σ h) (fun r σ h => ⟨h, trivial⟩) sh_RL_112 dL_law_509 rfl rfl (Nat.le_of_ble_eq_true rfl) (by decide) hj rfl (fun r5 hr5 => ?_)
  refine hk_istore (L1 := [(5, .int r5), (0, .ref (hk_b X)), (1, .ref (hk_a X)), (2, .ref (hk_M X 0)), (3, .ref (hk_o X)), (4, .int x4)]) hC dL_law_512 (by decide) rfl rfl ?_
  refine hk_aload_n hC dL_law_514 rfl 3 rfl rfl ?_
  refine hk_aload_n hC dL_law_515 rfl 1 rfl rfl ?_
  refine hk_iload hC dL_law_516 5 rfl rfl ?_
  refine hk_iconst (v := 1) hC dL_law_518 (by decide) rfl ?_
  refine hk_iadd hC dL_law_519 rfl ?_
  refine hk_sld hC dL_law_520 h1 rfl ?_
  refine hk_Mi (As := [.int (hk_xs X (x4 + 1).toNatClampNeg)]) (st := []) (Pr := fun _ _ _ => True) hC (fun hE σ h _ => tM_X6_output hE _ 0 ((hk_xs X (x4 + 1).toNatClampNeg)) σ _ (qB_output h (fun r9 σ9 a => ⟨a, trivial⟩))) sv_RL_114 dL_law_521 rfl rfl (Nat.le_of_ble_eq_true rfl) (by decide) hj1 rfl (fun σt rt _ => ?_)
  refine hk_istore (L1 := [(6, .int rt), (5, .int r5), (0, .ref (hk_b X)), (1, .ref (hk_a X)), (2, .ref (hk_M X 0)), (3, .ref (hk_o X)), (4, .int x4)]) hC dL_law_524 (by decide) rfl rfl ?_
  refine hk_goto (tg := 557) hC dL_law_526 (by decide) ?_
  refine hk_sub (L1 := [(0, .ref (hk_b X)), (1, .ref (hk_a X)), (2, .ref (hk_M X 0)), (3, .ref (hk_o X)), (4, .int x4)]) [2, 3, 4, 5, 6] rfl ?_
  exact hk_weak k (fun _ _ => trivial)
set_option maxRecDepth 4000 in
theorem hk_case_14 (hC : hk_C X) {x4 : Int32} (h1 : vp_in (x4 + 1) (hk_n X)) (h2 : vp_in (x4 + 2) (hk_n X)) (h3 : vp_in (x4 + 3) (hk_n X)) (hj : j < 1000) (hj1 : j + 1 < 1000) (k : hk_G X (fun _ => True) 557 [(0, .ref (hk_b X)), (1, .ref (hk_a X)), (2, .ref (hk_M X 0)), (3, .ref (hk_o X)), (4, .int x4)] [] (j + 1)) : hk_G X (fun _ => True) 529 [(0, .ref (hk_b X)), (1, .ref (hk_a X)), (2, .ref (hk_M X 0)), (3, .ref (hk_o X)), (4, .int x4)] [] j := by
  refine hk_aload_n hC dL_law_529 rfl 1 rfl rfl ?_
  refine hk_aload_n hC dL_law_530 rfl 0 rfl rfl ?_
  refine hk_iload hC dL_law_531 4 rfl rfl ?_
  refine hk_iconst (v := 1) hC dL_law_533 (by decide) rfl ?_
  refine hk_iadd hC dL_law_534 rfl ?_
  refine hk_sld hC dL_law_535 h1 rfl ?_
  refine hk_aload_n hC dL_law_536 rfl 3 rfl rfl ?_
  refine hk_H (Pz := (fun _ => True)) (st := []) hC (fun hE hX hCa hlt σ h => tH_count hE hX hCa _ hlt ((hk_xs X (x4 + 1).toNatClampNeg)) σ h) (fun r σ h => ⟨h, trivial⟩) sh_RL_115 dL_law_537 rfl rfl (Nat.le_of_ble_eq_true rfl) (by decide) hj rfl (fun r5 hr5 => ?_)
  refine hk_istore (L1 := [(5, .int r5), (0, .ref (hk_b X)), (1, .ref (hk_a X)), (2, .ref (hk_M X 0)), (3, .ref (hk_o X)), (4, .int x4)]) hC dL_law_540 (by decide) rfl rfl ?_
  refine hk_aload_n hC dL_law_542 rfl 3 rfl rfl ?_
  refine hk_aload_n hC dL_law_543 rfl 1 rfl rfl ?_
  refine hk_iload hC dL_law_544 5 rfl rfl ?_
  refine hk_iconst (v := 1) hC dL_law_546 (by decide) rfl ?_
  refine hk_iadd hC dL_law_547 rfl ?_
  refine hk_sld hC dL_law_548 h1 rfl ?_
  refine hk_Mi (As := [.int (hk_xs X (x4 + 1).toNatClampNeg)]) (st := []) (Pr := fun _ _ _ => True) hC (fun hE σ h _ => tM_X6_count hE _ 0 ((hk_xs X (x4 + 1).toNatClampNeg)) σ _ (qB_count h (fun r9 σ9 a => ⟨a, trivial⟩))) sv_RL_117 dL_law_549 rfl rfl (Nat.le_of_ble_eq_true rfl) (by decide) hj1 rfl (fun σt rt _ => ?_)
  refine hk_istore (L1 := [(6, .int rt), (5, .int r5), (0, .ref (hk_b X)), (1, .ref (hk_a X)), (2, .ref (hk_M X 0)), (3, .ref (hk_o X)), (4, .int x4)]) hC dL_law_552 (by decide) rfl rfl ?_
  refine hk_goto (tg := 557) hC dL_law_554 (by decide) ?_
  refine hk_sub (L1 := [(0, .ref (hk_b X)), (1, .ref (hk_a X)), (2, .ref (hk_M X 0)), (3, .ref (hk_o X)), (4, .int x4)]) [2, 3, 4, 5, 6] rfl ?_
  exact hk_weak k (fun _ _ => trivial)
theorem hk_len (hC : hk_C X) : hk_n X ≤ 2048 := by
  obtain ⟨p, l, e, s, m, below, meth, c, ⟨D, t, tl⟩, ⟨b, Ln, xs⟩, ⟨a0, aM, o⟩, E⟩ := X
  exact hC.2.1
theorem hk_nle {L j : Nat} (hL : L ≤ 2048) (h4 : 4 * j ≤ L) (h : ¬ (Int32.ofNat L - 4 < nI (4 * j))) : 4 * j + 4 ≤ L := by
  by_cases h3 : 4 ≤ L
  · have e : Int32.ofNat L - 4 = nI (L - 4) := by
      have e1 : nI (L - 4) + nI 4 = nI L := by rw [nI_add, show L - 4 + 4 = L by omega]
      have e2 : nI 4 = 4 := by decide
      rw [e2] at e1
      show nI L - 4 = nI (L - 4)
      rw [← e1]
      grind
    rw [e, Int32.not_lt] at h
    have := (nI_leI (by omega) (by omega)).mp h
    omega
  · exfalso
    have hj : j = 0 := by omega
    subst hj
    rcases (show L = 0 ∨ L = 1 ∨ L = 2 ∨ L = 3 by omega) with rfl | rfl | rfl | rfl <;> exact h (by decide)
set_option maxRecDepth 4000 in
theorem hk_loop (hC : hk_C X) : ∀ (n j : Nat) (x4 : Int32), x4 = nI (4 * j) → 4 * j ≤ hk_n X → hk_n X + 4 ≤ 4 * j + 4 * n → hk_G X (fun _ => True) 23 [(0, .ref (hk_b X)), (1, .ref (hk_a X)), (2, .ref (hk_M X 0)), (3, .ref (hk_o X)), (4, .int (x4))] [] j := by
  have hL := hk_len hC
  intro n
  induction n with
  | zero => intro j x4 _ h1 h2; omega
  | succ n ih =>
    intro j x4 ex hj4 hn
    have hj : j < 1000 := by omega
    have hj1 : j + 1 < 1000 := by omega
    refine hk_iload hC dL_law_23 4 rfl rfl ?_
    refine hk_aload_n hC dL_law_25 rfl 0 rfl rfl ?_
    refine hk_slen hC dL_law_26 rfl ?_
    refine hk_iconst (v := 4) hC dL_law_27 (by decide) rfl ?_
    refine hk_isub hC dL_law_28 rfl ?_
    refine hk_icmp_gt (tg := 563) hC dL_law_29 (by decide) rfl (fun _ => ?_) (fun hle => ?_)
    · refine hk_iconst (v := 1) hC dL_law_563 (by decide) rfl ?_
      exact hk_end hC dL_law_564 hj
    rw [ex] at hle
    have hlt := hk_nle hL hj4 hle
    have e1 : nI 1 = 1 := by decide
    have e2 : nI 2 = 2 := by decide
    have e3 : nI 3 = 3 := by decide
    have e4 : nI 4 = 4 := by decide
    have h0 : vp_in x4 (hk_n X) := by rw [ex]; exact vp_in_nI (by omega) (by omega)
    have h1 : vp_in (x4 + 1) (hk_n X) := by rw [ex, ← e1, nI_add]; exact vp_in_nI (by omega) (by omega)
    have h2 : vp_in (x4 + 2) (hk_n X) := by rw [ex, ← e2, nI_add]; exact vp_in_nI (by omega) (by omega)
    have h3 : vp_in (x4 + 3) (hk_n X) := by rw [ex, ← e3, nI_add]; exact vp_in_nI (by omega) (by omega)
    refine hk_aload_n hC dL_law_32 rfl 0 rfl rfl ?_
    refine hk_iload hC dL_law_33 4 rfl rfl ?_
    refine hk_sld hC dL_law_35 h0 rfl ?_
    refine hk_bipush (v := 15) hC dL_law_36 (by decide) rfl ?_
    refine hk_iand hC dL_law_38 rfl ?_
    generalize hk_xs X x4.toNatClampNeg &&& 15 = op
    have kk : hk_G X (fun _ => True) 557 [(0, .ref (hk_b X)), (1, .ref (hk_a X)), (2, .ref (hk_M X 0)), (3, .ref (hk_o X)), (4, .int (x4))] [] (j + 1) := by
      refine hk_iinc (v := x4 + 4) (L1 := [(4, .int (x4 + 4)), (0, .ref (hk_b X)), (1, .ref (hk_a X)), (2, .ref (hk_M X 0)), (3, .ref (hk_o X))]) hC dL_law_557 4 rfl rfl (by decide) rfl rfl ?_
      refine hk_goto (tg := 23) hC dL_law_560 (by decide) ?_
      refine hk_sub (L1 := [(0, .ref (hk_b X)), (1, .ref (hk_a X)), (2, .ref (hk_M X 0)), (3, .ref (hk_o X)), (4, .int (x4 + 4))]) [1, 2, 3, 4, 0] rfl ?_
      exact ih (j + 1) (x4 + 4) (by rw [ex, ← e4, nI_add]; rfl) (by omega) (by omega)
    by_cases ho : op.toInt < 0 ∨ 14 < op.toInt
    · exact hk_tout (tg := 557) hC dL_law_39 ho (by decide) (hk_up hC kk)
    rcases (show op.toInt = 0 ∨ op.toInt = 1 ∨ op.toInt = 2 ∨ op.toInt = 3 ∨ op.toInt = 4 ∨ op.toInt = 5 ∨ op.toInt = 6 ∨ op.toInt = 7 ∨ op.toInt = 8 ∨ op.toInt = 9 ∨ op.toInt = 10 ∨ op.toInt = 11 ∨ op.toInt = 12 ∨ op.toInt = 13 ∨ op.toInt = 14 by omega) with h | h | h | h | h | h | h | h | h | h | h | h | h | h | h
    · exact hk_tin (tg := 112) hC dL_law_39 h (by decide) (by decide) rfl (by decide) (hk_case_0 hC h1 h2 h3 hj hj1 kk)
    · exact hk_tin (tg := 149) hC dL_law_39 h (by decide) (by decide) rfl (by decide) (hk_case_1 hC h1 h2 h3 hj hj1 kk)
    · exact hk_tin (tg := 197) hC dL_law_39 h (by decide) (by decide) rfl (by decide) (hk_case_2 hC h1 h2 h3 hj hj1 kk)
    · exact hk_tin (tg := 269) hC dL_law_39 h (by decide) (by decide) rfl (by decide) (hk_case_3 hC h1 h2 h3 hj hj1 kk)
    · exact hk_tin (tg := 282) hC dL_law_39 h (by decide) (by decide) rfl (by decide) (hk_case_4 hC h1 h2 h3 hj hj1 kk)
    · exact hk_tin (tg := 295) hC dL_law_39 h (by decide) (by decide) rfl (by decide) (hk_case_5 hC h1 h2 h3 hj hj1 kk)
    · exact hk_tin (tg := 335) hC dL_law_39 h (by decide) (by decide) rfl (by decide) (hk_case_6 hC h1 h2 h3 hj hj1 kk)
    · exact hk_tin (tg := 363) hC dL_law_39 h (by decide) (by decide) rfl (by decide) (hk_case_7 hC h1 h2 h3 hj hj1 kk)
    · exact hk_tin (tg := 376) hC dL_law_39 h (by decide) (by decide) rfl (by decide) (hk_case_8 hC h1 h2 h3 hj hj1 kk)
    · exact hk_tin (tg := 416) hC dL_law_39 h (by decide) (by decide) rfl (by decide) (hk_case_9 hC h1 h2 h3 hj hj1 kk)
    · exact hk_tin (tg := 429) hC dL_law_39 h (by decide) (by decide) rfl (by decide) (hk_case_10 hC h1 h2 h3 hj hj1 kk)
    · exact hk_tin (tg := 445) hC dL_law_39 h (by decide) (by decide) rfl (by decide) (hk_case_11 hC h1 h2 h3 hj hj1 kk)
    · exact hk_tin (tg := 473) hC dL_law_39 h (by decide) (by decide) rfl (by decide) (hk_case_12 hC h1 h2 h3 hj hj1 kk)
    · exact hk_tin (tg := 501) hC dL_law_39 h (by decide) (by decide) rfl (by decide) (hk_case_13 hC h1 h2 h3 hj hj1 kk)
    · exact hk_tin (tg := 529) hC dL_law_39 h (by decide) (by decide) rfl (by decide) (hk_case_14 hC h1 h2 h3 hj hj1 kk)
end HK
