/-! THE JUDGEMENT that hides heap and frame, and a row for each instruction (written by mkhg.py) -/
abbrev hg_X : Type := Program × Launch × Env × Room × State × MethodId × Array Value × List Frame × Method × Code × va_G × (Nat → Prop) × Nat × Nat × (State → Prop) × (Nat → Nat) × hg_T
def hg_ad (X : hg_X) : Nat → Nat := X.2.2.2.2.2.2.2.2.2.2.2.2.2.2.2.1
def hg_s (X : hg_X) : State := X.2.2.2.2.1
def hg_Af (X : hg_X) : Nat → Prop := X.2.2.2.2.2.2.2.2.2.2.2.1
def hg_tbl : List Cond := lw_tbl.filter goodWord
def hg_G (F : hg_F) (nL : Nat) (X : hg_X) (pc : Nat) (L : List (Nat × Value)) (st : List Value) (σ : hg_M) (ρ : hg_R) : Prop := match X with
  | (p, l, e, R, s, m, args, below, meth, c, D, A, cells, slots, Q, ad, t) => ∀ (H : Heap) (locs : List Loc) (ls : Array Slot), lv_has ls nL L → va_P D vwCl (hg_ws F t ad σ ρ) H → va_S A s.heap H locs → W p l e R s m args below meth c H locs cells slots Q (F0 m pc ls st)
def hg_rm (d : Nat) : Room := { frames := d, cells := 0, slots := 0, locals := 64 * d }
def hg_isN : Cond → Bool
  | .methodLinkNest _ _ _ _ => true
  | _ => false
def hg_nws : List Cond := lw_tbl.filter hg_isN
abbrev hg_Et : Type := (Nat → Prop) → State → Heap → Prop
/-- facts of the start that nobody writes (statics, constants): they stay -/
def hg_Eok (E : hg_Et) : Prop := ((∀ A (u U : State) H, u.vm = U.vm → E A u H → E A U H) ∧ ∀ A (u U : State) H, u.WarmedH U.vm → E A u H → E A U H) ∧ (∀ A U (H H1 : Heap), E A U H → (∀ a : Nat, a < H.size → ¬ A a → H1[a]? = H[a]?) → E A U H1) ∧ (∀ (A B : Nat → Prop) U H, E A U H → (∀ q, B q → A q) → E B U H) ∧ (∀ A U H, E A U H → ∀ w ∈ hg_nws, va_Nw w U) ∧ ∃ z, ∀ A U H, E A U H → hg_St z A U H
def hg_C (F : hg_F) (nL d : Nat) (E : hg_Et) (cc : ByteArray) (own : String) (X : hg_X) : Prop := match X with
  | (p, l, e, R, s, m, args, below, meth, c, D, A, cells, slots, Q, ad, t) => (p.tables.exec = Jvm.exec ∧ c.code = cc) ∧ c.maxLocals = nL ∧ s.vm.findClass own = some m.cls ∧ (∀ w ∈ hg_tbl, w.before args s = true) ∧ va_K D vwCl (hg_tys t) s ∧ hg_Dd F ad A ∧ (∀ q, s.heap.size ≤ q → A q) ∧ meth.locks = false ∧ (R.frames = d ∧ R.locals = 64 * d) ∧ (cells = 0 ∧ slots = 0) ∧ E A s s.heap ∧ hg_Eok E
section HG
variable {F : hg_F} {nL : Nat} {d : Nat} {E : hg_Et} {cc : ByteArray} {own : String} {X : hg_X} {pc : Nat} {L : List (Nat × Value)} {st : List Value} {σ : hg_M} {ρ : hg_R}
theorem hg_iconst (hC : hg_C F nL d E cc own X) {z : Int} {v : Int32} (hd : decode cc pc = .ok (.iconst z, 1)) (hv : Int32.ofInt z = v) {n : Nat} (hn : pc + 1 = n) (k : hg_G F nL X n L (.int v :: st) σ ρ) : hg_G F nL X pc L (st) σ ρ := by
  obtain ⟨p, l, e, R, s, m, args, below, meth, c, D, A, cells, slots, Q, ad, t⟩ := X
  obtain ⟨⟨hx, hb⟩, hml, hown, hts, hK, hDd, hA, hlk, ⟨hR1, hR2⟩, ⟨hz1, hz2⟩, hE, hEok⟩ := hC
  intro H locs ls hl hP hS
  subst hn
  exact lv_iconst hx hb hd hv (k H locs ls hl hP hS)
theorem hg_bipush (hC : hg_C F nL d E cc own X) {z : Int} {v : Int32} (hd : decode cc pc = .ok (.bipush z, 2)) (hv : (Int8.ofInt z).toInt32 = v) {n : Nat} (hn : pc + 2 = n) (k : hg_G F nL X n L (.int v :: st) σ ρ) : hg_G F nL X pc L (st) σ ρ := by
  obtain ⟨p, l, e, R, s, m, args, below, meth, c, D, A, cells, slots, Q, ad, t⟩ := X
  obtain ⟨⟨hx, hb⟩, hml, hown, hts, hK, hDd, hA, hlk, ⟨hR1, hR2⟩, ⟨hz1, hz2⟩, hE, hEok⟩ := hC
  intro H locs ls hl hP hS
  subst hn
  exact lv_bipush hx hb hd hv (k H locs ls hl hP hS)
theorem hg_sipush (hC : hg_C F nL d E cc own X) {z : Int} {v : Int32} (hd : decode cc pc = .ok (.sipush z, 3)) (hv : (Int16.ofInt z).toInt32 = v) {n : Nat} (hn : pc + 3 = n) (k : hg_G F nL X n L (.int v :: st) σ ρ) : hg_G F nL X pc L (st) σ ρ := by
  obtain ⟨p, l, e, R, s, m, args, below, meth, c, D, A, cells, slots, Q, ad, t⟩ := X
  obtain ⟨⟨hx, hb⟩, hml, hown, hts, hK, hDd, hA, hlk, ⟨hR1, hR2⟩, ⟨hz1, hz2⟩, hE, hEok⟩ := hC
  intro H locs ls hl hP hS
  subst hn
  exact lv_sipush hx hb hd hv (k H locs ls hl hP hS)
theorem hg_lconst (hC : hg_C F nL d E cc own X) {z : Fin 2} {v : Int64} (hd : decode cc pc = .ok (.lconst z, 1)) (hv : Int64.ofNat (z : Nat) = v) {n : Nat} (hn : pc + 1 = n) (k : hg_G F nL X n L (.long v :: st) σ ρ) : hg_G F nL X pc L (st) σ ρ := by
  obtain ⟨p, l, e, R, s, m, args, below, meth, c, D, A, cells, slots, Q, ad, t⟩ := X
  obtain ⟨⟨hx, hb⟩, hml, hown, hts, hK, hDd, hA, hlk, ⟨hR1, hR2⟩, ⟨hz1, hz2⟩, hE, hEok⟩ := hC
  intro H locs ls hl hP hS
  subst hn
  exact lv_lconst hx hb hd hv (k H locs ls hl hP hS)
theorem hg_iload_n (hC : hg_C F nL d E cc own X) {j : Fin 4} {i : Nat} {x : Int32} (hd : decode cc pc = .ok (.iload_n j, 1)) (hi : (j : Nat) = i) (a : Nat) (ha : L[a]? = some (i, .int x)) {n : Nat} (hn : pc + 1 = n) (k : hg_G F nL X n L (.int x :: st) σ ρ) : hg_G F nL X pc L (st) σ ρ := by
  obtain ⟨p, l, e, R, s, m, args, below, meth, c, D, A, cells, slots, Q, ad, t⟩ := X
  obtain ⟨⟨hx, hb⟩, hml, hown, hts, hK, hDd, hA, hlk, ⟨hR1, hR2⟩, ⟨hz1, hz2⟩, hE, hEok⟩ := hC
  intro H locs ls hl hP hS
  subst hn
  exact lv_iload_n hx hb hd hi (lv_at hl a ha) (k H locs ls hl hP hS)
theorem hg_iload (hC : hg_C F nL d E cc own X) {i : Nat} {x : Int32} (hd : decode cc pc = .ok (.iload i, 2)) (a : Nat) (ha : L[a]? = some (i, .int x)) {n : Nat} (hn : pc + 2 = n) (k : hg_G F nL X n L (.int x :: st) σ ρ) : hg_G F nL X pc L (st) σ ρ := by
  obtain ⟨p, l, e, R, s, m, args, below, meth, c, D, A, cells, slots, Q, ad, t⟩ := X
  obtain ⟨⟨hx, hb⟩, hml, hown, hts, hK, hDd, hA, hlk, ⟨hR1, hR2⟩, ⟨hz1, hz2⟩, hE, hEok⟩ := hC
  intro H locs ls hl hP hS
  subst hn
  exact lv_iload hx hb hd (lv_at hl a ha) (k H locs ls hl hP hS)
theorem hg_lload_n (hC : hg_C F nL d E cc own X) {j : Fin 4} {i : Nat} {x : Int64} (hd : decode cc pc = .ok (.lload_n j, 1)) (hi : (j : Nat) = i) (a : Nat) (ha : L[a]? = some (i, .long x)) {n : Nat} (hn : pc + 1 = n) (k : hg_G F nL X n L (.long x :: st) σ ρ) : hg_G F nL X pc L (st) σ ρ := by
  obtain ⟨p, l, e, R, s, m, args, below, meth, c, D, A, cells, slots, Q, ad, t⟩ := X
  obtain ⟨⟨hx, hb⟩, hml, hown, hts, hK, hDd, hA, hlk, ⟨hR1, hR2⟩, ⟨hz1, hz2⟩, hE, hEok⟩ := hC
  intro H locs ls hl hP hS
  subst hn
  exact lv_lload_n hx hb hd hi (lv_at hl a ha) (k H locs ls hl hP hS)
theorem hg_lload (hC : hg_C F nL d E cc own X) {i : Nat} {x : Int64} (hd : decode cc pc = .ok (.lload i, 2)) (a : Nat) (ha : L[a]? = some (i, .long x)) {n : Nat} (hn : pc + 2 = n) (k : hg_G F nL X n L (.long x :: st) σ ρ) : hg_G F nL X pc L (st) σ ρ := by
  obtain ⟨p, l, e, R, s, m, args, below, meth, c, D, A, cells, slots, Q, ad, t⟩ := X
  obtain ⟨⟨hx, hb⟩, hml, hown, hts, hK, hDd, hA, hlk, ⟨hR1, hR2⟩, ⟨hz1, hz2⟩, hE, hEok⟩ := hC
  intro H locs ls hl hP hS
  subst hn
  exact lv_lload hx hb hd (lv_at hl a ha) (k H locs ls hl hP hS)
theorem hg_aload_n (hC : hg_C F nL d E cc own X) {j : Fin 4} {i : Nat} {x : Nat} (hd : decode cc pc = .ok (.aload_n j, 1)) (hi : (j : Nat) = i) (a : Nat) (ha : L[a]? = some (i, .ref x)) {n : Nat} (hn : pc + 1 = n) (k : hg_G F nL X n L (.ref x :: st) σ ρ) : hg_G F nL X pc L (st) σ ρ := by
  obtain ⟨p, l, e, R, s, m, args, below, meth, c, D, A, cells, slots, Q, ad, t⟩ := X
  obtain ⟨⟨hx, hb⟩, hml, hown, hts, hK, hDd, hA, hlk, ⟨hR1, hR2⟩, ⟨hz1, hz2⟩, hE, hEok⟩ := hC
  intro H locs ls hl hP hS
  subst hn
  exact lv_aload_n hx hb hd hi (lv_at hl a ha) (k H locs ls hl hP hS)
theorem hg_aload (hC : hg_C F nL d E cc own X) {i : Nat} {x : Nat} (hd : decode cc pc = .ok (.aload i, 2)) (a : Nat) (ha : L[a]? = some (i, .ref x)) {n : Nat} (hn : pc + 2 = n) (k : hg_G F nL X n L (.ref x :: st) σ ρ) : hg_G F nL X pc L (st) σ ρ := by
  obtain ⟨p, l, e, R, s, m, args, below, meth, c, D, A, cells, slots, Q, ad, t⟩ := X
  obtain ⟨⟨hx, hb⟩, hml, hown, hts, hK, hDd, hA, hlk, ⟨hR1, hR2⟩, ⟨hz1, hz2⟩, hE, hEok⟩ := hC
  intro H locs ls hl hP hS
  subst hn
  exact lv_aload hx hb hd (lv_at hl a ha) (k H locs ls hl hP hS)
theorem hg_istore_n (hC : hg_C F nL d E cc own X) {j : Fin 4} {i : Nat} {x : Int32} {L1 : List (Nat × Value)} (hd : decode cc pc = .ok (.istore_n j, 1)) (hi : (j : Nat) = i) (hb1 : i < nL) (hL : (i, Value.int x) :: L.filter (fun q => !(q.1 == i) && !(q.1 + 1 == i && q.2.category == 2)) = L1) {n : Nat} (hn : pc + 1 = n) (k : hg_G F nL X n L1 st σ ρ) : hg_G F nL X pc L (.int x :: st) σ ρ := by
  obtain ⟨p, l, e, R, s, m, args, below, meth, c, D, A, cells, slots, Q, ad, t⟩ := X
  obtain ⟨⟨hx, hb⟩, hml, hown, hts, hK, hDd, hA, hlk, ⟨hR1, hR2⟩, ⟨hz1, hz2⟩, hE, hEok⟩ := hC
  intro H locs ls hl hP hS
  subst hn
  exact lv_istore_n hx hb hd hi hl hb1 hL (fun ls1 hl1 => k H locs ls1 hl1 hP hS)
theorem hg_istore (hC : hg_C F nL d E cc own X) {i : Nat} {x : Int32} {L1 : List (Nat × Value)} (hd : decode cc pc = .ok (.istore i, 2)) (hb1 : i < nL) (hL : (i, Value.int x) :: L.filter (fun q => !(q.1 == i) && !(q.1 + 1 == i && q.2.category == 2)) = L1) {n : Nat} (hn : pc + 2 = n) (k : hg_G F nL X n L1 st σ ρ) : hg_G F nL X pc L (.int x :: st) σ ρ := by
  obtain ⟨p, l, e, R, s, m, args, below, meth, c, D, A, cells, slots, Q, ad, t⟩ := X
  obtain ⟨⟨hx, hb⟩, hml, hown, hts, hK, hDd, hA, hlk, ⟨hR1, hR2⟩, ⟨hz1, hz2⟩, hE, hEok⟩ := hC
  intro H locs ls hl hP hS
  subst hn
  exact lv_istore hx hb hd hl hb1 hL (fun ls1 hl1 => k H locs ls1 hl1 hP hS)
theorem hg_lstore_n (hC : hg_C F nL d E cc own X) {j : Fin 4} {i : Nat} {x : Int64} {L1 : List (Nat × Value)} (hd : decode cc pc = .ok (.lstore_n j, 1)) (hi : (j : Nat) = i) (hb1 : i + 1 < nL) (hL : (i, Value.long x) :: L.filter (fun q => !(q.1 == i) && (!(q.1 == i + 1) && !(q.1 + 1 == i && q.2.category == 2))) = L1) {n : Nat} (hn : pc + 1 = n) (k : hg_G F nL X n L1 st σ ρ) : hg_G F nL X pc L (.long x :: st) σ ρ := by
  obtain ⟨p, l, e, R, s, m, args, below, meth, c, D, A, cells, slots, Q, ad, t⟩ := X
  obtain ⟨⟨hx, hb⟩, hml, hown, hts, hK, hDd, hA, hlk, ⟨hR1, hR2⟩, ⟨hz1, hz2⟩, hE, hEok⟩ := hC
  intro H locs ls hl hP hS
  subst hn
  exact lv_lstore_n hx hb hd hi hl hb1 hL (fun ls1 hl1 => k H locs ls1 hl1 hP hS)
theorem hg_lstore (hC : hg_C F nL d E cc own X) {i : Nat} {x : Int64} {L1 : List (Nat × Value)} (hd : decode cc pc = .ok (.lstore i, 2)) (hb1 : i + 1 < nL) (hL : (i, Value.long x) :: L.filter (fun q => !(q.1 == i) && (!(q.1 == i + 1) && !(q.1 + 1 == i && q.2.category == 2))) = L1) {n : Nat} (hn : pc + 2 = n) (k : hg_G F nL X n L1 st σ ρ) : hg_G F nL X pc L (.long x :: st) σ ρ := by
  obtain ⟨p, l, e, R, s, m, args, below, meth, c, D, A, cells, slots, Q, ad, t⟩ := X
  obtain ⟨⟨hx, hb⟩, hml, hown, hts, hK, hDd, hA, hlk, ⟨hR1, hR2⟩, ⟨hz1, hz2⟩, hE, hEok⟩ := hC
  intro H locs ls hl hP hS
  subst hn
  exact lv_lstore hx hb hd hl hb1 hL (fun ls1 hl1 => k H locs ls1 hl1 hP hS)
theorem hg_astore_n (hC : hg_C F nL d E cc own X) {j : Fin 4} {i : Nat} {x : Nat} {L1 : List (Nat × Value)} (hd : decode cc pc = .ok (.astore_n j, 1)) (hi : (j : Nat) = i) (hb1 : i < nL) (hL : (i, Value.ref x) :: L.filter (fun q => !(q.1 == i) && !(q.1 + 1 == i && q.2.category == 2)) = L1) {n : Nat} (hn : pc + 1 = n) (k : hg_G F nL X n L1 st σ ρ) : hg_G F nL X pc L (.ref x :: st) σ ρ := by
  obtain ⟨p, l, e, R, s, m, args, below, meth, c, D, A, cells, slots, Q, ad, t⟩ := X
  obtain ⟨⟨hx, hb⟩, hml, hown, hts, hK, hDd, hA, hlk, ⟨hR1, hR2⟩, ⟨hz1, hz2⟩, hE, hEok⟩ := hC
  intro H locs ls hl hP hS
  subst hn
  exact lv_astore_n hx hb hd hi hl hb1 hL (fun ls1 hl1 => k H locs ls1 hl1 hP hS)
theorem hg_astore (hC : hg_C F nL d E cc own X) {i : Nat} {x : Nat} {L1 : List (Nat × Value)} (hd : decode cc pc = .ok (.astore i, 2)) (hb1 : i < nL) (hL : (i, Value.ref x) :: L.filter (fun q => !(q.1 == i) && !(q.1 + 1 == i && q.2.category == 2)) = L1) {n : Nat} (hn : pc + 2 = n) (k : hg_G F nL X n L1 st σ ρ) : hg_G F nL X pc L (.ref x :: st) σ ρ := by
  obtain ⟨p, l, e, R, s, m, args, below, meth, c, D, A, cells, slots, Q, ad, t⟩ := X
  obtain ⟨⟨hx, hb⟩, hml, hown, hts, hK, hDd, hA, hlk, ⟨hR1, hR2⟩, ⟨hz1, hz2⟩, hE, hEok⟩ := hC
  intro H locs ls hl hP hS
  subst hn
  exact lv_astore hx hb hd hl hb1 hL (fun ls1 hl1 => k H locs ls1 hl1 hP hS)
theorem hg_iinc (hC : hg_C F nL d E cc own X) {i : Nat} {z : Int} {x v : Int32} {L1 : List (Nat × Value)} (hd : decode cc pc = .ok (.iinc i z, 3)) (a : Nat) (ha : L[a]? = some (i, .int x)) (hv : x + Int32.ofInt z = v) (hb1 : i < nL) (hL : (i, Value.int v) :: L.filter (fun q => !(q.1 == i) && !(q.1 + 1 == i && q.2.category == 2)) = L1) {n : Nat} (hn : pc + 3 = n) (k : hg_G F nL X n L1 st σ ρ) : hg_G F nL X pc L st σ ρ := by
  obtain ⟨p, l, e, R, s, m, args, below, meth, c, D, A, cells, slots, Q, ad, t⟩ := X
  obtain ⟨⟨hx, hb⟩, hml, hown, hts, hK, hDd, hA, hlk, ⟨hR1, hR2⟩, ⟨hz1, hz2⟩, hE, hEok⟩ := hC
  intro H locs ls hl hP hS
  subst hn
  exact lv_iinc hx hb hd hl ha hv hb1 hL (fun ls1 hl1 => k H locs ls1 hl1 hP hS)
theorem hg_iadd (hC : hg_C F nL d E cc own X) {x y : Int32} (hd : decode cc pc = .ok (.iadd, 1)) {n : Nat} (hn : pc + 1 = n) (k : hg_G F nL X n L (.int (x + y) :: st) σ ρ) : hg_G F nL X pc L (.int y :: .int x :: st) σ ρ := by
  obtain ⟨p, l, e, R, s, m, args, below, meth, c, D, A, cells, slots, Q, ad, t⟩ := X
  obtain ⟨⟨hx, hb⟩, hml, hown, hts, hK, hDd, hA, hlk, ⟨hR1, hR2⟩, ⟨hz1, hz2⟩, hE, hEok⟩ := hC
  intro H locs ls hl hP hS
  subst hn
  exact lv_iadd hx hb hd (k H locs ls hl hP hS)
theorem hg_isub (hC : hg_C F nL d E cc own X) {x y : Int32} (hd : decode cc pc = .ok (.isub, 1)) {n : Nat} (hn : pc + 1 = n) (k : hg_G F nL X n L (.int (x - y) :: st) σ ρ) : hg_G F nL X pc L (.int y :: .int x :: st) σ ρ := by
  obtain ⟨p, l, e, R, s, m, args, below, meth, c, D, A, cells, slots, Q, ad, t⟩ := X
  obtain ⟨⟨hx, hb⟩, hml, hown, hts, hK, hDd, hA, hlk, ⟨hR1, hR2⟩, ⟨hz1, hz2⟩, hE, hEok⟩ := hC
  intro H locs ls hl hP hS
  subst hn
  exact lv_isub hx hb hd (k H locs ls hl hP hS)
theorem hg_imul (hC : hg_C F nL d E cc own X) {x y : Int32} (hd : decode cc pc = .ok (.imul, 1)) {n : Nat} (hn : pc + 1 = n) (k : hg_G F nL X n L (.int (x * y) :: st) σ ρ) : hg_G F nL X pc L (.int y :: .int x :: st) σ ρ := by
  obtain ⟨p, l, e, R, s, m, args, below, meth, c, D, A, cells, slots, Q, ad, t⟩ := X
  obtain ⟨⟨hx, hb⟩, hml, hown, hts, hK, hDd, hA, hlk, ⟨hR1, hR2⟩, ⟨hz1, hz2⟩, hE, hEok⟩ := hC
  intro H locs ls hl hP hS
  subst hn
  exact lv_imul hx hb hd (k H locs ls hl hP hS)
theorem hg_iand (hC : hg_C F nL d E cc own X) {x y : Int32} (hd : decode cc pc = .ok (.iand, 1)) {n : Nat} (hn : pc + 1 = n) (k : hg_G F nL X n L (.int (x &&& y) :: st) σ ρ) : hg_G F nL X pc L (.int y :: .int x :: st) σ ρ := by
  obtain ⟨p, l, e, R, s, m, args, below, meth, c, D, A, cells, slots, Q, ad, t⟩ := X
  obtain ⟨⟨hx, hb⟩, hml, hown, hts, hK, hDd, hA, hlk, ⟨hR1, hR2⟩, ⟨hz1, hz2⟩, hE, hEok⟩ := hC
  intro H locs ls hl hP hS
  subst hn
  exact lv_iand hx hb hd (k H locs ls hl hP hS)
theorem hg_ior (hC : hg_C F nL d E cc own X) {x y : Int32} (hd : decode cc pc = .ok (.ior, 1)) {n : Nat} (hn : pc + 1 = n) (k : hg_G F nL X n L (.int (x ||| y) :: st) σ ρ) : hg_G F nL X pc L (.int y :: .int x :: st) σ ρ := by
  obtain ⟨p, l, e, R, s, m, args, below, meth, c, D, A, cells, slots, Q, ad, t⟩ := X
  obtain ⟨⟨hx, hb⟩, hml, hown, hts, hK, hDd, hA, hlk, ⟨hR1, hR2⟩, ⟨hz1, hz2⟩, hE, hEok⟩ := hC
  intro H locs ls hl hP hS
  subst hn
  exact lv_ior hx hb hd (k H locs ls hl hP hS)
theorem hg_ixor (hC : hg_C F nL d E cc own X) {x y : Int32} (hd : decode cc pc = .ok (.ixor, 1)) {n : Nat} (hn : pc + 1 = n) (k : hg_G F nL X n L (.int (x ^^^ y) :: st) σ ρ) : hg_G F nL X pc L (.int y :: .int x :: st) σ ρ := by
  obtain ⟨p, l, e, R, s, m, args, below, meth, c, D, A, cells, slots, Q, ad, t⟩ := X
  obtain ⟨⟨hx, hb⟩, hml, hown, hts, hK, hDd, hA, hlk, ⟨hR1, hR2⟩, ⟨hz1, hz2⟩, hE, hEok⟩ := hC
  intro H locs ls hl hP hS
  subst hn
  exact lv_ixor hx hb hd (k H locs ls hl hP hS)
theorem hg_idiv (hC : hg_C F nL d E cc own X) {x y : Int32} (hd : decode cc pc = .ok (.idiv, 1)) (hne : ¬ y = 0) {n : Nat} (hn : pc + 1 = n) (k : hg_G F nL X n L (.int (x / y) :: st) σ ρ) : hg_G F nL X pc L (.int y :: .int x :: st) σ ρ := by
  obtain ⟨p, l, e, R, s, m, args, below, meth, c, D, A, cells, slots, Q, ad, t⟩ := X
  obtain ⟨⟨hx, hb⟩, hml, hown, hts, hK, hDd, hA, hlk, ⟨hR1, hR2⟩, ⟨hz1, hz2⟩, hE, hEok⟩ := hC
  intro H locs ls hl hP hS
  subst hn
  exact lv_idiv hx hb hd hne (k H locs ls hl hP hS)
theorem hg_irem (hC : hg_C F nL d E cc own X) {x y : Int32} (hd : decode cc pc = .ok (.irem, 1)) (hne : ¬ y = 0) {n : Nat} (hn : pc + 1 = n) (k : hg_G F nL X n L (.int (x - (x / y) * y) :: st) σ ρ) : hg_G F nL X pc L (.int y :: .int x :: st) σ ρ := by
  obtain ⟨p, l, e, R, s, m, args, below, meth, c, D, A, cells, slots, Q, ad, t⟩ := X
  obtain ⟨⟨hx, hb⟩, hml, hown, hts, hK, hDd, hA, hlk, ⟨hR1, hR2⟩, ⟨hz1, hz2⟩, hE, hEok⟩ := hC
  intro H locs ls hl hP hS
  subst hn
  exact lv_irem hx hb hd hne (k H locs ls hl hP hS)
theorem hg_dup (hC : hg_C F nL d E cc own X) {v : Value} (hd : decode cc pc = .ok (.dup, 1)) (hv : v.category = 1) {n : Nat} (hn : pc + 1 = n) (k : hg_G F nL X n L (v :: v :: st) σ ρ) : hg_G F nL X pc L (v :: st) σ ρ := by
  obtain ⟨p, l, e, R, s, m, args, below, meth, c, D, A, cells, slots, Q, ad, t⟩ := X
  obtain ⟨⟨hx, hb⟩, hml, hown, hts, hK, hDd, hA, hlk, ⟨hR1, hR2⟩, ⟨hz1, hz2⟩, hE, hEok⟩ := hC
  intro H locs ls hl hP hS
  subst hn
  exact lv_dup hx hb hd hv (k H locs ls hl hP hS)
theorem hg_pop (hC : hg_C F nL d E cc own X) {v : Value} (hd : decode cc pc = .ok (.pop, 1)) (hv : v.category = 1) {n : Nat} (hn : pc + 1 = n) (k : hg_G F nL X n L (st) σ ρ) : hg_G F nL X pc L (v :: st) σ ρ := by
  obtain ⟨p, l, e, R, s, m, args, below, meth, c, D, A, cells, slots, Q, ad, t⟩ := X
  obtain ⟨⟨hx, hb⟩, hml, hown, hts, hK, hDd, hA, hlk, ⟨hR1, hR2⟩, ⟨hz1, hz2⟩, hE, hEok⟩ := hC
  intro H locs ls hl hP hS
  subst hn
  exact lv_pop hx hb hd hv (k H locs ls hl hP hS)
theorem hg_i2l (hC : hg_C F nL d E cc own X) {x : Int32} {v : Int64} (hd : decode cc pc = .ok (.i2l, 1)) (hv : x.toInt64 = v) {n : Nat} (hn : pc + 1 = n) (k : hg_G F nL X n L (.long v :: st) σ ρ) : hg_G F nL X pc L (.int x :: st) σ ρ := by
  obtain ⟨p, l, e, R, s, m, args, below, meth, c, D, A, cells, slots, Q, ad, t⟩ := X
  obtain ⟨⟨hx, hb⟩, hml, hown, hts, hK, hDd, hA, hlk, ⟨hR1, hR2⟩, ⟨hz1, hz2⟩, hE, hEok⟩ := hC
  intro H locs ls hl hP hS
  subst hn
  exact lv_i2l hx hb hd hv (k H locs ls hl hP hS)
theorem hg_l2i (hC : hg_C F nL d E cc own X) {x : Int64} {v : Int32} (hd : decode cc pc = .ok (.l2i, 1)) (hv : x.toInt32 = v) {n : Nat} (hn : pc + 1 = n) (k : hg_G F nL X n L (.int v :: st) σ ρ) : hg_G F nL X pc L (.long x :: st) σ ρ := by
  obtain ⟨p, l, e, R, s, m, args, below, meth, c, D, A, cells, slots, Q, ad, t⟩ := X
  obtain ⟨⟨hx, hb⟩, hml, hown, hts, hK, hDd, hA, hlk, ⟨hR1, hR2⟩, ⟨hz1, hz2⟩, hE, hEok⟩ := hC
  intro H locs ls hl hP hS
  subst hn
  exact lv_l2i hx hb hd hv (k H locs ls hl hP hS)
theorem hg_ladd (hC : hg_C F nL d E cc own X) {x y : Int64} (hd : decode cc pc = .ok (.ladd, 1)) {n : Nat} (hn : pc + 1 = n) (k : hg_G F nL X n L (.long (x + y) :: st) σ ρ) : hg_G F nL X pc L (.long y :: .long x :: st) σ ρ := by
  obtain ⟨p, l, e, R, s, m, args, below, meth, c, D, A, cells, slots, Q, ad, t⟩ := X
  obtain ⟨⟨hx, hb⟩, hml, hown, hts, hK, hDd, hA, hlk, ⟨hR1, hR2⟩, ⟨hz1, hz2⟩, hE, hEok⟩ := hC
  intro H locs ls hl hP hS
  subst hn
  exact lv_ladd hx hb hd (k H locs ls hl hP hS)
theorem hg_lsub (hC : hg_C F nL d E cc own X) {x y : Int64} (hd : decode cc pc = .ok (.lsub, 1)) {n : Nat} (hn : pc + 1 = n) (k : hg_G F nL X n L (.long (x - y) :: st) σ ρ) : hg_G F nL X pc L (.long y :: .long x :: st) σ ρ := by
  obtain ⟨p, l, e, R, s, m, args, below, meth, c, D, A, cells, slots, Q, ad, t⟩ := X
  obtain ⟨⟨hx, hb⟩, hml, hown, hts, hK, hDd, hA, hlk, ⟨hR1, hR2⟩, ⟨hz1, hz2⟩, hE, hEok⟩ := hC
  intro H locs ls hl hP hS
  subst hn
  exact lv_lsub hx hb hd (k H locs ls hl hP hS)
theorem hg_lmul (hC : hg_C F nL d E cc own X) {x y : Int64} (hd : decode cc pc = .ok (.lmul, 1)) {n : Nat} (hn : pc + 1 = n) (k : hg_G F nL X n L (.long (x * y) :: st) σ ρ) : hg_G F nL X pc L (.long y :: .long x :: st) σ ρ := by
  obtain ⟨p, l, e, R, s, m, args, below, meth, c, D, A, cells, slots, Q, ad, t⟩ := X
  obtain ⟨⟨hx, hb⟩, hml, hown, hts, hK, hDd, hA, hlk, ⟨hR1, hR2⟩, ⟨hz1, hz2⟩, hE, hEok⟩ := hC
  intro H locs ls hl hP hS
  subst hn
  exact lv_lmul hx hb hd (k H locs ls hl hP hS)
theorem hg_land (hC : hg_C F nL d E cc own X) {x y : Int64} (hd : decode cc pc = .ok (.land, 1)) {n : Nat} (hn : pc + 1 = n) (k : hg_G F nL X n L (.long (x &&& y) :: st) σ ρ) : hg_G F nL X pc L (.long y :: .long x :: st) σ ρ := by
  obtain ⟨p, l, e, R, s, m, args, below, meth, c, D, A, cells, slots, Q, ad, t⟩ := X
  obtain ⟨⟨hx, hb⟩, hml, hown, hts, hK, hDd, hA, hlk, ⟨hR1, hR2⟩, ⟨hz1, hz2⟩, hE, hEok⟩ := hC
  intro H locs ls hl hP hS
  subst hn
  exact lv_land hx hb hd (k H locs ls hl hP hS)
theorem hg_lor (hC : hg_C F nL d E cc own X) {x y : Int64} (hd : decode cc pc = .ok (.lor, 1)) {n : Nat} (hn : pc + 1 = n) (k : hg_G F nL X n L (.long (x ||| y) :: st) σ ρ) : hg_G F nL X pc L (.long y :: .long x :: st) σ ρ := by
  obtain ⟨p, l, e, R, s, m, args, below, meth, c, D, A, cells, slots, Q, ad, t⟩ := X
  obtain ⟨⟨hx, hb⟩, hml, hown, hts, hK, hDd, hA, hlk, ⟨hR1, hR2⟩, ⟨hz1, hz2⟩, hE, hEok⟩ := hC
  intro H locs ls hl hP hS
  subst hn
  exact lv_lor hx hb hd (k H locs ls hl hP hS)
theorem hg_if_eq (hC : hg_C F nL d E cc own X) {x : Int32} {off : Int} {tg : Nat} (hd : decode cc pc = .ok (.ifCond .eq off, 3)) (ht : (pc : Int) + off = (tg : Int)) {n : Nat} (hn : pc + 3 = n) (kt : x = 0 → hg_G F nL X tg L st σ ρ) (kf : ¬ x = 0 → hg_G F nL X n L st σ ρ) : hg_G F nL X pc L (.int x :: st) σ ρ := by
  obtain ⟨p, l, e, R, s, m, args, below, meth, c, D, A, cells, slots, Q, ad, t⟩ := X
  obtain ⟨⟨hx, hb⟩, hml, hown, hts, hK, hDd, hA, hlk, ⟨hR1, hR2⟩, ⟨hz1, hz2⟩, hE, hEok⟩ := hC
  intro H locs ls hl hP hS
  subst hn
  exact lv_if_eq hx hb hd ht (fun h => kt h H locs ls hl hP hS) (fun h => kf h H locs ls hl hP hS)
theorem hg_if_ne (hC : hg_C F nL d E cc own X) {x : Int32} {off : Int} {tg : Nat} (hd : decode cc pc = .ok (.ifCond .ne off, 3)) (ht : (pc : Int) + off = (tg : Int)) {n : Nat} (hn : pc + 3 = n) (kt : x ≠ 0 → hg_G F nL X tg L st σ ρ) (kf : x = 0 → hg_G F nL X n L st σ ρ) : hg_G F nL X pc L (.int x :: st) σ ρ := by
  obtain ⟨p, l, e, R, s, m, args, below, meth, c, D, A, cells, slots, Q, ad, t⟩ := X
  obtain ⟨⟨hx, hb⟩, hml, hown, hts, hK, hDd, hA, hlk, ⟨hR1, hR2⟩, ⟨hz1, hz2⟩, hE, hEok⟩ := hC
  intro H locs ls hl hP hS
  subst hn
  exact lv_if_ne hx hb hd ht (fun h => kt h H locs ls hl hP hS) (fun h => kf h H locs ls hl hP hS)
theorem hg_if_lt (hC : hg_C F nL d E cc own X) {x : Int32} {off : Int} {tg : Nat} (hd : decode cc pc = .ok (.ifCond .lt off, 3)) (ht : (pc : Int) + off = (tg : Int)) {n : Nat} (hn : pc + 3 = n) (kt : x < 0 → hg_G F nL X tg L st σ ρ) (kf : ¬ x < 0 → hg_G F nL X n L st σ ρ) : hg_G F nL X pc L (.int x :: st) σ ρ := by
  obtain ⟨p, l, e, R, s, m, args, below, meth, c, D, A, cells, slots, Q, ad, t⟩ := X
  obtain ⟨⟨hx, hb⟩, hml, hown, hts, hK, hDd, hA, hlk, ⟨hR1, hR2⟩, ⟨hz1, hz2⟩, hE, hEok⟩ := hC
  intro H locs ls hl hP hS
  subst hn
  exact lv_if_lt hx hb hd ht (fun h => kt h H locs ls hl hP hS) (fun h => kf h H locs ls hl hP hS)
theorem hg_if_ge (hC : hg_C F nL d E cc own X) {x : Int32} {off : Int} {tg : Nat} (hd : decode cc pc = .ok (.ifCond .ge off, 3)) (ht : (pc : Int) + off = (tg : Int)) {n : Nat} (hn : pc + 3 = n) (kt : 0 ≤ x → hg_G F nL X tg L st σ ρ) (kf : ¬ 0 ≤ x → hg_G F nL X n L st σ ρ) : hg_G F nL X pc L (.int x :: st) σ ρ := by
  obtain ⟨p, l, e, R, s, m, args, below, meth, c, D, A, cells, slots, Q, ad, t⟩ := X
  obtain ⟨⟨hx, hb⟩, hml, hown, hts, hK, hDd, hA, hlk, ⟨hR1, hR2⟩, ⟨hz1, hz2⟩, hE, hEok⟩ := hC
  intro H locs ls hl hP hS
  subst hn
  exact lv_if_ge hx hb hd ht (fun h => kt h H locs ls hl hP hS) (fun h => kf h H locs ls hl hP hS)
theorem hg_if_gt (hC : hg_C F nL d E cc own X) {x : Int32} {off : Int} {tg : Nat} (hd : decode cc pc = .ok (.ifCond .gt off, 3)) (ht : (pc : Int) + off = (tg : Int)) {n : Nat} (hn : pc + 3 = n) (kt : 0 < x → hg_G F nL X tg L st σ ρ) (kf : ¬ 0 < x → hg_G F nL X n L st σ ρ) : hg_G F nL X pc L (.int x :: st) σ ρ := by
  obtain ⟨p, l, e, R, s, m, args, below, meth, c, D, A, cells, slots, Q, ad, t⟩ := X
  obtain ⟨⟨hx, hb⟩, hml, hown, hts, hK, hDd, hA, hlk, ⟨hR1, hR2⟩, ⟨hz1, hz2⟩, hE, hEok⟩ := hC
  intro H locs ls hl hP hS
  subst hn
  exact lv_if_gt hx hb hd ht (fun h => kt h H locs ls hl hP hS) (fun h => kf h H locs ls hl hP hS)
theorem hg_if_le (hC : hg_C F nL d E cc own X) {x : Int32} {off : Int} {tg : Nat} (hd : decode cc pc = .ok (.ifCond .le off, 3)) (ht : (pc : Int) + off = (tg : Int)) {n : Nat} (hn : pc + 3 = n) (kt : x ≤ 0 → hg_G F nL X tg L st σ ρ) (kf : ¬ x ≤ 0 → hg_G F nL X n L st σ ρ) : hg_G F nL X pc L (.int x :: st) σ ρ := by
  obtain ⟨p, l, e, R, s, m, args, below, meth, c, D, A, cells, slots, Q, ad, t⟩ := X
  obtain ⟨⟨hx, hb⟩, hml, hown, hts, hK, hDd, hA, hlk, ⟨hR1, hR2⟩, ⟨hz1, hz2⟩, hE, hEok⟩ := hC
  intro H locs ls hl hP hS
  subst hn
  exact lv_if_le hx hb hd ht (fun h => kt h H locs ls hl hP hS) (fun h => kf h H locs ls hl hP hS)
theorem hg_icmp_eq (hC : hg_C F nL d E cc own X) {x y : Int32} {off : Int} {tg : Nat} (hd : decode cc pc = .ok (.if_icmp .eq off, 3)) (ht : (pc : Int) + off = (tg : Int)) {n : Nat} (hn : pc + 3 = n) (kt : x = y → hg_G F nL X tg L st σ ρ) (kf : ¬ (x = y) → hg_G F nL X n L st σ ρ) : hg_G F nL X pc L (.int y :: .int x :: st) σ ρ := by
  obtain ⟨p, l, e, R, s, m, args, below, meth, c, D, A, cells, slots, Q, ad, t⟩ := X
  obtain ⟨⟨hx, hb⟩, hml, hown, hts, hK, hDd, hA, hlk, ⟨hR1, hR2⟩, ⟨hz1, hz2⟩, hE, hEok⟩ := hC
  intro H locs ls hl hP hS
  subst hn
  exact lv_icmp_eq hx hb hd ht (fun h => kt h H locs ls hl hP hS) (fun h => kf h H locs ls hl hP hS)
theorem hg_icmp_ne (hC : hg_C F nL d E cc own X) {x y : Int32} {off : Int} {tg : Nat} (hd : decode cc pc = .ok (.if_icmp .ne off, 3)) (ht : (pc : Int) + off = (tg : Int)) {n : Nat} (hn : pc + 3 = n) (kt : x ≠ y → hg_G F nL X tg L st σ ρ) (kf : x = y → hg_G F nL X n L st σ ρ) : hg_G F nL X pc L (.int y :: .int x :: st) σ ρ := by
  obtain ⟨p, l, e, R, s, m, args, below, meth, c, D, A, cells, slots, Q, ad, t⟩ := X
  obtain ⟨⟨hx, hb⟩, hml, hown, hts, hK, hDd, hA, hlk, ⟨hR1, hR2⟩, ⟨hz1, hz2⟩, hE, hEok⟩ := hC
  intro H locs ls hl hP hS
  subst hn
  exact lv_icmp_ne hx hb hd ht (fun h => kt h H locs ls hl hP hS) (fun h => kf h H locs ls hl hP hS)
theorem hg_icmp_lt (hC : hg_C F nL d E cc own X) {x y : Int32} {off : Int} {tg : Nat} (hd : decode cc pc = .ok (.if_icmp .lt off, 3)) (ht : (pc : Int) + off = (tg : Int)) {n : Nat} (hn : pc + 3 = n) (kt : x < y → hg_G F nL X tg L st σ ρ) (kf : ¬ (x < y) → hg_G F nL X n L st σ ρ) : hg_G F nL X pc L (.int y :: .int x :: st) σ ρ := by
  obtain ⟨p, l, e, R, s, m, args, below, meth, c, D, A, cells, slots, Q, ad, t⟩ := X
  obtain ⟨⟨hx, hb⟩, hml, hown, hts, hK, hDd, hA, hlk, ⟨hR1, hR2⟩, ⟨hz1, hz2⟩, hE, hEok⟩ := hC
  intro H locs ls hl hP hS
  subst hn
  exact lv_icmp_lt hx hb hd ht (fun h => kt h H locs ls hl hP hS) (fun h => kf h H locs ls hl hP hS)
theorem hg_icmp_ge (hC : hg_C F nL d E cc own X) {x y : Int32} {off : Int} {tg : Nat} (hd : decode cc pc = .ok (.if_icmp .ge off, 3)) (ht : (pc : Int) + off = (tg : Int)) {n : Nat} (hn : pc + 3 = n) (kt : y ≤ x → hg_G F nL X tg L st σ ρ) (kf : ¬ (y ≤ x) → hg_G F nL X n L st σ ρ) : hg_G F nL X pc L (.int y :: .int x :: st) σ ρ := by
  obtain ⟨p, l, e, R, s, m, args, below, meth, c, D, A, cells, slots, Q, ad, t⟩ := X
  obtain ⟨⟨hx, hb⟩, hml, hown, hts, hK, hDd, hA, hlk, ⟨hR1, hR2⟩, ⟨hz1, hz2⟩, hE, hEok⟩ := hC
  intro H locs ls hl hP hS
  subst hn
  exact lv_icmp_ge hx hb hd ht (fun h => kt h H locs ls hl hP hS) (fun h => kf h H locs ls hl hP hS)
theorem hg_icmp_gt (hC : hg_C F nL d E cc own X) {x y : Int32} {off : Int} {tg : Nat} (hd : decode cc pc = .ok (.if_icmp .gt off, 3)) (ht : (pc : Int) + off = (tg : Int)) {n : Nat} (hn : pc + 3 = n) (kt : y < x → hg_G F nL X tg L st σ ρ) (kf : ¬ (y < x) → hg_G F nL X n L st σ ρ) : hg_G F nL X pc L (.int y :: .int x :: st) σ ρ := by
  obtain ⟨p, l, e, R, s, m, args, below, meth, c, D, A, cells, slots, Q, ad, t⟩ := X
  obtain ⟨⟨hx, hb⟩, hml, hown, hts, hK, hDd, hA, hlk, ⟨hR1, hR2⟩, ⟨hz1, hz2⟩, hE, hEok⟩ := hC
  intro H locs ls hl hP hS
  subst hn
  exact lv_icmp_gt hx hb hd ht (fun h => kt h H locs ls hl hP hS) (fun h => kf h H locs ls hl hP hS)
theorem hg_icmp_le (hC : hg_C F nL d E cc own X) {x y : Int32} {off : Int} {tg : Nat} (hd : decode cc pc = .ok (.if_icmp .le off, 3)) (ht : (pc : Int) + off = (tg : Int)) {n : Nat} (hn : pc + 3 = n) (kt : x ≤ y → hg_G F nL X tg L st σ ρ) (kf : ¬ (x ≤ y) → hg_G F nL X n L st σ ρ) : hg_G F nL X pc L (.int y :: .int x :: st) σ ρ := by
  obtain ⟨p, l, e, R, s, m, args, below, meth, c, D, A, cells, slots, Q, ad, t⟩ := X
  obtain ⟨⟨hx, hb⟩, hml, hown, hts, hK, hDd, hA, hlk, ⟨hR1, hR2⟩, ⟨hz1, hz2⟩, hE, hEok⟩ := hC
  intro H locs ls hl hP hS
  subst hn
  exact lv_icmp_le hx hb hd ht (fun h => kt h H locs ls hl hP hS) (fun h => kf h H locs ls hl hP hS)
theorem hg_goto (hC : hg_C F nL d E cc own X) {off : Int} {tg : Nat} (hd : decode cc pc = .ok (.goto off, 3)) (ht : (pc : Int) + off = (tg : Int)) (k : hg_G F nL X tg L st σ ρ) : hg_G F nL X pc L st σ ρ := by
  obtain ⟨p, l, e, R, s, m, args, below, meth, c, D, A, cells, slots, Q, ad, t⟩ := X
  obtain ⟨⟨hx, hb⟩, hml, hown, hts, hK, hDd, hA, hlk, ⟨hR1, hR2⟩, ⟨hz1, hz2⟩, hE, hEok⟩ := hC
  intro H locs ls hl hP hS
  exact lv_goto hx hb hd ht (k H locs ls hl hP hS)
theorem hg_topi {x : Int32} (k : ∀ y : Int32, y = x → hg_G F nL X pc L (.int y :: st) σ ρ) : hg_G F nL X pc L (.int x :: st) σ ρ := k x rfl
theorem hg_topl {x : Int64} (k : ∀ y : Int64, y = x → hg_G F nL X pc L (.long y :: st) σ ρ) : hg_G F nL X pc L (.long x :: st) σ ρ := k x rfl
theorem hg_sub {L1 : List (Nat × Value)} (ks : List Nat) (h : lv_pick L ks = L1) (k : hg_G F nL X pc L1 st σ ρ) : hg_G F nL X pc L st σ ρ := by
  obtain ⟨p, l, e, R, s, m, args, below, meth, c, D, A, cells, slots, Q, ad, t⟩ := X
  intro H locs ls hl hP hS
  exact k H locs ls (lv_sub hl ks h) hP hS
theorem hg_iald (hC : hg_C F nL d E cc own X) {q z : Nat} {i : Int32} (hd : decode cc pc = .ok (.iaload, 1)) (hq : q < F.1) (hk : F.2.1 q = (0, z)) (hi : vp_in i z) {n : Nat} (hn : pc + 1 = n) (k : hg_G F nL X n L (.int (σ q i.toNatClampNeg) :: st) σ ρ) : hg_G F nL X pc L (.int i :: .ref (hg_ad X q) :: st) σ ρ := by
  obtain ⟨p, l, e, R, s, m, args, below, meth, c, D, A, cells, slots, Q, ad, t⟩ := X
  obtain ⟨⟨hx, hb⟩, hml, hown, hts, hK, hDd, hA, hlk, ⟨hR1, hR2⟩, ⟨hz1, hz2⟩, hE, hEok⟩ := hC
  intro H locs ls hl hP hS
  subst hn
  exact va_iald hx hb hK hP q 0 ((hg_at hq).trans (by rw [hg_cell0 hk]; rfl)) rfl hi hd (k H locs ls hl hP hS)
theorem hg_zald (hC : hg_C F nL d E cc own X) {q z : Nat} {i : Int32} (hd : decode cc pc = .ok (.baload, 1)) (hq : q < F.1) (hk : F.2.1 q = (1, z)) (hi : vp_in i z) {n : Nat} (hn : pc + 1 = n) (k : hg_G F nL X n L (.int (σ q i.toNatClampNeg) :: st) σ ρ) : hg_G F nL X pc L (.int i :: .ref (hg_ad X q) :: st) σ ρ := by
  obtain ⟨p, l, e, R, s, m, args, below, meth, c, D, A, cells, slots, Q, ad, t⟩ := X
  obtain ⟨⟨hx, hb⟩, hml, hown, hts, hK, hDd, hA, hlk, ⟨hR1, hR2⟩, ⟨hz1, hz2⟩, hE, hEok⟩ := hC
  intro H locs ls hl hP hS
  subst hn
  exact va_zald hx hb hK hP q 1 ((hg_at hq).trans (by rw [hg_cell1 hk]; rfl)) rfl hi hd (k H locs ls hl hP hS)
theorem hg_iast (hC : hg_C F nL d E cc own X) {q z : Nat} {i x : Int32} (hd : decode cc pc = .ok (.iastore, 1)) (hq : q < F.1) (hk : F.2.1 q = (0, z)) (hi : vp_in i z) {n : Nat} (hn : pc + 1 = n) (k : ∀ σ1, σ1 = hg_set σ q i.toNatClampNeg x → hg_G F nL X n L st σ1 ρ) : hg_G F nL X pc L (.int x :: .int i :: .ref (hg_ad X q) :: st) σ ρ := by
  obtain ⟨p, l, e, R, s, m, args, below, meth, c, D, A, cells, slots, Q, ad, t⟩ := X
  obtain ⟨⟨hx, hb⟩, hml, hown, hts, hK, hDd, hA, hlk, ⟨hR1, hR2⟩, ⟨hz1, hz2⟩, hE, hEok⟩ := hC
  intro H locs ls hl hP hS
  subst hn
  refine va_iast hx hb hK hP (hDd.va t σ ρ) hS q 0 ((hg_at hq).trans (by rw [hg_cell0 hk]; rfl)) rfl hi hd (fun H1 locs1 hP1 hD1 hS1 => k _ rfl H1 locs1 ls hl ?_ hS1)
  exact (hg_put0 hq hk) ▸ hP1
theorem hg_zast (hC : hg_C F nL d E cc own X) {q z : Nat} {i x : Int32} (hd : decode cc pc = .ok (.bastore, 1)) (hq : q < F.1) (hk : F.2.1 q = (1, z)) (hi : vp_in i z) {n : Nat} (hn : pc + 1 = n) (k : ∀ σ1, σ1 = hg_set σ q i.toNatClampNeg (vp_nar .boolean x) → hg_G F nL X n L st σ1 ρ) : hg_G F nL X pc L (.int x :: .int i :: .ref (hg_ad X q) :: st) σ ρ := by
  obtain ⟨p, l, e, R, s, m, args, below, meth, c, D, A, cells, slots, Q, ad, t⟩ := X
  obtain ⟨⟨hx, hb⟩, hml, hown, hts, hK, hDd, hA, hlk, ⟨hR1, hR2⟩, ⟨hz1, hz2⟩, hE, hEok⟩ := hC
  intro H locs ls hl hP hS
  subst hn
  refine va_zast hx hb hK hP (hDd.va t σ ρ) hS q 1 ((hg_at hq).trans (by rw [hg_cell1 hk]; rfl)) rfl hi hd (fun H1 locs1 hP1 hD1 hS1 => k _ rfl H1 locs1 ls hl ?_ hS1)
  exact (hg_put1 hq hk) ▸ hP1
theorem hg_aald (hC : hg_C F nL d E cc own X) {q z r : Nat} {i : Int32} (hd : decode cc pc = .ok (.aaload, 1)) (hq : q < F.1) (hk : F.2.1 q = (2, z)) (hi : vp_in i z) (hr : ρ q i.toNatClampNeg = r) {n : Nat} (hn : pc + 1 = n) (k : hg_G F nL X n L (.ref (hg_ad X r) :: st) σ ρ) : hg_G F nL X pc L (.int i :: .ref (hg_ad X q) :: st) σ ρ := by
  obtain ⟨p, l, e, R, s, m, args, below, meth, c, D, A, cells, slots, Q, ad, t⟩ := X
  obtain ⟨⟨hx, hb⟩, hml, hown, hts, hK, hDd, hA, hlk, ⟨hR1, hR2⟩, ⟨hz1, hz2⟩, hE, hEok⟩ := hC
  intro H locs ls hl hP hS
  subst hn
  subst hr
  have ha : (hg_ws F t ad σ ρ)[q]? = some (ad q, .inl (t.2.2, z, .inr (.inr (.inr (.inr (fun i => some (ad (ρ q i)))))))) := (hg_at hq).trans (by rw [hg_cell2 hk])
  have hlt : i.toNatClampNeg < z := Nat.not_le.mp fun q => hi (Or.inr q)
  exact W.aald (v := .ref (ad (ρ q i.toNatClampNeg))) (ty := .array .int) hx hb (hP q _ ha) ((hK.2 2 _ rfl).1 z (fun j => va_rf (some (ad (ρ q j))))) rfl (fun q => by cases q) (by show ¬ (i < 0 ∨ (arrV _ _ _).slots.size ≤ _); rw [arrV_size]; exact hi) (by show (arrV _ _ _).slots[_]? = _; rw [arrV_read _ _ hlt]; rfl) rfl rfl hd (k H locs ls hl hP hS)
theorem hg_alen (hC : hg_C F nL d E cc own X) {q z kd : Nat} {v : Int32} (hd : decode cc pc = .ok (.arraylength, 1)) (hq : q < F.1) (hk : F.2.1 q = (kd, z)) (h2 : kd < 3) (hv : Int32.ofNat z = v) {n : Nat} (hn : pc + 1 = n) (k : hg_G F nL X n L (.int v :: st) σ ρ) : hg_G F nL X pc L (.ref (hg_ad X q) :: st) σ ρ := by
  obtain ⟨p, l, e, R, s, m, args, below, meth, c, D, A, cells, slots, Q, ad, t⟩ := X
  obtain ⟨⟨hx, hb⟩, hml, hown, hts, hK, hDd, hA, hlk, ⟨hR1, hR2⟩, ⟨hz1, hz2⟩, hE, hEok⟩ := hC
  intro H locs ls hl hP hS
  subst hn
  have hc : kd = 0 ∨ kd = 1 ∨ kd = 2 := by omega
  rcases hc with rfl | rfl | rfl
  · exact va_alen hx hb hK hP q 0 ((hg_at hq).trans (by rw [hg_cell0 hk]; rfl)) rfl hv hd (k H locs ls hl hP hS)
  · exact va_alen hx hb hK hP q 1 ((hg_at hq).trans (by rw [hg_cell1 hk]; rfl)) rfl hv hd (k H locs ls hl hP hS)
  · exact va_alen hx hb hK hP q 2 ((hg_at hq).trans (by rw [hg_cell2 hk]; rfl)) rfl hv hd (k H locs ls hl hP hS)
/-- a field, as a class names it at a place of its pool: what the tables say of it -/
def hg_Fl (own : String) (index ci k N : Nat) : Prop := ∃ (C ref : String) (T : u_T), (∀ w ∈ u_ws C T N, w ∈ hg_tbl) ∧ Cond.fieldLink own index ref (T k).2.1 (T k).2.2.1 ∈ hg_tbl ∧ (T k).1 = ref ∧ vwCl[ci]? = some (C, T, N) ∧ k < N
def hg_Fp (own : String) (index ci k N : Nat) (ty : FieldType) : Prop := ∃ (C ref : String) (T : u_T) (ty0 : Nat → FieldType), (∀ w ∈ u_ws C T N, w ∈ hg_tbl) ∧ Cond.fieldLink own index ref (T k).2.1 (T k).2.2.1 ∈ hg_tbl ∧ (T k).1 = ref ∧ vwCl[ci]? = some (C, T, N) ∧ k < N ∧ (∀ k, k < N → parseFieldDescriptor (T k).2.2.1 = some (ty0 k)) ∧ (∀ a, a < N → ∀ b, b < N → a ≠ b → (T a).2.1 ≠ (T b).2.1) ∧ (T k).2.2.2 = false ∧ parseFieldDescriptor (T k).2.2.1 = some ty
theorem hg_get (hC : hg_C F nL d E cc own X) {index ci j N q : Nat} (fl : hg_Fl own index ci j N) (hd : decode cc pc = .ok (.getfield index, 3)) (hq : q < F.1) (hk : F.2.1 q = (ci + 3, N)) {n : Nat} (hn : pc + 3 = n) (k : hg_G F nL X n L (hg_fv F (hg_ad X) σ ρ q ci j :: st) σ ρ) : hg_G F nL X pc L (.ref (hg_ad X q) :: st) σ ρ := by
  obtain ⟨p, l, e, R, s, m, args, below, meth, c, D, A, cells, slots, Q, ad, t⟩ := X
  obtain ⟨⟨hx, hb⟩, hml, hown, hts, hK, hDd, hA, hlk, ⟨hR1, hR2⟩, ⟨hz1, hz2⟩, hE, hEok⟩ := hC
  intro H locs ls hl hP hS
  subst hn
  obtain ⟨C, ref, T, h1, h2, h3, h4, h5⟩ := fl
  subst h3
  exact va_get hx hb hts h1 hown hK hP q ((hg_at hq).trans (by rw [hg_cell3 hk]; rfl)) h4 j h5 (hts _ h2) (fun _ h9 => h9) (by simp [h5]; rfl) hd (k H locs ls hl hP hS)
theorem hg_geti (hC : hg_C F nL d E cc own X) {index ci j N q : Nat} (fl : hg_Fl own index ci j N) (hd : decode cc pc = .ok (.getfield index, 3)) (hq : q < F.1) (hk : F.2.1 q = (ci + 3, N)) (hf : F.2.2 ci j = false) {n : Nat} (hn : pc + 3 = n) (k : hg_G F nL X n L (.int (σ q j) :: st) σ ρ) : hg_G F nL X pc L (.ref (hg_ad X q) :: st) σ ρ := hg_get hC fl hd hq hk hn (by unfold hg_fv; rw [hf, if_neg (by decide)]; exact k)
theorem hg_getr (hC : hg_C F nL d E cc own X) {index ci j N q r : Nat} (fl : hg_Fl own index ci j N) (hd : decode cc pc = .ok (.getfield index, 3)) (hq : q < F.1) (hk : F.2.1 q = (ci + 3, N)) (hf : F.2.2 ci j = true) (hr : ρ q j = r) {n : Nat} (hn : pc + 3 = n) (k : hg_G F nL X n L (.ref (hg_ad X r) :: st) σ ρ) : hg_G F nL X pc L (.ref (hg_ad X q) :: st) σ ρ := hg_get hC fl hd hq hk hn (by unfold hg_fv; rw [hf, if_pos rfl, hr]; exact k)
theorem hg_puti (hC : hg_C F nL d E cc own X) {index ci j N q : Nat} {ty : FieldType} {x : Int32} (fl : hg_Fp own index ci j N ty) (hd : decode cc pc = .ok (.putfield index, 3)) (hq : q < F.1) (hk : F.2.1 q = (ci + 3, N)) (hf : F.2.2 ci j = false) (hna : narrow ty (.int x) = .int x) (hfi : fits ty (.int x) = true) {n : Nat} (hn : pc + 3 = n) (k : ∀ σ1, σ1 = hg_set σ q j x → hg_G F nL X n L st σ1 ρ) : hg_G F nL X pc L (.int x :: .ref (hg_ad X q) :: st) σ ρ := by
  obtain ⟨p, l, e, R, s, m, args, below, meth, c, D, A, cells, slots, Q, ad, t⟩ := X
  obtain ⟨⟨hx, hb⟩, hml, hown, hts, hK, hDd, hA, hlk, ⟨hR1, hR2⟩, ⟨hz1, hz2⟩, hE, hEok⟩ := hC
  intro H locs ls hl hP hS
  subst hn
  obtain ⟨C, ref, T, ty0, h1, h2, h3, h4, h5, h6, h7, h8, h9⟩ := fl
  subst h3
  refine va_put hx hb hts h1 ty0 h6 h7 hown hK hP (hDd.va t σ ρ) hS q ((hg_at hq).trans (by rw [hg_cell3 hk]; rfl)) h4 j h5 (hts _ h2) (fun _ h9 => h9) h8 h9 hna hfi (by simp [h5]) hd (fun H1 locs1 hP1 hD1 hS1 => k _ rfl H1 locs1 ls hl ?_ hS1)
  exact (hg_put3 hq hk h5 hf) ▸ hP1
theorem hg_putr (hC : hg_C F nL d E cc own X) {index ci j N q r : Nat} {ty : FieldType} (fl : hg_Fp own index ci j N ty) (hd : decode cc pc = .ok (.putfield index, 3)) (hq : q < F.1) (hk : F.2.1 q = (ci + 3, N)) (hf : F.2.2 ci j = true) (hna : narrow ty (.ref 0) = .ref 0) (hfi : ∀ a, fits ty (.ref a) = true) {n : Nat} (hn : pc + 3 = n) (k : ∀ ρ1, ρ1 = hg_rset ρ q j r → hg_G F nL X n L st σ ρ1) : hg_G F nL X pc L (.ref (hg_ad X r) :: .ref (hg_ad X q) :: st) σ ρ := by
  obtain ⟨p, l, e, R, s, m, args, below, meth, c, D, A, cells, slots, Q, ad, t⟩ := X
  obtain ⟨⟨hx, hb⟩, hml, hown, hts, hK, hDd, hA, hlk, ⟨hR1, hR2⟩, ⟨hz1, hz2⟩, hE, hEok⟩ := hC
  intro H locs ls hl hP hS
  subst hn
  obtain ⟨C, ref, T, ty0, h1, h2, h3, h4, h5, h6, h7, h8, h9⟩ := fl
  subst h3
  refine va_put hx hb hts h1 ty0 h6 h7 hown hK hP (hDd.va t σ ρ) hS q ((hg_at hq).trans (by rw [hg_cell3 hk]; rfl)) h4 j h5 (hts _ h2) (fun _ h9 => h9) h8 h9 (by cases ty <;> first | rfl | (simp [narrow] at hna)) (hfi _) (by simp [h5]) hd (fun H1 locs1 hP1 hD1 hS1 => k _ rfl H1 locs1 ls hl ?_ hS1)
  exact (hg_put3r hq hk h5 hf) ▸ hP1
theorem hg_ldc2 (hC : hg_C F nL d E cc own X) {index : Nat} {v : Int64} (hd : decode cc pc = .ok (.ldc2_w index, 3)) (hk : Cond.constantLong own index v ∈ hg_tbl) {n : Nat} (hn : pc + 3 = n) (k : hg_G F nL X n L (.long v :: st) σ ρ) : hg_G F nL X pc L (st) σ ρ := by
  obtain ⟨p, l, e, R, s, m, args, below, meth, c, D, A, cells, slots, Q, ad, t⟩ := X
  obtain ⟨⟨hx, hb⟩, hml, hown, hts, hK, hDd, hA, hlk, ⟨hR1, hR2⟩, ⟨hz1, hz2⟩, hE, hEok⟩ := hC
  intro H locs ls hl hP hS
  subst hn
  exact lv_ldc2 hx hb hown (hts _ hk) hd (k H locs ls hl hP hS)
theorem hg_lcmp (hC : hg_C F nL d E cc own X) {x y : Int64} (hd : decode cc pc = .ok (.lcmp, 1)) {n : Nat} (hn : pc + 1 = n) (k : hg_G F nL X n L (.int (lg_cmp x y) :: st) σ ρ) : hg_G F nL X pc L (.long y :: .long x :: st) σ ρ := by
  obtain ⟨p, l, e, R, s, m, args, below, meth, c, D, A, cells, slots, Q, ad, t⟩ := X
  obtain ⟨⟨hx, hb⟩, hml, hown, hts, hK, hDd, hA, hlk, ⟨hR1, hR2⟩, ⟨hz1, hz2⟩, hE, hEok⟩ := hC
  intro H locs ls hl hP hS
  subst hn
  exact W.lcmp hx hb hd (k H locs ls hl hP hS)
theorem hg_lushr (hC : hg_C F nL d E cc own X) {x v : Int64} {y : Int32} (hd : decode cc pc = .ok (.lushr, 1)) (hv : (x.toUInt64 >>> (y.toInt64.toUInt64 &&& Int64.toUInt64 63)).toInt64 = v) {n : Nat} (hn : pc + 1 = n) (k : hg_G F nL X n L (.long v :: st) σ ρ) : hg_G F nL X pc L (.int y :: .long x :: st) σ ρ := by
  obtain ⟨p, l, e, R, s, m, args, below, meth, c, D, A, cells, slots, Q, ad, t⟩ := X
  obtain ⟨⟨hx, hb⟩, hml, hown, hts, hK, hDd, hA, hlk, ⟨hR1, hR2⟩, ⟨hz1, hz2⟩, hE, hEok⟩ := hC
  intro H locs ls hl hP hS
  subst hn
  exact lv_lushr hx hb hd hv (k H locs ls hl hP hS)
theorem hg_lshl (hC : hg_C F nL d E cc own X) {x v : Int64} {y : Int32} (hd : decode cc pc = .ok (.lshl, 1)) (hv : x <<< (y.toInt64 &&& 63) = v) {n : Nat} (hn : pc + 1 = n) (k : hg_G F nL X n L (.long v :: st) σ ρ) : hg_G F nL X pc L (.int y :: .long x :: st) σ ρ := by
  obtain ⟨p, l, e, R, s, m, args, below, meth, c, D, A, cells, slots, Q, ad, t⟩ := X
  obtain ⟨⟨hx, hb⟩, hml, hown, hts, hK, hDd, hA, hlk, ⟨hR1, hR2⟩, ⟨hz1, hz2⟩, hE, hEok⟩ := hC
  intro H locs ls hl hP hS
  subst hn
  exact lv_lshl hx hb hd hv (k H locs ls hl hP hS)
theorem hg_lshr (hC : hg_C F nL d E cc own X) {x v : Int64} {y : Int32} (hd : decode cc pc = .ok (.lshr, 1)) (hv : x >>> (y.toInt64 &&& 63) = v) {n : Nat} (hn : pc + 1 = n) (k : hg_G F nL X n L (.long v :: st) σ ρ) : hg_G F nL X pc L (.int y :: .long x :: st) σ ρ := by
  obtain ⟨p, l, e, R, s, m, args, below, meth, c, D, A, cells, slots, Q, ad, t⟩ := X
  obtain ⟨⟨hx, hb⟩, hml, hown, hts, hK, hDd, hA, hlk, ⟨hR1, hR2⟩, ⟨hz1, hz2⟩, hE, hEok⟩ := hC
  intro H locs ls hl hP hS
  subst hn
  exact lv_lshr hx hb hd hv (k H locs ls hl hP hS)
theorem hg_lneg (hC : hg_C F nL d E cc own X) {x : Int64} (hd : decode cc pc = .ok (.lneg, 1)) {n : Nat} (hn : pc + 1 = n) (k : hg_G F nL X n L (.long (-x) :: st) σ ρ) : hg_G F nL X pc L (.long x :: st) σ ρ := by
  obtain ⟨p, l, e, R, s, m, args, below, meth, c, D, A, cells, slots, Q, ad, t⟩ := X
  obtain ⟨⟨hx, hb⟩, hml, hown, hts, hK, hDd, hA, hlk, ⟨hR1, hR2⟩, ⟨hz1, hz2⟩, hE, hEok⟩ := hC
  intro H locs ls hl hP hS
  subst hn
  exact lv_lneg hx hb hd (k H locs ls hl hP hS)
theorem hg_ldiv (hC : hg_C F nL d E cc own X) {x y : Int64} (hd : decode cc pc = .ok (.ldiv, 1)) (hne : ¬ y = 0) {n : Nat} (hn : pc + 1 = n) (k : hg_G F nL X n L (.long (x / y) :: st) σ ρ) : hg_G F nL X pc L (.long y :: .long x :: st) σ ρ := by
  obtain ⟨p, l, e, R, s, m, args, below, meth, c, D, A, cells, slots, Q, ad, t⟩ := X
  obtain ⟨⟨hx, hb⟩, hml, hown, hts, hK, hDd, hA, hlk, ⟨hR1, hR2⟩, ⟨hz1, hz2⟩, hE, hEok⟩ := hC
  intro H locs ls hl hP hS
  subst hn
  exact lv_ldiv hx hb hd hne (k H locs ls hl hP hS)
theorem hg_dup2 (hC : hg_C F nL d E cc own X) {u v : Value} (hd : decode cc pc = .ok (.dup2, 1)) (hu : u.category = 1) (hv : v.category = 1) {n : Nat} (hn : pc + 1 = n) (k : hg_G F nL X n L (u :: v :: u :: v :: st) σ ρ) : hg_G F nL X pc L (u :: v :: st) σ ρ := by
  obtain ⟨p, l, e, R, s, m, args, below, meth, c, D, A, cells, slots, Q, ad, t⟩ := X
  obtain ⟨⟨hx, hb⟩, hml, hown, hts, hK, hDd, hA, hlk, ⟨hR1, hR2⟩, ⟨hz1, hz2⟩, hE, hEok⟩ := hC
  intro H locs ls hl hP hS
  subst hn
  exact lv_dup2_11 hx hb hd hu hv (k H locs ls hl hP hS)
def hg_max (x y : Int32) : Int32 := if x < y then y else x
def hg_minl (x y : Int64) : Int64 := if y < x then y else x
def hg_cpy (σ : hg_M) (q0 q1 sp dp n : Nat) : hg_M := fun a b => if a = q1 then va_cpy (σ q0) (σ q1) sp dp n b else σ a b
theorem hg_mmax (hC : hg_C F nL (d + 1) E cc own X) {index : Nat} {x y : Int32} (h1 : Cond.methodLink own index Lib.Math.max.name ∈ hg_tbl) (h2 : Cond.static Lib.Math.max.name ∈ hg_tbl) (h3 : Cond.initialized "java/lang/Math" ∈ hg_tbl) (h4 : Cond.code Lib.Math.max.name Lib.Math.max.code 2 (some .int) ∈ hg_tbl) (hcat : (st.map fun v => v.category).sum ≤ 8) (hd : decode cc pc = .ok (.invokestatic index, 3)) {n : Nat} (hn : pc + 3 = n) (k : hg_G F nL X n L (.int (hg_max x y) :: st) σ ρ) : hg_G F nL X pc L (.int y :: .int x :: st) σ ρ := by
  obtain ⟨p, l, e, R, s, m, args, below, meth, c, D, A, cells, slots, Q, ad, t⟩ := X
  obtain ⟨⟨hx, hb⟩, hml, hown, hts, hK, hDd, hA, hlk, ⟨hR1, hR2⟩, ⟨hz1, hz2⟩, hE, hEok⟩ := hC
  intro H locs ls hl hP hS
  subst hn; subst hz1; subst hz2
  exact va_mmax hx hb (hml.trans hl.1.symm) hown (hts _ h1) (hts _ h2) (hts _ h3) (hts _ h4) (by rw [hR1]; exact Nat.le_add_left 1 d) (by rw [hR2]; omega) (Nat.zero_le _) (Nat.zero_le _) hd (k H locs ls hl hP hS)
theorem hg_mminl (hC : hg_C F nL (d + 1) E cc own X) {index : Nat} {x y : Int64} (h1 : Cond.methodLink own index Lib.MathLoose.min_long.x ∈ hg_tbl) (h2 : Cond.static Lib.MathLoose.min_long.x ∈ hg_tbl) (h3 : Cond.initialized "java/lang/Math" ∈ hg_tbl) (h4 : Cond.code Lib.MathLoose.min_long.x Lib.MathLoose.min_long.code 4 (some .long) ∈ hg_tbl) (hcat : (st.map fun v => v.category).sum ≤ 8) (hd : decode cc pc = .ok (.invokestatic index, 3)) {n : Nat} (hn : pc + 3 = n) (k : hg_G F nL X n L (.long (hg_minl x y) :: st) σ ρ) : hg_G F nL X pc L (.long y :: .long x :: st) σ ρ := by
  obtain ⟨p, l, e, R, s, m, args, below, meth, c, D, A, cells, slots, Q, ad, t⟩ := X
  obtain ⟨⟨hx, hb⟩, hml, hown, hts, hK, hDd, hA, hlk, ⟨hR1, hR2⟩, ⟨hz1, hz2⟩, hE, hEok⟩ := hC
  intro H locs ls hl hP hS
  subst hn; subst hz1; subst hz2
  exact va_mmin_long hx hb (hml.trans hl.1.symm) hown (hts _ h1) (hts _ h2) (hts _ h3) (hts _ h4) (by rw [hR1]; exact Nat.le_add_left 1 d) (by rw [hR2]; omega) (Nat.zero_le _) (Nat.zero_le _) hd (k H locs ls hl hP hS)
theorem hg_copy (hC : hg_C F nL (d + 1) E cc own X) {index q0 q1 n0 n1 : Nat} {sp dp c9 : Int32} (h1 : Cond.methodLink own index arraycopyName ∈ hg_tbl) (h2 : Cond.native arraycopyName ∈ hg_tbl) (h3 : Cond.static arraycopyName ∈ hg_tbl) (h4 : Cond.initialized "java/lang/System" ∈ hg_tbl) (hq0 : q0 < F.1) (hk0 : F.2.1 q0 = (0, n0)) (hq1 : q1 < F.1) (hk1 : F.2.1 q1 = (0, n1)) (hcp : (¬ sp < 0) ∧ (¬ dp < 0) ∧ (¬ c9 < 0) ∧ sp.toNatClampNeg + c9.toNatClampNeg ≤ n0 ∧ dp.toNatClampNeg + c9.toNatClampNeg ≤ n1) (hcat : (st.map fun v => v.category).sum ≤ 8) (hd : decode cc pc = .ok (.invokestatic index, 3)) {n : Nat} (hn : pc + 3 = n) (k : ∀ σ1, σ1 = hg_cpy σ q0 q1 sp.toNatClampNeg dp.toNatClampNeg c9.toNatClampNeg → hg_G F nL X n L st σ1 ρ) : hg_G F nL X pc L (.int c9 :: .int dp :: .ref (hg_ad X q1) :: .int sp :: .ref (hg_ad X q0) :: st) σ ρ := by
  obtain ⟨p, l, e, R, s, m, args, below, meth, c, D, A, cells, slots, Q, ad, t⟩ := X
  obtain ⟨⟨hx, hb⟩, hml, hown, hts, hK, hDd, hA, hlk, ⟨hR1, hR2⟩, ⟨hz1, hz2⟩, hE, hEok⟩ := hC
  intro H locs ls hl hP hS
  subst hn; subst hz1; subst hz2
  obtain ⟨g1, g2, g3, g4, g5⟩ := hcp
  have hnf : nativeFrameWords "java/lang/System" "arraycopy" 5 + 11 ≤ 56 := by decide +kernel
  have hlo : (st.map fun v => v.category).sum + (nativeFrameWords "java/lang/System" "arraycopy" 5 + 11) ≤ R.locals := by
    rw [hR2]
    omega
  have ha0 : (hg_ws F t ad σ ρ)[q0]? = some (ad q0, .inl (t.1, n0, .inl (σ q0))) := (hg_at hq0).trans (by rw [hg_cell0 hk0])
  have ha1 : (hg_ws F t ad σ ρ)[q1]? = some (ad q1, .inl (t.1, n1, .inl (σ q1))) := (hg_at hq1).trans (by rw [hg_cell0 hk1])
  refine va_copyi hx hb (hml.trans hl.1.symm) hown (hts _ h1) (hts _ h2) (hts _ h3) (hts _ h4) hK hP (hDd.va t σ ρ) hS q0 q1 0 0 ha0 ha1 rfl rfl rfl g1 g2 g3 g4 g5 (fun _ _ => rfl) (by rw [hR1]; exact Nat.le_add_left 1 d) hlo hd (fun H1 locs1 hP1 hD1 hS1 => k _ rfl H1 locs1 ls hl ?_ hS1)
  refine (hg_put (σ' := hg_cpy σ q0 q1 sp.toNatClampNeg dp.toNatClampNeg c9.toNatClampNeg) (ρ' := ρ) hq1 ?_ ?_) ▸ hP1
  · rw [hg_cell0 hk1]
    congr 3
    congr 1
    funext b
    simp [hg_cpy]
  · intro r hr
    refine hg_cell_ne ?_ rfl
    funext b
    simp [hg_cpy, hr]
theorem hg_gs (hC : hg_C F nL d E cc own X) {C n9 d9 : String} {v : Value} {index : Nat} (hz : ∀ A U H, E A U H → va_Z C n9 d9 v A U H) (hk : Cond.fieldLink own index C n9 d9 ∈ hg_tbl) (hd : decode cc pc = .ok (.getstatic index, 3)) {n : Nat} (hn : pc + 3 = n) (k : hg_G F nL X n L (v :: st) σ ρ) : hg_G F nL X pc L st σ ρ := by
  obtain ⟨p, l, e, R, s, m, args, below, meth, c, D, A, cells, slots, Q, ad, t⟩ := X
  obtain ⟨⟨hx, hb⟩, hml, hown, hts, hK, hDd, hA, hlk, ⟨hR1, hR2⟩, ⟨hz1, hz2⟩, hE, hEok⟩ := hC
  intro H locs ls hl hP hS
  subst hn
  exact va_gets hx hb (hz _ _ _ hE) hS hown (hts _ hk) (fun _ h => h) hd (k H locs ls hl hP hS)
theorem hg_ti (hC : hg_C F nL d E cc own X) {a z : Nat} {f : Nat → Int32} {i : Int32} (hz : ∀ A U H, E A U H → va_T .int a z (fun j => .int (f j)) A U H) (hd : decode cc pc = .ok (.iaload, 1)) (hi : vp_in i z) {n : Nat} (hn : pc + 1 = n) (k : hg_G F nL X n L (.int (f i.toNatClampNeg) :: st) σ ρ) : hg_G F nL X pc L (.int i :: .ref a :: st) σ ρ := by
  obtain ⟨p, l, e, R, s, m, args, below, meth, c, D, A, cells, slots, Q, ad, t⟩ := X
  obtain ⟨⟨hx, hb⟩, hml, hown, hts, hK, hDd, hA, hlk, ⟨hR1, hR2⟩, ⟨hz1, hz2⟩, hE, hEok⟩ := hC
  intro H locs ls hl hP hS
  subst hn
  exact va_ti hx hb (hz _ _ _ hE) hS hi rfl hd (k H locs ls hl hP hS)
theorem hg_tb (hC : hg_C F nL d E cc own X) {a z : Nat} {f : Nat → Int32} {i : Int32} (hz : ∀ A U H, E A U H → va_T .byte a z (fun j => .int (f j)) A U H) (hd : decode cc pc = .ok (.baload, 1)) (hi : vp_in i z) {n : Nat} (hn : pc + 1 = n) (k : hg_G F nL X n L (.int (f i.toNatClampNeg) :: st) σ ρ) : hg_G F nL X pc L (.int i :: .ref a :: st) σ ρ := by
  obtain ⟨p, l, e, R, s, m, args, below, meth, c, D, A, cells, slots, Q, ad, t⟩ := X
  obtain ⟨⟨hx, hb⟩, hml, hown, hts, hK, hDd, hA, hlk, ⟨hR1, hR2⟩, ⟨hz1, hz2⟩, hE, hEok⟩ := hC
  intro H locs ls hl hP hS
  subst hn
  exact va_tb hx hb (hz _ _ _ hE) hS hi rfl hd (k H locs ls hl hP hS)
theorem hg_tl (hC : hg_C F nL d E cc own X) {a z : Nat} {ty : FieldType} {f : Nat → Value} {v : Int32} (hz : ∀ A U H, E A U H → va_T ty a z f A U H) (hv : Int32.ofNat z = v) (hd : decode cc pc = .ok (.arraylength, 1)) {n : Nat} (hn : pc + 1 = n) (k : hg_G F nL X n L (.int v :: st) σ ρ) : hg_G F nL X pc L (.ref a :: st) σ ρ := by
  obtain ⟨p, l, e, R, s, m, args, below, meth, c, D, A, cells, slots, Q, ad, t⟩ := X
  obtain ⟨⟨hx, hb⟩, hml, hown, hts, hK, hDd, hA, hlk, ⟨hR1, hR2⟩, ⟨hz1, hz2⟩, hE, hEok⟩ := hC
  intro H locs ls hl hP hS
  subst hn
  exact va_tlen hx hb (hz _ _ _ hE) hS hv hd (k H locs ls hl hP hS)
theorem hg_of (hC : hg_C F nL d E cc own X) {C n9 d9 : String} {v : Value} {index a : Nat} (hz : ∀ A U H, E A U H → va_OF C n9 d9 v a A U H) (hk : Cond.fieldLink own index C n9 d9 ∈ hg_tbl) (hd : decode cc pc = .ok (.getfield index, 3)) {n : Nat} (hn : pc + 3 = n) (k : hg_G F nL X n L (v :: st) σ ρ) : hg_G F nL X pc L (.ref a :: st) σ ρ := by
  obtain ⟨p, l, e, R, s, m, args, below, meth, c, D, A, cells, slots, Q, ad, t⟩ := X
  obtain ⟨⟨hx, hb⟩, hml, hown, hts, hK, hDd, hA, hlk, ⟨hR1, hR2⟩, ⟨hz1, hz2⟩, hE, hEok⟩ := hC
  intro H locs ls hl hP hS
  subst hn
  exact vk_getf hx hb (hz _ _ _ hE) hS hown (hts _ hk) (fun _ h => h) hd (k H locs ls hl hP hS)
theorem hg_gsq (hC : hg_C F nL d E cc own X) {C n9 d9 : String} {index : Nat} (hz : ∀ A U H, E A U H → va_Zq C n9 d9 A U H) (hk : Cond.fieldLink own index C n9 d9 ∈ hg_tbl) (hd : decode cc pc = .ok (.getstatic index, 3)) {n : Nat} (hn : pc + 3 = n) (k0 : hg_G F nL X n L (.null :: st) σ ρ) (k1 : ∀ t, hg_G F nL X n L (.ref t :: st) σ ρ) : hg_G F nL X pc L st σ ρ := by
  obtain ⟨p, l, e, R, s, m, args, below, meth, c, D, A, cells, slots, Q, ad, t⟩ := X
  obtain ⟨⟨hx, hb⟩, hml, hown, hts, hK, hDd, hA, hlk, ⟨hR1, hR2⟩, ⟨hz1, hz2⟩, hE, hEok⟩ := hC
  intro H locs ls hl hP hS
  subst hn
  rcases hz _ _ _ hE with h | ⟨t, h⟩
  · exact va_gets hx hb h hS hown (hts _ hk) (fun _ h => h) hd (k0 H locs ls hl hP hS)
  · exact va_gets hx hb h hS hown (hts _ hk) (fun _ h => h) hd (k1 t H locs ls hl hP hS)
theorem hg_ldS (hC : hg_C F nL d E cc own X) {tx : String} {index a : Nat} (hz : ∀ A U H, E A U H → vk_R own index tx a U) (hd : decode cc pc = .ok (.ldc index, 2)) {n : Nat} (hn : pc + 2 = n) (k : hg_G F nL X n L (.ref a :: st) σ ρ) : hg_G F nL X pc L st σ ρ := by
  obtain ⟨p, l, e, R, s, m, args, below, meth, c, D, A, cells, slots, Q, ad, t⟩ := X
  obtain ⟨⟨hx, hb⟩, hml, hown, hts, hK, hDd, hA, hlk, ⟨hR1, hR2⟩, ⟨hz1, hz2⟩, hE, hEok⟩ := hC
  intro H locs ls hl hP hS
  subst hn
  exact va_ldcS hx hb hown (hz _ _ _ hE) hd (k H locs ls hl hP hS)
theorem hg_ishr (hC : hg_C F nL d E cc own X) {x y : Int32} (hd : decode cc pc = .ok (.ishr, 1)) {n : Nat} (hn : pc + 1 = n) (k : hg_G F nL X n L (.int (x >>> (y &&& 31)) :: st) σ ρ) : hg_G F nL X pc L (.int y :: .int x :: st) σ ρ := by
  obtain ⟨p, l, e, R, s, m, args, below, meth, c, D, A, cells, slots, Q, ad, t⟩ := X
  obtain ⟨⟨hx, hb⟩, hml, hown, hts, hK, hDd, hA, hlk, ⟨hR1, hR2⟩, ⟨hz1, hz2⟩, hE, hEok⟩ := hC
  intro H locs ls hl hP hS
  subst hn
  exact lv_ishr hx hb hd (k H locs ls hl hP hS)
theorem hg_i2c (hC : hg_C F nL d E cc own X) {x v : Int32} (hd : decode cc pc = .ok (.i2c, 1)) (hv : (x.toUInt32 % 65536).toInt32 = v) {n : Nat} (hn : pc + 1 = n) (k : hg_G F nL X n L (.int v :: st) σ ρ) : hg_G F nL X pc L (.int x :: st) σ ρ := by
  obtain ⟨p, l, e, R, s, m, args, below, meth, c, D, A, cells, slots, Q, ad, t⟩ := X
  obtain ⟨⟨hx, hb⟩, hml, hown, hts, hK, hDd, hA, hlk, ⟨hR1, hR2⟩, ⟨hz1, hz2⟩, hE, hEok⟩ := hC
  intro H locs ls hl hP hS
  subst hn
  exact lv_i2c hx hb hd hv (k H locs ls hl hP hS)
end HG
