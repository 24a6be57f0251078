/-! THE START: what the contracts take of it (written by mkE.py) -/
theorem he_arr {s : State} {args : Array Value} {ty : FieldType} (h : (Cond.arrayClass ty).before args s = true) : ∃ cA, ArrOfT s cA ty ∧ s.vm.findClass ("[" ++ ty.toString) = some cA := by
  obtain ⟨cA, kA, comp, h1, h2, h3⟩ := Cond.arrayClass_spec h
  exact ⟨cA, fun n z => ⟨fun k h => (by cases h), kA, h2, comp, h3⟩, h1⟩
theorem he_row {s : State} {args : Array Value} {ty : FieldType} (h : (Cond.arrayOver (.array ty)).before args s = true) : ∃ cA, ArrOfT s cA (.array ty) ∧ s.vm.findClass ("[" ++ (FieldType.array ty).toString) = some cA := by
  obtain ⟨comp, c, k, h1, h2, h3, h4, h5⟩ := Jvm.Stand.arrayOver_specB h
  exact ⟨c, fun n z => ⟨fun k h => (by cases h), k, h3, comp, h4⟩, h5⟩
/-- the words that are no good words, and how they go on -/
def he_cd : Cond → Bool
  | .castable _ _ => true
  | .declares _ => true
  | .methodLinkNest _ _ _ _ => true
  | _ => false
theorem he_on {w : Cond} (h : he_cd w = true) : w.onTables = true := by
  cases w <;> first | rfl | (exact absurd h (by decide)) | (simp [he_cd] at h)
theorem he_same {w : Cond} (h : he_cd w = true) {u U : State} (hv : u.vm = U.vm) (hZ : va_Nw w u) : va_Nw w U := va_Nw.same (he_on h) hv hZ
theorem he_warm {w : Cond} (h : he_cd w = true) {u U : State} (hW : u.WarmedH U.vm) (hZ : va_Nw w u) : va_Nw w U := by
  cases w with
  | castable a b => exact va_Nw.warmC hW hZ
  | declares x => exact va_Nw.warmD hW hZ
  | methodLinkNest a b c d => exact va_Nw.warmM hW hZ
  | _ => simp [he_cd] at h
theorem he_nws {w : Cond} (h : w ∈ hg_nws) : he_cd w = true := by
  have h1 : hg_isN w = true := (List.mem_filter.mp h).2
  cases w <;> first | rfl | (simp [hg_isN] at h1)
def he_xw : List Cond := hg_xsites.flatMap (fun p => hg_xb RX5 p.1 p.2)
theorem he_xcd : ∀ w ∈ he_xw, he_cd w = true := by decide +kernel
theorem he_xin : ∀ w ∈ he_xw, w ∈ lw_tbl := by decide +kernel
abbrev he_ca : List Cond := [.castable "java/lang/IndexOutOfBoundsException" "java/lang/IndexOutOfBoundsException", .castable "java/lang/IllegalArgumentException" "java/lang/IllegalArgumentException", .castable "java/lang/IllegalStateException" "java/lang/IllegalStateException"]
def he_E (z : hg_Zt) (ss : Nat → Nat) : hg_Et := fun A U H => hg_St z A U H ∧ (∀ w ∈ hg_nws, va_Nw w U) ∧ (vx_Zq Bundle.tN "UNASSIGNED_STACK" Bundle.steD A U H ∧ vx_Zq Bundle.tN "SUPPRESSED_SENTINEL" Bundle.listD A U H) ∧ (∀ w ∈ he_xw, va_Nw w U) ∧ (∀ p ∈ hg_xstrs, vk_R RX5 p.1 p.2 (ss p.1) U) ∧ (∀ w ∈ he_ca, va_Nw w U) ∧ va_Nc "java/lang/IllegalStateException" "java/lang/IllegalArgumentException" U ∧ va_Nc "java/lang/IllegalArgumentException" "java/lang/IndexOutOfBoundsException" U
theorem he_str_moved {i a v : Nat} {A : Nat → Prop} {u U : State} {H : Heap} (hv : u.vm.Alike U.vm) (h : hg_str i a v A u H) : hg_str i a v A U H := ⟨va_O.moved hv h.1, va_OF.moved hv h.2.1, va_OF.moved hv h.2.2.1, va_T.moved hv h.2.2.2.1, va_Z.moved hv h.2.2.2.2.1, va_Zq.moved hv h.2.2.2.2.2⟩
theorem he_str_kept {i a v : Nat} {A : Nat → Prop} {U : State} {H H1 : Heap} (h : hg_str i a v A U H) (hq : ∀ a : Nat, a < H.size → ¬ A a → H1[a]? = H[a]?) : hg_str i a v A U H1 := ⟨h.1.kept hq, h.2.1.kept hq, h.2.2.1.kept hq, h.2.2.2.1.kept hq, h.2.2.2.2.1.kept hq, h.2.2.2.2.2.kept hq⟩
theorem he_str_narrow {i a v : Nat} {A B : Nat → Prop} {U : State} {H : Heap} (h : hg_str i a v A U H) (hq : ∀ q, B q → A q) : hg_str i a v B U H := ⟨h.1.narrow hq, h.2.1.narrow hq, h.2.2.1.narrow hq, h.2.2.2.1.narrow hq, h.2.2.2.2.1.narrow hq, h.2.2.2.2.2.narrow hq⟩
theorem he_St_moved {z : hg_Zt} {A : Nat → Prop} {u U : State} {H : Heap} (hv : u.vm.Alike U.vm) (hr : ∀ own k tx a, vk_R own k tx a u → vk_R own k tx a U) (h : hg_St z A u H) : hg_St z A U H := ⟨va_Z.moved hv h.1, va_T.moved hv h.2.1, va_Z.moved hv h.2.2.1, va_T.moved hv h.2.2.2.1, fun i hi => he_str_moved hv (h.2.2.2.2.1 i hi), hr _ _ _ _ h.2.2.2.2.2.1, hr _ _ _ _ h.2.2.2.2.2.2⟩
theorem he_ok (z : hg_Zt) (ss : Nat → Nat) : hg_Eok (he_E z ss) := by
  have hca : ∀ w ∈ he_ca, he_cd w = true := by decide
  refine ⟨⟨fun A u U H hv h => ?_, fun A u U H hW h => ?_⟩, fun A U H H1 h hq => ?_, fun A B U H h hq => ?_, fun A U H h => h.2.1, z, fun A U H h => h.1⟩
  · obtain ⟨h1, h2, h3, h4, h5, h6, h7, h8⟩ := h
    have ha : u.vm.Alike U.vm := by rw [hv]; exact Vm.Alike.refl _
    exact ⟨he_St_moved ha (fun _ _ _ _ h => vk_R.same hv.symm h) h1, fun w hw => he_same (he_nws hw) hv (h2 w hw), ⟨vx_Zq.moved ha h3.1, vx_Zq.moved ha h3.2⟩, fun w hw => he_same (he_xcd w hw) hv (h4 w hw), fun p hp => vk_R.same hv.symm (h5 p hp), fun w hw => he_same (hca w hw) hv (h6 w hw), va_Nc.moved ha h7, va_Nc.moved ha h8⟩
  · obtain ⟨h1, h2, h3, h4, h5, h6, h7, h8⟩ := h
    have ha : u.vm.Alike U.vm := hW.alike
    exact ⟨he_St_moved ha (fun _ _ _ _ h => vk_R.warm hW h) h1, fun w hw => he_warm (he_nws hw) hW (h2 w hw), ⟨vx_Zq.moved ha h3.1, vx_Zq.moved ha h3.2⟩, fun w hw => he_warm (he_xcd w hw) hW (h4 w hw), fun p hp => vk_R.warm hW (h5 p hp), fun w hw => he_warm (hca w hw) hW (h6 w hw), va_Nc.moved ha h7, va_Nc.moved ha h8⟩
  · obtain ⟨h1, h2, h3, h4⟩ := h
    exact ⟨⟨h1.1.kept hq, h1.2.1.kept hq, h1.2.2.1.kept hq, h1.2.2.2.1.kept hq, fun i hi => he_str_kept (h1.2.2.2.2.1 i hi) hq, h1.2.2.2.2.2⟩, h2, ⟨h3.1.kept hq, h3.2.kept hq⟩, h4⟩
  · obtain ⟨h1, h2, h3, h4⟩ := h
    exact ⟨⟨h1.1.narrow hq, h1.2.1.narrow hq, h1.2.2.1.narrow hq, h1.2.2.2.1.narrow hq, fun i hi => he_str_narrow (h1.2.2.2.2.1 i hi) hq, h1.2.2.2.2.2⟩, h2, ⟨h3.1.narrow hq, h3.2.narrow hq⟩, h4⟩
theorem he_Xa (z : hg_Zt) (ss : Nat → Nat) : hg_Xa (he_E z ss) := ⟨fun A U H h => h.2.2.1, fun p hp A U H h w hw => h.2.2.2.1 w (List.mem_flatMap.mpr ⟨p, hp, hw⟩), fun p hp => ⟨ss p.1, fun A U H h => h.2.2.2.2.1 p hp⟩⟩
theorem he_Ca (z : hg_Zt) (ss : Nat → Nat) : hj_Ca (he_E z ss) := fun A U H h => ⟨⟨h.2.2.2.2.2.1 _ (List.mem_cons_self), h.2.2.2.2.2.1 _ (List.mem_cons_of_mem _ List.mem_cons_self), h.2.2.2.2.2.1 _ (List.mem_cons_of_mem _ (List.mem_cons_of_mem _ List.mem_cons_self))⟩, h.2.2.2.2.2.2.1, h.2.2.2.2.2.2.2⟩
abbrev he_fl : List Cond := flatC (Jvm.Cond.and given_1 narrow_1)
abbrev he_t1 : Term := .static "GuardedMoves$Code" "FIRST_TAKEN" "[I"
abbrev he_t2 : Term := .static "GuardedMoves$Code" "LAST_TAKEN" "[I"
def he_s (i : Nat) : Nat := [109, 100].getD i 0
abbrev he_ts (i : Nat) : Term := .string "GuardedMoves$TextReader" (he_s i)
abbrev he_tv (i : Nat) : Term := .field (he_ts i) "java/lang/String" "value" "[B"
theorem he_m1 : ∀ j ∈ List.range 19, Cond.eq (.elem he_t1 (.int (Int32.ofNat j))) (.int (hg_t1 j)) ∈ he_fl := by decide +kernel
theorem he_m2 : ∀ j ∈ List.range 19, Cond.eq (.elem he_t2 (.int (Int32.ofNat j))) (.int (hg_t2 j)) ∈ he_fl := by decide +kernel
theorem he_m3 : ∀ i ∈ List.range 2, (Cond.exactly (he_ts i) "java/lang/String" ∈ he_fl ∧ Cond.eq (.field (he_ts i) "java/lang/String" "coder" "B") (.int 0) ∈ he_fl) ∧ (Cond.arrayOf (he_tv i) .byte ∈ he_fl ∧ Cond.eq (.length (he_tv i)) (.int (Int32.ofNat (hg_len i))) ∈ he_fl) ∧ ∀ j ∈ List.range (hg_len i), Cond.eq (.elem (he_tv i) (.int (Int32.ofNat j))) (.int (hg_chr i j)) ∈ he_fl := by decide +kernel
theorem he_m4 : ∀ p ∈ hg_xstrs, Cond.exactly (.string "GuardedMoves" p.1) "java/lang/String" ∈ he_fl := by decide +kernel
theorem he_m5 : ∀ p ∈ hg_xstrs, Cond.stringRef "GuardedMoves" p.1 p.2 ∈ lw_tbl := by decide +kernel
theorem he_m6 : Cond.arrayOf he_t1 .int ∈ he_fl ∧ Cond.eq (.length he_t1) (.int 19) ∈ he_fl ∧ Cond.arrayOf he_t2 .int ∈ he_fl ∧ Cond.eq (.length he_t2) (.int 19) ∈ he_fl := by decide +kernel
theorem he_m7 : Cond.eq (.static "java/lang/String" "COMPACT_STRINGS" "Z") (.int 1) ∈ he_fl ∧ Cond.isRef (.static "jdk/internal/util/Preconditions" "SIOOBE_FORMATTER" "Ljava/util/function/BiFunction;") ∈ he_fl ∧ Cond.isRef (.static Bundle.tN "UNASSIGNED_STACK" Bundle.steD) ∈ he_fl ∧ Cond.isRef (.static Bundle.tN "SUPPRESSED_SENTINEL" Bundle.listD) ∈ he_fl := by decide +kernel
theorem he_m8 : Cond.not (.castable "java/lang/IllegalStateException" "java/lang/IllegalArgumentException") ∈ he_fl ∧ Cond.not (.castable "java/lang/IllegalArgumentException" "java/lang/IndexOutOfBoundsException") ∈ he_fl := by decide +kernel
theorem he_w1 : ∀ w ∈ ([.laysStatic "GuardedMoves$Code" "FIRST_TAKEN" "[I", .laysStatic "GuardedMoves$Code" "LAST_TAKEN" "[I", .initialized "GuardedMoves$Code", .laysStatic "java/lang/String" "COMPACT_STRINGS" "Z", .initialized "java/lang/String", .laysStatic "jdk/internal/util/Preconditions" "SIOOBE_FORMATTER" "Ljava/util/function/BiFunction;", .initialized "jdk/internal/util/Preconditions", .laysStatic Bundle.tN "UNASSIGNED_STACK" Bundle.steD, .laysStatic Bundle.tN "SUPPRESSED_SENTINEL" Bundle.listD, .initialized Bundle.tN, .stringRef "GuardedMoves$TextReader" 109 "+-*/%&|^", .stringRef "GuardedMoves$TextReader" 100 "=#<", .arrayClass .int, .arrayClass .boolean, .arrayClass .long, .arrayOver (.array .int)] : List Cond), w ∈ lw_tbl := by decide +kernel
theorem he_w2 : ∀ w ∈ he_ca, w ∈ lw_tbl := by decide +kernel
set_option maxRecDepth 4000 in
/-- the start -/
theorem he_start {s : State} {args : Array Value} {A : Nat → Prop} (hts : ∀ w ∈ lw_tbl, w.before args s = true) (hgv : (Jvm.Cond.and given_1 narrow_1).before args s = true) (hA : ∀ a : Nat, a < s.heap.size → ¬ A a) : ∃ z ss, he_E z ss A s s.heap := by
  have hs : ∀ w ∈ he_fl, w.before args s = true := flat_of_before _ hgv
  have hw : ∀ w ∈ ([.laysStatic "GuardedMoves$Code" "FIRST_TAKEN" "[I", .laysStatic "GuardedMoves$Code" "LAST_TAKEN" "[I", .initialized "GuardedMoves$Code", .laysStatic "java/lang/String" "COMPACT_STRINGS" "Z", .initialized "java/lang/String", .laysStatic "jdk/internal/util/Preconditions" "SIOOBE_FORMATTER" "Ljava/util/function/BiFunction;", .initialized "jdk/internal/util/Preconditions", .laysStatic Bundle.tN "UNASSIGNED_STACK" Bundle.steD, .laysStatic Bundle.tN "SUPPRESSED_SENTINEL" Bundle.listD, .initialized Bundle.tN, .stringRef "GuardedMoves$TextReader" 109 "+-*/%&|^", .stringRef "GuardedMoves$TextReader" 100 "=#<", .arrayClass .int, .arrayClass .boolean, .arrayClass .long, .arrayOver (.array .int)] : List Cond), w.before args s = true := fun w h => hts w (he_w1 w h)
  obtain ⟨t1, e1, T1⟩ := va_Tof (f := fun j => .int (hg_t1 j)) (A := A) (N := 19) (by decide) (hs _ he_m6.1) (va_eqt (hs _ he_m6.2.1)) (fun j hj => va_eqt (hs _ (he_m1 j (List.mem_range.mpr hj)))) hA
  obtain ⟨t2, e2, T2⟩ := va_Tof (f := fun j => .int (hg_t2 j)) (A := A) (N := 19) (by decide) (hs _ he_m6.2.2.1) (va_eqt (hs _ he_m6.2.2.2)) (fun j hj => va_eqt (hs _ (he_m2 j (List.mem_range.mpr hj)))) hA
  have zc := va_Zof (A := A) (hw (.laysStatic "java/lang/String" "COMPACT_STRINGS" "Z") (by decide)) (hw (.initialized "java/lang/String") (by decide)) (va_eqt (hs _ he_m7.1)) hA
  have zp := va_Zqof (A := A) (hw (.laysStatic "jdk/internal/util/Preconditions" "SIOOBE_FORMATTER" "Ljava/util/function/BiFunction;") (by decide)) (hw (.initialized "jdk/internal/util/Preconditions") (by decide)) (hs _ he_m7.2.1) hA
  have key : ∀ i : Nat, ∃ q : Nat × Nat, i < 2 → (he_ts i).eval args s none [] s = some (.ref q.1) ∧ hg_str i q.1 q.2 A s s.heap := by
    intro i
    by_cases hi : i < 2
    · obtain ⟨⟨m1, m2⟩, ⟨m3, m4⟩, m5⟩ := he_m3 i (List.mem_range.mpr hi)
      obtain ⟨a, c, cA, kA, q1, q2, q3, q4, q5, q6, -⟩ := Cond.exactly_spec (args := args) (first := s) (o := none) (s := s) (idx := []) (t := he_ts i) (cls := "java/lang/String") (hs _ m1)
      obtain ⟨v, ev, Tv⟩ := va_Tof (f := fun j => .int (hg_chr i j)) (A := A) (N := hg_len i) (by rcases (show i = 0 ∨ i = 1 by omega) with rfl | rfl <;> decide) (hs _ m3) (va_eqt (hs _ m4)) (fun j hj => va_eqt (hs _ (m5 j (List.mem_range.mpr hj)))) hA
      exact ⟨(a, v), fun _ => ⟨q1, ⟨cA, q3, q5, by rw [q6]; exact q2, hA a (Array.getElem?_eq_some_iff.mp q3).1⟩, vk_OFof q1 (va_eqt (hs _ m2)) hA, vk_OFof q1 ev hA, Tv, zc, zp⟩⟩
    · exact ⟨(0, 0), fun h => absurd h hi⟩
  obtain ⟨ad, had⟩ := Classical.axiomOfChoice key
  have key2 : ∀ k : Nat, ∃ a : Nat, ∀ p ∈ hg_xstrs, p.1 = k → vk_R RX5 p.1 p.2 a s := by
    intro k
    by_cases hk : ∃ p ∈ hg_xstrs, p.1 = k
    · obtain ⟨p, hp, rfl⟩ := hk
      obtain ⟨a, c, cA, kA, q1, -⟩ := Cond.exactly_spec (args := args) (first := s) (o := none) (s := s) (idx := []) (t := .string "GuardedMoves" p.1) (cls := "java/lang/String") (hs _ (he_m4 p hp))
      exact ⟨a, fun p' hp' e => vk_R.of (hts _ (he_m5 p' hp')) (by rw [e]; exact q1)⟩
    · exact ⟨0, fun p hp e => absurd ⟨p, hp, e⟩ hk⟩
  obtain ⟨ss, hss⟩ := Classical.axiomOfChoice key2
  refine ⟨(t1, t2, fun i => (ad i).1, fun i => (ad i).2), ss, ⟨?_, T1, ?_, T2, fun i hi => (had i hi).2, ?_, ?_⟩, fun w h => va_Nw.of (he_on (he_nws h)) (hts w (List.mem_filter.mp h).1), ⟨vx_Zqof (hw _ (by decide)) (hw _ (by decide)) (hs _ he_m7.2.2.1) hA, vx_Zqof (hw _ (by decide)) (hw _ (by decide)) (hs _ he_m7.2.2.2) hA⟩, fun w h => va_Nw.of (he_on (he_xcd w h)) (hts w (he_xin w h)), fun p hp => hss p.1 p hp rfl, fun w h => va_Nw.of (by revert w h; decide) (hts w (he_w2 w h)), va_Nc.of (hs _ he_m8.1), va_Nc.of (hs _ he_m8.2)⟩
  · exact va_Zof (hw (.laysStatic "GuardedMoves$Code" "FIRST_TAKEN" "[I") (by decide)) (hw (.initialized "GuardedMoves$Code") (by decide)) e1 hA
  · exact va_Zof (hw (.laysStatic "GuardedMoves$Code" "LAST_TAKEN" "[I") (by decide)) (hw (.initialized "GuardedMoves$Code") (by decide)) e2 hA
  · exact vk_R.of (hw (.stringRef "GuardedMoves$TextReader" 109 "+-*/%&|^") (by decide)) (had 0 (by decide)).1
  · exact vk_R.of (hw (.stringRef "GuardedMoves$TextReader" 100 "=#<") (by decide)) (had 1 (by decide)).1
/-- the classes and the arrays -/
theorem he_known {s : State} {args : Array Value} (hts : ∀ w ∈ lw_tbl, w.before args s = true) : ∃ (D : va_G) (t : hg_T) (tl : ClassId), va_K D vwCl (hj_tys t tl) s := by
  have htg : ∀ w ∈ hg_tbl, w.before args s = true := fun w h => hts w (List.mem_filter.mp h).1
  have hw : ∀ w ∈ ([.arrayClass .int, .arrayClass .boolean, .arrayClass .long, .arrayOver (.array .int)] : List Cond), w.before args s = true := fun w h => hts w (he_w1 w (by simp only [List.mem_cons, List.not_mem_nil, or_false] at h ⊢; rcases h with rfl | rfl | rfl | rfl <;> simp))
  obtain ⟨c0, i0, k0⟩ := u_known (C := RX0) (T := TX0) (N := 7) (n := 7) htg inT_0 (htg _ (hg_m1 136 (by decide +kernel) rfl))
  obtain ⟨c1, i1, k1⟩ := u_known (C := RX1) (T := TX1) (N := 7) (n := 7) htg inT_1 (htg _ (hg_m1 195 (by decide +kernel) rfl))
  obtain ⟨c2, i2, k2⟩ := u_known (C := RX2) (T := TX2) (N := 6) (n := 6) htg inT_2 (htg _ (hg_m1 130 (by decide +kernel) rfl))
  obtain ⟨c3, i3, k3⟩ := u_known (C := RX3) (T := TX3) (N := 9) (n := 9) htg inT_3 (htg _ (hg_m1 36 (by decide +kernel) rfl))
  obtain ⟨c4, i4, k4⟩ := u_known (C := RX4) (T := TX4) (N := 9) (n := 9) htg inT_4 (htg _ (hg_m1 30 (by decide +kernel) rfl))
  obtain ⟨c5, i5, k5⟩ := u_known (C := RX5) (T := TX5) (N := 8) (n := 8) htg inT_5 (htg _ (hg_m1 22 (by decide +kernel) rfl))
  obtain ⟨c6, i6, k6⟩ := u_known (C := RX6) (T := TX6) (N := 45) (n := 45) htg inT_6 (htg _ (hg_m4 71 (by decide +kernel) rfl))
  obtain ⟨a1, A1, B1⟩ := he_arr (hw (.arrayClass .int) (by simp))
  obtain ⟨a2, A2, B2⟩ := he_arr (hw (.arrayClass .boolean) (by simp))
  obtain ⟨a3, A3, B3⟩ := he_row (hw (.arrayOver (.array .int)) (by simp))
  obtain ⟨a4, A4, B4⟩ := he_arr (hw (.arrayClass .long) (by simp))
  refine ⟨(fun k => [c0, c1, c2, c3, c4, c5, c6].getD k c0, fun k => [i0, i1, i2, i3, i4, i5, i6].getD k i0), (a1, a2, a3), a4, fun k q hq => ?_, fun k q hq => ?_⟩
  · match k, hq with
    | 0, hq => cases hq; exact k0
    | 1, hq => cases hq; exact k1
    | 2, hq => cases hq; exact k2
    | 3, hq => cases hq; exact k3
    | 4, hq => cases hq; exact k4
    | 5, hq => cases hq; exact k5
    | 6, hq => cases hq; exact k6
    | n + 7, hq => simp [vwCl] at hq
  · match k, hq with
    | 0, hq => cases hq; exact ⟨A1, B1⟩
    | 1, hq => cases hq; exact ⟨A2, B2⟩
    | 2, hq => cases hq; exact ⟨A3, B3⟩
    | 3, hq => cases hq; exact ⟨A4, B4⟩
    | n + 4, hq => simp [hj_tys, hg_tys] at hq
