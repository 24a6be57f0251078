/-! THE LAW'S HELPERS (written by mkH.py) -/
def hj_Ca (E : hg_Et) : Prop := ∀ A U H, E A U H → (va_Nw (.castable "java/lang/IndexOutOfBoundsException" "java/lang/IndexOutOfBoundsException") U ∧ va_Nw (.castable "java/lang/IllegalArgumentException" "java/lang/IllegalArgumentException") U ∧ va_Nw (.castable "java/lang/IllegalStateException" "java/lang/IllegalStateException") U) ∧ va_Nc "java/lang/IllegalStateException" "java/lang/IllegalArgumentException" U ∧ va_Nc "java/lang/IllegalArgumentException" "java/lang/IndexOutOfBoundsException" U
theorem sv_RL_7 : hg_Sv RL 7 RX5 yX5_variable cX5_variable 3 none 2 := ⟨(hg_m3 17 (by decide +kernel) rfl), (hg_m3 14 (by decide +kernel) rfl), (hg_m3 15 (by decide +kernel) rfl), (hg_m3 16 (by decide +kernel) rfl), (hg_m1 1 (by decide +kernel) rfl), by decide +kernel, by decide⟩
theorem sv_RL_15 : hg_Sv RL 15 RX5 yX5_word cX5_word 3 none 2 := ⟨(hg_m3 91 (by decide +kernel) rfl), (hg_m3 88 (by decide +kernel) rfl), (hg_m3 89 (by decide +kernel) rfl), (hg_m3 90 (by decide +kernel) rfl), (hg_m1 1 (by decide +kernel) rfl), by decide +kernel, by decide⟩
theorem sv_RL_18 : hg_Sv RL 18 RX5 yX5_feed cX5_feed 5 (some .int) 2 := ⟨(hg_m3 101 (by decide +kernel) rfl), (hg_m3 98 (by decide +kernel) rfl), (hg_m3 99 (by decide +kernel) rfl), (hg_m3 100 (by decide +kernel) rfl), (hg_m1 1 (by decide +kernel) rfl), by decide +kernel, by decide⟩
theorem sv_RL_26 : hg_Sv RL 26 RX5 yX5_statement cX5_statement 3 (some .int) 2 := ⟨(hg_m3 144 (by decide +kernel) rfl), (hg_m3 141 (by decide +kernel) rfl), (hg_m3 142 (by decide +kernel) rfl), (hg_m3 143 (by decide +kernel) rfl), (hg_m1 1 (by decide +kernel) rfl), by decide +kernel, by decide⟩
theorem sv_RL_30 : hg_Sv RL 30 RX5 yX5_lower cX5_lower 2 (some .int) 1 := ⟨(hg_m3 157 (by decide +kernel) rfl), (hg_m3 154 (by decide +kernel) rfl), (hg_m3 155 (by decide +kernel) rfl), (hg_m3 156 (by decide +kernel) rfl), (hg_m1 1 (by decide +kernel) rfl), by decide +kernel, by decide⟩
theorem sv_RL_34 : hg_Sv RL 34 RX5 yX5_step cX5_step 3 (some .int) 2 := ⟨(hg_m4 9 (by decide +kernel) rfl), (hg_m4 6 (by decide +kernel) rfl), (hg_m4 7 (by decide +kernel) rfl), (hg_m4 8 (by decide +kernel) rfl), (hg_m1 1 (by decide +kernel) rfl), by decide +kernel, by decide⟩
theorem sv_RL_37 : hg_Sv RL 37 RX5 yX5_run cX5_run 1 (some .int) 0 := ⟨(hg_m4 18 (by decide +kernel) rfl), (hg_m4 15 (by decide +kernel) rfl), (hg_m4 16 (by decide +kernel) rfl), (hg_m4 17 (by decide +kernel) rfl), (hg_m1 1 (by decide +kernel) rfl), by decide +kernel, by decide⟩
theorem sv_RL_41 : hg_Sv RL 41 RX5 yX5_left cX5_left 2 (some .int) 1 := ⟨(hg_m4 38 (by decide +kernel) rfl), (hg_m4 35 (by decide +kernel) rfl), (hg_m4 36 (by decide +kernel) rfl), (hg_m4 37 (by decide +kernel) rfl), (hg_m1 1 (by decide +kernel) rfl), by decide +kernel, by decide⟩
theorem sv_RL_44 : hg_Sv RL 44 RX5 yX5_kept cX5_kept 2 (some .int) 1 := ⟨(hg_m4 45 (by decide +kernel) rfl), (hg_m4 42 (by decide +kernel) rfl), (hg_m4 43 (by decide +kernel) rfl), (hg_m4 44 (by decide +kernel) rfl), (hg_m1 1 (by decide +kernel) rfl), by decide +kernel, by decide⟩
theorem sv_RL_47 : hg_Sv RL 47 RX5 yX5_output cX5_output 2 (some .int) 1 := ⟨(hg_m4 52 (by decide +kernel) rfl), (hg_m4 49 (by decide +kernel) rfl), (hg_m4 50 (by decide +kernel) rfl), (hg_m4 51 (by decide +kernel) rfl), (hg_m1 1 (by decide +kernel) rfl), by decide +kernel, by decide⟩
theorem sv_RL_50 : hg_Sv RL 50 RX5 yX5_count cX5_count 2 (some .int) 1 := ⟨(hg_m4 60 (by decide +kernel) rfl), (hg_m4 57 (by decide +kernel) rfl), (hg_m4 58 (by decide +kernel) rfl), (hg_m4 59 (by decide +kernel) rfl), (hg_m1 1 (by decide +kernel) rfl), by decide +kernel, by decide⟩
theorem sv_RL_62 : hg_Sv RL 62 RX6 yX6_variable cX6_variable 3 none 2 := ⟨(hg_m4 219 (by decide +kernel) rfl), (hg_m4 216 (by decide +kernel) rfl), (hg_m4 217 (by decide +kernel) rfl), (hg_m4 218 (by decide +kernel) rfl), (hg_m1 7 (by decide +kernel) rfl), by decide +kernel, by decide⟩
theorem sv_RL_65 : hg_Sv RL 65 RX6 yX6_word cX6_word 3 none 2 := ⟨(hg_m4 231 (by decide +kernel) rfl), (hg_m4 228 (by decide +kernel) rfl), (hg_m4 229 (by decide +kernel) rfl), (hg_m4 230 (by decide +kernel) rfl), (hg_m1 7 (by decide +kernel) rfl), by decide +kernel, by decide⟩
theorem sv_RL_66 : hg_Sv RL 66 RX6 yX6_thrown cX6_thrown 1 (some .int) 0 := ⟨(hg_m4 215 (by decide +kernel) rfl), (hg_m4 212 (by decide +kernel) rfl), (hg_m4 213 (by decide +kernel) rfl), (hg_m4 214 (by decide +kernel) rfl), (hg_m1 7 (by decide +kernel) rfl), by decide +kernel, by decide⟩
theorem sv_RL_74 : hg_Sv RL 74 RX6 yX6_feed cX6_feed 5 (some .int) 2 := ⟨(hg_m4 236 (by decide +kernel) rfl), (hg_m4 233 (by decide +kernel) rfl), (hg_m4 234 (by decide +kernel) rfl), (hg_m4 235 (by decide +kernel) rfl), (hg_m1 7 (by decide +kernel) rfl), by decide +kernel, by decide⟩
theorem sv_RL_75 : hg_Sv RL 75 RX5 yX5_read cX5_read 1 (some .int) 0 := ⟨(hg_m2 17 (by decide +kernel) rfl), (hg_m2 14 (by decide +kernel) rfl), (hg_m2 15 (by decide +kernel) rfl), (hg_m2 16 (by decide +kernel) rfl), (hg_m1 1 (by decide +kernel) rfl), by decide +kernel, by decide⟩
theorem sv_RL_78 : hg_Sv RL 78 RX6 yX6_read cX6_read 3 (some .int) 0 := ⟨(hg_m5 2 (by decide +kernel) rfl), (hg_m4 239 (by decide +kernel) rfl), (hg_m5 0 (by decide +kernel) rfl), (hg_m5 1 (by decide +kernel) rfl), (hg_m1 7 (by decide +kernel) rfl), by decide +kernel, by decide⟩
theorem sv_RL_79 : hg_Sv RL 79 RX5 yX5_fault cX5_fault 1 (some .int) 0 := ⟨(hg_m2 146 (by decide +kernel) rfl), (hg_m2 143 (by decide +kernel) rfl), (hg_m2 144 (by decide +kernel) rfl), (hg_m2 145 (by decide +kernel) rfl), (hg_m1 1 (by decide +kernel) rfl), by decide +kernel, by decide⟩
theorem sv_RL_82 : hg_Sv RL 82 RX6 yX6_fault cX6_fault 1 (some .int) 0 := ⟨(hg_m5 58 (by decide +kernel) rfl), (hg_m5 55 (by decide +kernel) rfl), (hg_m5 56 (by decide +kernel) rfl), (hg_m5 57 (by decide +kernel) rfl), (hg_m1 7 (by decide +kernel) rfl), by decide +kernel, by decide⟩
theorem sv_RL_86 : hg_Sv RL 86 RX6 yX6_statement cX6_statement 5 (some .int) 2 := ⟨(hg_m5 160 (by decide +kernel) rfl), (hg_m5 157 (by decide +kernel) rfl), (hg_m5 158 (by decide +kernel) rfl), (hg_m5 159 (by decide +kernel) rfl), (hg_m1 7 (by decide +kernel) rfl), by decide +kernel, by decide⟩
theorem sv_RL_90 : hg_Sv RL 90 RX6 yX6_lower cX6_lower 3 (some .int) 1 := ⟨(hg_m5 62 (by decide +kernel) rfl), (hg_m5 59 (by decide +kernel) rfl), (hg_m5 60 (by decide +kernel) rfl), (hg_m5 61 (by decide +kernel) rfl), (hg_m1 7 (by decide +kernel) rfl), by decide +kernel, by decide⟩
theorem sv_RL_91 : hg_Sv RL 91 RX5 yX5_trim cX5_trim 1 (some .int) 0 := ⟨(hg_m2 150 (by decide +kernel) rfl), (hg_m2 147 (by decide +kernel) rfl), (hg_m2 148 (by decide +kernel) rfl), (hg_m2 149 (by decide +kernel) rfl), (hg_m1 1 (by decide +kernel) rfl), by decide +kernel, by decide⟩
theorem sv_RL_94 : hg_Sv RL 94 RX6 yX6_trim cX6_trim 6 (some .int) 0 := ⟨(hg_m5 139 (by decide +kernel) rfl), (hg_m5 136 (by decide +kernel) rfl), (hg_m5 137 (by decide +kernel) rfl), (hg_m5 138 (by decide +kernel) rfl), (hg_m1 7 (by decide +kernel) rfl), by decide +kernel, by decide⟩
theorem sv_RL_97 : hg_Sv RL 97 RX6 yX6_step cX6_step 3 (some .int) 2 := ⟨(hg_m5 155 (by decide +kernel) rfl), (hg_m5 152 (by decide +kernel) rfl), (hg_m5 153 (by decide +kernel) rfl), (hg_m5 154 (by decide +kernel) rfl), (hg_m1 7 (by decide +kernel) rfl), by decide +kernel, by decide⟩
theorem sv_RL_98 : hg_Sv RL 98 RX5 yX5_tell cX5_tell 1 (some .int) 0 := ⟨(hg_m2 189 (by decide +kernel) rfl), (hg_m2 186 (by decide +kernel) rfl), (hg_m2 187 (by decide +kernel) rfl), (hg_m2 188 (by decide +kernel) rfl), (hg_m1 1 (by decide +kernel) rfl), by decide +kernel, by decide⟩
theorem sv_RL_101 : hg_Sv RL 101 RX6 yX6_tell cX6_tell 2 (some .int) 0 := ⟨(hg_m5 165 (by decide +kernel) rfl), (hg_m5 162 (by decide +kernel) rfl), (hg_m5 163 (by decide +kernel) rfl), (hg_m5 164 (by decide +kernel) rfl), (hg_m1 7 (by decide +kernel) rfl), by decide +kernel, by decide⟩
theorem sv_RL_105 : hg_Sv RL 105 RX6 yX6_run cX6_run 2 (some .int) 0 := ⟨(hg_m5 201 (by decide +kernel) rfl), (hg_m5 198 (by decide +kernel) rfl), (hg_m5 199 (by decide +kernel) rfl), (hg_m5 200 (by decide +kernel) rfl), (hg_m1 7 (by decide +kernel) rfl), by decide +kernel, by decide⟩
theorem sv_RL_108 : hg_Sv RL 108 RX6 yX6_left cX6_left 2 (some .int) 1 := ⟨(hg_m5 209 (by decide +kernel) rfl), (hg_m5 206 (by decide +kernel) rfl), (hg_m5 207 (by decide +kernel) rfl), (hg_m5 208 (by decide +kernel) rfl), (hg_m1 7 (by decide +kernel) rfl), by decide +kernel, by decide⟩
theorem sv_RL_111 : hg_Sv RL 111 RX6 yX6_kept cX6_kept 2 (some .int) 1 := ⟨(hg_m5 213 (by decide +kernel) rfl), (hg_m5 210 (by decide +kernel) rfl), (hg_m5 211 (by decide +kernel) rfl), (hg_m5 212 (by decide +kernel) rfl), (hg_m1 7 (by decide +kernel) rfl), by decide +kernel, by decide⟩
theorem sv_RL_114 : hg_Sv RL 114 RX6 yX6_output cX6_output 2 (some .int) 1 := ⟨(hg_m5 217 (by decide +kernel) rfl), (hg_m5 214 (by decide +kernel) rfl), (hg_m5 215 (by decide +kernel) rfl), (hg_m5 216 (by decide +kernel) rfl), (hg_m1 7 (by decide +kernel) rfl), by decide +kernel, by decide⟩
theorem sv_RL_117 : hg_Sv RL 117 RX6 yX6_count cX6_count 2 (some .int) 1 := ⟨(hg_m5 221 (by decide +kernel) rfl), (hg_m5 218 (by decide +kernel) rfl), (hg_m5 219 (by decide +kernel) rfl), (hg_m5 220 (by decide +kernel) rfl), (hg_m1 7 (by decide +kernel) rfl), by decide +kernel, by decide⟩
theorem sh_RL_57 : hj_Sh RL 57 yL_variable cL_variable 4 [(0, 6, 9, 13)] 3 := ⟨(hg_m3 12 (by decide +kernel) rfl), (hg_m3 10 (by decide +kernel) rfl), (hg_m3 11 (by decide +kernel) rfl), (hg_m1 0 (by decide +kernel) rfl), by decide +kernel, by decide⟩
theorem sh_RL_63 : hj_Sh RL 63 yL_word cL_word 4 [(0, 6, 9, 13)] 3 := ⟨(hg_m3 87 (by decide +kernel) rfl), (hg_m3 85 (by decide +kernel) rfl), (hg_m3 86 (by decide +kernel) rfl), (hg_m1 0 (by decide +kernel) rfl), by decide +kernel, by decide⟩
theorem sh_RL_71 : hj_Sh RL 71 yL_feed cL_feed 6 [(0, 11, 14, 22), (0, 11, 18, 24)] 4 := ⟨(hg_m3 95 (by decide +kernel) rfl), (hg_m3 93 (by decide +kernel) rfl), (hg_m3 94 (by decide +kernel) rfl), (hg_m1 0 (by decide +kernel) rfl), by decide +kernel, by decide⟩
theorem sh_RL_83 : hj_Sh RL 83 yL_statement cL_statement 5 [(0, 10, 13, 13), (0, 10, 17, 22)] 4 := ⟨(hg_m3 140 (by decide +kernel) rfl), (hg_m3 138 (by decide +kernel) rfl), (hg_m3 139 (by decide +kernel) rfl), (hg_m1 0 (by decide +kernel) rfl), by decide +kernel, by decide⟩
theorem sh_RL_87 : hj_Sh RL 87 yL_lower cL_lower 4 [(0, 9, 12, 22)] 3 := ⟨(hg_m3 153 (by decide +kernel) rfl), (hg_m3 151 (by decide +kernel) rfl), (hg_m3 152 (by decide +kernel) rfl), (hg_m1 0 (by decide +kernel) rfl), by decide +kernel, by decide⟩
theorem sh_RL_95 : hj_Sh RL 95 yL_step cL_step 5 [(0, 10, 13, 13), (0, 10, 17, 22)] 4 := ⟨(hg_m4 5 (by decide +kernel) rfl), (hg_m4 3 (by decide +kernel) rfl), (hg_m4 4 (by decide +kernel) rfl), (hg_m1 0 (by decide +kernel) rfl), by decide +kernel, by decide⟩
theorem sh_RL_102 : hj_Sh RL 102 yL_run cL_run 3 [(0, 8, 11, 24)] 2 := ⟨(hg_m4 14 (by decide +kernel) rfl), (hg_m4 12 (by decide +kernel) rfl), (hg_m4 13 (by decide +kernel) rfl), (hg_m1 0 (by decide +kernel) rfl), by decide +kernel, by decide⟩
theorem sh_RL_106 : hj_Sh RL 106 yL_left cL_left 4 [(0, 9, 12, 13)] 3 := ⟨(hg_m4 34 (by decide +kernel) rfl), (hg_m4 32 (by decide +kernel) rfl), (hg_m4 33 (by decide +kernel) rfl), (hg_m1 0 (by decide +kernel) rfl), by decide +kernel, by decide⟩
theorem sh_RL_109 : hj_Sh RL 109 yL_kept cL_kept 4 [(0, 9, 12, 13)] 3 := ⟨(hg_m4 41 (by decide +kernel) rfl), (hg_m4 39 (by decide +kernel) rfl), (hg_m4 40 (by decide +kernel) rfl), (hg_m1 0 (by decide +kernel) rfl), by decide +kernel, by decide⟩
theorem sh_RL_112 : hj_Sh RL 112 yL_output cL_output 4 [(0, 9, 12, 13)] 3 := ⟨(hg_m4 48 (by decide +kernel) rfl), (hg_m4 46 (by decide +kernel) rfl), (hg_m4 47 (by decide +kernel) rfl), (hg_m1 0 (by decide +kernel) rfl), by decide +kernel, by decide⟩
theorem sh_RL_115 : hj_Sh RL 115 yL_count cL_count 4 [(0, 9, 12, 22)] 3 := ⟨(hg_m4 56 (by decide +kernel) rfl), (hg_m4 54 (by decide +kernel) rfl), (hg_m4 55 (by decide +kernel) rfl), (hg_m1 0 (by decide +kernel) rfl), by decide +kernel, by decide⟩
set_option maxRecDepth 10000 in
theorem tH_variable {E : hg_Et} (hE : hg_Eok E) (hX : hg_Xa E) (hCa : hj_Ca E) (l : Launch) (hlt : l.stackTraces = false) (x1 : Int32) (x2 : Int32) (σ : hg_M) (h : iA σ) : hj_H E l yL_variable cL_variable 4 [(0, 6, 9, 13)] 7 (fun a o => [.ref a, .int x1, .int x2]) σ (fun r σ9 => iA σ9 ∧ ((r = 0 ∧ 0 ≤ x1 ∧ x1 < 16) ∨ (r = 1 ∧ (x1 < 0 ∨ 16 ≤ x1)))) := by
  intro D t tl ad o sz
  refine va_MetW (cc := cL_variable) (maxL := 4) (ret := some .int) (hh := [(0, 6, 9, 13)]) (by decide) rfl ?_
  intro p e s m args below meth c s₁ B hml hv
  obtain ⟨rfl, hsz, hP, ⟨f, hO⟩, hK, hD0, hne, hE0⟩ := hv
  have hts0 := atoms_spec (ws := Cond.codeWith yL_variable cL_variable 4 (some .int) [(0, 6, 9, 13)] :: hg_tbl) B.pre
  have htab := vx_table (x := yL_variable) B (hts0 _ List.mem_cons_self)
  have hts : ∀ w ∈ hg_tbl, w.before _ s = true := fun w h9 => hts0 w (List.mem_cons_of_mem _ h9)
  subst hsz
  have hx := B.exec
  have hb := B.bytes
  have hr := B.returns
  have hlk := B.notSynchronized
  have hown : s.vm.findClass RL = some m.cls := findClass_of_methodNamed B.named
  have hA : ∀ q, s.heap.size ≤ q → hj_A ad o s.heap.size q := fun q h9 => Or.inl (Or.inr h9)
  have hDd : hg_Dd hg_FC ad (hj_A ad o s.heap.size) := ⟨hD0.1, fun i hi => Or.inl (Or.inl ⟨i, hi, rfl⟩)⟩
  have hnA : ¬ hg_A hg_FC ad s.heap.size o := by
    rintro (⟨k9, hk9, e9⟩ | h9)
    · exact hne k9 hk9 e9.symm
    · exact absurd (hj_olt hO) (by omega)
  have hS : va_S (hj_A ad o s.heap.size) s.heap s.heap [] := va_S.rf
  have hl := lv_entry ([.ref (ad 0), .int x1, .int x2]) (n := 4) (Nat.le_of_ble_eq_true rfl)
  rw [lg_entry_eq]
  generalize (lg_sl ([.ref (ad 0), .int x1, .int x2]) ++ List.replicate (4 - (lg_sl ([.ref (ad 0), .int x1, .int x2])).length) Slot.unset).toArray = ls at hl ⊢
  have hl : lv_has ls 4 [(0, .ref (ad 0)), (1, .int x1), (2, .int x2)] := hl
  refine lv_aload_n hx hb dL_variable_0 rfl (lv_at hl 0 rfl) ?_
  refine lv_iload_n hx hb dL_variable_1 rfl (lv_at hl 1 rfl) ?_
  refine lv_iload_n hx hb dL_variable_2 rfl (lv_at hl 2 rfl) ?_
  refine hj_xv (As := [.int x1, .int x2]) (rest := []) ⟨hx, hb, hml, hown, hts⟩ (hj_K hK) hDd hA hE0 hE (tC_X5_variable hE l 0 hX hlt x1 x2 σ (fun σ9 => iA σ9 ∧ 0 ≤ x1 ∧ x1 < 16) (fun Ec σ9 => Ec = "java/lang/IndexOutOfBoundsException" ∧ iA σ9 ∧ (x1 < 0 ∨ 16 ≤ x1)) (pA_variable h (fun a b σ9 w9 => ⟨w9, a, b⟩) (fun e9 => ⟨rfl, h, e9⟩))) sv_RL_7 dL_variable_3 rfl rfl (Nat.le_of_ble_eq_true rfl) hl.1 ⟨rfl, rfl⟩ ⟨Nat.le_refl _, Nat.le_refl _⟩ hP hS (fun Ec ce q9 σ1 H1 locs1 hpx hP1 hk1 hS1 h7 h8 h9 => ?_) (fun σ1 H1 locs1 hp hP1 hk1 hS1 => ?_)
  · have hO1 := hj_keepo hO hk1 hnA
    obtain ⟨rfl, hi, hbad⟩ := hpx
    refine vx_catch (own := RL) (name := "java/lang/IndexOutOfBoundsException") hown [] ⟨0, 6, 9, 13⟩ [] (htab.trans rfl) (fun z9 hz9 => absurd hz9 List.not_mem_nil) (by decide) (by decide) (hts _ (hg_m3 13 (by decide +kernel) rfl)) (va_Nw.use rfl (hCa _ _ _ hE0).1.1) h7 h8 h9 ?_
    refine lv_astore_n (lv' := [(3, .ref q9), (0, .ref (ad 0)), (1, .int x1), (2, .int x2)]) hx hb dL_variable_9 rfl hl (by decide) rfl (fun ls hl => ?_)
    refine lv_iconst (v := 1) hx hb dL_variable_10 (by decide) ?_
    exact W.iret (v := 1) hx hb hr (fun U hU hW => ⟨⟨1, σ1, rfl, ⟨hi, Or.inr ⟨rfl, hbad⟩⟩, by dsimp only; rw [hU]; exact ⟨hP1, f, hO1⟩⟩, hS1.F hU⟩) hS1.2.2 dL_variable_11
  · have hO1 := hj_keepo hO hk1 hnA
    refine lv_goto (tgt := 12) hx hb dL_variable_6 (by decide) ?_
    refine lv_iconst (v := 0) hx hb dL_variable_12 (by decide) ?_
    exact W.iret (v := 0) hx hb hr (fun U hU hW => ⟨⟨0, σ1, rfl, ⟨hp.1, Or.inl ⟨rfl, hp.2⟩⟩, by dsimp only; rw [hU]; exact ⟨hP1, f, hO1⟩⟩, hS1.F hU⟩) hS1.2.2 dL_variable_13
set_option maxRecDepth 10000 in
theorem tH_word {E : hg_Et} (hE : hg_Eok E) (hX : hg_Xa E) (hCa : hj_Ca E) (l : Launch) (hlt : l.stackTraces = false) (x1 : Int32) (x2 : Int32) (σ : hg_M) (h : iA σ) : hj_H E l yL_word cL_word 4 [(0, 6, 9, 13)] 7 (fun a o => [.ref a, .int x1, .int x2]) σ (fun r σ9 => iA σ9 ∧ ((r = 0 ∧ 0 ≤ x1 ∧ x1 < 32) ∨ (r = 1 ∧ (x1 < 0 ∨ 32 ≤ x1)))) := by
  intro D t tl ad o sz
  refine va_MetW (cc := cL_word) (maxL := 4) (ret := some .int) (hh := [(0, 6, 9, 13)]) (by decide) rfl ?_
  intro p e s m args below meth c s₁ B hml hv
  obtain ⟨rfl, hsz, hP, ⟨f, hO⟩, hK, hD0, hne, hE0⟩ := hv
  have hts0 := atoms_spec (ws := Cond.codeWith yL_word cL_word 4 (some .int) [(0, 6, 9, 13)] :: hg_tbl) B.pre
  have htab := vx_table (x := yL_word) B (hts0 _ List.mem_cons_self)
  have hts : ∀ w ∈ hg_tbl, w.before _ s = true := fun w h9 => hts0 w (List.mem_cons_of_mem _ h9)
  subst hsz
  have hx := B.exec
  have hb := B.bytes
  have hr := B.returns
  have hlk := B.notSynchronized
  have hown : s.vm.findClass RL = some m.cls := findClass_of_methodNamed B.named
  have hA : ∀ q, s.heap.size ≤ q → hj_A ad o s.heap.size q := fun q h9 => Or.inl (Or.inr h9)
  have hDd : hg_Dd hg_FC ad (hj_A ad o s.heap.size) := ⟨hD0.1, fun i hi => Or.inl (Or.inl ⟨i, hi, rfl⟩)⟩
  have hnA : ¬ hg_A hg_FC ad s.heap.size o := by
    rintro (⟨k9, hk9, e9⟩ | h9)
    · exact hne k9 hk9 e9.symm
    · exact absurd (hj_olt hO) (by omega)
  have hS : va_S (hj_A ad o s.heap.size) s.heap s.heap [] := va_S.rf
  have hl := lv_entry ([.ref (ad 0), .int x1, .int x2]) (n := 4) (Nat.le_of_ble_eq_true rfl)
  rw [lg_entry_eq]
  generalize (lg_sl ([.ref (ad 0), .int x1, .int x2]) ++ List.replicate (4 - (lg_sl ([.ref (ad 0), .int x1, .int x2])).length) Slot.unset).toArray = ls at hl ⊢
  have hl : lv_has ls 4 [(0, .ref (ad 0)), (1, .int x1), (2, .int x2)] := hl
  refine lv_aload_n hx hb dL_word_0 rfl (lv_at hl 0 rfl) ?_
  refine lv_iload_n hx hb dL_word_1 rfl (lv_at hl 1 rfl) ?_
  refine lv_iload_n hx hb dL_word_2 rfl (lv_at hl 2 rfl) ?_
  refine hj_xv (As := [.int x1, .int x2]) (rest := []) ⟨hx, hb, hml, hown, hts⟩ (hj_K hK) hDd hA hE0 hE (tC_X5_word hE l 0 hX hlt x1 x2 σ (fun σ9 => iA σ9 ∧ 0 ≤ x1 ∧ x1 < 32) (fun Ec σ9 => Ec = "java/lang/IndexOutOfBoundsException" ∧ iA σ9 ∧ (x1 < 0 ∨ 32 ≤ x1)) (pA_word h (fun a b σ9 w9 => ⟨w9, a, b⟩) (fun e9 => ⟨rfl, h, e9⟩))) sv_RL_15 dL_word_3 rfl rfl (Nat.le_of_ble_eq_true rfl) hl.1 ⟨rfl, rfl⟩ ⟨Nat.le_refl _, Nat.le_refl _⟩ hP hS (fun Ec ce q9 σ1 H1 locs1 hpx hP1 hk1 hS1 h7 h8 h9 => ?_) (fun σ1 H1 locs1 hp hP1 hk1 hS1 => ?_)
  · have hO1 := hj_keepo hO hk1 hnA
    obtain ⟨rfl, hi, hbad⟩ := hpx
    refine vx_catch (own := RL) (name := "java/lang/IndexOutOfBoundsException") hown [] ⟨0, 6, 9, 13⟩ [] (htab.trans rfl) (fun z9 hz9 => absurd hz9 List.not_mem_nil) (by decide) (by decide) (hts _ (hg_m3 13 (by decide +kernel) rfl)) (va_Nw.use rfl (hCa _ _ _ hE0).1.1) h7 h8 h9 ?_
    refine lv_astore_n (lv' := [(3, .ref q9), (0, .ref (ad 0)), (1, .int x1), (2, .int x2)]) hx hb dL_word_9 rfl hl (by decide) rfl (fun ls hl => ?_)
    refine lv_iconst (v := 1) hx hb dL_word_10 (by decide) ?_
    exact W.iret (v := 1) hx hb hr (fun U hU hW => ⟨⟨1, σ1, rfl, ⟨hi, Or.inr ⟨rfl, hbad⟩⟩, by dsimp only; rw [hU]; exact ⟨hP1, f, hO1⟩⟩, hS1.F hU⟩) hS1.2.2 dL_word_11
  · have hO1 := hj_keepo hO hk1 hnA
    refine lv_goto (tgt := 12) hx hb dL_word_6 (by decide) ?_
    refine lv_iconst (v := 0) hx hb dL_word_12 (by decide) ?_
    exact W.iret (v := 0) hx hb hr (fun U hU hW => ⟨⟨0, σ1, rfl, ⟨hp.1, Or.inl ⟨rfl, hp.2⟩⟩, by dsimp only; rw [hU]; exact ⟨hP1, f, hO1⟩⟩, hS1.F hU⟩) hS1.2.2 dL_word_13
set_option maxRecDepth 10000 in
theorem tH_feed {E : hg_Et} (hE : hg_Eok E) (hX : hg_Xa E) (hCa : hj_Ca E) (l : Launch) (hlt : l.stackTraces = false) (x1 : Int64) (x3 : Int32) (σ : hg_M) (h : iA σ) : hj_H E l yL_feed cL_feed 6 [(0, 11, 14, 22), (0, 11, 18, 24)] 7 (fun a o => [.ref a, .long x1, .int x3, .ref o]) σ (fun _ σ9 => iA σ9) := by
  intro D t tl ad o sz
  refine va_MetW (cc := cL_feed) (maxL := 6) (ret := some .int) (hh := [(0, 11, 14, 22), (0, 11, 18, 24)]) (by decide) rfl ?_
  intro p e s m args below meth c s₁ B hml hv
  obtain ⟨rfl, hsz, hP, ⟨f, hO⟩, hK, hD0, hne, hE0⟩ := hv
  have hts0 := atoms_spec (ws := Cond.codeWith yL_feed cL_feed 6 (some .int) [(0, 11, 14, 22), (0, 11, 18, 24)] :: hg_tbl) B.pre
  have htab := vx_table (x := yL_feed) B (hts0 _ List.mem_cons_self)
  have hts : ∀ w ∈ hg_tbl, w.before _ s = true := fun w h9 => hts0 w (List.mem_cons_of_mem _ h9)
  subst hsz
  have hx := B.exec
  have hb := B.bytes
  have hr := B.returns
  have hlk := B.notSynchronized
  have hown : s.vm.findClass RL = some m.cls := findClass_of_methodNamed B.named
  have hA : ∀ q, s.heap.size ≤ q → hj_A ad o s.heap.size q := fun q h9 => Or.inl (Or.inr h9)
  have hDd : hg_Dd hg_FC ad (hj_A ad o s.heap.size) := ⟨hD0.1, fun i hi => Or.inl (Or.inl ⟨i, hi, rfl⟩)⟩
  have hnA : ¬ hg_A hg_FC ad s.heap.size o := by
    rintro (⟨k9, hk9, e9⟩ | h9)
    · exact hne k9 hk9 e9.symm
    · exact absurd (hj_olt hO) (by omega)
  have hS : va_S (hj_A ad o s.heap.size) s.heap s.heap [] := va_S.rf
  have hl := lv_entry ([.ref (ad 0), .long x1, .int x3, .ref o]) (n := 6) (Nat.le_of_ble_eq_true rfl)
  rw [lg_entry_eq]
  generalize (lg_sl ([.ref (ad 0), .long x1, .int x3, .ref o]) ++ List.replicate (6 - (lg_sl ([.ref (ad 0), .long x1, .int x3, .ref o])).length) Slot.unset).toArray = ls at hl ⊢
  have hl : lv_has ls 6 [(0, .ref (ad 0)), (1, .long x1), (3, .int x3), (4, .ref o)] := hl
  refine lv_aload hx hb dL_feed_0 (lv_at hl 3 rfl) ?_
  refine lv_iconst (v := 0) hx hb dL_feed_2 (by decide) ?_
  refine lv_aload_n hx hb dL_feed_3 rfl (lv_at hl 0 rfl) ?_
  refine lv_lload_n hx hb dL_feed_4 rfl (lv_at hl 1 rfl) ?_
  refine lv_iload_n hx hb dL_feed_5 rfl (lv_at hl 2 rfl) ?_
  refine hj_xi (As := [.long x1, .int x3]) (rest := [.int 0, .ref o]) ⟨hx, hb, hml, hown, hts⟩ (hj_K hK) hDd hA hE0 hE (tC_X5_feed hE l 0 hX hlt x1 x3 σ (fun _ σ9 => iA σ9) (fun Ec σ9 => (Ec = "java/lang/IllegalArgumentException" ∨ Ec = "java/lang/IllegalStateException") ∧ iA σ9) (pA_feed h (fun r9 σ9 w9 => w9) (fun e9 he => ⟨he, h⟩))) sv_RL_18 dL_feed_6 rfl rfl (Nat.le_of_ble_eq_true rfl) hl.1 ⟨rfl, rfl⟩ ⟨Nat.le_refl _, Nat.le_refl _⟩ hP hS (fun Ec ce q9 σ1 H1 locs1 hpx hP1 hk1 hS1 h7 h8 h9 => ?_) (fun r σ1 H1 locs1 hp hP1 hk1 hS1 => ?_)
  · have hO1 := hj_keepo hO hk1 hnA
    obtain ⟨rfl | rfl, hi⟩ := hpx
    · refine vx_catch (own := RL) (name := "java/lang/IllegalArgumentException") hown [] ⟨0, 11, 14, 22⟩ [⟨0, 11, 18, 24⟩] (htab.trans rfl) (fun z9 hz9 => absurd hz9 List.not_mem_nil) (by decide) (by decide) (hts _ (hg_m3 96 (by decide +kernel) rfl)) (va_Nw.use rfl (hCa _ _ _ hE0).1.2.1) h7 h8 h9 ?_
      refine lv_astore (lv' := [(5, .ref q9), (0, .ref (ad 0)), (1, .long x1), (3, .int x3), (4, .ref o)]) hx hb dL_feed_14 hl (by decide) rfl (fun ls hl => ?_)
      refine lv_iconst (v := 1) hx hb dL_feed_16 (by decide) ?_
      exact W.iret (v := 1) hx hb hr (fun U hU hW => ⟨⟨1, σ1, rfl, hi, by dsimp only; rw [hU]; exact ⟨hP1, f, hO1⟩⟩, hS1.F hU⟩) hS1.2.2 dL_feed_17
    · refine vx_catch (own := RL) (name := "java/lang/IllegalStateException") hown [⟨0, 11, 14, 22⟩] ⟨0, 11, 18, 24⟩ [] (htab.trans rfl) (fun z9 hz9 => by rw [List.mem_singleton.mp hz9]; exact Or.inr ⟨by decide, "java/lang/IllegalArgumentException", hts _ (hg_m3 96 (by decide +kernel) rfl), (hCa _ _ _ hE0).2.1⟩) (by decide) (by decide) (hts _ (hg_m3 97 (by decide +kernel) rfl)) (va_Nw.use rfl (hCa _ _ _ hE0).1.2.2) h7 h8 h9 ?_
      refine lv_astore (lv' := [(5, .ref q9), (0, .ref (ad 0)), (1, .long x1), (3, .int x3), (4, .ref o)]) hx hb dL_feed_18 hl (by decide) rfl (fun ls hl => ?_)
      refine lv_iconst (v := 2) hx hb dL_feed_20 (by decide) ?_
      exact W.iret (v := 2) hx hb hr (fun U hU hW => ⟨⟨2, σ1, rfl, hi, by dsimp only; rw [hU]; exact ⟨hP1, f, hO1⟩⟩, hS1.F hU⟩) hS1.2.2 dL_feed_21
  · have hO1 := hj_keepo hO hk1 hnA
    refine lv_i2l (v := r.toInt64) hx hb dL_feed_9 rfl ?_
    refine hj_last hx hb hK hP1 hO1 hDd (Or.inr rfl) hne hS1 dL_feed_10 (fun H2 locs2 f1 hP2 hO2 hS2 => ?_)
    refine lv_goto (tgt := 22) hx hb dL_feed_11 (by decide) ?_
    refine lv_iconst (v := 0) hx hb dL_feed_22 (by decide) ?_
    exact W.iret (v := 0) hx hb hr (fun U hU hW => ⟨⟨0, σ1, rfl, hp, by dsimp only; rw [hU]; exact ⟨hP2, f1, hO2⟩⟩, hS2.F hU⟩) hS2.2.2 dL_feed_23
set_option maxRecDepth 10000 in
theorem tH_statement {E : hg_Et} (hE : hg_Eok E) (hX : hg_Xa E) (hCa : hj_Ca E) (l : Launch) (hlt : l.stackTraces = false) (x1 : Int32) (x2 : Int32) (σ : hg_M) (h : iA σ) : hj_H E l yL_statement cL_statement 5 [(0, 10, 13, 13), (0, 10, 17, 22)] 7 (fun a o => [.ref a, .int x1, .int x2, .ref o]) σ (fun _ σ9 => iA σ9) := by
  intro D t tl ad o sz
  refine va_MetW (cc := cL_statement) (maxL := 5) (ret := some .int) (hh := [(0, 10, 13, 13), (0, 10, 17, 22)]) (by decide) rfl ?_
  intro p e s m args below meth c s₁ B hml hv
  obtain ⟨rfl, hsz, hP, ⟨f, hO⟩, hK, hD0, hne, hE0⟩ := hv
  have hts0 := atoms_spec (ws := Cond.codeWith yL_statement cL_statement 5 (some .int) [(0, 10, 13, 13), (0, 10, 17, 22)] :: hg_tbl) B.pre
  have htab := vx_table (x := yL_statement) B (hts0 _ List.mem_cons_self)
  have hts : ∀ w ∈ hg_tbl, w.before _ s = true := fun w h9 => hts0 w (List.mem_cons_of_mem _ h9)
  subst hsz
  have hx := B.exec
  have hb := B.bytes
  have hr := B.returns
  have hlk := B.notSynchronized
  have hown : s.vm.findClass RL = some m.cls := findClass_of_methodNamed B.named
  have hA : ∀ q, s.heap.size ≤ q → hj_A ad o s.heap.size q := fun q h9 => Or.inl (Or.inr h9)
  have hDd : hg_Dd hg_FC ad (hj_A ad o s.heap.size) := ⟨hD0.1, fun i hi => Or.inl (Or.inl ⟨i, hi, rfl⟩)⟩
  have hnA : ¬ hg_A hg_FC ad s.heap.size o := by
    rintro (⟨k9, hk9, e9⟩ | h9)
    · exact hne k9 hk9 e9.symm
    · exact absurd (hj_olt hO) (by omega)
  have hS : va_S (hj_A ad o s.heap.size) s.heap s.heap [] := va_S.rf
  have hl := lv_entry ([.ref (ad 0), .int x1, .int x2, .ref o]) (n := 5) (Nat.le_of_ble_eq_true rfl)
  rw [lg_entry_eq]
  generalize (lg_sl ([.ref (ad 0), .int x1, .int x2, .ref o]) ++ List.replicate (5 - (lg_sl ([.ref (ad 0), .int x1, .int x2, .ref o])).length) Slot.unset).toArray = ls at hl ⊢
  have hl : lv_has ls 5 [(0, .ref (ad 0)), (1, .int x1), (2, .int x2), (3, .ref o)] := hl
  refine lv_aload_n hx hb dL_statement_0 rfl (lv_at hl 3 rfl) ?_
  refine lv_iconst (v := 0) hx hb dL_statement_1 (by decide) ?_
  refine lv_aload_n hx hb dL_statement_2 rfl (lv_at hl 0 rfl) ?_
  refine lv_iload_n hx hb dL_statement_3 rfl (lv_at hl 1 rfl) ?_
  refine lv_iload_n hx hb dL_statement_4 rfl (lv_at hl 2 rfl) ?_
  refine hj_xi (As := [.int x1, .int x2]) (rest := [.int 0, .ref o]) ⟨hx, hb, hml, hown, hts⟩ (hj_K hK) hDd hA hE0 hE (tC_X5_statement hE l 0 hX hlt x1 x2 σ (fun _ σ9 => iA σ9) (fun Ec σ9 => (Ec = "java/lang/IndexOutOfBoundsException" ∨ Ec = "java/lang/IllegalArgumentException") ∧ iA σ9) (pA_statement h (fun r9 => h) (fun e9 he => ⟨he, h⟩))) sv_RL_26 dL_statement_5 rfl rfl (Nat.le_of_ble_eq_true rfl) hl.1 ⟨rfl, rfl⟩ ⟨Nat.le_refl _, Nat.le_refl _⟩ hP hS (fun Ec ce q9 σ1 H1 locs1 hpx hP1 hk1 hS1 h7 h8 h9 => ?_) (fun r σ1 H1 locs1 hp hP1 hk1 hS1 => ?_)
  · have hO1 := hj_keepo hO hk1 hnA
    obtain ⟨rfl | rfl, hi⟩ := hpx
    · refine vx_catch (own := RL) (name := "java/lang/IndexOutOfBoundsException") hown [] ⟨0, 10, 13, 13⟩ [⟨0, 10, 17, 22⟩] (htab.trans rfl) (fun z9 hz9 => absurd hz9 List.not_mem_nil) (by decide) (by decide) (hts _ (hg_m3 13 (by decide +kernel) rfl)) (va_Nw.use rfl (hCa _ _ _ hE0).1.1) h7 h8 h9 ?_
      refine lv_astore (lv' := [(4, .ref q9), (0, .ref (ad 0)), (1, .int x1), (2, .int x2), (3, .ref o)]) hx hb dL_statement_13 hl (by decide) rfl (fun ls hl => ?_)
      refine lv_iconst (v := 1) hx hb dL_statement_15 (by decide) ?_
      exact W.iret (v := 1) hx hb hr (fun U hU hW => ⟨⟨1, σ1, rfl, hi, by dsimp only; rw [hU]; exact ⟨hP1, f, hO1⟩⟩, hS1.F hU⟩) hS1.2.2 dL_statement_16
    · refine vx_catch (own := RL) (name := "java/lang/IllegalArgumentException") hown [⟨0, 10, 13, 13⟩] ⟨0, 10, 17, 22⟩ [] (htab.trans rfl) (fun z9 hz9 => by rw [List.mem_singleton.mp hz9]; exact Or.inr ⟨by decide, "java/lang/IndexOutOfBoundsException", hts _ (hg_m3 13 (by decide +kernel) rfl), (hCa _ _ _ hE0).2.2⟩) (by decide) (by decide) (hts _ (hg_m3 96 (by decide +kernel) rfl)) (va_Nw.use rfl (hCa _ _ _ hE0).1.2.1) h7 h8 h9 ?_
      refine lv_astore (lv' := [(4, .ref q9), (0, .ref (ad 0)), (1, .int x1), (2, .int x2), (3, .ref o)]) hx hb dL_statement_17 hl (by decide) rfl (fun ls hl => ?_)
      refine lv_iconst (v := 2) hx hb dL_statement_19 (by decide) ?_
      exact W.iret (v := 2) hx hb hr (fun U hU hW => ⟨⟨2, σ1, rfl, hi, by dsimp only; rw [hU]; exact ⟨hP1, f, hO1⟩⟩, hS1.F hU⟩) hS1.2.2 dL_statement_20
  · have hO1 := hj_keepo hO hk1 hnA
    refine lv_i2l (v := r.toInt64) hx hb dL_statement_8 rfl ?_
    refine hj_last hx hb hK hP1 hO1 hDd (Or.inr rfl) hne hS1 dL_statement_9 (fun H2 locs2 f1 hP2 hO2 hS2 => ?_)
    refine lv_goto (tgt := 21) hx hb dL_statement_10 (by decide) ?_
    refine lv_iconst (v := 0) hx hb dL_statement_21 (by decide) ?_
    exact W.iret (v := 0) hx hb hr (fun U hU hW => ⟨⟨0, σ1, rfl, hp, by dsimp only; rw [hU]; exact ⟨hP2, f1, hO2⟩⟩, hS2.F hU⟩) hS2.2.2 dL_statement_22
set_option maxRecDepth 10000 in
theorem tH_lower {E : hg_Et} (hE : hg_Eok E) (hX : hg_Xa E) (hCa : hj_Ca E) (l : Launch) (hlt : l.stackTraces = false) (x1 : Int32) (σ : hg_M) (h : iA σ) : hj_H E l yL_lower cL_lower 4 [(0, 9, 12, 22)] 25 (fun a o => [.ref a, .int x1, .ref o]) σ (fun _ σ9 => iA σ9) := by
  intro D t tl ad o sz
  refine va_MetW (cc := cL_lower) (maxL := 4) (ret := some .int) (hh := [(0, 9, 12, 22)]) (by decide) rfl ?_
  intro p e s m args below meth c s₁ B hml hv
  obtain ⟨rfl, hsz, hP, ⟨f, hO⟩, hK, hD0, hne, hE0⟩ := hv
  have hts0 := atoms_spec (ws := Cond.codeWith yL_lower cL_lower 4 (some .int) [(0, 9, 12, 22)] :: hg_tbl) B.pre
  have htab := vx_table (x := yL_lower) B (hts0 _ List.mem_cons_self)
  have hts : ∀ w ∈ hg_tbl, w.before _ s = true := fun w h9 => hts0 w (List.mem_cons_of_mem _ h9)
  subst hsz
  have hx := B.exec
  have hb := B.bytes
  have hr := B.returns
  have hlk := B.notSynchronized
  have hown : s.vm.findClass RL = some m.cls := findClass_of_methodNamed B.named
  have hA : ∀ q, s.heap.size ≤ q → hj_A ad o s.heap.size q := fun q h9 => Or.inl (Or.inr h9)
  have hDd : hg_Dd hg_FC ad (hj_A ad o s.heap.size) := ⟨hD0.1, fun i hi => Or.inl (Or.inl ⟨i, hi, rfl⟩)⟩
  have hnA : ¬ hg_A hg_FC ad s.heap.size o := by
    rintro (⟨k9, hk9, e9⟩ | h9)
    · exact hne k9 hk9 e9.symm
    · exact absurd (hj_olt hO) (by omega)
  have hS : va_S (hj_A ad o s.heap.size) s.heap s.heap [] := va_S.rf
  have hl := lv_entry ([.ref (ad 0), .int x1, .ref o]) (n := 4) (Nat.le_of_ble_eq_true rfl)
  rw [lg_entry_eq]
  generalize (lg_sl ([.ref (ad 0), .int x1, .ref o]) ++ List.replicate (4 - (lg_sl ([.ref (ad 0), .int x1, .ref o])).length) Slot.unset).toArray = ls at hl ⊢
  have hl : lv_has ls 4 [(0, .ref (ad 0)), (1, .int x1), (2, .ref o)] := hl
  refine lv_aload_n hx hb dL_lower_0 rfl (lv_at hl 2 rfl) ?_
  refine lv_iconst (v := 0) hx hb dL_lower_1 (by decide) ?_
  refine lv_aload_n hx hb dL_lower_2 rfl (lv_at hl 0 rfl) ?_
  refine lv_iload_n hx hb dL_lower_3 rfl (lv_at hl 1 rfl) ?_
  refine hj_xi (As := [.int x1]) (rest := [.int 0, .ref o]) ⟨hx, hb, hml, hown, hts⟩ (hj_K hK) hDd hA hE0 hE (tC_X5_lower hE l 0 hX hlt x1 σ (fun _ σ9 => iA σ9) (fun Ec σ9 => (Ec = "java/lang/IllegalArgumentException") ∧ iA σ9) (pA_lower h (fun r9 σ9 w9 => w9) ⟨rfl, h⟩)) sv_RL_30 dL_lower_4 rfl rfl (Nat.le_of_ble_eq_true rfl) hl.1 ⟨rfl, rfl⟩ ⟨Nat.le_refl _, Nat.le_refl _⟩ hP hS (fun Ec ce q9 σ1 H1 locs1 hpx hP1 hk1 hS1 h7 h8 h9 => ?_) (fun r σ1 H1 locs1 hp hP1 hk1 hS1 => ?_)
  · have hO1 := hj_keepo hO hk1 hnA
    obtain ⟨rfl, hi⟩ := hpx
    refine vx_catch (own := RL) (name := "java/lang/IllegalArgumentException") hown [] ⟨0, 9, 12, 22⟩ [] (htab.trans rfl) (fun z9 hz9 => absurd hz9 List.not_mem_nil) (by decide) (by decide) (hts _ (hg_m3 96 (by decide +kernel) rfl)) (va_Nw.use rfl (hCa _ _ _ hE0).1.2.1) h7 h8 h9 ?_
    refine lv_astore_n (lv' := [(3, .ref q9), (0, .ref (ad 0)), (1, .int x1), (2, .ref o)]) hx hb dL_lower_12 rfl hl (by decide) rfl (fun ls hl => ?_)
    refine lv_iconst (v := 1) hx hb dL_lower_13 (by decide) ?_
    exact W.iret (v := 1) hx hb hr (fun U hU hW => ⟨⟨1, σ1, rfl, hi, by dsimp only; rw [hU]; exact ⟨hP1, f, hO1⟩⟩, hS1.F hU⟩) hS1.2.2 dL_lower_14
  · have hO1 := hj_keepo hO hk1 hnA
    refine lv_i2l (v := r.toInt64) hx hb dL_lower_7 rfl ?_
    refine hj_last hx hb hK hP1 hO1 hDd (Or.inr rfl) hne hS1 dL_lower_8 (fun H2 locs2 f1 hP2 hO2 hS2 => ?_)
    refine lv_goto (tgt := 15) hx hb dL_lower_9 (by decide) ?_
    refine lv_iconst (v := 0) hx hb dL_lower_15 (by decide) ?_
    exact W.iret (v := 0) hx hb hr (fun U hU hW => ⟨⟨0, σ1, rfl, hp, by dsimp only; rw [hU]; exact ⟨hP2, f1, hO2⟩⟩, hS2.F hU⟩) hS2.2.2 dL_lower_16
set_option maxRecDepth 10000 in
theorem tH_step {E : hg_Et} (hE : hg_Eok E) (hX : hg_Xa E) (hCa : hj_Ca E) (l : Launch) (hlt : l.stackTraces = false) (x1 : Int32) (x2 : Int32) (σ : hg_M) (h : iA σ) : hj_H E l yL_step cL_step 5 [(0, 10, 13, 13), (0, 10, 17, 22)] 7 (fun a o => [.ref a, .int x1, .int x2, .ref o]) σ (fun _ σ9 => iA σ9) := by
  intro D t tl ad o sz
  refine va_MetW (cc := cL_step) (maxL := 5) (ret := some .int) (hh := [(0, 10, 13, 13), (0, 10, 17, 22)]) (by decide) rfl ?_
  intro p e s m args below meth c s₁ B hml hv
  obtain ⟨rfl, hsz, hP, ⟨f, hO⟩, hK, hD0, hne, hE0⟩ := hv
  have hts0 := atoms_spec (ws := Cond.codeWith yL_step cL_step 5 (some .int) [(0, 10, 13, 13), (0, 10, 17, 22)] :: hg_tbl) B.pre
  have htab := vx_table (x := yL_step) B (hts0 _ List.mem_cons_self)
  have hts : ∀ w ∈ hg_tbl, w.before _ s = true := fun w h9 => hts0 w (List.mem_cons_of_mem _ h9)
  subst hsz
  have hx := B.exec
  have hb := B.bytes
  have hr := B.returns
  have hlk := B.notSynchronized
  have hown : s.vm.findClass RL = some m.cls := findClass_of_methodNamed B.named
  have hA : ∀ q, s.heap.size ≤ q → hj_A ad o s.heap.size q := fun q h9 => Or.inl (Or.inr h9)
  have hDd : hg_Dd hg_FC ad (hj_A ad o s.heap.size) := ⟨hD0.1, fun i hi => Or.inl (Or.inl ⟨i, hi, rfl⟩)⟩
  have hnA : ¬ hg_A hg_FC ad s.heap.size o := by
    rintro (⟨k9, hk9, e9⟩ | h9)
    · exact hne k9 hk9 e9.symm
    · exact absurd (hj_olt hO) (by omega)
  have hS : va_S (hj_A ad o s.heap.size) s.heap s.heap [] := va_S.rf
  have hl := lv_entry ([.ref (ad 0), .int x1, .int x2, .ref o]) (n := 5) (Nat.le_of_ble_eq_true rfl)
  rw [lg_entry_eq]
  generalize (lg_sl ([.ref (ad 0), .int x1, .int x2, .ref o]) ++ List.replicate (5 - (lg_sl ([.ref (ad 0), .int x1, .int x2, .ref o])).length) Slot.unset).toArray = ls at hl ⊢
  have hl : lv_has ls 5 [(0, .ref (ad 0)), (1, .int x1), (2, .int x2), (3, .ref o)] := hl
  refine lv_aload_n hx hb dL_step_0 rfl (lv_at hl 3 rfl) ?_
  refine lv_iconst (v := 0) hx hb dL_step_1 (by decide) ?_
  refine lv_aload_n hx hb dL_step_2 rfl (lv_at hl 0 rfl) ?_
  refine lv_iload_n hx hb dL_step_3 rfl (lv_at hl 1 rfl) ?_
  refine lv_iload_n hx hb dL_step_4 rfl (lv_at hl 2 rfl) ?_
  refine hj_xi (As := [.int x1, .int x2]) (rest := [.int 0, .ref o]) ⟨hx, hb, hml, hown, hts⟩ (hj_K hK) hDd hA hE0 hE (tC_X5_step hE l 0 hX hlt x1 x2 σ (fun _ σ9 => iA σ9) (fun Ec σ9 => (Ec = "java/lang/IndexOutOfBoundsException" ∨ Ec = "java/lang/IllegalArgumentException") ∧ iA σ9) (pA_step h (fun r9 => h) (fun e9 he => ⟨he, h⟩))) sv_RL_34 dL_step_5 rfl rfl (Nat.le_of_ble_eq_true rfl) hl.1 ⟨rfl, rfl⟩ ⟨Nat.le_refl _, Nat.le_refl _⟩ hP hS (fun Ec ce q9 σ1 H1 locs1 hpx hP1 hk1 hS1 h7 h8 h9 => ?_) (fun r σ1 H1 locs1 hp hP1 hk1 hS1 => ?_)
  · have hO1 := hj_keepo hO hk1 hnA
    obtain ⟨rfl | rfl, hi⟩ := hpx
    · refine vx_catch (own := RL) (name := "java/lang/IndexOutOfBoundsException") hown [] ⟨0, 10, 13, 13⟩ [⟨0, 10, 17, 22⟩] (htab.trans rfl) (fun z9 hz9 => absurd hz9 List.not_mem_nil) (by decide) (by decide) (hts _ (hg_m3 13 (by decide +kernel) rfl)) (va_Nw.use rfl (hCa _ _ _ hE0).1.1) h7 h8 h9 ?_
      refine lv_astore (lv' := [(4, .ref q9), (0, .ref (ad 0)), (1, .int x1), (2, .int x2), (3, .ref o)]) hx hb dL_step_13 hl (by decide) rfl (fun ls hl => ?_)
      refine lv_iconst (v := 1) hx hb dL_step_15 (by decide) ?_
      exact W.iret (v := 1) hx hb hr (fun U hU hW => ⟨⟨1, σ1, rfl, hi, by dsimp only; rw [hU]; exact ⟨hP1, f, hO1⟩⟩, hS1.F hU⟩) hS1.2.2 dL_step_16
    · refine vx_catch (own := RL) (name := "java/lang/IllegalArgumentException") hown [⟨0, 10, 13, 13⟩] ⟨0, 10, 17, 22⟩ [] (htab.trans rfl) (fun z9 hz9 => by rw [List.mem_singleton.mp hz9]; exact Or.inr ⟨by decide, "java/lang/IndexOutOfBoundsException", hts _ (hg_m3 13 (by decide +kernel) rfl), (hCa _ _ _ hE0).2.2⟩) (by decide) (by decide) (hts _ (hg_m3 96 (by decide +kernel) rfl)) (va_Nw.use rfl (hCa _ _ _ hE0).1.2.1) h7 h8 h9 ?_
      refine lv_astore (lv' := [(4, .ref q9), (0, .ref (ad 0)), (1, .int x1), (2, .int x2), (3, .ref o)]) hx hb dL_step_17 hl (by decide) rfl (fun ls hl => ?_)
      refine lv_iconst (v := 2) hx hb dL_step_19 (by decide) ?_
      exact W.iret (v := 2) hx hb hr (fun U hU hW => ⟨⟨2, σ1, rfl, hi, by dsimp only; rw [hU]; exact ⟨hP1, f, hO1⟩⟩, hS1.F hU⟩) hS1.2.2 dL_step_20
  · have hO1 := hj_keepo hO hk1 hnA
    refine lv_i2l (v := r.toInt64) hx hb dL_step_8 rfl ?_
    refine hj_last hx hb hK hP1 hO1 hDd (Or.inr rfl) hne hS1 dL_step_9 (fun H2 locs2 f1 hP2 hO2 hS2 => ?_)
    refine lv_goto (tgt := 21) hx hb dL_step_10 (by decide) ?_
    refine lv_iconst (v := 0) hx hb dL_step_21 (by decide) ?_
    exact W.iret (v := 0) hx hb hr (fun U hU hW => ⟨⟨0, σ1, rfl, hp, by dsimp only; rw [hU]; exact ⟨hP2, f1, hO2⟩⟩, hS2.F hU⟩) hS2.2.2 dL_step_22
set_option maxRecDepth 10000 in
theorem tH_run {E : hg_Et} (hE : hg_Eok E) (hX : hg_Xa E) (hCa : hj_Ca E) (l : Launch) (hlt : l.stackTraces = false)  (σ : hg_M) (h : iA σ) : hj_H E l yL_run cL_run 3 [(0, 8, 11, 24)] 7 (fun a o => [.ref a, .ref o]) σ (fun _ σ9 => iA σ9) := by
  intro D t tl ad o sz
  refine va_MetW (cc := cL_run) (maxL := 3) (ret := some .int) (hh := [(0, 8, 11, 24)]) (by decide) rfl ?_
  intro p e s m args below meth c s₁ B hml hv
  obtain ⟨rfl, hsz, hP, ⟨f, hO⟩, hK, hD0, hne, hE0⟩ := hv
  have hts0 := atoms_spec (ws := Cond.codeWith yL_run cL_run 3 (some .int) [(0, 8, 11, 24)] :: hg_tbl) B.pre
  have htab := vx_table (x := yL_run) B (hts0 _ List.mem_cons_self)
  have hts : ∀ w ∈ hg_tbl, w.before _ s = true := fun w h9 => hts0 w (List.mem_cons_of_mem _ h9)
  subst hsz
  have hx := B.exec
  have hb := B.bytes
  have hr := B.returns
  have hlk := B.notSynchronized
  have hown : s.vm.findClass RL = some m.cls := findClass_of_methodNamed B.named
  have hA : ∀ q, s.heap.size ≤ q → hj_A ad o s.heap.size q := fun q h9 => Or.inl (Or.inr h9)
  have hDd : hg_Dd hg_FC ad (hj_A ad o s.heap.size) := ⟨hD0.1, fun i hi => Or.inl (Or.inl ⟨i, hi, rfl⟩)⟩
  have hnA : ¬ hg_A hg_FC ad s.heap.size o := by
    rintro (⟨k9, hk9, e9⟩ | h9)
    · exact hne k9 hk9 e9.symm
    · exact absurd (hj_olt hO) (by omega)
  have hS : va_S (hj_A ad o s.heap.size) s.heap s.heap [] := va_S.rf
  have hl := lv_entry ([.ref (ad 0), .ref o]) (n := 3) (Nat.le_of_ble_eq_true rfl)
  rw [lg_entry_eq]
  generalize (lg_sl ([.ref (ad 0), .ref o]) ++ List.replicate (3 - (lg_sl ([.ref (ad 0), .ref o])).length) Slot.unset).toArray = ls at hl ⊢
  have hl : lv_has ls 3 [(0, .ref (ad 0)), (1, .ref o)] := hl
  refine lv_aload_n hx hb dL_run_0 rfl (lv_at hl 1 rfl) ?_
  refine lv_iconst (v := 0) hx hb dL_run_1 (by decide) ?_
  refine lv_aload_n hx hb dL_run_2 rfl (lv_at hl 0 rfl) ?_
  refine hj_xi (As := []) (rest := [.int 0, .ref o]) ⟨hx, hb, hml, hown, hts⟩ (hj_K hK) hDd hA hE0 hE (tC_X5_run hE l 0 hX hlt  σ (fun _ σ9 => iA σ9) (fun Ec σ9 => (Ec = "java/lang/IllegalStateException") ∧ iA σ9) (pA_run h (fun r9 σ9 w9 => w9) ⟨rfl, h⟩)) sv_RL_37 dL_run_3 rfl rfl (Nat.le_of_ble_eq_true rfl) hl.1 ⟨rfl, rfl⟩ ⟨Nat.le_refl _, Nat.le_refl _⟩ hP hS (fun Ec ce q9 σ1 H1 locs1 hpx hP1 hk1 hS1 h7 h8 h9 => ?_) (fun r σ1 H1 locs1 hp hP1 hk1 hS1 => ?_)
  · have hO1 := hj_keepo hO hk1 hnA
    obtain ⟨rfl, hi⟩ := hpx
    refine vx_catch (own := RL) (name := "java/lang/IllegalStateException") hown [] ⟨0, 8, 11, 24⟩ [] (htab.trans rfl) (fun z9 hz9 => absurd hz9 List.not_mem_nil) (by decide) (by decide) (hts _ (hg_m3 97 (by decide +kernel) rfl)) (va_Nw.use rfl (hCa _ _ _ hE0).1.2.2) h7 h8 h9 ?_
    refine lv_astore_n (lv' := [(2, .ref q9), (0, .ref (ad 0)), (1, .ref o)]) hx hb dL_run_11 rfl hl (by decide) rfl (fun ls hl => ?_)
    refine lv_iconst (v := 1) hx hb dL_run_12 (by decide) ?_
    exact W.iret (v := 1) hx hb hr (fun U hU hW => ⟨⟨1, σ1, rfl, hi, by dsimp only; rw [hU]; exact ⟨hP1, f, hO1⟩⟩, hS1.F hU⟩) hS1.2.2 dL_run_13
  · have hO1 := hj_keepo hO hk1 hnA
    refine lv_i2l (v := r.toInt64) hx hb dL_run_6 rfl ?_
    refine hj_last hx hb hK hP1 hO1 hDd (Or.inr rfl) hne hS1 dL_run_7 (fun H2 locs2 f1 hP2 hO2 hS2 => ?_)
    refine lv_goto (tgt := 14) hx hb dL_run_8 (by decide) ?_
    refine lv_iconst (v := 0) hx hb dL_run_14 (by decide) ?_
    exact W.iret (v := 0) hx hb hr (fun U hU hW => ⟨⟨0, σ1, rfl, hp, by dsimp only; rw [hU]; exact ⟨hP2, f1, hO2⟩⟩, hS2.F hU⟩) hS2.2.2 dL_run_15
set_option maxRecDepth 10000 in
theorem tH_left {E : hg_Et} (hE : hg_Eok E) (hX : hg_Xa E) (hCa : hj_Ca E) (l : Launch) (hlt : l.stackTraces = false) (x1 : Int32) (σ : hg_M) (h : iA σ) : hj_H E l yL_left cL_left 4 [(0, 9, 12, 13)] 7 (fun a o => [.ref a, .int x1, .ref o]) σ (fun _ σ9 => iA σ9) := by
  intro D t tl ad o sz
  refine va_MetW (cc := cL_left) (maxL := 4) (ret := some .int) (hh := [(0, 9, 12, 13)]) (by decide) rfl ?_
  intro p e s m args below meth c s₁ B hml hv
  obtain ⟨rfl, hsz, hP, ⟨f, hO⟩, hK, hD0, hne, hE0⟩ := hv
  have hts0 := atoms_spec (ws := Cond.codeWith yL_left cL_left 4 (some .int) [(0, 9, 12, 13)] :: hg_tbl) B.pre
  have htab := vx_table (x := yL_left) B (hts0 _ List.mem_cons_self)
  have hts : ∀ w ∈ hg_tbl, w.before _ s = true := fun w h9 => hts0 w (List.mem_cons_of_mem _ h9)
  subst hsz
  have hx := B.exec
  have hb := B.bytes
  have hr := B.returns
  have hlk := B.notSynchronized
  have hown : s.vm.findClass RL = some m.cls := findClass_of_methodNamed B.named
  have hA : ∀ q, s.heap.size ≤ q → hj_A ad o s.heap.size q := fun q h9 => Or.inl (Or.inr h9)
  have hDd : hg_Dd hg_FC ad (hj_A ad o s.heap.size) := ⟨hD0.1, fun i hi => Or.inl (Or.inl ⟨i, hi, rfl⟩)⟩
  have hnA : ¬ hg_A hg_FC ad s.heap.size o := by
    rintro (⟨k9, hk9, e9⟩ | h9)
    · exact hne k9 hk9 e9.symm
    · exact absurd (hj_olt hO) (by omega)
  have hS : va_S (hj_A ad o s.heap.size) s.heap s.heap [] := va_S.rf
  have hl := lv_entry ([.ref (ad 0), .int x1, .ref o]) (n := 4) (Nat.le_of_ble_eq_true rfl)
  rw [lg_entry_eq]
  generalize (lg_sl ([.ref (ad 0), .int x1, .ref o]) ++ List.replicate (4 - (lg_sl ([.ref (ad 0), .int x1, .ref o])).length) Slot.unset).toArray = ls at hl ⊢
  have hl : lv_has ls 4 [(0, .ref (ad 0)), (1, .int x1), (2, .ref o)] := hl
  refine lv_aload_n hx hb dL_left_0 rfl (lv_at hl 2 rfl) ?_
  refine lv_iconst (v := 0) hx hb dL_left_1 (by decide) ?_
  refine lv_aload_n hx hb dL_left_2 rfl (lv_at hl 0 rfl) ?_
  refine lv_iload_n hx hb dL_left_3 rfl (lv_at hl 1 rfl) ?_
  refine hj_xi (As := [.int x1]) (rest := [.int 0, .ref o]) ⟨hx, hb, hml, hown, hts⟩ (hj_K hK) hDd hA hE0 hE (tC_X5_left hE l 0 hX hlt x1 σ (fun _ σ9 => iA σ9) (fun Ec σ9 => (Ec = "java/lang/IndexOutOfBoundsException") ∧ iA σ9) (pA_left (fun r9 => h) ⟨rfl, h⟩)) sv_RL_41 dL_left_4 rfl rfl (Nat.le_of_ble_eq_true rfl) hl.1 ⟨rfl, rfl⟩ ⟨Nat.le_refl _, Nat.le_refl _⟩ hP hS (fun Ec ce q9 σ1 H1 locs1 hpx hP1 hk1 hS1 h7 h8 h9 => ?_) (fun r σ1 H1 locs1 hp hP1 hk1 hS1 => ?_)
  · have hO1 := hj_keepo hO hk1 hnA
    obtain ⟨rfl, hi⟩ := hpx
    refine vx_catch (own := RL) (name := "java/lang/IndexOutOfBoundsException") hown [] ⟨0, 9, 12, 13⟩ [] (htab.trans rfl) (fun z9 hz9 => absurd hz9 List.not_mem_nil) (by decide) (by decide) (hts _ (hg_m3 13 (by decide +kernel) rfl)) (va_Nw.use rfl (hCa _ _ _ hE0).1.1) h7 h8 h9 ?_
    refine lv_astore_n (lv' := [(3, .ref q9), (0, .ref (ad 0)), (1, .int x1), (2, .ref o)]) hx hb dL_left_12 rfl hl (by decide) rfl (fun ls hl => ?_)
    refine lv_iconst (v := 1) hx hb dL_left_13 (by decide) ?_
    exact W.iret (v := 1) hx hb hr (fun U hU hW => ⟨⟨1, σ1, rfl, hi, by dsimp only; rw [hU]; exact ⟨hP1, f, hO1⟩⟩, hS1.F hU⟩) hS1.2.2 dL_left_14
  · have hO1 := hj_keepo hO hk1 hnA
    refine lv_i2l (v := r.toInt64) hx hb dL_left_7 rfl ?_
    refine hj_last hx hb hK hP1 hO1 hDd (Or.inr rfl) hne hS1 dL_left_8 (fun H2 locs2 f1 hP2 hO2 hS2 => ?_)
    refine lv_goto (tgt := 15) hx hb dL_left_9 (by decide) ?_
    refine lv_iconst (v := 0) hx hb dL_left_15 (by decide) ?_
    exact W.iret (v := 0) hx hb hr (fun U hU hW => ⟨⟨0, σ1, rfl, hp, by dsimp only; rw [hU]; exact ⟨hP2, f1, hO2⟩⟩, hS2.F hU⟩) hS2.2.2 dL_left_16
set_option maxRecDepth 10000 in
theorem tH_kept {E : hg_Et} (hE : hg_Eok E) (hX : hg_Xa E) (hCa : hj_Ca E) (l : Launch) (hlt : l.stackTraces = false) (x1 : Int32) (σ : hg_M) (h : iA σ) : hj_H E l yL_kept cL_kept 4 [(0, 9, 12, 13)] 7 (fun a o => [.ref a, .int x1, .ref o]) σ (fun _ σ9 => iA σ9) := by
  intro D t tl ad o sz
  refine va_MetW (cc := cL_kept) (maxL := 4) (ret := some .int) (hh := [(0, 9, 12, 13)]) (by decide) rfl ?_
  intro p e s m args below meth c s₁ B hml hv
  obtain ⟨rfl, hsz, hP, ⟨f, hO⟩, hK, hD0, hne, hE0⟩ := hv
  have hts0 := atoms_spec (ws := Cond.codeWith yL_kept cL_kept 4 (some .int) [(0, 9, 12, 13)] :: hg_tbl) B.pre
  have htab := vx_table (x := yL_kept) B (hts0 _ List.mem_cons_self)
  have hts : ∀ w ∈ hg_tbl, w.before _ s = true := fun w h9 => hts0 w (List.mem_cons_of_mem _ h9)
  subst hsz
  have hx := B.exec
  have hb := B.bytes
  have hr := B.returns
  have hlk := B.notSynchronized
  have hown : s.vm.findClass RL = some m.cls := findClass_of_methodNamed B.named
  have hA : ∀ q, s.heap.size ≤ q → hj_A ad o s.heap.size q := fun q h9 => Or.inl (Or.inr h9)
  have hDd : hg_Dd hg_FC ad (hj_A ad o s.heap.size) := ⟨hD0.1, fun i hi => Or.inl (Or.inl ⟨i, hi, rfl⟩)⟩
  have hnA : ¬ hg_A hg_FC ad s.heap.size o := by
    rintro (⟨k9, hk9, e9⟩ | h9)
    · exact hne k9 hk9 e9.symm
    · exact absurd (hj_olt hO) (by omega)
  have hS : va_S (hj_A ad o s.heap.size) s.heap s.heap [] := va_S.rf
  have hl := lv_entry ([.ref (ad 0), .int x1, .ref o]) (n := 4) (Nat.le_of_ble_eq_true rfl)
  rw [lg_entry_eq]
  generalize (lg_sl ([.ref (ad 0), .int x1, .ref o]) ++ List.replicate (4 - (lg_sl ([.ref (ad 0), .int x1, .ref o])).length) Slot.unset).toArray = ls at hl ⊢
  have hl : lv_has ls 4 [(0, .ref (ad 0)), (1, .int x1), (2, .ref o)] := hl
  refine lv_aload_n hx hb dL_kept_0 rfl (lv_at hl 2 rfl) ?_
  refine lv_iconst (v := 0) hx hb dL_kept_1 (by decide) ?_
  refine lv_aload_n hx hb dL_kept_2 rfl (lv_at hl 0 rfl) ?_
  refine lv_iload_n hx hb dL_kept_3 rfl (lv_at hl 1 rfl) ?_
  refine hj_xi (As := [.int x1]) (rest := [.int 0, .ref o]) ⟨hx, hb, hml, hown, hts⟩ (hj_K hK) hDd hA hE0 hE (tC_X5_kept hE l 0 hX hlt x1 σ (fun _ σ9 => iA σ9) (fun Ec σ9 => (Ec = "java/lang/IndexOutOfBoundsException") ∧ iA σ9) (pA_kept (fun r9 => h) ⟨rfl, h⟩)) sv_RL_44 dL_kept_4 rfl rfl (Nat.le_of_ble_eq_true rfl) hl.1 ⟨rfl, rfl⟩ ⟨Nat.le_refl _, Nat.le_refl _⟩ hP hS (fun Ec ce q9 σ1 H1 locs1 hpx hP1 hk1 hS1 h7 h8 h9 => ?_) (fun r σ1 H1 locs1 hp hP1 hk1 hS1 => ?_)
  · have hO1 := hj_keepo hO hk1 hnA
    obtain ⟨rfl, hi⟩ := hpx
    refine vx_catch (own := RL) (name := "java/lang/IndexOutOfBoundsException") hown [] ⟨0, 9, 12, 13⟩ [] (htab.trans rfl) (fun z9 hz9 => absurd hz9 List.not_mem_nil) (by decide) (by decide) (hts _ (hg_m3 13 (by decide +kernel) rfl)) (va_Nw.use rfl (hCa _ _ _ hE0).1.1) h7 h8 h9 ?_
    refine lv_astore_n (lv' := [(3, .ref q9), (0, .ref (ad 0)), (1, .int x1), (2, .ref o)]) hx hb dL_kept_12 rfl hl (by decide) rfl (fun ls hl => ?_)
    refine lv_iconst (v := 1) hx hb dL_kept_13 (by decide) ?_
    exact W.iret (v := 1) hx hb hr (fun U hU hW => ⟨⟨1, σ1, rfl, hi, by dsimp only; rw [hU]; exact ⟨hP1, f, hO1⟩⟩, hS1.F hU⟩) hS1.2.2 dL_kept_14
  · have hO1 := hj_keepo hO hk1 hnA
    refine lv_i2l (v := r.toInt64) hx hb dL_kept_7 rfl ?_
    refine hj_last hx hb hK hP1 hO1 hDd (Or.inr rfl) hne hS1 dL_kept_8 (fun H2 locs2 f1 hP2 hO2 hS2 => ?_)
    refine lv_goto (tgt := 15) hx hb dL_kept_9 (by decide) ?_
    refine lv_iconst (v := 0) hx hb dL_kept_15 (by decide) ?_
    exact W.iret (v := 0) hx hb hr (fun U hU hW => ⟨⟨0, σ1, rfl, hp, by dsimp only; rw [hU]; exact ⟨hP2, f1, hO2⟩⟩, hS2.F hU⟩) hS2.2.2 dL_kept_16
set_option maxRecDepth 10000 in
theorem tH_output {E : hg_Et} (hE : hg_Eok E) (hX : hg_Xa E) (hCa : hj_Ca E) (l : Launch) (hlt : l.stackTraces = false) (x1 : Int32) (σ : hg_M) (h : iA σ) : hj_H E l yL_output cL_output 4 [(0, 9, 12, 13)] 7 (fun a o => [.ref a, .int x1, .ref o]) σ (fun _ σ9 => iA σ9) := by
  intro D t tl ad o sz
  refine va_MetW (cc := cL_output) (maxL := 4) (ret := some .int) (hh := [(0, 9, 12, 13)]) (by decide) rfl ?_
  intro p e s m args below meth c s₁ B hml hv
  obtain ⟨rfl, hsz, hP, ⟨f, hO⟩, hK, hD0, hne, hE0⟩ := hv
  have hts0 := atoms_spec (ws := Cond.codeWith yL_output cL_output 4 (some .int) [(0, 9, 12, 13)] :: hg_tbl) B.pre
  have htab := vx_table (x := yL_output) B (hts0 _ List.mem_cons_self)
  have hts : ∀ w ∈ hg_tbl, w.before _ s = true := fun w h9 => hts0 w (List.mem_cons_of_mem _ h9)
  subst hsz
  have hx := B.exec
  have hb := B.bytes
  have hr := B.returns
  have hlk := B.notSynchronized
  have hown : s.vm.findClass RL = some m.cls := findClass_of_methodNamed B.named
  have hA : ∀ q, s.heap.size ≤ q → hj_A ad o s.heap.size q := fun q h9 => Or.inl (Or.inr h9)
  have hDd : hg_Dd hg_FC ad (hj_A ad o s.heap.size) := ⟨hD0.1, fun i hi => Or.inl (Or.inl ⟨i, hi, rfl⟩)⟩
  have hnA : ¬ hg_A hg_FC ad s.heap.size o := by
    rintro (⟨k9, hk9, e9⟩ | h9)
    · exact hne k9 hk9 e9.symm
    · exact absurd (hj_olt hO) (by omega)
  have hS : va_S (hj_A ad o s.heap.size) s.heap s.heap [] := va_S.rf
  have hl := lv_entry ([.ref (ad 0), .int x1, .ref o]) (n := 4) (Nat.le_of_ble_eq_true rfl)
  rw [lg_entry_eq]
  generalize (lg_sl ([.ref (ad 0), .int x1, .ref o]) ++ List.replicate (4 - (lg_sl ([.ref (ad 0), .int x1, .ref o])).length) Slot.unset).toArray = ls at hl ⊢
  have hl : lv_has ls 4 [(0, .ref (ad 0)), (1, .int x1), (2, .ref o)] := hl
  refine lv_aload_n hx hb dL_output_0 rfl (lv_at hl 2 rfl) ?_
  refine lv_iconst (v := 0) hx hb dL_output_1 (by decide) ?_
  refine lv_aload_n hx hb dL_output_2 rfl (lv_at hl 0 rfl) ?_
  refine lv_iload_n hx hb dL_output_3 rfl (lv_at hl 1 rfl) ?_
  refine hj_xi (As := [.int x1]) (rest := [.int 0, .ref o]) ⟨hx, hb, hml, hown, hts⟩ (hj_K hK) hDd hA hE0 hE (tC_X5_output hE l 0 hX hlt x1 σ (fun _ σ9 => iA σ9) (fun Ec σ9 => (Ec = "java/lang/IndexOutOfBoundsException") ∧ iA σ9) (pA_output h (fun r9 => h) ⟨rfl, h⟩)) sv_RL_47 dL_output_4 rfl rfl (Nat.le_of_ble_eq_true rfl) hl.1 ⟨rfl, rfl⟩ ⟨Nat.le_refl _, Nat.le_refl _⟩ hP hS (fun Ec ce q9 σ1 H1 locs1 hpx hP1 hk1 hS1 h7 h8 h9 => ?_) (fun r σ1 H1 locs1 hp hP1 hk1 hS1 => ?_)
  · have hO1 := hj_keepo hO hk1 hnA
    obtain ⟨rfl, hi⟩ := hpx
    refine vx_catch (own := RL) (name := "java/lang/IndexOutOfBoundsException") hown [] ⟨0, 9, 12, 13⟩ [] (htab.trans rfl) (fun z9 hz9 => absurd hz9 List.not_mem_nil) (by decide) (by decide) (hts _ (hg_m3 13 (by decide +kernel) rfl)) (va_Nw.use rfl (hCa _ _ _ hE0).1.1) h7 h8 h9 ?_
    refine lv_astore_n (lv' := [(3, .ref q9), (0, .ref (ad 0)), (1, .int x1), (2, .ref o)]) hx hb dL_output_12 rfl hl (by decide) rfl (fun ls hl => ?_)
    refine lv_iconst (v := 1) hx hb dL_output_13 (by decide) ?_
    exact W.iret (v := 1) hx hb hr (fun U hU hW => ⟨⟨1, σ1, rfl, hi, by dsimp only; rw [hU]; exact ⟨hP1, f, hO1⟩⟩, hS1.F hU⟩) hS1.2.2 dL_output_14
  · have hO1 := hj_keepo hO hk1 hnA
    refine lv_i2l (v := r.toInt64) hx hb dL_output_7 rfl ?_
    refine hj_last hx hb hK hP1 hO1 hDd (Or.inr rfl) hne hS1 dL_output_8 (fun H2 locs2 f1 hP2 hO2 hS2 => ?_)
    refine lv_goto (tgt := 15) hx hb dL_output_9 (by decide) ?_
    refine lv_iconst (v := 0) hx hb dL_output_15 (by decide) ?_
    exact W.iret (v := 0) hx hb hr (fun U hU hW => ⟨⟨0, σ1, rfl, hp, by dsimp only; rw [hU]; exact ⟨hP2, f1, hO2⟩⟩, hS2.F hU⟩) hS2.2.2 dL_output_16
set_option maxRecDepth 10000 in
theorem tH_count {E : hg_Et} (hE : hg_Eok E) (hX : hg_Xa E) (hCa : hj_Ca E) (l : Launch) (hlt : l.stackTraces = false) (x1 : Int32) (σ : hg_M) (h : iA σ) : hj_H E l yL_count cL_count 4 [(0, 9, 12, 22)] 7 (fun a o => [.ref a, .int x1, .ref o]) σ (fun _ σ9 => iA σ9) := by
  intro D t tl ad o sz
  refine va_MetW (cc := cL_count) (maxL := 4) (ret := some .int) (hh := [(0, 9, 12, 22)]) (by decide) rfl ?_
  intro p e s m args below meth c s₁ B hml hv
  obtain ⟨rfl, hsz, hP, ⟨f, hO⟩, hK, hD0, hne, hE0⟩ := hv
  have hts0 := atoms_spec (ws := Cond.codeWith yL_count cL_count 4 (some .int) [(0, 9, 12, 22)] :: hg_tbl) B.pre
  have htab := vx_table (x := yL_count) B (hts0 _ List.mem_cons_self)
  have hts : ∀ w ∈ hg_tbl, w.before _ s = true := fun w h9 => hts0 w (List.mem_cons_of_mem _ h9)
  subst hsz
  have hx := B.exec
  have hb := B.bytes
  have hr := B.returns
  have hlk := B.notSynchronized
  have hown : s.vm.findClass RL = some m.cls := findClass_of_methodNamed B.named
  have hA : ∀ q, s.heap.size ≤ q → hj_A ad o s.heap.size q := fun q h9 => Or.inl (Or.inr h9)
  have hDd : hg_Dd hg_FC ad (hj_A ad o s.heap.size) := ⟨hD0.1, fun i hi => Or.inl (Or.inl ⟨i, hi, rfl⟩)⟩
  have hnA : ¬ hg_A hg_FC ad s.heap.size o := by
    rintro (⟨k9, hk9, e9⟩ | h9)
    · exact hne k9 hk9 e9.symm
    · exact absurd (hj_olt hO) (by omega)
  have hS : va_S (hj_A ad o s.heap.size) s.heap s.heap [] := va_S.rf
  have hl := lv_entry ([.ref (ad 0), .int x1, .ref o]) (n := 4) (Nat.le_of_ble_eq_true rfl)
  rw [lg_entry_eq]
  generalize (lg_sl ([.ref (ad 0), .int x1, .ref o]) ++ List.replicate (4 - (lg_sl ([.ref (ad 0), .int x1, .ref o])).length) Slot.unset).toArray = ls at hl ⊢
  have hl : lv_has ls 4 [(0, .ref (ad 0)), (1, .int x1), (2, .ref o)] := hl
  refine lv_aload_n hx hb dL_count_0 rfl (lv_at hl 2 rfl) ?_
  refine lv_iconst (v := 0) hx hb dL_count_1 (by decide) ?_
  refine lv_aload_n hx hb dL_count_2 rfl (lv_at hl 0 rfl) ?_
  refine lv_iload_n hx hb dL_count_3 rfl (lv_at hl 1 rfl) ?_
  refine hj_xi (As := [.int x1]) (rest := [.int 0, .ref o]) ⟨hx, hb, hml, hown, hts⟩ (hj_K hK) hDd hA hE0 hE (tC_X5_count hE l 0 hX hlt x1 σ (fun _ σ9 => iA σ9) (fun Ec σ9 => (Ec = "java/lang/IllegalArgumentException") ∧ iA σ9) (pA_count h (fun r9 => h) ⟨rfl, h⟩)) sv_RL_50 dL_count_4 rfl rfl (Nat.le_of_ble_eq_true rfl) hl.1 ⟨rfl, rfl⟩ ⟨Nat.le_refl _, Nat.le_refl _⟩ hP hS (fun Ec ce q9 σ1 H1 locs1 hpx hP1 hk1 hS1 h7 h8 h9 => ?_) (fun r σ1 H1 locs1 hp hP1 hk1 hS1 => ?_)
  · have hO1 := hj_keepo hO hk1 hnA
    obtain ⟨rfl, hi⟩ := hpx
    refine vx_catch (own := RL) (name := "java/lang/IllegalArgumentException") hown [] ⟨0, 9, 12, 22⟩ [] (htab.trans rfl) (fun z9 hz9 => absurd hz9 List.not_mem_nil) (by decide) (by decide) (hts _ (hg_m3 96 (by decide +kernel) rfl)) (va_Nw.use rfl (hCa _ _ _ hE0).1.2.1) h7 h8 h9 ?_
    refine lv_astore_n (lv' := [(3, .ref q9), (0, .ref (ad 0)), (1, .int x1), (2, .ref o)]) hx hb dL_count_12 rfl hl (by decide) rfl (fun ls hl => ?_)
    refine lv_iconst (v := 1) hx hb dL_count_13 (by decide) ?_
    exact W.iret (v := 1) hx hb hr (fun U hU hW => ⟨⟨1, σ1, rfl, hi, by dsimp only; rw [hU]; exact ⟨hP1, f, hO1⟩⟩, hS1.F hU⟩) hS1.2.2 dL_count_14
  · have hO1 := hj_keepo hO hk1 hnA
    refine lv_i2l (v := r.toInt64) hx hb dL_count_7 rfl ?_
    refine hj_last hx hb hK hP1 hO1 hDd (Or.inr rfl) hne hS1 dL_count_8 (fun H2 locs2 f1 hP2 hO2 hS2 => ?_)
    refine lv_goto (tgt := 15) hx hb dL_count_9 (by decide) ?_
    refine lv_iconst (v := 0) hx hb dL_count_15 (by decide) ?_
    exact W.iret (v := 0) hx hb hr (fun U hU hW => ⟨⟨0, σ1, rfl, hp, by dsimp only; rw [hU]; exact ⟨hP2, f1, hO2⟩⟩, hS2.F hU⟩) hS2.2.2 dL_count_16
