/-! the methods that throw (written by mkC.py) -/
def hg_xsites : List (Nat × String) := [(57, "java/lang/IndexOutOfBoundsException"), (66, "java/lang/IllegalArgumentException"), (75, "java/lang/IllegalStateException")]
def hg_xstrs : List (Nat × String) := [(55, "no such variable"), (60, "no such word"), (64, "1 to 8 bytes can be fed"), (73, "the tape would be too long"), (97, "no such statement"), (115, "nothing such is told of a statement"), (117, "no such limit"), (130, "no such step"), (132, "nothing such is told of a step"), (149, "there is no code"), (164, "no such number of the output"), (184, "nothing such is counted")]
def hg_Xa (E : hg_Et) : Prop := hg_Ex E ∧ (∀ p ∈ hg_xsites, ∀ A U H, E A U H → ∀ w ∈ hg_xb RX5 p.1 p.2, va_Nw w U) ∧ ∀ p ∈ hg_xstrs, ∃ sa, ∀ A U H, E A U H → vk_R RX5 p.1 p.2 sa U
theorem hl_s255 : (Int16.ofInt (255)).toInt32 = (255 : Int32) := by decide
theorem hl_s400 : (Int16.ofInt (400)).toInt32 = (400 : Int32) := by decide
theorem fl_RX5_67 : hg_Fl RX5 67 4 1 9 := ⟨RX4, RX4, TX4, inT_4, (hg_m1 98 (by decide +kernel) rfl), rfl, rfl, by decide⟩
theorem sv_RX5_76 : hg_Sv RX5 76 RX4 yX4_append cX4_append 2 none 1 := ⟨(hg_m3 137 (by decide +kernel) rfl), (hg_m3 134 (by decide +kernel) rfl), (hg_m3 135 (by decide +kernel) rfl), (hg_m3 136 (by decide +kernel) rfl), (hg_m1 2 (by decide +kernel) rfl), by decide +kernel, by decide⟩
theorem fl_RX5_91 : hg_Fl RX5 91 3 8 9 := ⟨RX3, RX3, TX3, inT_3, (hg_m1 74 (by decide +kernel) rfl), rfl, rfl, by decide⟩
theorem fl_RX5_99 : hg_Fl RX5 99 3 0 9 := ⟨RX3, RX3, TX3, inT_3, (hg_m1 44 (by decide +kernel) rfl), rfl, rfl, by decide⟩
theorem fl_RX5_102 : hg_Fl RX5 102 3 1 9 := ⟨RX3, RX3, TX3, inT_3, (hg_m1 47 (by decide +kernel) rfl), rfl, rfl, by decide⟩
theorem fl_RX5_33 : hg_Fl RX5 33 5 4 8 := ⟨RX5, RX5, TX5, inT_5, (hg_m1 233 (by decide +kernel) rfl), rfl, rfl, by decide⟩
theorem fl_RX5_105 : hg_Fl RX5 105 2 1 6 := ⟨RX2, RX2, TX2, inT_2, (hg_m1 176 (by decide +kernel) rfl), rfl, rfl, by decide⟩
theorem sv_RX5_109 : hg_Sv RX5 109 RX0 yX0_stepsOf cX0_stepsOf 4 (some .int) 1 := ⟨(hg_m3 149 (by decide +kernel) rfl), (hg_m3 146 (by decide +kernel) rfl), (hg_m3 147 (by decide +kernel) rfl), (hg_m3 148 (by decide +kernel) rfl), (hg_m1 5 (by decide +kernel) rfl), by decide +kernel, by decide⟩
theorem sv_RX5_119 : hg_Sv RX5 119 RX2 yX2_makeCode cX2_makeCode 4 none 2 := ⟨(hg_m3 162 (by decide +kernel) rfl), (hg_m3 159 (by decide +kernel) rfl), (hg_m3 160 (by decide +kernel) rfl), (hg_m3 161 (by decide +kernel) rfl), (hg_m1 4 (by decide +kernel) rfl), by decide +kernel, by decide⟩
theorem fp_RX5_42 : hg_Fp RX5 42 5 6 8 .boolean := ⟨RX5, RX5, TX5, tyX5, inT_5, (hg_m1 235 (by decide +kernel) rfl), rfl, rfl, by decide, tyX5_ok, nmX5, rfl, by decide +kernel⟩
theorem fl_RX5_123 : hg_Fl RX5 123 0 1 7 := ⟨RX0, RX0, TX0, inT_0, (hg_m1 149 (by decide +kernel) rfl), rfl, rfl, by decide⟩
theorem fl_RX5_134 : hg_Fl RX5 134 0 0 7 := ⟨RX0, RX0, TX0, inT_0, (hg_m1 145 (by decide +kernel) rfl), rfl, rfl, by decide⟩
theorem sv_RX5_151 : hg_Sv RX5 151 RX1 yX1_doCode cX1_doCode 4 none 1 := ⟨(hg_m4 23 (by decide +kernel) rfl), (hg_m4 20 (by decide +kernel) rfl), (hg_m4 21 (by decide +kernel) rfl), (hg_m4 22 (by decide +kernel) rfl), (hg_m1 6 (by decide +kernel) rfl), by decide +kernel, by decide⟩
theorem fl_RX5_155 : hg_Fl RX5 155 1 0 7 := ⟨RX1, RX1, TX1, inT_1, (hg_m1 201 (by decide +kernel) rfl), rfl, rfl, by decide⟩
theorem fl_RX5_158 : hg_Fl RX5 158 1 1 7 := ⟨RX1, RX1, TX1, inT_1, (hg_m1 203 (by decide +kernel) rfl), rfl, rfl, by decide⟩
theorem fl_RX5_161 : hg_Fl RX5 161 1 3 7 := ⟨RX1, RX1, TX1, inT_1, (hg_m1 207 (by decide +kernel) rfl), rfl, rfl, by decide⟩
theorem fl_RX5_166 : hg_Fl RX5 166 1 2 7 := ⟨RX1, RX1, TX1, inT_1, (hg_m1 205 (by decide +kernel) rfl), rfl, rfl, by decide⟩
theorem fl_RX5_169 : hg_Fl RX5 169 0 2 7 := ⟨RX0, RX0, TX0, inT_0, (hg_m1 151 (by decide +kernel) rfl), rfl, rfl, by decide⟩
theorem sv_RX5_172 : hg_Sv RX5 172 RX0 yX0_jumps cX0_jumps 3 (some .int) 0 := ⟨(hg_m4 64 (by decide +kernel) rfl), (hg_m4 61 (by decide +kernel) rfl), (hg_m4 62 (by decide +kernel) rfl), (hg_m4 63 (by decide +kernel) rfl), (hg_m1 5 (by decide +kernel) rfl), by decide +kernel, by decide⟩
theorem sv_RX5_175 : hg_Sv RX5 175 RX2 yX2_convertedBranches cX2_convertedBranches 3 (some .int) 0 := ⟨(hg_m4 68 (by decide +kernel) rfl), (hg_m4 65 (by decide +kernel) rfl), (hg_m4 66 (by decide +kernel) rfl), (hg_m4 67 (by decide +kernel) rfl), (hg_m1 4 (by decide +kernel) rfl), by decide +kernel, by decide⟩
theorem fl_RX5_178 : hg_Fl RX5 178 1 5 7 := ⟨RX1, RX1, TX1, inT_1, (hg_m1 211 (by decide +kernel) rfl), rfl, rfl, by decide⟩
theorem fl_RX5_181 : hg_Fl RX5 181 1 6 7 := ⟨RX1, RX1, TX1, inT_1, (hg_m1 213 (by decide +kernel) rfl), rfl, rfl, by decide⟩
theorem sy_66 : ∀ w ∈ (vx_atS RX5 66 "java/lang/IllegalArgumentException" hg_xn).filter goodWord, w ∈ lw_tbl := by decide +kernel
theorem sy_75 : ∀ w ∈ (vx_atS RX5 75 "java/lang/IllegalStateException" hg_xn).filter goodWord, w ∈ lw_tbl := by decide +kernel
theorem sy_57 : ∀ w ∈ (vx_atS RX5 57 "java/lang/IndexOutOfBoundsException" hg_xn).filter goodWord, w ∈ lw_tbl := by decide +kernel
theorem sx_53_57 : hg_Sx RX5 53 57 "java/lang/IndexOutOfBoundsException" := ⟨by decide +kernel, by decide +kernel, (hg_m3 18 (by decide +kernel) rfl), (hg_m1 11 (by decide +kernel) rfl), fun w hw => List.mem_filter.mpr ⟨sy_57 w hw, (List.mem_filter.mp hw).2⟩, by decide +kernel, by decide +kernel⟩
theorem sx_71_75 : hg_Sx RX5 71 75 "java/lang/IllegalStateException" := ⟨by decide +kernel, by decide +kernel, (hg_m3 118 (by decide +kernel) rfl), (hg_m1 13 (by decide +kernel) rfl), fun w hw => List.mem_filter.mpr ⟨sy_75 w hw, (List.mem_filter.mp hw).2⟩, by decide +kernel, by decide +kernel⟩
theorem sx_62_66 : hg_Sx RX5 62 66 "java/lang/IllegalArgumentException" := ⟨by decide +kernel, by decide +kernel, (hg_m3 102 (by decide +kernel) rfl), (hg_m1 12 (by decide +kernel) rfl), fun w hw => List.mem_filter.mpr ⟨sy_66 w hw, (List.mem_filter.mp hw).2⟩, by decide +kernel, by decide +kernel⟩
def bC_X5_variable_10 (P : hg_M → Prop) (PX : String → hg_M → Prop)   (σ : hg_M) : Prop := PX "java/lang/IndexOutOfBoundsException" σ
def wC_X5_variable (x1 : Int32) (x2 : Int32) (σ : hg_M) (P : hg_M → Prop) (PX : String → hg_M → Prop) : Prop := ((x1 < 0 → bC_X5_variable_10 P PX σ) ∧ (¬ x1 < 0 → ((x1 < (16 : Int32) → vp_in x1 16 ∧ (∀ σ1 : hg_M, σ1 = hg_set σ 1 (x1).toNatClampNeg x2 → P σ1)) ∧ (¬ (x1 < (16 : Int32)) → bC_X5_variable_10 P PX σ))))
set_option maxRecDepth 4000 in
theorem tbC_X5_variable_10 {d : Nat} {E : hg_Et} {X : hg_X} {P : hg_M → Prop} {PX : String → hg_M → Prop}  (hX : hg_Xa E) (hRt : hg_Rt hg_FC hg_rC PX X) (hC : hg_C hg_FC 3 (d + 6) E cX5_variable RX5 X) (hR : hg_Rxv hg_FC hg_rC P PX X)   (σ : hg_M) (hw : bC_X5_variable_10 P PX  σ) : hg_G hg_FC 3 X 10 [] [] σ hg_rC := by
  unfold bC_X5_variable_10 at hw
  obtain ⟨sa9, hsa9⟩ := hX.2.2 (55, "no such variable") (by decide)
  exact hg_throw hC hX.1 hRt sx_53_57 (hX.2.1 (57, "java/lang/IndexOutOfBoundsException") (by decide)) hsa9 dX5_variable_10 dX5_variable_13 dX5_variable_14 dX5_variable_16 dX5_variable_19 (Nat.le_of_ble_eq_true rfl) hw
set_option maxRecDepth 4000 in
theorem tC_X5_variable {E : hg_Et} (hE : hg_Eok E) (l : Launch) (d : Nat) (hX : hg_Xa E) (hlt : l.stackTraces = false) (x1 : Int32) (x2 : Int32) (σ : hg_M) (P : hg_M → Prop) (PX : String → hg_M → Prop) (hw : wC_X5_variable x1 x2 σ P PX) : hg_Txv hg_FC E l yX5_variable cX5_variable 3 (d + 6) (fun ad => [.ref (ad 0), .int x1, .int x2]) hg_rC σ P PX := by
  refine hg_txv hE hlt (by decide) (fun _ => Nat.le_of_ble_eq_true rfl) (fun X hC hR hRt hl => ?_)
  subst hl
  have hC : hg_C hg_FC 3 (d + 6) E cX5_variable RX5 X := hC
  show hg_G hg_FC 3 X 0 [(0, .ref (hg_ad X 0)), (1, .int x1), (2, .int x2)] [] σ hg_rC
  unfold wC_X5_variable at hw
  refine hg_iload_n hC dX5_variable_0 rfl 1 rfl (n := 1) rfl ?_
  refine hg_if_lt hC dX5_variable_1 (tg := 10) rfl (n := 4) rfl (fun h9 => ?_) (fun h9 => ?_)
  · have hw := hw.1 h9
    exact hg_sub [] rfl (tbC_X5_variable_10 hX hRt hC hR  σ hw)
  · have hw := hw.2 h9
    refine hg_iload_n hC dX5_variable_4 rfl 1 rfl (n := 5) rfl ?_
    refine hg_bipush hC dX5_variable_5 hl_b16 (n := 7) rfl ?_
    refine hg_icmp_lt hC dX5_variable_7 (tg := 20) rfl (n := 10) rfl (fun h9 => ?_) (fun h9 => ?_)
    · have hw := hw.1 h9
      refine hg_aload_n hC dX5_variable_20 rfl 0 rfl (n := 21) rfl ?_
      refine hg_getr hC fl_RX5_9 dX5_variable_21 qC_0 kC_0 fC_5_0 rC_0_0 (n := 24) rfl ?_
      refine hg_iload_n hC dX5_variable_24 rfl 1 rfl (n := 25) rfl ?_
      refine hg_iload_n hC dX5_variable_25 rfl 2 rfl (n := 26) rfl ?_
      obtain ⟨h9, hw⟩ := hw
      refine hg_iast hC dX5_variable_26 qC_1 kC_1 h9 (n := 27) rfl (fun σ1 eσ1 => ?_)
      have hw := hw σ1 eσ1
      exact hg_xretv hC hR dX5_variable_27 hw
    · have hw := hw.2 h9
      exact hg_sub [] rfl (tbC_X5_variable_10 hX hRt hC hR  σ hw)
def bC_X5_word_10 (P : hg_M → Prop) (PX : String → hg_M → Prop)   (σ : hg_M) : Prop := PX "java/lang/IndexOutOfBoundsException" σ
def wC_X5_word (x1 : Int32) (x2 : Int32) (σ : hg_M) (P : hg_M → Prop) (PX : String → hg_M → Prop) : Prop := ((x1 < 0 → bC_X5_word_10 P PX σ) ∧ (¬ x1 < 0 → ((x1 < (32 : Int32) → vp_in x1 32 ∧ (∀ σ1 : hg_M, σ1 = hg_set σ 2 (x1).toNatClampNeg x2 → P σ1)) ∧ (¬ (x1 < (32 : Int32)) → bC_X5_word_10 P PX σ))))
set_option maxRecDepth 4000 in
theorem tbC_X5_word_10 {d : Nat} {E : hg_Et} {X : hg_X} {P : hg_M → Prop} {PX : String → hg_M → Prop}  (hX : hg_Xa E) (hRt : hg_Rt hg_FC hg_rC PX X) (hC : hg_C hg_FC 3 (d + 6) E cX5_word RX5 X) (hR : hg_Rxv hg_FC hg_rC P PX X)   (σ : hg_M) (hw : bC_X5_word_10 P PX  σ) : hg_G hg_FC 3 X 10 [] [] σ hg_rC := by
  unfold bC_X5_word_10 at hw
  obtain ⟨sa9, hsa9⟩ := hX.2.2 (60, "no such word") (by decide)
  exact hg_throw hC hX.1 hRt sx_53_57 (hX.2.1 (57, "java/lang/IndexOutOfBoundsException") (by decide)) hsa9 dX5_word_10 dX5_word_13 dX5_word_14 dX5_word_16 dX5_word_19 (Nat.le_of_ble_eq_true rfl) hw
set_option maxRecDepth 4000 in
theorem tC_X5_word {E : hg_Et} (hE : hg_Eok E) (l : Launch) (d : Nat) (hX : hg_Xa E) (hlt : l.stackTraces = false) (x1 : Int32) (x2 : Int32) (σ : hg_M) (P : hg_M → Prop) (PX : String → hg_M → Prop) (hw : wC_X5_word x1 x2 σ P PX) : hg_Txv hg_FC E l yX5_word cX5_word 3 (d + 6) (fun ad => [.ref (ad 0), .int x1, .int x2]) hg_rC σ P PX := by
  refine hg_txv hE hlt (by decide) (fun _ => Nat.le_of_ble_eq_true rfl) (fun X hC hR hRt hl => ?_)
  subst hl
  have hC : hg_C hg_FC 3 (d + 6) E cX5_word RX5 X := hC
  show hg_G hg_FC 3 X 0 [(0, .ref (hg_ad X 0)), (1, .int x1), (2, .int x2)] [] σ hg_rC
  unfold wC_X5_word at hw
  refine hg_iload_n hC dX5_word_0 rfl 1 rfl (n := 1) rfl ?_
  refine hg_if_lt hC dX5_word_1 (tg := 10) rfl (n := 4) rfl (fun h9 => ?_) (fun h9 => ?_)
  · have hw := hw.1 h9
    exact hg_sub [] rfl (tbC_X5_word_10 hX hRt hC hR  σ hw)
  · have hw := hw.2 h9
    refine hg_iload_n hC dX5_word_4 rfl 1 rfl (n := 5) rfl ?_
    refine hg_bipush hC dX5_word_5 hl_b32 (n := 7) rfl ?_
    refine hg_icmp_lt hC dX5_word_7 (tg := 20) rfl (n := 10) rfl (fun h9 => ?_) (fun h9 => ?_)
    · have hw := hw.1 h9
      refine hg_aload_n hC dX5_word_20 rfl 0 rfl (n := 21) rfl ?_
      refine hg_getr hC fl_RX5_13 dX5_word_21 qC_0 kC_0 fC_5_1 rC_0_1 (n := 24) rfl ?_
      refine hg_iload_n hC dX5_word_24 rfl 1 rfl (n := 25) rfl ?_
      refine hg_iload_n hC dX5_word_25 rfl 2 rfl (n := 26) rfl ?_
      obtain ⟨h9, hw⟩ := hw
      refine hg_iast hC dX5_word_26 qC_2 kC_2 h9 (n := 27) rfl (fun σ1 eσ1 => ?_)
      have hw := hw σ1 eσ1
      exact hg_xretv hC hR dX5_word_27 hw
    · have hw := hw.2 h9
      exact hg_sub [] rfl (tbC_X5_word_10 hX hRt hC hR  σ hw)
def lC_X5_feed_51 (P : Int32 → hg_M → Prop) (PX : String → hg_M → Prop)  : Nat → Int64 → Int32 → hg_M → Prop
  | 0, _, _, _ => False
  | n + 1, x1, x4, σ => ((x4 < 0 → P (σ 3 1) σ) ∧ (¬ x4 < 0 → wC_X4_append ((((x1).toUInt64 >>> ((((8 : Int32) * x4)).toInt64.toUInt64 &&& Int64.toUInt64 63)).toInt64).toInt32 &&& (255 : Int32)) σ (fun σ2 => ∀ v3 : Int32, v3 = x4 + (-1 : Int32) → lC_X5_feed_51 P PX n x1 v3 σ2)))
def bC_X5_feed_11 (P : Int32 → hg_M → Prop) (PX : String → hg_M → Prop)   (σ : hg_M) : Prop := PX "java/lang/IllegalArgumentException" σ
def wC_X5_feed (x1 : Int64) (x3 : Int32) (σ : hg_M) (P : Int32 → hg_M → Prop) (PX : String → hg_M → Prop) : Prop := ((x3 < (1 : Int32) → bC_X5_feed_11 P PX σ) ∧ (¬ (x3 < (1 : Int32)) → ((x3 ≤ (8 : Int32) → ((((σ 3 1) + x3) ≤ (600 : Int32) → ∀ v1 : Int32, v1 = (x3 - (1 : Int32)) → (∃ f9, lC_X5_feed_51 P PX f9 x1 v1 σ)) ∧ (¬ (((σ 3 1) + x3) ≤ (600 : Int32)) → PX "java/lang/IllegalStateException" σ))) ∧ (¬ (x3 ≤ (8 : Int32)) → bC_X5_feed_11 P PX σ))))
set_option maxRecDepth 4000 in
theorem tlC_X5_feed_51 {d : Nat} {E : hg_Et} {X : hg_X} {P : Int32 → hg_M → Prop} {PX : String → hg_M → Prop}  (hX : hg_Xa E) (hRt : hg_Rt hg_FC hg_rC PX X) (hC : hg_C hg_FC 5 (d + 6) E cX5_feed RX5 X) (hR : hg_Rxi hg_FC (some .int) hg_rC P PX X)  (n : Nat) : ∀ (x1 : Int64) (x4 : Int32) (σ : hg_M), lC_X5_feed_51 P PX n x1 x4 σ → hg_G hg_FC 5 X 51 [(0, .ref (hg_ad X 0)), (1, .long x1), (4, .int x4)] [] σ hg_rC := by
  induction n with
  | zero =>
    intro x1 x4 σ hw
    rw [lC_X5_feed_51] at hw
    exact hw.elim
  | succ n ih =>
    intro x1 x4 σ hw
    rw [lC_X5_feed_51] at hw
    refine hg_iload hC dX5_feed_51 2 rfl (n := 53) rfl ?_
    refine hg_if_lt hC dX5_feed_53 (tg := 81) rfl (n := 56) rfl (fun h9 => ?_) (fun h9 => ?_)
    · have hw := hw.1 h9
      refine hg_aload_n hC dX5_feed_81 rfl 0 rfl (n := 82) rfl ?_
      refine hg_getr hC fl_RX5_19 dX5_feed_82 qC_0 kC_0 fC_5_2 rC_0_2 (n := 85) rfl ?_
      refine hg_geti hC fl_RX5_67 dX5_feed_85 qC_3 kC_3 fC_4_1 (n := 88) rfl ?_
      exact hg_xreti hC hR dX5_feed_88 hw
    · have hw := hw.2 h9
      refine hg_aload_n hC dX5_feed_56 rfl 0 rfl (n := 57) rfl ?_
      refine hg_getr hC fl_RX5_19 dX5_feed_57 qC_0 kC_0 fC_5_2 rC_0_2 (n := 60) rfl ?_
      refine hg_lload_n hC dX5_feed_60 rfl 1 rfl (n := 61) rfl ?_
      refine hg_bipush hC dX5_feed_61 hl_b8 (n := 63) rfl ?_
      refine hg_iload hC dX5_feed_63 2 rfl (n := 65) rfl ?_
      refine hg_imul hC dX5_feed_65 (n := 66) rfl ?_
      refine hg_lushr hC dX5_feed_66 rfl (n := 67) rfl ?_
      refine hg_l2i hC dX5_feed_67 rfl (n := 68) rfl ?_
      refine hg_sipush hC dX5_feed_68 hl_s255 (n := 71) rfl ?_
      refine hg_iand hC dX5_feed_71 (n := 72) rfl ?_
      refine hg_cVv hC (tC_X4_append (hg_Eof hC) X.2.1 (d + 4) _ _ _ hw) sv_RX5_76 dX5_feed_72 qC_3 kC_3 c_4 rfl (rest := []) rfl (Nat.le_of_ble_eq_true rfl) (n := 75) rfl (fun σ2 hw => ?_)
      obtain ⟨v3, ev3⟩ : ∃ z, z = x4 + (-1 : Int32) := ⟨_, rfl⟩
      have hw := hw v3 ev3
      refine hg_iinc hC (v := v3) (L1 := [(4, .int v3), (0, .ref (hg_ad X 0)), (1, .long x1)]) dX5_feed_75 2 rfl (by rw [hl_im1, ev3]) (by decide) rfl (n := 78) rfl ?_
      refine hg_goto hC dX5_feed_78 (tg := 51) rfl ?_
      exact hg_sub [1, 2, 0] rfl (ih x1 v3 σ2 hw)
set_option maxRecDepth 4000 in
theorem tbC_X5_feed_11 {d : Nat} {E : hg_Et} {X : hg_X} {P : Int32 → hg_M → Prop} {PX : String → hg_M → Prop}  (hX : hg_Xa E) (hRt : hg_Rt hg_FC hg_rC PX X) (hC : hg_C hg_FC 5 (d + 6) E cX5_feed RX5 X) (hR : hg_Rxi hg_FC (some .int) hg_rC P PX X)   (σ : hg_M) (hw : bC_X5_feed_11 P PX  σ) : hg_G hg_FC 5 X 11 [] [] σ hg_rC := by
  unfold bC_X5_feed_11 at hw
  obtain ⟨sa9, hsa9⟩ := hX.2.2 (64, "1 to 8 bytes can be fed") (by decide)
  exact hg_throw hC hX.1 hRt sx_62_66 (hX.2.1 (66, "java/lang/IllegalArgumentException") (by decide)) hsa9 dX5_feed_11 dX5_feed_14 dX5_feed_15 dX5_feed_17 dX5_feed_20 (Nat.le_of_ble_eq_true rfl) hw
set_option maxRecDepth 4000 in
theorem tC_X5_feed {E : hg_Et} (hE : hg_Eok E) (l : Launch) (d : Nat) (hX : hg_Xa E) (hlt : l.stackTraces = false) (x1 : Int64) (x3 : Int32) (σ : hg_M) (P : Int32 → hg_M → Prop) (PX : String → hg_M → Prop) (hw : wC_X5_feed x1 x3 σ P PX) : hg_Txi hg_FC E l yX5_feed cX5_feed 5 (some .int) (d + 6) (fun ad => [.ref (ad 0), .long x1, .int x3]) hg_rC σ P PX := by
  refine hg_txi hE hlt (by decide) (fun _ => Nat.le_of_ble_eq_true rfl) (fun X hC hR hRt hl => ?_)
  subst hl
  have hC : hg_C hg_FC 5 (d + 6) E cX5_feed RX5 X := hC
  show hg_G hg_FC 5 X 0 [(0, .ref (hg_ad X 0)), (1, .long x1), (3, .int x3)] [] σ hg_rC
  unfold wC_X5_feed at hw
  refine hg_iload_n hC dX5_feed_0 rfl 2 rfl (n := 1) rfl ?_
  refine hg_iconst hC dX5_feed_1 hl_i1 (n := 2) rfl ?_
  refine hg_icmp_lt hC dX5_feed_2 (tg := 11) rfl (n := 5) rfl (fun h9 => ?_) (fun h9 => ?_)
  · have hw := hw.1 h9
    exact hg_sub [] rfl (tbC_X5_feed_11 hX hRt hC hR  σ hw)
  · have hw := hw.2 h9
    refine hg_iload_n hC dX5_feed_5 rfl 2 rfl (n := 6) rfl ?_
    refine hg_bipush hC dX5_feed_6 hl_b8 (n := 8) rfl ?_
    refine hg_icmp_le hC dX5_feed_8 (tg := 21) rfl (n := 11) rfl (fun h9 => ?_) (fun h9 => ?_)
    · have hw := hw.1 h9
      refine hg_aload_n hC dX5_feed_21 rfl 0 rfl (n := 22) rfl ?_
      refine hg_getr hC fl_RX5_19 dX5_feed_22 qC_0 kC_0 fC_5_2 rC_0_2 (n := 25) rfl ?_
      refine hg_geti hC fl_RX5_67 dX5_feed_25 qC_3 kC_3 fC_4_1 (n := 28) rfl ?_
      refine hg_iload_n hC dX5_feed_28 rfl 2 rfl (n := 29) rfl ?_
      refine hg_iadd hC dX5_feed_29 (n := 30) rfl ?_
      refine hg_sipush hC dX5_feed_30 hl_s600 (n := 33) rfl ?_
      refine hg_icmp_le hC dX5_feed_33 (tg := 46) rfl (n := 36) rfl (fun h9 => ?_) (fun h9 => ?_)
      · have hw := hw.1 h9
        refine hg_iload_n hC dX5_feed_46 rfl 2 rfl (n := 47) rfl ?_
        refine hg_iconst hC dX5_feed_47 hl_i1 (n := 48) rfl ?_
        refine hg_isub hC dX5_feed_48 (n := 49) rfl ?_
        refine hg_topi (fun v1 ev1 => ?_)
        have hw := hw v1 ev1
        refine hg_istore hC (L1 := [(4, .int v1), (0, .ref (hg_ad X 0)), (1, .long x1), (3, .int x3)]) dX5_feed_49 (by decide) rfl (n := 51) rfl ?_
        obtain ⟨n9, hw⟩ := hw
        exact hg_sub [1, 2, 0] rfl (tlC_X5_feed_51 hX hRt hC hR  n9 x1 v1 σ hw)
      · have hw := hw.2 h9
        obtain ⟨sa9, hsa9⟩ := hX.2.2 (73, "the tape would be too long") (by decide)
        exact hg_throw hC hX.1 hRt sx_71_75 (hX.2.1 (75, "java/lang/IllegalStateException") (by decide)) hsa9 dX5_feed_36 dX5_feed_39 dX5_feed_40 dX5_feed_42 dX5_feed_45 (Nat.le_of_ble_eq_true rfl) hw
    · have hw := hw.2 h9
      exact hg_sub [] rfl (tbC_X5_feed_11 hX hRt hC hR  σ hw)
def bC_X5_statement_120 (P : Int32 → hg_M → Prop) (PX : String → hg_M → Prop)  (t0 : Int32) (σ : hg_M) : Prop := P t0 σ
def bC_X5_statement_100 (P : Int32 → hg_M → Prop) (PX : String → hg_M → Prop)  (t0 : Int32) (σ : hg_M) : Prop := P t0 σ
def bC_X5_statement_99 (P : Int32 → hg_M → Prop) (PX : String → hg_M → Prop)   (σ : hg_M) : Prop := bC_X5_statement_100 P PX (0 : Int32) σ
def bC_X5_statement_15 (P : Int32 → hg_M → Prop) (PX : String → hg_M → Prop)   (σ : hg_M) : Prop := PX "java/lang/IndexOutOfBoundsException" σ
def wC_X5_statement (x1 : Int32) (x2 : Int32) (σ : hg_M) (P : Int32 → hg_M → Prop) (PX : String → hg_M → Prop) : Prop := ((x1 < 0 → bC_X5_statement_15 P PX σ) ∧ (¬ x1 < 0 → ((x1 < (σ 16 8) → ((((x2).toInt < 0 ∨ 3 < (x2).toInt) → PX "java/lang/IllegalArgumentException" σ) ∧ ((x2).toInt = 0 → vp_in x1 60 ∧ (P (σ 17 (x1).toNatClampNeg) σ)) ∧ ((x2).toInt = 1 → vp_in x1 60 ∧ (P (σ 18 (x1).toNatClampNeg) σ)) ∧ ((x2).toInt = 2 → (((σ 0 6) = 0 → bC_X5_statement_99 P PX σ) ∧ (¬ (σ 0 6) = 0 → vp_in x1 60 ∧ ((((σ 26 (x1).toNatClampNeg) = 0 → bC_X5_statement_99 P PX σ) ∧ (¬ (σ 26 (x1).toNatClampNeg) = 0 → bC_X5_statement_100 P PX (1 : Int32) σ)))))) ∧ ((x2).toInt = 3 → (((σ 0 6) = 0 → bC_X5_statement_120 P PX (0 : Int32) σ) ∧ (¬ (σ 0 6) = 0 → wC_X0_stepsOf x1 σ (fun r2 σ1 => bC_X5_statement_120 P PX r2 σ1)))))) ∧ (¬ (x1 < (σ 16 8)) → bC_X5_statement_15 P PX σ))))
set_option maxRecDepth 4000 in
theorem tbC_X5_statement_120 {d : Nat} {E : hg_Et} {X : hg_X} {P : Int32 → hg_M → Prop} {PX : String → hg_M → Prop}  (hX : hg_Xa E) (hRt : hg_Rt hg_FC hg_rC PX X) (hC : hg_C hg_FC 3 (d + 6) E cX5_statement RX5 X) (hR : hg_Rxi hg_FC (some .int) hg_rC P PX X)  (t0 : Int32) (σ : hg_M) (hw : bC_X5_statement_120 P PX t0 σ) : hg_G hg_FC 3 X 120 [] [.int t0] σ hg_rC := by
  unfold bC_X5_statement_120 at hw
  exact hg_xreti hC hR dX5_statement_120 hw
set_option maxRecDepth 4000 in
theorem tbC_X5_statement_100 {d : Nat} {E : hg_Et} {X : hg_X} {P : Int32 → hg_M → Prop} {PX : String → hg_M → Prop}  (hX : hg_Xa E) (hRt : hg_Rt hg_FC hg_rC PX X) (hC : hg_C hg_FC 3 (d + 6) E cX5_statement RX5 X) (hR : hg_Rxi hg_FC (some .int) hg_rC P PX X)  (t0 : Int32) (σ : hg_M) (hw : bC_X5_statement_100 P PX t0 σ) : hg_G hg_FC 3 X 100 [] [.int t0] σ hg_rC := by
  unfold bC_X5_statement_100 at hw
  exact hg_xreti hC hR dX5_statement_100 hw
set_option maxRecDepth 4000 in
theorem tbC_X5_statement_99 {d : Nat} {E : hg_Et} {X : hg_X} {P : Int32 → hg_M → Prop} {PX : String → hg_M → Prop}  (hX : hg_Xa E) (hRt : hg_Rt hg_FC hg_rC PX X) (hC : hg_C hg_FC 3 (d + 6) E cX5_statement RX5 X) (hR : hg_Rxi hg_FC (some .int) hg_rC P PX X)   (σ : hg_M) (hw : bC_X5_statement_99 P PX  σ) : hg_G hg_FC 3 X 99 [] [] σ hg_rC := by
  unfold bC_X5_statement_99 at hw
  refine hg_iconst hC dX5_statement_99 hl_i0 (n := 100) rfl ?_
  exact tbC_X5_statement_100 hX hRt hC hR  (0 : Int32) σ hw
set_option maxRecDepth 4000 in
theorem tbC_X5_statement_15 {d : Nat} {E : hg_Et} {X : hg_X} {P : Int32 → hg_M → Prop} {PX : String → hg_M → Prop}  (hX : hg_Xa E) (hRt : hg_Rt hg_FC hg_rC PX X) (hC : hg_C hg_FC 3 (d + 6) E cX5_statement RX5 X) (hR : hg_Rxi hg_FC (some .int) hg_rC P PX X)   (σ : hg_M) (hw : bC_X5_statement_15 P PX  σ) : hg_G hg_FC 3 X 15 [] [] σ hg_rC := by
  unfold bC_X5_statement_15 at hw
  obtain ⟨sa9, hsa9⟩ := hX.2.2 (97, "no such statement") (by decide)
  exact hg_throw hC hX.1 hRt sx_53_57 (hX.2.1 (57, "java/lang/IndexOutOfBoundsException") (by decide)) hsa9 dX5_statement_15 dX5_statement_18 dX5_statement_19 dX5_statement_21 dX5_statement_24 (Nat.le_of_ble_eq_true rfl) hw
set_option maxRecDepth 4000 in
theorem tC_X5_statement {E : hg_Et} (hE : hg_Eok E) (l : Launch) (d : Nat) (hX : hg_Xa E) (hlt : l.stackTraces = false) (x1 : Int32) (x2 : Int32) (σ : hg_M) (P : Int32 → hg_M → Prop) (PX : String → hg_M → Prop) (hw : wC_X5_statement x1 x2 σ P PX) : hg_Txi hg_FC E l yX5_statement cX5_statement 3 (some .int) (d + 6) (fun ad => [.ref (ad 0), .int x1, .int x2]) hg_rC σ P PX := by
  refine hg_txi hE hlt (by decide) (fun _ => Nat.le_of_ble_eq_true rfl) (fun X hC hR hRt hl => ?_)
  subst hl
  have hC : hg_C hg_FC 3 (d + 6) E cX5_statement RX5 X := hC
  show hg_G hg_FC 3 X 0 [(0, .ref (hg_ad X 0)), (1, .int x1), (2, .int x2)] [] σ hg_rC
  unfold wC_X5_statement at hw
  refine hg_iload_n hC dX5_statement_0 rfl 1 rfl (n := 1) rfl ?_
  refine hg_if_lt hC dX5_statement_1 (tg := 15) rfl (n := 4) rfl (fun h9 => ?_) (fun h9 => ?_)
  · have hw := hw.1 h9
    exact hg_sub [] rfl (tbC_X5_statement_15 hX hRt hC hR  σ hw)
  · have hw := hw.2 h9
    refine hg_iload_n hC dX5_statement_4 rfl 1 rfl (n := 5) rfl ?_
    refine hg_aload_n hC dX5_statement_5 rfl 0 rfl (n := 6) rfl ?_
    refine hg_getr hC fl_RX5_26 dX5_statement_6 qC_0 kC_0 fC_5_3 rC_0_3 (n := 9) rfl ?_
    refine hg_geti hC fl_RX5_91 dX5_statement_9 qC_16 kC_16 fC_3_8 (n := 12) rfl ?_
    refine hg_icmp_lt hC dX5_statement_12 (tg := 25) rfl (n := 15) rfl (fun h9 => ?_) (fun h9 => ?_)
    · have hw := hw.1 h9
      refine hg_iload_n hC dX5_statement_25 rfl 2 rfl (n := 26) rfl ?_
      by_cases hsw : (x2).toInt < 0 ∨ 3 < (x2).toInt
      · have hw := hw.1 hsw
        refine hg_tout hC dX5_statement_26 hsw (tg := 121) rfl ?_
        obtain ⟨sa9, hsa9⟩ := hX.2.2 (115, "nothing such is told of a statement") (by decide)
        exact hg_throw hC hX.1 hRt sx_62_66 (hX.2.1 (66, "java/lang/IllegalArgumentException") (by decide)) hsa9 dX5_statement_121 dX5_statement_124 dX5_statement_125 dX5_statement_127 dX5_statement_130 (Nat.le_of_ble_eq_true rfl) hw
      · rcases (show (x2).toInt = 0 ∨ (x2).toInt = 1 ∨ (x2).toInt = 2 ∨ (x2).toInt = 3 by omega) with hsx | hsx | hsx | hsx
        · have hw := hw.2.1 hsx
          refine hg_tin hC dX5_statement_26 hsx (by decide) (by decide) (by rfl) (tg := 56) rfl ?_
          refine hg_aload_n hC dX5_statement_56 rfl 0 rfl (n := 57) rfl ?_
          refine hg_getr hC fl_RX5_26 dX5_statement_57 qC_0 kC_0 fC_5_3 rC_0_3 (n := 60) rfl ?_
          refine hg_getr hC fl_RX5_99 dX5_statement_60 qC_16 kC_16 fC_3_0 rC_16_0 (n := 63) rfl ?_
          refine hg_iload_n hC dX5_statement_63 rfl 1 rfl (n := 64) rfl ?_
          obtain ⟨h9, hw⟩ := hw
          refine hg_iald hC dX5_statement_64 qC_17 kC_17 h9 (n := 65) rfl ?_
          exact hg_xreti hC hR dX5_statement_65 hw
        · have hw := hw.2.2.1 hsx
          refine hg_tin hC dX5_statement_26 hsx (by decide) (by decide) (by rfl) (tg := 66) rfl ?_
          refine hg_aload_n hC dX5_statement_66 rfl 0 rfl (n := 67) rfl ?_
          refine hg_getr hC fl_RX5_26 dX5_statement_67 qC_0 kC_0 fC_5_3 rC_0_3 (n := 70) rfl ?_
          refine hg_getr hC fl_RX5_102 dX5_statement_70 qC_16 kC_16 fC_3_1 rC_16_1 (n := 73) rfl ?_
          refine hg_iload_n hC dX5_statement_73 rfl 1 rfl (n := 74) rfl ?_
          obtain ⟨h9, hw⟩ := hw
          refine hg_iald hC dX5_statement_74 qC_18 kC_18 h9 (n := 75) rfl ?_
          exact hg_xreti hC hR dX5_statement_75 hw
        · have hw := hw.2.2.2.1 hsx
          refine hg_tin hC dX5_statement_26 hsx (by decide) (by decide) (by rfl) (tg := 76) rfl ?_
          refine hg_aload_n hC dX5_statement_76 rfl 0 rfl (n := 77) rfl ?_
          refine hg_geti hC fl_RX5_42 dX5_statement_77 qC_0 kC_0 fC_5_6 (n := 80) rfl ?_
          refine hg_if_eq hC dX5_statement_80 (tg := 99) rfl (n := 83) rfl (fun h9 => ?_) (fun h9 => ?_)
          · have hw := hw.1 h9
            exact hg_sub [] rfl (tbC_X5_statement_99 hX hRt hC hR  σ hw)
          · have hw := hw.2 h9
            refine hg_aload_n hC dX5_statement_83 rfl 0 rfl (n := 84) rfl ?_
            refine hg_getr hC fl_RX5_33 dX5_statement_84 qC_0 kC_0 fC_5_4 rC_0_4 (n := 87) rfl ?_
            refine hg_getr hC fl_RX5_105 dX5_statement_87 qC_25 kC_25 fC_2_1 rC_25_1 (n := 90) rfl ?_
            refine hg_iload_n hC dX5_statement_90 rfl 1 rfl (n := 91) rfl ?_
            obtain ⟨h9, hw⟩ := hw
            refine hg_zald hC dX5_statement_91 qC_26 kC_26 h9 (n := 92) rfl ?_
            refine hg_if_eq hC dX5_statement_92 (tg := 99) rfl (n := 95) rfl (fun h9 => ?_) (fun h9 => ?_)
            · have hw := hw.1 h9
              exact hg_sub [] rfl (tbC_X5_statement_99 hX hRt hC hR  σ hw)
            · have hw := hw.2 h9
              refine hg_iconst hC dX5_statement_95 hl_i1 (n := 96) rfl ?_
              refine hg_goto hC dX5_statement_96 (tg := 100) rfl ?_
              exact hg_sub [] rfl (tbC_X5_statement_100 hX hRt hC hR  (1 : Int32) σ hw)
        · have hw := hw.2.2.2.2 hsx
          refine hg_tin hC dX5_statement_26 hsx (by decide) (by decide) (by rfl) (tg := 101) rfl ?_
          refine hg_aload_n hC dX5_statement_101 rfl 0 rfl (n := 102) rfl ?_
          refine hg_geti hC fl_RX5_42 dX5_statement_102 qC_0 kC_0 fC_5_6 (n := 105) rfl ?_
          refine hg_if_eq hC dX5_statement_105 (tg := 119) rfl (n := 108) rfl (fun h9 => ?_) (fun h9 => ?_)
          · have hw := hw.1 h9
            refine hg_iconst hC dX5_statement_119 hl_i0 (n := 120) rfl ?_
            exact hg_sub [] rfl (tbC_X5_statement_120 hX hRt hC hR  (0 : Int32) σ hw)
          · have hw := hw.2 h9
            refine hg_aload_n hC dX5_statement_108 rfl 0 rfl (n := 109) rfl ?_
            refine hg_getr hC fl_RX5_41 dX5_statement_109 qC_0 kC_0 fC_5_5 rC_0_5 (n := 112) rfl ?_
            refine hg_iload_n hC dX5_statement_112 rfl 1 rfl (n := 113) rfl ?_
            refine hg_cVi hC (tC_X0_stepsOf (hg_Eof hC) X.2.1 (d + 4) _ _ _ hw) sv_RX5_109 dX5_statement_113 qC_42 kC_42 c_0 rfl (rest := []) rfl (Nat.le_of_ble_eq_true rfl) (n := 116) rfl (fun r2 σ1 hw => ?_)
            refine hg_goto hC dX5_statement_116 (tg := 120) rfl ?_
            exact hg_sub [] rfl (tbC_X5_statement_120 hX hRt hC hR  r2 σ1 hw)
    · have hw := hw.2 h9
      exact hg_sub [] rfl (tbC_X5_statement_15 hX hRt hC hR  σ hw)
def bC_X5_lower_11 (P : Int32 → hg_M → Prop) (PX : String → hg_M → Prop)   (σ : hg_M) : Prop := PX "java/lang/IllegalArgumentException" σ
def wC_X5_lower (x1 : Int32) (σ : hg_M) (P : Int32 → hg_M → Prop) (PX : String → hg_M → Prop) : Prop := ((x1 < 0 → bC_X5_lower_11 P PX σ) ∧ (¬ x1 < 0 → ((x1 ≤ (400 : Int32) → wC_X2_makeCode x1 σ (fun σ1 => ((1 : Int32) = 0 ∨ (1 : Int32) = 1) ∧ (∀ σ2 : hg_M, σ2 = hg_set σ1 0 6 (1 : Int32) → P (σ2 42 1) σ2))) ∧ (¬ (x1 ≤ (400 : Int32)) → bC_X5_lower_11 P PX σ))))
set_option maxRecDepth 4000 in
theorem tbC_X5_lower_11 {d : Nat} {E : hg_Et} {X : hg_X} {P : Int32 → hg_M → Prop} {PX : String → hg_M → Prop}  (hX : hg_Xa E) (hRt : hg_Rt hg_FC hg_rC PX X) (hC : hg_C hg_FC 2 (d + 24) E cX5_lower RX5 X) (hR : hg_Rxi hg_FC (some .int) hg_rC P PX X)   (σ : hg_M) (hw : bC_X5_lower_11 P PX  σ) : hg_G hg_FC 2 X 11 [] [] σ hg_rC := by
  unfold bC_X5_lower_11 at hw
  obtain ⟨sa9, hsa9⟩ := hX.2.2 (117, "no such limit") (by decide)
  exact hg_throw hC hX.1 hRt sx_62_66 (hX.2.1 (66, "java/lang/IllegalArgumentException") (by decide)) hsa9 dX5_lower_11 dX5_lower_14 dX5_lower_15 dX5_lower_17 dX5_lower_20 (Nat.le_of_ble_eq_true rfl) hw
set_option maxRecDepth 4000 in
theorem tC_X5_lower {E : hg_Et} (hE : hg_Eok E) (l : Launch) (d : Nat) (hX : hg_Xa E) (hlt : l.stackTraces = false) (x1 : Int32) (σ : hg_M) (P : Int32 → hg_M → Prop) (PX : String → hg_M → Prop) (hw : wC_X5_lower x1 σ P PX) : hg_Txi hg_FC E l yX5_lower cX5_lower 2 (some .int) (d + 24) (fun ad => [.ref (ad 0), .int x1]) hg_rC σ P PX := by
  refine hg_txi hE hlt (by decide) (fun _ => Nat.le_of_ble_eq_true rfl) (fun X hC hR hRt hl => ?_)
  subst hl
  have hC : hg_C hg_FC 2 (d + 24) E cX5_lower RX5 X := hC
  show hg_G hg_FC 2 X 0 [(0, .ref (hg_ad X 0)), (1, .int x1)] [] σ hg_rC
  unfold wC_X5_lower at hw
  refine hg_iload_n hC dX5_lower_0 rfl 1 rfl (n := 1) rfl ?_
  refine hg_if_lt hC dX5_lower_1 (tg := 11) rfl (n := 4) rfl (fun h9 => ?_) (fun h9 => ?_)
  · have hw := hw.1 h9
    exact hg_sub [] rfl (tbC_X5_lower_11 hX hRt hC hR  σ hw)
  · have hw := hw.2 h9
    refine hg_iload_n hC dX5_lower_4 rfl 1 rfl (n := 5) rfl ?_
    refine hg_sipush hC dX5_lower_5 hl_s400 (n := 8) rfl ?_
    refine hg_icmp_le hC dX5_lower_8 (tg := 21) rfl (n := 11) rfl (fun h9 => ?_) (fun h9 => ?_)
    · have hw := hw.1 h9
      refine hg_aload_n hC dX5_lower_21 rfl 0 rfl (n := 22) rfl ?_
      refine hg_getr hC fl_RX5_33 dX5_lower_22 qC_0 kC_0 fC_5_4 rC_0_4 (n := 25) rfl ?_
      refine hg_aload_n hC dX5_lower_25 rfl 0 rfl (n := 26) rfl ?_
      refine hg_getr hC fl_RX5_26 dX5_lower_26 qC_0 kC_0 fC_5_3 rC_0_3 (n := 29) rfl ?_
      refine hg_iload_n hC dX5_lower_29 rfl 1 rfl (n := 30) rfl ?_
      refine hg_cVv hC (tC_X2_makeCode (hg_Eof hC) X.2.1 (d + 0) _ _ _ hw) sv_RX5_119 dX5_lower_30 qC_25 kC_25 c_2 rfl (rest := []) rfl (Nat.le_of_ble_eq_true rfl) (n := 33) rfl (fun σ1 hw => ?_)
      refine hg_aload_n hC dX5_lower_33 rfl 0 rfl (n := 34) rfl ?_
      refine hg_iconst hC dX5_lower_34 hl_i1 (n := 35) rfl ?_
      obtain ⟨h9, hw⟩ := hw
      refine hg_puti hC fp_RX5_42 dX5_lower_35 qC_0 kC_0 fC_5_6 (hg_nz h9) (hg_fz h9) (n := 38) rfl (fun σ2 eσ2 => ?_)
      have hw := hw σ2 eσ2
      refine hg_aload_n hC dX5_lower_38 rfl 0 rfl (n := 39) rfl ?_
      refine hg_getr hC fl_RX5_41 dX5_lower_39 qC_0 kC_0 fC_5_5 rC_0_5 (n := 42) rfl ?_
      refine hg_geti hC fl_RX5_123 dX5_lower_42 qC_42 kC_42 fC_0_1 (n := 45) rfl ?_
      exact hg_xreti hC hR dX5_lower_45 hw
    · have hw := hw.2 h9
      exact hg_sub [] rfl (tbC_X5_lower_11 hX hRt hC hR  σ hw)
def bC_X5_step_42 (P : Int32 → hg_M → Prop) (PX : String → hg_M → Prop)   (σ : hg_M) : Prop := PX "java/lang/IllegalArgumentException" σ
def bC_X5_step_22 (P : Int32 → hg_M → Prop) (PX : String → hg_M → Prop)   (σ : hg_M) : Prop := PX "java/lang/IndexOutOfBoundsException" σ
def wC_X5_step (x1 : Int32) (x2 : Int32) (σ : hg_M) (P : Int32 → hg_M → Prop) (PX : String → hg_M → Prop) : Prop := (((σ 0 6) = 0 → bC_X5_step_22 P PX σ) ∧ (¬ (σ 0 6) = 0 → ((x1 < 0 → bC_X5_step_22 P PX σ) ∧ (¬ x1 < 0 → ((x1 < (σ 42 1) → ((x2 < 0 → bC_X5_step_42 P PX σ) ∧ (¬ x2 < 0 → ((x2 < (6 : Int32) → vp_in x2 6 ∧ (vp_in x1 720 ∧ (P (σ (44 + (x2).toNatClampNeg) (x1).toNatClampNeg) σ))) ∧ (¬ (x2 < (6 : Int32)) → bC_X5_step_42 P PX σ))))) ∧ (¬ (x1 < (σ 42 1)) → bC_X5_step_22 P PX σ))))))
set_option maxRecDepth 4000 in
theorem tbC_X5_step_42 {d : Nat} {E : hg_Et} {X : hg_X} {P : Int32 → hg_M → Prop} {PX : String → hg_M → Prop}  (hX : hg_Xa E) (hRt : hg_Rt hg_FC hg_rC PX X) (hC : hg_C hg_FC 3 (d + 6) E cX5_step RX5 X) (hR : hg_Rxi hg_FC (some .int) hg_rC P PX X)   (σ : hg_M) (hw : bC_X5_step_42 P PX  σ) : hg_G hg_FC 3 X 42 [] [] σ hg_rC := by
  unfold bC_X5_step_42 at hw
  obtain ⟨sa9, hsa9⟩ := hX.2.2 (132, "nothing such is told of a step") (by decide)
  exact hg_throw hC hX.1 hRt sx_62_66 (hX.2.1 (66, "java/lang/IllegalArgumentException") (by decide)) hsa9 dX5_step_42 dX5_step_45 dX5_step_46 dX5_step_48 dX5_step_51 (Nat.le_of_ble_eq_true rfl) hw
set_option maxRecDepth 4000 in
theorem tbC_X5_step_22 {d : Nat} {E : hg_Et} {X : hg_X} {P : Int32 → hg_M → Prop} {PX : String → hg_M → Prop}  (hX : hg_Xa E) (hRt : hg_Rt hg_FC hg_rC PX X) (hC : hg_C hg_FC 3 (d + 6) E cX5_step RX5 X) (hR : hg_Rxi hg_FC (some .int) hg_rC P PX X)   (σ : hg_M) (hw : bC_X5_step_22 P PX  σ) : hg_G hg_FC 3 X 22 [] [] σ hg_rC := by
  unfold bC_X5_step_22 at hw
  obtain ⟨sa9, hsa9⟩ := hX.2.2 (130, "no such step") (by decide)
  exact hg_throw hC hX.1 hRt sx_53_57 (hX.2.1 (57, "java/lang/IndexOutOfBoundsException") (by decide)) hsa9 dX5_step_22 dX5_step_25 dX5_step_26 dX5_step_28 dX5_step_31 (Nat.le_of_ble_eq_true rfl) hw
set_option maxRecDepth 4000 in
theorem tC_X5_step {E : hg_Et} (hE : hg_Eok E) (l : Launch) (d : Nat) (hX : hg_Xa E) (hlt : l.stackTraces = false) (x1 : Int32) (x2 : Int32) (σ : hg_M) (P : Int32 → hg_M → Prop) (PX : String → hg_M → Prop) (hw : wC_X5_step x1 x2 σ P PX) : hg_Txi hg_FC E l yX5_step cX5_step 3 (some .int) (d + 6) (fun ad => [.ref (ad 0), .int x1, .int x2]) hg_rC σ P PX := by
  refine hg_txi hE hlt (by decide) (fun _ => Nat.le_of_ble_eq_true rfl) (fun X hC hR hRt hl => ?_)
  subst hl
  have hC : hg_C hg_FC 3 (d + 6) E cX5_step RX5 X := hC
  show hg_G hg_FC 3 X 0 [(0, .ref (hg_ad X 0)), (1, .int x1), (2, .int x2)] [] σ hg_rC
  unfold wC_X5_step at hw
  refine hg_aload_n hC dX5_step_0 rfl 0 rfl (n := 1) rfl ?_
  refine hg_geti hC fl_RX5_42 dX5_step_1 qC_0 kC_0 fC_5_6 (n := 4) rfl ?_
  refine hg_if_eq hC dX5_step_4 (tg := 22) rfl (n := 7) rfl (fun h9 => ?_) (fun h9 => ?_)
  · have hw := hw.1 h9
    exact hg_sub [] rfl (tbC_X5_step_22 hX hRt hC hR  σ hw)
  · have hw := hw.2 h9
    refine hg_iload_n hC dX5_step_7 rfl 1 rfl (n := 8) rfl ?_
    refine hg_if_lt hC dX5_step_8 (tg := 22) rfl (n := 11) rfl (fun h9 => ?_) (fun h9 => ?_)
    · have hw := hw.1 h9
      exact hg_sub [] rfl (tbC_X5_step_22 hX hRt hC hR  σ hw)
    · have hw := hw.2 h9
      refine hg_iload_n hC dX5_step_11 rfl 1 rfl (n := 12) rfl ?_
      refine hg_aload_n hC dX5_step_12 rfl 0 rfl (n := 13) rfl ?_
      refine hg_getr hC fl_RX5_41 dX5_step_13 qC_0 kC_0 fC_5_5 rC_0_5 (n := 16) rfl ?_
      refine hg_geti hC fl_RX5_123 dX5_step_16 qC_42 kC_42 fC_0_1 (n := 19) rfl ?_
      refine hg_icmp_lt hC dX5_step_19 (tg := 32) rfl (n := 22) rfl (fun h9 => ?_) (fun h9 => ?_)
      · have hw := hw.1 h9
        refine hg_iload_n hC dX5_step_32 rfl 2 rfl (n := 33) rfl ?_
        refine hg_if_lt hC dX5_step_33 (tg := 42) rfl (n := 36) rfl (fun h9 => ?_) (fun h9 => ?_)
        · have hw := hw.1 h9
          exact hg_sub [] rfl (tbC_X5_step_42 hX hRt hC hR  σ hw)
        · have hw := hw.2 h9
          refine hg_iload_n hC dX5_step_36 rfl 2 rfl (n := 37) rfl ?_
          refine hg_bipush hC dX5_step_37 hl_b6 (n := 39) rfl ?_
          refine hg_icmp_lt hC dX5_step_39 (tg := 52) rfl (n := 42) rfl (fun h9 => ?_) (fun h9 => ?_)
          · have hw := hw.1 h9
            refine hg_aload_n hC dX5_step_52 rfl 0 rfl (n := 53) rfl ?_
            refine hg_getr hC fl_RX5_41 dX5_step_53 qC_0 kC_0 fC_5_5 rC_0_5 (n := 56) rfl ?_
            refine hg_getr hC fl_RX5_134 dX5_step_56 qC_42 kC_42 fC_0_0 rC_42_0 (n := 59) rfl ?_
            refine hg_iload_n hC dX5_step_59 rfl 2 rfl (n := 60) rfl ?_
            obtain ⟨hr60, hw⟩ := hw
            refine hg_aald hC (r := 44 + (x2).toNatClampNeg) dX5_step_60 qC_43 kC_43 hr60 rfl (n := 61) rfl ?_
            refine hg_iload_n hC dX5_step_61 rfl 1 rfl (n := 62) rfl ?_
            obtain ⟨h9, hw⟩ := hw
            refine hg_iald hC dX5_step_62 (QC_44 (hg_lt hr60)) (KC_44 (hg_lt hr60)) h9 (n := 63) rfl ?_
            exact hg_xreti hC hR dX5_step_63 hw
          · have hw := hw.2 h9
            exact hg_sub [] rfl (tbC_X5_step_42 hX hRt hC hR  σ hw)
      · have hw := hw.2 h9
        exact hg_sub [] rfl (tbC_X5_step_22 hX hRt hC hR  σ hw)
def wC_X5_run  (σ : hg_M) (P : Int32 → hg_M → Prop) (PX : String → hg_M → Prop) : Prop := (((σ 0 6) ≠ 0 → wC_X1_begin σ (fun σ1 => wC_X1_doCode σ1 (fun σ2 => P (σ2 53 4) σ2))) ∧ ((σ 0 6) = 0 → PX "java/lang/IllegalStateException" σ))
set_option maxRecDepth 4000 in
theorem tC_X5_run {E : hg_Et} (hE : hg_Eok E) (l : Launch) (d : Nat) (hX : hg_Xa E) (hlt : l.stackTraces = false)  (σ : hg_M) (P : Int32 → hg_M → Prop) (PX : String → hg_M → Prop) (hw : wC_X5_run  σ P PX) : hg_Txi hg_FC E l yX5_run cX5_run 1 (some .int) (d + 6) (fun ad => [.ref (ad 0)]) hg_rC σ P PX := by
  refine hg_txi hE hlt (by decide) (fun _ => Nat.le_of_ble_eq_true rfl) (fun X hC hR hRt hl => ?_)
  subst hl
  have hC : hg_C hg_FC 1 (d + 6) E cX5_run RX5 X := hC
  show hg_G hg_FC 1 X 0 [(0, .ref (hg_ad X 0))] [] σ hg_rC
  unfold wC_X5_run at hw
  refine hg_aload_n hC dX5_run_0 rfl 0 rfl (n := 1) rfl ?_
  refine hg_geti hC fl_RX5_42 dX5_run_1 qC_0 kC_0 fC_5_6 (n := 4) rfl ?_
  refine hg_if_ne hC dX5_run_4 (tg := 17) rfl (n := 7) rfl (fun h9 => ?_) (fun h9 => ?_)
  · have hw := hw.1 h9
    refine hg_aload_n hC dX5_run_17 rfl 0 rfl (n := 18) rfl ?_
    refine hg_getr hC fl_RX5_49 dX5_run_18 qC_0 kC_0 fC_5_7 rC_0_7 (n := 21) rfl ?_
    refine hg_aload_n hC dX5_run_21 rfl 0 rfl (n := 22) rfl ?_
    refine hg_getr hC fl_RX5_9 dX5_run_22 qC_0 kC_0 fC_5_0 rC_0_0 (n := 25) rfl ?_
    refine hg_aload_n hC dX5_run_25 rfl 0 rfl (n := 26) rfl ?_
    refine hg_getr hC fl_RX5_13 dX5_run_26 qC_0 kC_0 fC_5_1 rC_0_1 (n := 29) rfl ?_
    refine hg_cVv hC (tC_X1_begin (hg_Eof hC) X.2.1 (d + 3) _ _ hw) sv_RX5_138 dX5_run_29 qC_53 kC_53 c_1 rfl (rest := []) rfl (Nat.le_of_ble_eq_true rfl) (n := 32) rfl (fun σ1 hw => ?_)
    refine hg_aload_n hC dX5_run_32 rfl 0 rfl (n := 33) rfl ?_
    refine hg_getr hC fl_RX5_49 dX5_run_33 qC_0 kC_0 fC_5_7 rC_0_7 (n := 36) rfl ?_
    refine hg_aload_n hC dX5_run_36 rfl 0 rfl (n := 37) rfl ?_
    refine hg_getr hC fl_RX5_41 dX5_run_37 qC_0 kC_0 fC_5_5 rC_0_5 (n := 40) rfl ?_
    refine hg_cVv hC (tC_X1_doCode (hg_Eof hC) X.2.1 (d + 1) _ _ hw) sv_RX5_151 dX5_run_40 qC_53 kC_53 c_1 rfl (rest := []) rfl (Nat.le_of_ble_eq_true rfl) (n := 43) rfl (fun σ2 hw => ?_)
    refine hg_aload_n hC dX5_run_43 rfl 0 rfl (n := 44) rfl ?_
    refine hg_getr hC fl_RX5_49 dX5_run_44 qC_0 kC_0 fC_5_7 rC_0_7 (n := 47) rfl ?_
    refine hg_geti hC fl_RX5_146 dX5_run_47 qC_53 kC_53 fC_1_4 (n := 50) rfl ?_
    exact hg_xreti hC hR dX5_run_50 hw
  · have hw := hw.2 h9
    obtain ⟨sa9, hsa9⟩ := hX.2.2 (149, "there is no code") (by decide)
    exact hg_throw hC hX.1 hRt sx_71_75 (hX.2.1 (75, "java/lang/IllegalStateException") (by decide)) hsa9 dX5_run_7 dX5_run_10 dX5_run_11 dX5_run_13 dX5_run_16 (Nat.le_of_ble_eq_true rfl) hw
def bC_X5_left_10 (P : Int32 → hg_M → Prop) (PX : String → hg_M → Prop)   (σ : hg_M) : Prop := PX "java/lang/IndexOutOfBoundsException" σ
def wC_X5_left (x1 : Int32) (σ : hg_M) (P : Int32 → hg_M → Prop) (PX : String → hg_M → Prop) : Prop := ((x1 < 0 → bC_X5_left_10 P PX σ) ∧ (¬ x1 < 0 → ((x1 < (16 : Int32) → vp_in x1 736 ∧ (P (σ 54 (x1).toNatClampNeg) σ)) ∧ (¬ (x1 < (16 : Int32)) → bC_X5_left_10 P PX σ))))
set_option maxRecDepth 4000 in
theorem tbC_X5_left_10 {d : Nat} {E : hg_Et} {X : hg_X} {P : Int32 → hg_M → Prop} {PX : String → hg_M → Prop}  (hX : hg_Xa E) (hRt : hg_Rt hg_FC hg_rC PX X) (hC : hg_C hg_FC 2 (d + 6) E cX5_left RX5 X) (hR : hg_Rxi hg_FC (some .int) hg_rC P PX X)   (σ : hg_M) (hw : bC_X5_left_10 P PX  σ) : hg_G hg_FC 2 X 10 [] [] σ hg_rC := by
  unfold bC_X5_left_10 at hw
  obtain ⟨sa9, hsa9⟩ := hX.2.2 (55, "no such variable") (by decide)
  exact hg_throw hC hX.1 hRt sx_53_57 (hX.2.1 (57, "java/lang/IndexOutOfBoundsException") (by decide)) hsa9 dX5_left_10 dX5_left_13 dX5_left_14 dX5_left_16 dX5_left_19 (Nat.le_of_ble_eq_true rfl) hw
set_option maxRecDepth 4000 in
theorem tC_X5_left {E : hg_Et} (hE : hg_Eok E) (l : Launch) (d : Nat) (hX : hg_Xa E) (hlt : l.stackTraces = false) (x1 : Int32) (σ : hg_M) (P : Int32 → hg_M → Prop) (PX : String → hg_M → Prop) (hw : wC_X5_left x1 σ P PX) : hg_Txi hg_FC E l yX5_left cX5_left 2 (some .int) (d + 6) (fun ad => [.ref (ad 0), .int x1]) hg_rC σ P PX := by
  refine hg_txi hE hlt (by decide) (fun _ => Nat.le_of_ble_eq_true rfl) (fun X hC hR hRt hl => ?_)
  subst hl
  have hC : hg_C hg_FC 2 (d + 6) E cX5_left RX5 X := hC
  show hg_G hg_FC 2 X 0 [(0, .ref (hg_ad X 0)), (1, .int x1)] [] σ hg_rC
  unfold wC_X5_left at hw
  refine hg_iload_n hC dX5_left_0 rfl 1 rfl (n := 1) rfl ?_
  refine hg_if_lt hC dX5_left_1 (tg := 10) rfl (n := 4) rfl (fun h9 => ?_) (fun h9 => ?_)
  · have hw := hw.1 h9
    exact hg_sub [] rfl (tbC_X5_left_10 hX hRt hC hR  σ hw)
  · have hw := hw.2 h9
    refine hg_iload_n hC dX5_left_4 rfl 1 rfl (n := 5) rfl ?_
    refine hg_bipush hC dX5_left_5 hl_b16 (n := 7) rfl ?_
    refine hg_icmp_lt hC dX5_left_7 (tg := 20) rfl (n := 10) rfl (fun h9 => ?_) (fun h9 => ?_)
    · have hw := hw.1 h9
      refine hg_aload_n hC dX5_left_20 rfl 0 rfl (n := 21) rfl ?_
      refine hg_getr hC fl_RX5_49 dX5_left_21 qC_0 kC_0 fC_5_7 rC_0_7 (n := 24) rfl ?_
      refine hg_getr hC fl_RX5_155 dX5_left_24 qC_53 kC_53 fC_1_0 rC_53_0 (n := 27) rfl ?_
      refine hg_iload_n hC dX5_left_27 rfl 1 rfl (n := 28) rfl ?_
      obtain ⟨h9, hw⟩ := hw
      refine hg_iald hC dX5_left_28 qC_54 kC_54 h9 (n := 29) rfl ?_
      exact hg_xreti hC hR dX5_left_29 hw
    · have hw := hw.2 h9
      exact hg_sub [] rfl (tbC_X5_left_10 hX hRt hC hR  σ hw)
def bC_X5_kept_10 (P : Int32 → hg_M → Prop) (PX : String → hg_M → Prop)   (σ : hg_M) : Prop := PX "java/lang/IndexOutOfBoundsException" σ
def wC_X5_kept (x1 : Int32) (σ : hg_M) (P : Int32 → hg_M → Prop) (PX : String → hg_M → Prop) : Prop := ((x1 < 0 → bC_X5_kept_10 P PX σ) ∧ (¬ x1 < 0 → ((x1 < (32 : Int32) → vp_in x1 32 ∧ (P (σ 55 (x1).toNatClampNeg) σ)) ∧ (¬ (x1 < (32 : Int32)) → bC_X5_kept_10 P PX σ))))
set_option maxRecDepth 4000 in
theorem tbC_X5_kept_10 {d : Nat} {E : hg_Et} {X : hg_X} {P : Int32 → hg_M → Prop} {PX : String → hg_M → Prop}  (hX : hg_Xa E) (hRt : hg_Rt hg_FC hg_rC PX X) (hC : hg_C hg_FC 2 (d + 6) E cX5_kept RX5 X) (hR : hg_Rxi hg_FC (some .int) hg_rC P PX X)   (σ : hg_M) (hw : bC_X5_kept_10 P PX  σ) : hg_G hg_FC 2 X 10 [] [] σ hg_rC := by
  unfold bC_X5_kept_10 at hw
  obtain ⟨sa9, hsa9⟩ := hX.2.2 (60, "no such word") (by decide)
  exact hg_throw hC hX.1 hRt sx_53_57 (hX.2.1 (57, "java/lang/IndexOutOfBoundsException") (by decide)) hsa9 dX5_kept_10 dX5_kept_13 dX5_kept_14 dX5_kept_16 dX5_kept_19 (Nat.le_of_ble_eq_true rfl) hw
set_option maxRecDepth 4000 in
theorem tC_X5_kept {E : hg_Et} (hE : hg_Eok E) (l : Launch) (d : Nat) (hX : hg_Xa E) (hlt : l.stackTraces = false) (x1 : Int32) (σ : hg_M) (P : Int32 → hg_M → Prop) (PX : String → hg_M → Prop) (hw : wC_X5_kept x1 σ P PX) : hg_Txi hg_FC E l yX5_kept cX5_kept 2 (some .int) (d + 6) (fun ad => [.ref (ad 0), .int x1]) hg_rC σ P PX := by
  refine hg_txi hE hlt (by decide) (fun _ => Nat.le_of_ble_eq_true rfl) (fun X hC hR hRt hl => ?_)
  subst hl
  have hC : hg_C hg_FC 2 (d + 6) E cX5_kept RX5 X := hC
  show hg_G hg_FC 2 X 0 [(0, .ref (hg_ad X 0)), (1, .int x1)] [] σ hg_rC
  unfold wC_X5_kept at hw
  refine hg_iload_n hC dX5_kept_0 rfl 1 rfl (n := 1) rfl ?_
  refine hg_if_lt hC dX5_kept_1 (tg := 10) rfl (n := 4) rfl (fun h9 => ?_) (fun h9 => ?_)
  · have hw := hw.1 h9
    exact hg_sub [] rfl (tbC_X5_kept_10 hX hRt hC hR  σ hw)
  · have hw := hw.2 h9
    refine hg_iload_n hC dX5_kept_4 rfl 1 rfl (n := 5) rfl ?_
    refine hg_bipush hC dX5_kept_5 hl_b32 (n := 7) rfl ?_
    refine hg_icmp_lt hC dX5_kept_7 (tg := 20) rfl (n := 10) rfl (fun h9 => ?_) (fun h9 => ?_)
    · have hw := hw.1 h9
      refine hg_aload_n hC dX5_kept_20 rfl 0 rfl (n := 21) rfl ?_
      refine hg_getr hC fl_RX5_49 dX5_kept_21 qC_0 kC_0 fC_5_7 rC_0_7 (n := 24) rfl ?_
      refine hg_getr hC fl_RX5_158 dX5_kept_24 qC_53 kC_53 fC_1_1 rC_53_1 (n := 27) rfl ?_
      refine hg_iload_n hC dX5_kept_27 rfl 1 rfl (n := 28) rfl ?_
      obtain ⟨h9, hw⟩ := hw
      refine hg_iald hC dX5_kept_28 qC_55 kC_55 h9 (n := 29) rfl ?_
      exact hg_xreti hC hR dX5_kept_29 hw
    · have hw := hw.2 h9
      exact hg_sub [] rfl (tbC_X5_kept_10 hX hRt hC hR  σ hw)
def bC_X5_output_15 (P : Int32 → hg_M → Prop) (PX : String → hg_M → Prop)   (σ : hg_M) : Prop := PX "java/lang/IndexOutOfBoundsException" σ
def wC_X5_output (x1 : Int32) (σ : hg_M) (P : Int32 → hg_M → Prop) (PX : String → hg_M → Prop) : Prop := ((x1 < 0 → bC_X5_output_15 P PX σ) ∧ (¬ x1 < 0 → ((x1 < (σ 53 3) → vp_in x1 60 ∧ (P (σ 56 (x1).toNatClampNeg) σ)) ∧ (¬ (x1 < (σ 53 3)) → bC_X5_output_15 P PX σ))))
set_option maxRecDepth 4000 in
theorem tbC_X5_output_15 {d : Nat} {E : hg_Et} {X : hg_X} {P : Int32 → hg_M → Prop} {PX : String → hg_M → Prop}  (hX : hg_Xa E) (hRt : hg_Rt hg_FC hg_rC PX X) (hC : hg_C hg_FC 2 (d + 6) E cX5_output RX5 X) (hR : hg_Rxi hg_FC (some .int) hg_rC P PX X)   (σ : hg_M) (hw : bC_X5_output_15 P PX  σ) : hg_G hg_FC 2 X 15 [] [] σ hg_rC := by
  unfold bC_X5_output_15 at hw
  obtain ⟨sa9, hsa9⟩ := hX.2.2 (164, "no such number of the output") (by decide)
  exact hg_throw hC hX.1 hRt sx_53_57 (hX.2.1 (57, "java/lang/IndexOutOfBoundsException") (by decide)) hsa9 dX5_output_15 dX5_output_18 dX5_output_19 dX5_output_21 dX5_output_24 (Nat.le_of_ble_eq_true rfl) hw
set_option maxRecDepth 4000 in
theorem tC_X5_output {E : hg_Et} (hE : hg_Eok E) (l : Launch) (d : Nat) (hX : hg_Xa E) (hlt : l.stackTraces = false) (x1 : Int32) (σ : hg_M) (P : Int32 → hg_M → Prop) (PX : String → hg_M → Prop) (hw : wC_X5_output x1 σ P PX) : hg_Txi hg_FC E l yX5_output cX5_output 2 (some .int) (d + 6) (fun ad => [.ref (ad 0), .int x1]) hg_rC σ P PX := by
  refine hg_txi hE hlt (by decide) (fun _ => Nat.le_of_ble_eq_true rfl) (fun X hC hR hRt hl => ?_)
  subst hl
  have hC : hg_C hg_FC 2 (d + 6) E cX5_output RX5 X := hC
  show hg_G hg_FC 2 X 0 [(0, .ref (hg_ad X 0)), (1, .int x1)] [] σ hg_rC
  unfold wC_X5_output at hw
  refine hg_iload_n hC dX5_output_0 rfl 1 rfl (n := 1) rfl ?_
  refine hg_if_lt hC dX5_output_1 (tg := 15) rfl (n := 4) rfl (fun h9 => ?_) (fun h9 => ?_)
  · have hw := hw.1 h9
    exact hg_sub [] rfl (tbC_X5_output_15 hX hRt hC hR  σ hw)
  · have hw := hw.2 h9
    refine hg_iload_n hC dX5_output_4 rfl 1 rfl (n := 5) rfl ?_
    refine hg_aload_n hC dX5_output_5 rfl 0 rfl (n := 6) rfl ?_
    refine hg_getr hC fl_RX5_49 dX5_output_6 qC_0 kC_0 fC_5_7 rC_0_7 (n := 9) rfl ?_
    refine hg_geti hC fl_RX5_161 dX5_output_9 qC_53 kC_53 fC_1_3 (n := 12) rfl ?_
    refine hg_icmp_lt hC dX5_output_12 (tg := 25) rfl (n := 15) rfl (fun h9 => ?_) (fun h9 => ?_)
    · have hw := hw.1 h9
      refine hg_aload_n hC dX5_output_25 rfl 0 rfl (n := 26) rfl ?_
      refine hg_getr hC fl_RX5_49 dX5_output_26 qC_0 kC_0 fC_5_7 rC_0_7 (n := 29) rfl ?_
      refine hg_getr hC fl_RX5_166 dX5_output_29 qC_53 kC_53 fC_1_2 rC_53_2 (n := 32) rfl ?_
      refine hg_iload_n hC dX5_output_32 rfl 1 rfl (n := 33) rfl ?_
      obtain ⟨h9, hw⟩ := hw
      refine hg_iald hC dX5_output_33 qC_56 kC_56 h9 (n := 34) rfl ?_
      exact hg_xreti hC hR dX5_output_34 hw
    · have hw := hw.2 h9
      exact hg_sub [] rfl (tbC_X5_output_15 hX hRt hC hR  σ hw)
def bC_X5_count_136 (P : Int32 → hg_M → Prop) (PX : String → hg_M → Prop)  (t0 : Int32) (σ : hg_M) : Prop := P t0 σ
def bC_X5_count_117 (P : Int32 → hg_M → Prop) (PX : String → hg_M → Prop)  (t0 : Int32) (σ : hg_M) : Prop := P t0 σ
def bC_X5_count_98 (P : Int32 → hg_M → Prop) (PX : String → hg_M → Prop)  (t0 : Int32) (σ : hg_M) : Prop := P t0 σ
def bC_X5_count_78 (P : Int32 → hg_M → Prop) (PX : String → hg_M → Prop)  (t0 : Int32) (σ : hg_M) : Prop := P t0 σ
def wC_X5_count (x1 : Int32) (σ : hg_M) (P : Int32 → hg_M → Prop) (PX : String → hg_M → Prop) : Prop := ((((x1).toInt < 0 ∨ 8 < (x1).toInt) → PX "java/lang/IllegalArgumentException" σ) ∧ ((x1).toInt = 0 → P (σ 16 8) σ) ∧ ((x1).toInt = 1 → (((σ 0 6) = 0 → bC_X5_count_78 P PX (0 : Int32) σ) ∧ (¬ (σ 0 6) = 0 → bC_X5_count_78 P PX (σ 42 1) σ))) ∧ ((x1).toInt = 2 → (((σ 0 6) = 0 → bC_X5_count_98 P PX (16 : Int32) σ) ∧ (¬ (σ 0 6) = 0 → bC_X5_count_98 P PX (σ 42 2) σ))) ∧ ((x1).toInt = 3 → (((σ 0 6) = 0 → bC_X5_count_117 P PX (0 : Int32) σ) ∧ (¬ (σ 0 6) = 0 → wC_X0_jumps σ (fun r2 σ1 => bC_X5_count_117 P PX r2 σ1)))) ∧ ((x1).toInt = 4 → (((σ 0 6) = 0 → bC_X5_count_136 P PX (0 : Int32) σ) ∧ (¬ (σ 0 6) = 0 → wC_X2_convertedBranches σ (fun r4 σ3 => bC_X5_count_136 P PX r4 σ3)))) ∧ ((x1).toInt = 5 → P (σ 53 3) σ) ∧ ((x1).toInt = 6 → P (σ 3 1) σ) ∧ ((x1).toInt = 7 → P (σ 53 5) σ) ∧ ((x1).toInt = 8 → P (σ 53 6) σ))
set_option maxRecDepth 4000 in
theorem tbC_X5_count_136 {d : Nat} {E : hg_Et} {X : hg_X} {P : Int32 → hg_M → Prop} {PX : String → hg_M → Prop}  (hX : hg_Xa E) (hRt : hg_Rt hg_FC hg_rC PX X) (hC : hg_C hg_FC 2 (d + 6) E cX5_count RX5 X) (hR : hg_Rxi hg_FC (some .int) hg_rC P PX X)  (t0 : Int32) (σ : hg_M) (hw : bC_X5_count_136 P PX t0 σ) : hg_G hg_FC 2 X 136 [] [.int t0] σ hg_rC := by
  unfold bC_X5_count_136 at hw
  exact hg_xreti hC hR dX5_count_136 hw
set_option maxRecDepth 4000 in
theorem tbC_X5_count_117 {d : Nat} {E : hg_Et} {X : hg_X} {P : Int32 → hg_M → Prop} {PX : String → hg_M → Prop}  (hX : hg_Xa E) (hRt : hg_Rt hg_FC hg_rC PX X) (hC : hg_C hg_FC 2 (d + 6) E cX5_count RX5 X) (hR : hg_Rxi hg_FC (some .int) hg_rC P PX X)  (t0 : Int32) (σ : hg_M) (hw : bC_X5_count_117 P PX t0 σ) : hg_G hg_FC 2 X 117 [] [.int t0] σ hg_rC := by
  unfold bC_X5_count_117 at hw
  exact hg_xreti hC hR dX5_count_117 hw
set_option maxRecDepth 4000 in
theorem tbC_X5_count_98 {d : Nat} {E : hg_Et} {X : hg_X} {P : Int32 → hg_M → Prop} {PX : String → hg_M → Prop}  (hX : hg_Xa E) (hRt : hg_Rt hg_FC hg_rC PX X) (hC : hg_C hg_FC 2 (d + 6) E cX5_count RX5 X) (hR : hg_Rxi hg_FC (some .int) hg_rC P PX X)  (t0 : Int32) (σ : hg_M) (hw : bC_X5_count_98 P PX t0 σ) : hg_G hg_FC 2 X 98 [] [.int t0] σ hg_rC := by
  unfold bC_X5_count_98 at hw
  exact hg_xreti hC hR dX5_count_98 hw
set_option maxRecDepth 4000 in
theorem tbC_X5_count_78 {d : Nat} {E : hg_Et} {X : hg_X} {P : Int32 → hg_M → Prop} {PX : String → hg_M → Prop}  (hX : hg_Xa E) (hRt : hg_Rt hg_FC hg_rC PX X) (hC : hg_C hg_FC 2 (d + 6) E cX5_count RX5 X) (hR : hg_Rxi hg_FC (some .int) hg_rC P PX X)  (t0 : Int32) (σ : hg_M) (hw : bC_X5_count_78 P PX t0 σ) : hg_G hg_FC 2 X 78 [] [.int t0] σ hg_rC := by
  unfold bC_X5_count_78 at hw
  exact hg_xreti hC hR dX5_count_78 hw
set_option maxRecDepth 4000 in
theorem tC_X5_count {E : hg_Et} (hE : hg_Eok E) (l : Launch) (d : Nat) (hX : hg_Xa E) (hlt : l.stackTraces = false) (x1 : Int32) (σ : hg_M) (P : Int32 → hg_M → Prop) (PX : String → hg_M → Prop) (hw : wC_X5_count x1 σ P PX) : hg_Txi hg_FC E l yX5_count cX5_count 2 (some .int) (d + 6) (fun ad => [.ref (ad 0), .int x1]) hg_rC σ P PX := by
  refine hg_txi hE hlt (by decide) (fun _ => Nat.le_of_ble_eq_true rfl) (fun X hC hR hRt hl => ?_)
  subst hl
  have hC : hg_C hg_FC 2 (d + 6) E cX5_count RX5 X := hC
  show hg_G hg_FC 2 X 0 [(0, .ref (hg_ad X 0)), (1, .int x1)] [] σ hg_rC
  unfold wC_X5_count at hw
  refine hg_iload_n hC dX5_count_0 rfl 1 rfl (n := 1) rfl ?_
  by_cases hsw : (x1).toInt < 0 ∨ 8 < (x1).toInt
  · have hw := hw.1 hsw
    refine hg_tout hC dX5_count_1 hsw (tg := 169) rfl ?_
    obtain ⟨sa9, hsa9⟩ := hX.2.2 (184, "nothing such is counted") (by decide)
    exact hg_throw hC hX.1 hRt sx_62_66 (hX.2.1 (66, "java/lang/IllegalArgumentException") (by decide)) hsa9 dX5_count_169 dX5_count_172 dX5_count_173 dX5_count_175 dX5_count_178 (Nat.le_of_ble_eq_true rfl) hw
  · rcases (show (x1).toInt = 0 ∨ (x1).toInt = 1 ∨ (x1).toInt = 2 ∨ (x1).toInt = 3 ∨ (x1).toInt = 4 ∨ (x1).toInt = 5 ∨ (x1).toInt = 6 ∨ (x1).toInt = 7 ∨ (x1).toInt = 8 by omega) with hsx | hsx | hsx | hsx | hsx | hsx | hsx | hsx | hsx
    · have hw := hw.2.1 hsx
      refine hg_tin hC dX5_count_1 hsx (by decide) (by decide) (by rfl) (tg := 52) rfl ?_
      refine hg_aload_n hC dX5_count_52 rfl 0 rfl (n := 53) rfl ?_
      refine hg_getr hC fl_RX5_26 dX5_count_53 qC_0 kC_0 fC_5_3 rC_0_3 (n := 56) rfl ?_
      refine hg_geti hC fl_RX5_91 dX5_count_56 qC_16 kC_16 fC_3_8 (n := 59) rfl ?_
      exact hg_xreti hC hR dX5_count_59 hw
    · have hw := hw.2.2.1 hsx
      refine hg_tin hC dX5_count_1 hsx (by decide) (by decide) (by rfl) (tg := 60) rfl ?_
      refine hg_aload_n hC dX5_count_60 rfl 0 rfl (n := 61) rfl ?_
      refine hg_geti hC fl_RX5_42 dX5_count_61 qC_0 kC_0 fC_5_6 (n := 64) rfl ?_
      refine hg_if_eq hC dX5_count_64 (tg := 77) rfl (n := 67) rfl (fun h9 => ?_) (fun h9 => ?_)
      · have hw := hw.1 h9
        refine hg_iconst hC dX5_count_77 hl_i0 (n := 78) rfl ?_
        exact hg_sub [] rfl (tbC_X5_count_78 hX hRt hC hR  (0 : Int32) σ hw)
      · have hw := hw.2 h9
        refine hg_aload_n hC dX5_count_67 rfl 0 rfl (n := 68) rfl ?_
        refine hg_getr hC fl_RX5_41 dX5_count_68 qC_0 kC_0 fC_5_5 rC_0_5 (n := 71) rfl ?_
        refine hg_geti hC fl_RX5_123 dX5_count_71 qC_42 kC_42 fC_0_1 (n := 74) rfl ?_
        refine hg_goto hC dX5_count_74 (tg := 78) rfl ?_
        exact hg_sub [] rfl (tbC_X5_count_78 hX hRt hC hR  (σ 42 1) σ hw)
    · have hw := hw.2.2.2.1 hsx
      refine hg_tin hC dX5_count_1 hsx (by decide) (by decide) (by rfl) (tg := 79) rfl ?_
      refine hg_aload_n hC dX5_count_79 rfl 0 rfl (n := 80) rfl ?_
      refine hg_geti hC fl_RX5_42 dX5_count_80 qC_0 kC_0 fC_5_6 (n := 83) rfl ?_
      refine hg_if_eq hC dX5_count_83 (tg := 96) rfl (n := 86) rfl (fun h9 => ?_) (fun h9 => ?_)
      · have hw := hw.1 h9
        refine hg_bipush hC dX5_count_96 hl_b16 (n := 98) rfl ?_
        exact hg_sub [] rfl (tbC_X5_count_98 hX hRt hC hR  (16 : Int32) σ hw)
      · have hw := hw.2 h9
        refine hg_aload_n hC dX5_count_86 rfl 0 rfl (n := 87) rfl ?_
        refine hg_getr hC fl_RX5_41 dX5_count_87 qC_0 kC_0 fC_5_5 rC_0_5 (n := 90) rfl ?_
        refine hg_geti hC fl_RX5_169 dX5_count_90 qC_42 kC_42 fC_0_2 (n := 93) rfl ?_
        refine hg_goto hC dX5_count_93 (tg := 98) rfl ?_
        exact hg_sub [] rfl (tbC_X5_count_98 hX hRt hC hR  (σ 42 2) σ hw)
    · have hw := hw.2.2.2.2.1 hsx
      refine hg_tin hC dX5_count_1 hsx (by decide) (by decide) (by rfl) (tg := 99) rfl ?_
      refine hg_aload_n hC dX5_count_99 rfl 0 rfl (n := 100) rfl ?_
      refine hg_geti hC fl_RX5_42 dX5_count_100 qC_0 kC_0 fC_5_6 (n := 103) rfl ?_
      refine hg_if_eq hC dX5_count_103 (tg := 116) rfl (n := 106) rfl (fun h9 => ?_) (fun h9 => ?_)
      · have hw := hw.1 h9
        refine hg_iconst hC dX5_count_116 hl_i0 (n := 117) rfl ?_
        exact hg_sub [] rfl (tbC_X5_count_117 hX hRt hC hR  (0 : Int32) σ hw)
      · have hw := hw.2 h9
        refine hg_aload_n hC dX5_count_106 rfl 0 rfl (n := 107) rfl ?_
        refine hg_getr hC fl_RX5_41 dX5_count_107 qC_0 kC_0 fC_5_5 rC_0_5 (n := 110) rfl ?_
        refine hg_cVi hC (tC_X0_jumps (hg_Eof hC) X.2.1 (d + 3) _ _ hw) sv_RX5_172 dX5_count_110 qC_42 kC_42 c_0 rfl (rest := []) rfl (Nat.le_of_ble_eq_true rfl) (n := 113) rfl (fun r2 σ1 hw => ?_)
        refine hg_goto hC dX5_count_113 (tg := 117) rfl ?_
        exact hg_sub [] rfl (tbC_X5_count_117 hX hRt hC hR  r2 σ1 hw)
    · have hw := hw.2.2.2.2.2.1 hsx
      refine hg_tin hC dX5_count_1 hsx (by decide) (by decide) (by rfl) (tg := 118) rfl ?_
      refine hg_aload_n hC dX5_count_118 rfl 0 rfl (n := 119) rfl ?_
      refine hg_geti hC fl_RX5_42 dX5_count_119 qC_0 kC_0 fC_5_6 (n := 122) rfl ?_
      refine hg_if_eq hC dX5_count_122 (tg := 135) rfl (n := 125) rfl (fun h9 => ?_) (fun h9 => ?_)
      · have hw := hw.1 h9
        refine hg_iconst hC dX5_count_135 hl_i0 (n := 136) rfl ?_
        exact hg_sub [] rfl (tbC_X5_count_136 hX hRt hC hR  (0 : Int32) σ hw)
      · have hw := hw.2 h9
        refine hg_aload_n hC dX5_count_125 rfl 0 rfl (n := 126) rfl ?_
        refine hg_getr hC fl_RX5_33 dX5_count_126 qC_0 kC_0 fC_5_4 rC_0_4 (n := 129) rfl ?_
        refine hg_cVi hC (tC_X2_convertedBranches (hg_Eof hC) X.2.1 (d + 4) _ _ hw) sv_RX5_175 dX5_count_129 qC_25 kC_25 c_2 rfl (rest := []) rfl (Nat.le_of_ble_eq_true rfl) (n := 132) rfl (fun r4 σ3 hw => ?_)
        refine hg_goto hC dX5_count_132 (tg := 136) rfl ?_
        exact hg_sub [] rfl (tbC_X5_count_136 hX hRt hC hR  r4 σ3 hw)
    · have hw := hw.2.2.2.2.2.2.1 hsx
      refine hg_tin hC dX5_count_1 hsx (by decide) (by decide) (by rfl) (tg := 137) rfl ?_
      refine hg_aload_n hC dX5_count_137 rfl 0 rfl (n := 138) rfl ?_
      refine hg_getr hC fl_RX5_49 dX5_count_138 qC_0 kC_0 fC_5_7 rC_0_7 (n := 141) rfl ?_
      refine hg_geti hC fl_RX5_161 dX5_count_141 qC_53 kC_53 fC_1_3 (n := 144) rfl ?_
      exact hg_xreti hC hR dX5_count_144 hw
    · have hw := hw.2.2.2.2.2.2.2.1 hsx
      refine hg_tin hC dX5_count_1 hsx (by decide) (by decide) (by rfl) (tg := 145) rfl ?_
      refine hg_aload_n hC dX5_count_145 rfl 0 rfl (n := 146) rfl ?_
      refine hg_getr hC fl_RX5_19 dX5_count_146 qC_0 kC_0 fC_5_2 rC_0_2 (n := 149) rfl ?_
      refine hg_geti hC fl_RX5_67 dX5_count_149 qC_3 kC_3 fC_4_1 (n := 152) rfl ?_
      exact hg_xreti hC hR dX5_count_152 hw
    · have hw := hw.2.2.2.2.2.2.2.2.1 hsx
      refine hg_tin hC dX5_count_1 hsx (by decide) (by decide) (by rfl) (tg := 153) rfl ?_
      refine hg_aload_n hC dX5_count_153 rfl 0 rfl (n := 154) rfl ?_
      refine hg_getr hC fl_RX5_49 dX5_count_154 qC_0 kC_0 fC_5_7 rC_0_7 (n := 157) rfl ?_
      refine hg_geti hC fl_RX5_178 dX5_count_157 qC_53 kC_53 fC_1_5 (n := 160) rfl ?_
      exact hg_xreti hC hR dX5_count_160 hw
    · have hw := hw.2.2.2.2.2.2.2.2.2 hsx
      refine hg_tin hC dX5_count_1 hsx (by decide) (by decide) (by rfl) (tg := 161) rfl ?_
      refine hg_aload_n hC dX5_count_161 rfl 0 rfl (n := 162) rfl ?_
      refine hg_getr hC fl_RX5_49 dX5_count_162 qC_0 kC_0 fC_5_7 rC_0_7 (n := 165) rfl ?_
      refine hg_geti hC fl_RX5_181 dX5_count_165 qC_53 kC_53 fC_1_6 (n := 168) rfl ?_
      exact hg_xreti hC hR dX5_count_168 hw
